def B_X8_isWord : List (List Nat) := [[42, 180, 0, 148, 42, 180, 0, 158, 100, 43, 182, 0, 164, 160, 0, 7, 4, 167, 0, 4, 3, 61, 3, 62, 28, 153, 0, 42, 29, 43, 182, 0, 164, 162, 0, 34, 42, 180, 0, 26, 42, 180, 0, 158, 29, 96, 51, 43, 29, 182, 0, 168, 160, 0, 7, 4, 167, 0, 4, 3, 61, 132, 3, 1], [167, 255, 216, 28, 172]]
theorem k_X8_isWord (j i : Nat) {b : Nat} (h : (B_X8_isWord[j]?.bind fun c => c[i]?) = some b) : s_by cX8_isWord (64 * j + i) b := s_byC (L := B_X8_isWord) (by decide +kernel) (by decide +kernel) j i h
theorem dX8_isWord_0 : decode cX8_isWord 0 = .ok (.aload_n 0, 1) := dz_42 (k_X8_isWord 0 0 rfl)
theorem dX8_isWord_1 : decode cX8_isWord 1 = .ok (.getfield 148, 3) := dz_180 (k_X8_isWord 0 1 rfl) (k_X8_isWord 0 2 rfl) (k_X8_isWord 0 3 rfl) rfl
theorem dX8_isWord_4 : decode cX8_isWord 4 = .ok (.aload_n 0, 1) := dz_42 (k_X8_isWord 0 4 rfl)
theorem dX8_isWord_5 : decode cX8_isWord 5 = .ok (.getfield 158, 3) := dz_180 (k_X8_isWord 0 5 rfl) (k_X8_isWord 0 6 rfl) (k_X8_isWord 0 7 rfl) rfl
theorem dX8_isWord_8 : decode cX8_isWord 8 = .ok (.isub, 1) := dz_100 (k_X8_isWord 0 8 rfl)
theorem dX8_isWord_9 : decode cX8_isWord 9 = .ok (.aload_n 1, 1) := dz_43 (k_X8_isWord 0 9 rfl)
theorem dX8_isWord_10 : decode cX8_isWord 10 = .ok (.invokevirtual 164, 3) := dz_182 (k_X8_isWord 0 10 rfl) (k_X8_isWord 0 11 rfl) (k_X8_isWord 0 12 rfl) rfl
theorem dX8_isWord_13 : decode cX8_isWord 13 = .ok (.if_icmp .ne 7, 3) := dz_160 (k_X8_isWord 0 13 rfl) (k_X8_isWord 0 14 rfl) (k_X8_isWord 0 15 rfl) rfl
theorem dX8_isWord_16 : decode cX8_isWord 16 = .ok (.iconst 1, 1) := dz_4 (k_X8_isWord 0 16 rfl)
theorem dX8_isWord_17 : decode cX8_isWord 17 = .ok (.goto 4, 3) := dz_167 (k_X8_isWord 0 17 rfl) (k_X8_isWord 0 18 rfl) (k_X8_isWord 0 19 rfl) rfl
theorem dX8_isWord_20 : decode cX8_isWord 20 = .ok (.iconst 0, 1) := dz_3 (k_X8_isWord 0 20 rfl)
theorem dX8_isWord_21 : decode cX8_isWord 21 = .ok (.istore_n 2, 1) := dz_61 (k_X8_isWord 0 21 rfl)
theorem dX8_isWord_22 : decode cX8_isWord 22 = .ok (.iconst 0, 1) := dz_3 (k_X8_isWord 0 22 rfl)
theorem dX8_isWord_23 : decode cX8_isWord 23 = .ok (.istore_n 3, 1) := dz_62 (k_X8_isWord 0 23 rfl)
theorem dX8_isWord_24 : decode cX8_isWord 24 = .ok (.iload_n 2, 1) := dz_28 (k_X8_isWord 0 24 rfl)
theorem dX8_isWord_25 : decode cX8_isWord 25 = .ok (.ifCond .eq 42, 3) := dz_153 (k_X8_isWord 0 25 rfl) (k_X8_isWord 0 26 rfl) (k_X8_isWord 0 27 rfl) rfl
theorem dX8_isWord_28 : decode cX8_isWord 28 = .ok (.iload_n 3, 1) := dz_29 (k_X8_isWord 0 28 rfl)
theorem dX8_isWord_29 : decode cX8_isWord 29 = .ok (.aload_n 1, 1) := dz_43 (k_X8_isWord 0 29 rfl)
theorem dX8_isWord_30 : decode cX8_isWord 30 = .ok (.invokevirtual 164, 3) := dz_182 (k_X8_isWord 0 30 rfl) (k_X8_isWord 0 31 rfl) (k_X8_isWord 0 32 rfl) rfl
theorem dX8_isWord_33 : decode cX8_isWord 33 = .ok (.if_icmp .ge 34, 3) := dz_162 (k_X8_isWord 0 33 rfl) (k_X8_isWord 0 34 rfl) (k_X8_isWord 0 35 rfl) rfl
theorem dX8_isWord_36 : decode cX8_isWord 36 = .ok (.aload_n 0, 1) := dz_42 (k_X8_isWord 0 36 rfl)
theorem dX8_isWord_37 : decode cX8_isWord 37 = .ok (.getfield 26, 3) := dz_180 (k_X8_isWord 0 37 rfl) (k_X8_isWord 0 38 rfl) (k_X8_isWord 0 39 rfl) rfl
theorem dX8_isWord_40 : decode cX8_isWord 40 = .ok (.aload_n 0, 1) := dz_42 (k_X8_isWord 0 40 rfl)
theorem dX8_isWord_41 : decode cX8_isWord 41 = .ok (.getfield 158, 3) := dz_180 (k_X8_isWord 0 41 rfl) (k_X8_isWord 0 42 rfl) (k_X8_isWord 0 43 rfl) rfl
theorem dX8_isWord_44 : decode cX8_isWord 44 = .ok (.iload_n 3, 1) := dz_29 (k_X8_isWord 0 44 rfl)
theorem dX8_isWord_45 : decode cX8_isWord 45 = .ok (.iadd, 1) := dz_96 (k_X8_isWord 0 45 rfl)
theorem dX8_isWord_46 : decode cX8_isWord 46 = .ok (.baload, 1) := dz_51 (k_X8_isWord 0 46 rfl)
theorem dX8_isWord_47 : decode cX8_isWord 47 = .ok (.aload_n 1, 1) := dz_43 (k_X8_isWord 0 47 rfl)
theorem dX8_isWord_48 : decode cX8_isWord 48 = .ok (.iload_n 3, 1) := dz_29 (k_X8_isWord 0 48 rfl)
theorem dX8_isWord_49 : decode cX8_isWord 49 = .ok (.invokevirtual 168, 3) := dz_182 (k_X8_isWord 0 49 rfl) (k_X8_isWord 0 50 rfl) (k_X8_isWord 0 51 rfl) rfl
theorem dX8_isWord_52 : decode cX8_isWord 52 = .ok (.if_icmp .ne 7, 3) := dz_160 (k_X8_isWord 0 52 rfl) (k_X8_isWord 0 53 rfl) (k_X8_isWord 0 54 rfl) rfl
theorem dX8_isWord_55 : decode cX8_isWord 55 = .ok (.iconst 1, 1) := dz_4 (k_X8_isWord 0 55 rfl)
theorem dX8_isWord_56 : decode cX8_isWord 56 = .ok (.goto 4, 3) := dz_167 (k_X8_isWord 0 56 rfl) (k_X8_isWord 0 57 rfl) (k_X8_isWord 0 58 rfl) rfl
theorem dX8_isWord_59 : decode cX8_isWord 59 = .ok (.iconst 0, 1) := dz_3 (k_X8_isWord 0 59 rfl)
theorem dX8_isWord_60 : decode cX8_isWord 60 = .ok (.istore_n 2, 1) := dz_61 (k_X8_isWord 0 60 rfl)
theorem dX8_isWord_61 : decode cX8_isWord 61 = .ok (.iinc 3 1, 3) := dz_132 (k_X8_isWord 0 61 rfl) (k_X8_isWord 0 62 rfl) (k_X8_isWord 0 63 rfl) rfl
theorem dX8_isWord_64 : decode cX8_isWord 64 = .ok (.goto (-40), 3) := dz_167 (k_X8_isWord 1 0 rfl) (k_X8_isWord 1 1 rfl) (k_X8_isWord 1 2 rfl) rfl
theorem dX8_isWord_67 : decode cX8_isWord 67 = .ok (.iload_n 2, 1) := dz_28 (k_X8_isWord 1 3 rfl)
theorem dX8_isWord_68 : decode cX8_isWord 68 = .ok (.ireturn, 1) := dz_172 (k_X8_isWord 1 4 rfl)
def B_X8_joins : List (List Nat) := [[42, 180, 0, 20, 16, 70, 46, 62, 29, 27, 164, 0, 31, 42, 180, 0, 23, 17, 10, 240, 29, 96, 42, 180, 0, 23, 17, 10, 240, 29, 96, 4, 100, 46, 79, 132, 3, 255, 167, 255, 226, 42, 180, 0, 23, 17, 10, 240, 27, 96, 28, 79, 42, 180, 0, 20, 16, 70, 92, 46, 4, 96, 79, 177]]
theorem k_X8_joins (j i : Nat) {b : Nat} (h : (B_X8_joins[j]?.bind fun c => c[i]?) = some b) : s_by cX8_joins (64 * j + i) b := s_byC (L := B_X8_joins) (by decide +kernel) (by decide +kernel) j i h
theorem dX8_joins_0 : decode cX8_joins 0 = .ok (.aload_n 0, 1) := dz_42 (k_X8_joins 0 0 rfl)
theorem dX8_joins_1 : decode cX8_joins 1 = .ok (.getfield 20, 3) := dz_180 (k_X8_joins 0 1 rfl) (k_X8_joins 0 2 rfl) (k_X8_joins 0 3 rfl) rfl
theorem dX8_joins_4 : decode cX8_joins 4 = .ok (.bipush 70, 2) := dz_16 (k_X8_joins 0 4 rfl) (k_X8_joins 0 5 rfl) rfl
theorem dX8_joins_6 : decode cX8_joins 6 = .ok (.iaload, 1) := dz_46 (k_X8_joins 0 6 rfl)
theorem dX8_joins_7 : decode cX8_joins 7 = .ok (.istore_n 3, 1) := dz_62 (k_X8_joins 0 7 rfl)
theorem dX8_joins_8 : decode cX8_joins 8 = .ok (.iload_n 3, 1) := dz_29 (k_X8_joins 0 8 rfl)
theorem dX8_joins_9 : decode cX8_joins 9 = .ok (.iload_n 1, 1) := dz_27 (k_X8_joins 0 9 rfl)
theorem dX8_joins_10 : decode cX8_joins 10 = .ok (.if_icmp .le 31, 3) := dz_164 (k_X8_joins 0 10 rfl) (k_X8_joins 0 11 rfl) (k_X8_joins 0 12 rfl) rfl
theorem dX8_joins_13 : decode cX8_joins 13 = .ok (.aload_n 0, 1) := dz_42 (k_X8_joins 0 13 rfl)
theorem dX8_joins_14 : decode cX8_joins 14 = .ok (.getfield 23, 3) := dz_180 (k_X8_joins 0 14 rfl) (k_X8_joins 0 15 rfl) (k_X8_joins 0 16 rfl) rfl
theorem dX8_joins_17 : decode cX8_joins 17 = .ok (.sipush 2800, 3) := dz_17 (k_X8_joins 0 17 rfl) (k_X8_joins 0 18 rfl) (k_X8_joins 0 19 rfl) rfl
theorem dX8_joins_20 : decode cX8_joins 20 = .ok (.iload_n 3, 1) := dz_29 (k_X8_joins 0 20 rfl)
theorem dX8_joins_21 : decode cX8_joins 21 = .ok (.iadd, 1) := dz_96 (k_X8_joins 0 21 rfl)
theorem dX8_joins_22 : decode cX8_joins 22 = .ok (.aload_n 0, 1) := dz_42 (k_X8_joins 0 22 rfl)
theorem dX8_joins_23 : decode cX8_joins 23 = .ok (.getfield 23, 3) := dz_180 (k_X8_joins 0 23 rfl) (k_X8_joins 0 24 rfl) (k_X8_joins 0 25 rfl) rfl
theorem dX8_joins_26 : decode cX8_joins 26 = .ok (.sipush 2800, 3) := dz_17 (k_X8_joins 0 26 rfl) (k_X8_joins 0 27 rfl) (k_X8_joins 0 28 rfl) rfl
theorem dX8_joins_29 : decode cX8_joins 29 = .ok (.iload_n 3, 1) := dz_29 (k_X8_joins 0 29 rfl)
theorem dX8_joins_30 : decode cX8_joins 30 = .ok (.iadd, 1) := dz_96 (k_X8_joins 0 30 rfl)
theorem dX8_joins_31 : decode cX8_joins 31 = .ok (.iconst 1, 1) := dz_4 (k_X8_joins 0 31 rfl)
theorem dX8_joins_32 : decode cX8_joins 32 = .ok (.isub, 1) := dz_100 (k_X8_joins 0 32 rfl)
theorem dX8_joins_33 : decode cX8_joins 33 = .ok (.iaload, 1) := dz_46 (k_X8_joins 0 33 rfl)
theorem dX8_joins_34 : decode cX8_joins 34 = .ok (.iastore, 1) := dz_79 (k_X8_joins 0 34 rfl)
theorem dX8_joins_35 : decode cX8_joins 35 = .ok (.iinc 3 (-1), 3) := dz_132 (k_X8_joins 0 35 rfl) (k_X8_joins 0 36 rfl) (k_X8_joins 0 37 rfl) rfl
theorem dX8_joins_38 : decode cX8_joins 38 = .ok (.goto (-30), 3) := dz_167 (k_X8_joins 0 38 rfl) (k_X8_joins 0 39 rfl) (k_X8_joins 0 40 rfl) rfl
theorem dX8_joins_41 : decode cX8_joins 41 = .ok (.aload_n 0, 1) := dz_42 (k_X8_joins 0 41 rfl)
theorem dX8_joins_42 : decode cX8_joins 42 = .ok (.getfield 23, 3) := dz_180 (k_X8_joins 0 42 rfl) (k_X8_joins 0 43 rfl) (k_X8_joins 0 44 rfl) rfl
theorem dX8_joins_45 : decode cX8_joins 45 = .ok (.sipush 2800, 3) := dz_17 (k_X8_joins 0 45 rfl) (k_X8_joins 0 46 rfl) (k_X8_joins 0 47 rfl) rfl
theorem dX8_joins_48 : decode cX8_joins 48 = .ok (.iload_n 1, 1) := dz_27 (k_X8_joins 0 48 rfl)
theorem dX8_joins_49 : decode cX8_joins 49 = .ok (.iadd, 1) := dz_96 (k_X8_joins 0 49 rfl)
theorem dX8_joins_50 : decode cX8_joins 50 = .ok (.iload_n 2, 1) := dz_28 (k_X8_joins 0 50 rfl)
theorem dX8_joins_51 : decode cX8_joins 51 = .ok (.iastore, 1) := dz_79 (k_X8_joins 0 51 rfl)
theorem dX8_joins_52 : decode cX8_joins 52 = .ok (.aload_n 0, 1) := dz_42 (k_X8_joins 0 52 rfl)
theorem dX8_joins_53 : decode cX8_joins 53 = .ok (.getfield 20, 3) := dz_180 (k_X8_joins 0 53 rfl) (k_X8_joins 0 54 rfl) (k_X8_joins 0 55 rfl) rfl
theorem dX8_joins_56 : decode cX8_joins 56 = .ok (.bipush 70, 2) := dz_16 (k_X8_joins 0 56 rfl) (k_X8_joins 0 57 rfl) rfl
theorem dX8_joins_58 : decode cX8_joins 58 = .ok (.dup2, 1) := dz_92 (k_X8_joins 0 58 rfl)
theorem dX8_joins_59 : decode cX8_joins 59 = .ok (.iaload, 1) := dz_46 (k_X8_joins 0 59 rfl)
theorem dX8_joins_60 : decode cX8_joins 60 = .ok (.iconst 1, 1) := dz_4 (k_X8_joins 0 60 rfl)
theorem dX8_joins_61 : decode cX8_joins 61 = .ok (.iadd, 1) := dz_96 (k_X8_joins 0 61 rfl)
theorem dX8_joins_62 : decode cX8_joins 62 = .ok (.iastore, 1) := dz_79 (k_X8_joins 0 62 rfl)
theorem dX8_joins_63 : decode cX8_joins 63 = .ok (.return_, 1) := dz_177 (k_X8_joins 0 63 rfl)
def B_X8_lastly : List (List Nat) := [[42, 3, 181, 0, 3, 42, 42, 27, 28, 29, 182, 1, 163, 4, 182, 0, 224, 153, 0, 5, 3, 172, 42, 27, 28, 29, 182, 1, 166, 54, 4, 21, 4, 156, 0, 5, 2, 172, 3, 54, 5, 42, 21, 5, 3, 3, 182, 1, 160, 21, 4, 159, 0, 9, 132, 5, 1, 167, 255, 240, 21, 5, 172]]
theorem k_X8_lastly (j i : Nat) {b : Nat} (h : (B_X8_lastly[j]?.bind fun c => c[i]?) = some b) : s_by cX8_lastly (64 * j + i) b := s_byC (L := B_X8_lastly) (by decide +kernel) (by decide +kernel) j i h
theorem dX8_lastly_0 : decode cX8_lastly 0 = .ok (.aload_n 0, 1) := dz_42 (k_X8_lastly 0 0 rfl)
theorem dX8_lastly_1 : decode cX8_lastly 1 = .ok (.iconst 0, 1) := dz_3 (k_X8_lastly 0 1 rfl)
theorem dX8_lastly_2 : decode cX8_lastly 2 = .ok (.putfield 3, 3) := dz_181 (k_X8_lastly 0 2 rfl) (k_X8_lastly 0 3 rfl) (k_X8_lastly 0 4 rfl) rfl
theorem dX8_lastly_5 : decode cX8_lastly 5 = .ok (.aload_n 0, 1) := dz_42 (k_X8_lastly 0 5 rfl)
theorem dX8_lastly_6 : decode cX8_lastly 6 = .ok (.aload_n 0, 1) := dz_42 (k_X8_lastly 0 6 rfl)
theorem dX8_lastly_7 : decode cX8_lastly 7 = .ok (.iload_n 1, 1) := dz_27 (k_X8_lastly 0 7 rfl)
theorem dX8_lastly_8 : decode cX8_lastly 8 = .ok (.iload_n 2, 1) := dz_28 (k_X8_lastly 0 8 rfl)
theorem dX8_lastly_9 : decode cX8_lastly 9 = .ok (.iload_n 3, 1) := dz_29 (k_X8_lastly 0 9 rfl)
theorem dX8_lastly_10 : decode cX8_lastly 10 = .ok (.invokevirtual 419, 3) := dz_182 (k_X8_lastly 0 10 rfl) (k_X8_lastly 0 11 rfl) (k_X8_lastly 0 12 rfl) rfl
theorem dX8_lastly_13 : decode cX8_lastly 13 = .ok (.iconst 1, 1) := dz_4 (k_X8_lastly 0 13 rfl)
theorem dX8_lastly_14 : decode cX8_lastly 14 = .ok (.invokevirtual 224, 3) := dz_182 (k_X8_lastly 0 14 rfl) (k_X8_lastly 0 15 rfl) (k_X8_lastly 0 16 rfl) rfl
theorem dX8_lastly_17 : decode cX8_lastly 17 = .ok (.ifCond .eq 5, 3) := dz_153 (k_X8_lastly 0 17 rfl) (k_X8_lastly 0 18 rfl) (k_X8_lastly 0 19 rfl) rfl
theorem dX8_lastly_20 : decode cX8_lastly 20 = .ok (.iconst 0, 1) := dz_3 (k_X8_lastly 0 20 rfl)
theorem dX8_lastly_21 : decode cX8_lastly 21 = .ok (.ireturn, 1) := dz_172 (k_X8_lastly 0 21 rfl)
theorem dX8_lastly_22 : decode cX8_lastly 22 = .ok (.aload_n 0, 1) := dz_42 (k_X8_lastly 0 22 rfl)
theorem dX8_lastly_23 : decode cX8_lastly 23 = .ok (.iload_n 1, 1) := dz_27 (k_X8_lastly 0 23 rfl)
theorem dX8_lastly_24 : decode cX8_lastly 24 = .ok (.iload_n 2, 1) := dz_28 (k_X8_lastly 0 24 rfl)
theorem dX8_lastly_25 : decode cX8_lastly 25 = .ok (.iload_n 3, 1) := dz_29 (k_X8_lastly 0 25 rfl)
theorem dX8_lastly_26 : decode cX8_lastly 26 = .ok (.invokevirtual 422, 3) := dz_182 (k_X8_lastly 0 26 rfl) (k_X8_lastly 0 27 rfl) (k_X8_lastly 0 28 rfl) rfl
theorem dX8_lastly_29 : decode cX8_lastly 29 = .ok (.istore 4, 2) := dz_54 (k_X8_lastly 0 29 rfl) (k_X8_lastly 0 30 rfl)
theorem dX8_lastly_31 : decode cX8_lastly 31 = .ok (.iload 4, 2) := dz_21 (k_X8_lastly 0 31 rfl) (k_X8_lastly 0 32 rfl)
theorem dX8_lastly_33 : decode cX8_lastly 33 = .ok (.ifCond .ge 5, 3) := dz_156 (k_X8_lastly 0 33 rfl) (k_X8_lastly 0 34 rfl) (k_X8_lastly 0 35 rfl) rfl
theorem dX8_lastly_36 : decode cX8_lastly 36 = .ok (.iconst (-1), 1) := dz_2 (k_X8_lastly 0 36 rfl)
theorem dX8_lastly_37 : decode cX8_lastly 37 = .ok (.ireturn, 1) := dz_172 (k_X8_lastly 0 37 rfl)
theorem dX8_lastly_38 : decode cX8_lastly 38 = .ok (.iconst 0, 1) := dz_3 (k_X8_lastly 0 38 rfl)
theorem dX8_lastly_39 : decode cX8_lastly 39 = .ok (.istore 5, 2) := dz_54 (k_X8_lastly 0 39 rfl) (k_X8_lastly 0 40 rfl)
theorem dX8_lastly_41 : decode cX8_lastly 41 = .ok (.aload_n 0, 1) := dz_42 (k_X8_lastly 0 41 rfl)
theorem dX8_lastly_42 : decode cX8_lastly 42 = .ok (.iload 5, 2) := dz_21 (k_X8_lastly 0 42 rfl) (k_X8_lastly 0 43 rfl)
theorem dX8_lastly_44 : decode cX8_lastly 44 = .ok (.iconst 0, 1) := dz_3 (k_X8_lastly 0 44 rfl)
theorem dX8_lastly_45 : decode cX8_lastly 45 = .ok (.iconst 0, 1) := dz_3 (k_X8_lastly 0 45 rfl)
theorem dX8_lastly_46 : decode cX8_lastly 46 = .ok (.invokevirtual 416, 3) := dz_182 (k_X8_lastly 0 46 rfl) (k_X8_lastly 0 47 rfl) (k_X8_lastly 0 48 rfl) rfl
theorem dX8_lastly_49 : decode cX8_lastly 49 = .ok (.iload 4, 2) := dz_21 (k_X8_lastly 0 49 rfl) (k_X8_lastly 0 50 rfl)
theorem dX8_lastly_51 : decode cX8_lastly 51 = .ok (.if_icmp .eq 9, 3) := dz_159 (k_X8_lastly 0 51 rfl) (k_X8_lastly 0 52 rfl) (k_X8_lastly 0 53 rfl) rfl
theorem dX8_lastly_54 : decode cX8_lastly 54 = .ok (.iinc 5 1, 3) := dz_132 (k_X8_lastly 0 54 rfl) (k_X8_lastly 0 55 rfl) (k_X8_lastly 0 56 rfl) rfl
theorem dX8_lastly_57 : decode cX8_lastly 57 = .ok (.goto (-16), 3) := dz_167 (k_X8_lastly 0 57 rfl) (k_X8_lastly 0 58 rfl) (k_X8_lastly 0 59 rfl) rfl
theorem dX8_lastly_60 : decode cX8_lastly 60 = .ok (.iload 5, 2) := dz_21 (k_X8_lastly 0 60 rfl) (k_X8_lastly 0 61 rfl)
theorem dX8_lastly_62 : decode cX8_lastly 62 = .ok (.ireturn, 1) := dz_172 (k_X8_lastly 0 62 rfl)
def B_X8_leastNamed : List (List Nat) := [[3, 62, 42, 180, 0, 56, 3, 2, 79, 29, 155, 0, 144, 29, 27, 160, 0, 24, 42, 29, 28, 182, 1, 92, 153, 0, 9, 42, 27, 182, 1, 95, 172, 132, 3, 255, 167, 255, 229, 29, 154, 0, 10, 42, 182, 0, 103, 167, 0, 11, 42, 180, 0, 56, 29, 4, 100, 46, 54, 4, 42, 180, 0, 56], [29, 92, 46, 4, 96, 79, 42, 180, 0, 56, 29, 46, 21, 4, 162, 0, 30, 42, 42, 180, 0, 56, 29, 46, 28, 182, 0, 234, 153, 0, 16, 42, 180, 0, 56, 29, 92, 46, 4, 96, 79, 167, 255, 221, 42, 180, 0, 56, 29, 46, 21, 4, 161, 0, 9, 132, 3, 255, 167, 255, 143, 42, 29, 42], [180, 0, 56, 29, 46, 182, 1, 98, 132, 3, 1, 29, 27, 162, 0, 10, 42, 180, 0, 56, 29, 2, 79, 167, 255, 114, 2, 172]]
theorem k_X8_leastNamed (j i : Nat) {b : Nat} (h : (B_X8_leastNamed[j]?.bind fun c => c[i]?) = some b) : s_by cX8_leastNamed (64 * j + i) b := s_byC (L := B_X8_leastNamed) (by decide +kernel) (by decide +kernel) j i h
theorem dX8_leastNamed_0 : decode cX8_leastNamed 0 = .ok (.iconst 0, 1) := dz_3 (k_X8_leastNamed 0 0 rfl)
theorem dX8_leastNamed_1 : decode cX8_leastNamed 1 = .ok (.istore_n 3, 1) := dz_62 (k_X8_leastNamed 0 1 rfl)
theorem dX8_leastNamed_2 : decode cX8_leastNamed 2 = .ok (.aload_n 0, 1) := dz_42 (k_X8_leastNamed 0 2 rfl)
theorem dX8_leastNamed_3 : decode cX8_leastNamed 3 = .ok (.getfield 56, 3) := dz_180 (k_X8_leastNamed 0 3 rfl) (k_X8_leastNamed 0 4 rfl) (k_X8_leastNamed 0 5 rfl) rfl
theorem dX8_leastNamed_6 : decode cX8_leastNamed 6 = .ok (.iconst 0, 1) := dz_3 (k_X8_leastNamed 0 6 rfl)
theorem dX8_leastNamed_7 : decode cX8_leastNamed 7 = .ok (.iconst (-1), 1) := dz_2 (k_X8_leastNamed 0 7 rfl)
theorem dX8_leastNamed_8 : decode cX8_leastNamed 8 = .ok (.iastore, 1) := dz_79 (k_X8_leastNamed 0 8 rfl)
theorem dX8_leastNamed_9 : decode cX8_leastNamed 9 = .ok (.iload_n 3, 1) := dz_29 (k_X8_leastNamed 0 9 rfl)
theorem dX8_leastNamed_10 : decode cX8_leastNamed 10 = .ok (.ifCond .lt 144, 3) := dz_155 (k_X8_leastNamed 0 10 rfl) (k_X8_leastNamed 0 11 rfl) (k_X8_leastNamed 0 12 rfl) rfl
theorem dX8_leastNamed_13 : decode cX8_leastNamed 13 = .ok (.iload_n 3, 1) := dz_29 (k_X8_leastNamed 0 13 rfl)
theorem dX8_leastNamed_14 : decode cX8_leastNamed 14 = .ok (.iload_n 1, 1) := dz_27 (k_X8_leastNamed 0 14 rfl)
theorem dX8_leastNamed_15 : decode cX8_leastNamed 15 = .ok (.if_icmp .ne 24, 3) := dz_160 (k_X8_leastNamed 0 15 rfl) (k_X8_leastNamed 0 16 rfl) (k_X8_leastNamed 0 17 rfl) rfl
theorem dX8_leastNamed_18 : decode cX8_leastNamed 18 = .ok (.aload_n 0, 1) := dz_42 (k_X8_leastNamed 0 18 rfl)
theorem dX8_leastNamed_19 : decode cX8_leastNamed 19 = .ok (.iload_n 3, 1) := dz_29 (k_X8_leastNamed 0 19 rfl)
theorem dX8_leastNamed_20 : decode cX8_leastNamed 20 = .ok (.iload_n 2, 1) := dz_28 (k_X8_leastNamed 0 20 rfl)
theorem dX8_leastNamed_21 : decode cX8_leastNamed 21 = .ok (.invokevirtual 348, 3) := dz_182 (k_X8_leastNamed 0 21 rfl) (k_X8_leastNamed 0 22 rfl) (k_X8_leastNamed 0 23 rfl) rfl
theorem dX8_leastNamed_24 : decode cX8_leastNamed 24 = .ok (.ifCond .eq 9, 3) := dz_153 (k_X8_leastNamed 0 24 rfl) (k_X8_leastNamed 0 25 rfl) (k_X8_leastNamed 0 26 rfl) rfl
theorem dX8_leastNamed_27 : decode cX8_leastNamed 27 = .ok (.aload_n 0, 1) := dz_42 (k_X8_leastNamed 0 27 rfl)
theorem dX8_leastNamed_28 : decode cX8_leastNamed 28 = .ok (.iload_n 1, 1) := dz_27 (k_X8_leastNamed 0 28 rfl)
theorem dX8_leastNamed_29 : decode cX8_leastNamed 29 = .ok (.invokevirtual 351, 3) := dz_182 (k_X8_leastNamed 0 29 rfl) (k_X8_leastNamed 0 30 rfl) (k_X8_leastNamed 0 31 rfl) rfl
theorem dX8_leastNamed_32 : decode cX8_leastNamed 32 = .ok (.ireturn, 1) := dz_172 (k_X8_leastNamed 0 32 rfl)
theorem dX8_leastNamed_33 : decode cX8_leastNamed 33 = .ok (.iinc 3 (-1), 3) := dz_132 (k_X8_leastNamed 0 33 rfl) (k_X8_leastNamed 0 34 rfl) (k_X8_leastNamed 0 35 rfl) rfl
theorem dX8_leastNamed_36 : decode cX8_leastNamed 36 = .ok (.goto (-27), 3) := dz_167 (k_X8_leastNamed 0 36 rfl) (k_X8_leastNamed 0 37 rfl) (k_X8_leastNamed 0 38 rfl) rfl
theorem dX8_leastNamed_39 : decode cX8_leastNamed 39 = .ok (.iload_n 3, 1) := dz_29 (k_X8_leastNamed 0 39 rfl)
theorem dX8_leastNamed_40 : decode cX8_leastNamed 40 = .ok (.ifCond .ne 10, 3) := dz_154 (k_X8_leastNamed 0 40 rfl) (k_X8_leastNamed 0 41 rfl) (k_X8_leastNamed 0 42 rfl) rfl
theorem dX8_leastNamed_43 : decode cX8_leastNamed 43 = .ok (.aload_n 0, 1) := dz_42 (k_X8_leastNamed 0 43 rfl)
theorem dX8_leastNamed_44 : decode cX8_leastNamed 44 = .ok (.invokevirtual 103, 3) := dz_182 (k_X8_leastNamed 0 44 rfl) (k_X8_leastNamed 0 45 rfl) (k_X8_leastNamed 0 46 rfl) rfl
theorem dX8_leastNamed_47 : decode cX8_leastNamed 47 = .ok (.goto 11, 3) := dz_167 (k_X8_leastNamed 0 47 rfl) (k_X8_leastNamed 0 48 rfl) (k_X8_leastNamed 0 49 rfl) rfl
theorem dX8_leastNamed_50 : decode cX8_leastNamed 50 = .ok (.aload_n 0, 1) := dz_42 (k_X8_leastNamed 0 50 rfl)
theorem dX8_leastNamed_51 : decode cX8_leastNamed 51 = .ok (.getfield 56, 3) := dz_180 (k_X8_leastNamed 0 51 rfl) (k_X8_leastNamed 0 52 rfl) (k_X8_leastNamed 0 53 rfl) rfl
theorem dX8_leastNamed_54 : decode cX8_leastNamed 54 = .ok (.iload_n 3, 1) := dz_29 (k_X8_leastNamed 0 54 rfl)
theorem dX8_leastNamed_55 : decode cX8_leastNamed 55 = .ok (.iconst 1, 1) := dz_4 (k_X8_leastNamed 0 55 rfl)
theorem dX8_leastNamed_56 : decode cX8_leastNamed 56 = .ok (.isub, 1) := dz_100 (k_X8_leastNamed 0 56 rfl)
theorem dX8_leastNamed_57 : decode cX8_leastNamed 57 = .ok (.iaload, 1) := dz_46 (k_X8_leastNamed 0 57 rfl)
theorem dX8_leastNamed_58 : decode cX8_leastNamed 58 = .ok (.istore 4, 2) := dz_54 (k_X8_leastNamed 0 58 rfl) (k_X8_leastNamed 0 59 rfl)
theorem dX8_leastNamed_60 : decode cX8_leastNamed 60 = .ok (.aload_n 0, 1) := dz_42 (k_X8_leastNamed 0 60 rfl)
theorem dX8_leastNamed_61 : decode cX8_leastNamed 61 = .ok (.getfield 56, 3) := dz_180 (k_X8_leastNamed 0 61 rfl) (k_X8_leastNamed 0 62 rfl) (k_X8_leastNamed 0 63 rfl) rfl
theorem dX8_leastNamed_64 : decode cX8_leastNamed 64 = .ok (.iload_n 3, 1) := dz_29 (k_X8_leastNamed 1 0 rfl)
theorem dX8_leastNamed_65 : decode cX8_leastNamed 65 = .ok (.dup2, 1) := dz_92 (k_X8_leastNamed 1 1 rfl)
theorem dX8_leastNamed_66 : decode cX8_leastNamed 66 = .ok (.iaload, 1) := dz_46 (k_X8_leastNamed 1 2 rfl)
theorem dX8_leastNamed_67 : decode cX8_leastNamed 67 = .ok (.iconst 1, 1) := dz_4 (k_X8_leastNamed 1 3 rfl)
theorem dX8_leastNamed_68 : decode cX8_leastNamed 68 = .ok (.iadd, 1) := dz_96 (k_X8_leastNamed 1 4 rfl)
theorem dX8_leastNamed_69 : decode cX8_leastNamed 69 = .ok (.iastore, 1) := dz_79 (k_X8_leastNamed 1 5 rfl)
theorem dX8_leastNamed_70 : decode cX8_leastNamed 70 = .ok (.aload_n 0, 1) := dz_42 (k_X8_leastNamed 1 6 rfl)
theorem dX8_leastNamed_71 : decode cX8_leastNamed 71 = .ok (.getfield 56, 3) := dz_180 (k_X8_leastNamed 1 7 rfl) (k_X8_leastNamed 1 8 rfl) (k_X8_leastNamed 1 9 rfl) rfl
theorem dX8_leastNamed_74 : decode cX8_leastNamed 74 = .ok (.iload_n 3, 1) := dz_29 (k_X8_leastNamed 1 10 rfl)
theorem dX8_leastNamed_75 : decode cX8_leastNamed 75 = .ok (.iaload, 1) := dz_46 (k_X8_leastNamed 1 11 rfl)
theorem dX8_leastNamed_76 : decode cX8_leastNamed 76 = .ok (.iload 4, 2) := dz_21 (k_X8_leastNamed 1 12 rfl) (k_X8_leastNamed 1 13 rfl)
theorem dX8_leastNamed_78 : decode cX8_leastNamed 78 = .ok (.if_icmp .ge 30, 3) := dz_162 (k_X8_leastNamed 1 14 rfl) (k_X8_leastNamed 1 15 rfl) (k_X8_leastNamed 1 16 rfl) rfl
theorem dX8_leastNamed_81 : decode cX8_leastNamed 81 = .ok (.aload_n 0, 1) := dz_42 (k_X8_leastNamed 1 17 rfl)
theorem dX8_leastNamed_82 : decode cX8_leastNamed 82 = .ok (.aload_n 0, 1) := dz_42 (k_X8_leastNamed 1 18 rfl)
theorem dX8_leastNamed_83 : decode cX8_leastNamed 83 = .ok (.getfield 56, 3) := dz_180 (k_X8_leastNamed 1 19 rfl) (k_X8_leastNamed 1 20 rfl) (k_X8_leastNamed 1 21 rfl) rfl
theorem dX8_leastNamed_86 : decode cX8_leastNamed 86 = .ok (.iload_n 3, 1) := dz_29 (k_X8_leastNamed 1 22 rfl)
theorem dX8_leastNamed_87 : decode cX8_leastNamed 87 = .ok (.iaload, 1) := dz_46 (k_X8_leastNamed 1 23 rfl)
theorem dX8_leastNamed_88 : decode cX8_leastNamed 88 = .ok (.iload_n 2, 1) := dz_28 (k_X8_leastNamed 1 24 rfl)
theorem dX8_leastNamed_89 : decode cX8_leastNamed 89 = .ok (.invokevirtual 234, 3) := dz_182 (k_X8_leastNamed 1 25 rfl) (k_X8_leastNamed 1 26 rfl) (k_X8_leastNamed 1 27 rfl) rfl
theorem dX8_leastNamed_92 : decode cX8_leastNamed 92 = .ok (.ifCond .eq 16, 3) := dz_153 (k_X8_leastNamed 1 28 rfl) (k_X8_leastNamed 1 29 rfl) (k_X8_leastNamed 1 30 rfl) rfl
theorem dX8_leastNamed_95 : decode cX8_leastNamed 95 = .ok (.aload_n 0, 1) := dz_42 (k_X8_leastNamed 1 31 rfl)
theorem dX8_leastNamed_96 : decode cX8_leastNamed 96 = .ok (.getfield 56, 3) := dz_180 (k_X8_leastNamed 1 32 rfl) (k_X8_leastNamed 1 33 rfl) (k_X8_leastNamed 1 34 rfl) rfl
theorem dX8_leastNamed_99 : decode cX8_leastNamed 99 = .ok (.iload_n 3, 1) := dz_29 (k_X8_leastNamed 1 35 rfl)
theorem dX8_leastNamed_100 : decode cX8_leastNamed 100 = .ok (.dup2, 1) := dz_92 (k_X8_leastNamed 1 36 rfl)
theorem dX8_leastNamed_101 : decode cX8_leastNamed 101 = .ok (.iaload, 1) := dz_46 (k_X8_leastNamed 1 37 rfl)
theorem dX8_leastNamed_102 : decode cX8_leastNamed 102 = .ok (.iconst 1, 1) := dz_4 (k_X8_leastNamed 1 38 rfl)
theorem dX8_leastNamed_103 : decode cX8_leastNamed 103 = .ok (.iadd, 1) := dz_96 (k_X8_leastNamed 1 39 rfl)
theorem dX8_leastNamed_104 : decode cX8_leastNamed 104 = .ok (.iastore, 1) := dz_79 (k_X8_leastNamed 1 40 rfl)
theorem dX8_leastNamed_105 : decode cX8_leastNamed 105 = .ok (.goto (-35), 3) := dz_167 (k_X8_leastNamed 1 41 rfl) (k_X8_leastNamed 1 42 rfl) (k_X8_leastNamed 1 43 rfl) rfl
theorem dX8_leastNamed_108 : decode cX8_leastNamed 108 = .ok (.aload_n 0, 1) := dz_42 (k_X8_leastNamed 1 44 rfl)
theorem dX8_leastNamed_109 : decode cX8_leastNamed 109 = .ok (.getfield 56, 3) := dz_180 (k_X8_leastNamed 1 45 rfl) (k_X8_leastNamed 1 46 rfl) (k_X8_leastNamed 1 47 rfl) rfl
theorem dX8_leastNamed_112 : decode cX8_leastNamed 112 = .ok (.iload_n 3, 1) := dz_29 (k_X8_leastNamed 1 48 rfl)
theorem dX8_leastNamed_113 : decode cX8_leastNamed 113 = .ok (.iaload, 1) := dz_46 (k_X8_leastNamed 1 49 rfl)
theorem dX8_leastNamed_114 : decode cX8_leastNamed 114 = .ok (.iload 4, 2) := dz_21 (k_X8_leastNamed 1 50 rfl) (k_X8_leastNamed 1 51 rfl)
theorem dX8_leastNamed_116 : decode cX8_leastNamed 116 = .ok (.if_icmp .lt 9, 3) := dz_161 (k_X8_leastNamed 1 52 rfl) (k_X8_leastNamed 1 53 rfl) (k_X8_leastNamed 1 54 rfl) rfl
theorem dX8_leastNamed_119 : decode cX8_leastNamed 119 = .ok (.iinc 3 (-1), 3) := dz_132 (k_X8_leastNamed 1 55 rfl) (k_X8_leastNamed 1 56 rfl) (k_X8_leastNamed 1 57 rfl) rfl
theorem dX8_leastNamed_122 : decode cX8_leastNamed 122 = .ok (.goto (-113), 3) := dz_167 (k_X8_leastNamed 1 58 rfl) (k_X8_leastNamed 1 59 rfl) (k_X8_leastNamed 1 60 rfl) rfl
theorem dX8_leastNamed_125 : decode cX8_leastNamed 125 = .ok (.aload_n 0, 1) := dz_42 (k_X8_leastNamed 1 61 rfl)
theorem dX8_leastNamed_126 : decode cX8_leastNamed 126 = .ok (.iload_n 3, 1) := dz_29 (k_X8_leastNamed 1 62 rfl)
theorem dX8_leastNamed_127 : decode cX8_leastNamed 127 = .ok (.aload_n 0, 1) := dz_42 (k_X8_leastNamed 1 63 rfl)
theorem dX8_leastNamed_128 : decode cX8_leastNamed 128 = .ok (.getfield 56, 3) := dz_180 (k_X8_leastNamed 2 0 rfl) (k_X8_leastNamed 2 1 rfl) (k_X8_leastNamed 2 2 rfl) rfl
theorem dX8_leastNamed_131 : decode cX8_leastNamed 131 = .ok (.iload_n 3, 1) := dz_29 (k_X8_leastNamed 2 3 rfl)
theorem dX8_leastNamed_132 : decode cX8_leastNamed 132 = .ok (.iaload, 1) := dz_46 (k_X8_leastNamed 2 4 rfl)
theorem dX8_leastNamed_133 : decode cX8_leastNamed 133 = .ok (.invokevirtual 354, 3) := dz_182 (k_X8_leastNamed 2 5 rfl) (k_X8_leastNamed 2 6 rfl) (k_X8_leastNamed 2 7 rfl) rfl
theorem dX8_leastNamed_136 : decode cX8_leastNamed 136 = .ok (.iinc 3 1, 3) := dz_132 (k_X8_leastNamed 2 8 rfl) (k_X8_leastNamed 2 9 rfl) (k_X8_leastNamed 2 10 rfl) rfl
theorem dX8_leastNamed_139 : decode cX8_leastNamed 139 = .ok (.iload_n 3, 1) := dz_29 (k_X8_leastNamed 2 11 rfl)
theorem dX8_leastNamed_140 : decode cX8_leastNamed 140 = .ok (.iload_n 1, 1) := dz_27 (k_X8_leastNamed 2 12 rfl)
theorem dX8_leastNamed_141 : decode cX8_leastNamed 141 = .ok (.if_icmp .ge 10, 3) := dz_162 (k_X8_leastNamed 2 13 rfl) (k_X8_leastNamed 2 14 rfl) (k_X8_leastNamed 2 15 rfl) rfl
theorem dX8_leastNamed_144 : decode cX8_leastNamed 144 = .ok (.aload_n 0, 1) := dz_42 (k_X8_leastNamed 2 16 rfl)
theorem dX8_leastNamed_145 : decode cX8_leastNamed 145 = .ok (.getfield 56, 3) := dz_180 (k_X8_leastNamed 2 17 rfl) (k_X8_leastNamed 2 18 rfl) (k_X8_leastNamed 2 19 rfl) rfl
theorem dX8_leastNamed_148 : decode cX8_leastNamed 148 = .ok (.iload_n 3, 1) := dz_29 (k_X8_leastNamed 2 20 rfl)
theorem dX8_leastNamed_149 : decode cX8_leastNamed 149 = .ok (.iconst (-1), 1) := dz_2 (k_X8_leastNamed 2 21 rfl)
theorem dX8_leastNamed_150 : decode cX8_leastNamed 150 = .ok (.iastore, 1) := dz_79 (k_X8_leastNamed 2 22 rfl)
theorem dX8_leastNamed_151 : decode cX8_leastNamed 151 = .ok (.goto (-142), 3) := dz_167 (k_X8_leastNamed 2 23 rfl) (k_X8_leastNamed 2 24 rfl) (k_X8_leastNamed 2 25 rfl) rfl
theorem dX8_leastNamed_154 : decode cX8_leastNamed 154 = .ok (.iconst (-1), 1) := dz_2 (k_X8_leastNamed 2 26 rfl)
theorem dX8_leastNamed_155 : decode cX8_leastNamed 155 = .ok (.ireturn, 1) := dz_172 (k_X8_leastNamed 2 27 rfl)
def B_X8_leastWorld : List (List Nat) := [[3, 62, 29, 42, 182, 0, 237, 162, 0, 33, 42, 27, 29, 182, 1, 66, 153, 0, 18, 28, 155, 0, 12, 42, 28, 29, 182, 0, 243, 154, 0, 5, 29, 172, 132, 3, 1, 167, 255, 221, 2, 172]]
theorem k_X8_leastWorld (j i : Nat) {b : Nat} (h : (B_X8_leastWorld[j]?.bind fun c => c[i]?) = some b) : s_by cX8_leastWorld (64 * j + i) b := s_byC (L := B_X8_leastWorld) (by decide +kernel) (by decide +kernel) j i h
theorem dX8_leastWorld_0 : decode cX8_leastWorld 0 = .ok (.iconst 0, 1) := dz_3 (k_X8_leastWorld 0 0 rfl)
theorem dX8_leastWorld_1 : decode cX8_leastWorld 1 = .ok (.istore_n 3, 1) := dz_62 (k_X8_leastWorld 0 1 rfl)
theorem dX8_leastWorld_2 : decode cX8_leastWorld 2 = .ok (.iload_n 3, 1) := dz_29 (k_X8_leastWorld 0 2 rfl)
theorem dX8_leastWorld_3 : decode cX8_leastWorld 3 = .ok (.aload_n 0, 1) := dz_42 (k_X8_leastWorld 0 3 rfl)
theorem dX8_leastWorld_4 : decode cX8_leastWorld 4 = .ok (.invokevirtual 237, 3) := dz_182 (k_X8_leastWorld 0 4 rfl) (k_X8_leastWorld 0 5 rfl) (k_X8_leastWorld 0 6 rfl) rfl
theorem dX8_leastWorld_7 : decode cX8_leastWorld 7 = .ok (.if_icmp .ge 33, 3) := dz_162 (k_X8_leastWorld 0 7 rfl) (k_X8_leastWorld 0 8 rfl) (k_X8_leastWorld 0 9 rfl) rfl
theorem dX8_leastWorld_10 : decode cX8_leastWorld 10 = .ok (.aload_n 0, 1) := dz_42 (k_X8_leastWorld 0 10 rfl)
theorem dX8_leastWorld_11 : decode cX8_leastWorld 11 = .ok (.iload_n 1, 1) := dz_27 (k_X8_leastWorld 0 11 rfl)
theorem dX8_leastWorld_12 : decode cX8_leastWorld 12 = .ok (.iload_n 3, 1) := dz_29 (k_X8_leastWorld 0 12 rfl)
theorem dX8_leastWorld_13 : decode cX8_leastWorld 13 = .ok (.invokevirtual 322, 3) := dz_182 (k_X8_leastWorld 0 13 rfl) (k_X8_leastWorld 0 14 rfl) (k_X8_leastWorld 0 15 rfl) rfl
theorem dX8_leastWorld_16 : decode cX8_leastWorld 16 = .ok (.ifCond .eq 18, 3) := dz_153 (k_X8_leastWorld 0 16 rfl) (k_X8_leastWorld 0 17 rfl) (k_X8_leastWorld 0 18 rfl) rfl
theorem dX8_leastWorld_19 : decode cX8_leastWorld 19 = .ok (.iload_n 2, 1) := dz_28 (k_X8_leastWorld 0 19 rfl)
theorem dX8_leastWorld_20 : decode cX8_leastWorld 20 = .ok (.ifCond .lt 12, 3) := dz_155 (k_X8_leastWorld 0 20 rfl) (k_X8_leastWorld 0 21 rfl) (k_X8_leastWorld 0 22 rfl) rfl
theorem dX8_leastWorld_23 : decode cX8_leastWorld 23 = .ok (.aload_n 0, 1) := dz_42 (k_X8_leastWorld 0 23 rfl)
theorem dX8_leastWorld_24 : decode cX8_leastWorld 24 = .ok (.iload_n 2, 1) := dz_28 (k_X8_leastWorld 0 24 rfl)
theorem dX8_leastWorld_25 : decode cX8_leastWorld 25 = .ok (.iload_n 3, 1) := dz_29 (k_X8_leastWorld 0 25 rfl)
theorem dX8_leastWorld_26 : decode cX8_leastWorld 26 = .ok (.invokevirtual 243, 3) := dz_182 (k_X8_leastWorld 0 26 rfl) (k_X8_leastWorld 0 27 rfl) (k_X8_leastWorld 0 28 rfl) rfl
theorem dX8_leastWorld_29 : decode cX8_leastWorld 29 = .ok (.ifCond .ne 5, 3) := dz_154 (k_X8_leastWorld 0 29 rfl) (k_X8_leastWorld 0 30 rfl) (k_X8_leastWorld 0 31 rfl) rfl
theorem dX8_leastWorld_32 : decode cX8_leastWorld 32 = .ok (.iload_n 3, 1) := dz_29 (k_X8_leastWorld 0 32 rfl)
theorem dX8_leastWorld_33 : decode cX8_leastWorld 33 = .ok (.ireturn, 1) := dz_172 (k_X8_leastWorld 0 33 rfl)
theorem dX8_leastWorld_34 : decode cX8_leastWorld 34 = .ok (.iinc 3 1, 3) := dz_132 (k_X8_leastWorld 0 34 rfl) (k_X8_leastWorld 0 35 rfl) (k_X8_leastWorld 0 36 rfl) rfl
theorem dX8_leastWorld_37 : decode cX8_leastWorld 37 = .ok (.goto (-35), 3) := dz_167 (k_X8_leastWorld 0 37 rfl) (k_X8_leastWorld 0 38 rfl) (k_X8_leastWorld 0 39 rfl) rfl
theorem dX8_leastWorld_40 : decode cX8_leastWorld 40 = .ok (.iconst (-1), 1) := dz_2 (k_X8_leastWorld 0 40 rfl)
theorem dX8_leastWorld_41 : decode cX8_leastWorld 41 = .ok (.ireturn, 1) := dz_172 (k_X8_leastWorld 0 41 rfl)
def B_X8_letters : List (List Nat) := [[42, 182, 0, 161, 42, 16, 97, 16, 122, 182, 0, 154, 153, 0, 16, 42, 89, 180, 0, 148, 4, 96, 181, 0, 148, 167, 255, 235, 177]]
theorem k_X8_letters (j i : Nat) {b : Nat} (h : (B_X8_letters[j]?.bind fun c => c[i]?) = some b) : s_by cX8_letters (64 * j + i) b := s_byC (L := B_X8_letters) (by decide +kernel) (by decide +kernel) j i h
theorem dX8_letters_0 : decode cX8_letters 0 = .ok (.aload_n 0, 1) := dz_42 (k_X8_letters 0 0 rfl)
theorem dX8_letters_1 : decode cX8_letters 1 = .ok (.invokevirtual 161, 3) := dz_182 (k_X8_letters 0 1 rfl) (k_X8_letters 0 2 rfl) (k_X8_letters 0 3 rfl) rfl
theorem dX8_letters_4 : decode cX8_letters 4 = .ok (.aload_n 0, 1) := dz_42 (k_X8_letters 0 4 rfl)
theorem dX8_letters_5 : decode cX8_letters 5 = .ok (.bipush 97, 2) := dz_16 (k_X8_letters 0 5 rfl) (k_X8_letters 0 6 rfl) rfl
theorem dX8_letters_7 : decode cX8_letters 7 = .ok (.bipush 122, 2) := dz_16 (k_X8_letters 0 7 rfl) (k_X8_letters 0 8 rfl) rfl
theorem dX8_letters_9 : decode cX8_letters 9 = .ok (.invokevirtual 154, 3) := dz_182 (k_X8_letters 0 9 rfl) (k_X8_letters 0 10 rfl) (k_X8_letters 0 11 rfl) rfl
theorem dX8_letters_12 : decode cX8_letters 12 = .ok (.ifCond .eq 16, 3) := dz_153 (k_X8_letters 0 12 rfl) (k_X8_letters 0 13 rfl) (k_X8_letters 0 14 rfl) rfl
theorem dX8_letters_15 : decode cX8_letters 15 = .ok (.aload_n 0, 1) := dz_42 (k_X8_letters 0 15 rfl)
theorem dX8_letters_16 : decode cX8_letters 16 = .ok (.dup, 1) := dz_89 (k_X8_letters 0 16 rfl)
theorem dX8_letters_17 : decode cX8_letters 17 = .ok (.getfield 148, 3) := dz_180 (k_X8_letters 0 17 rfl) (k_X8_letters 0 18 rfl) (k_X8_letters 0 19 rfl) rfl
theorem dX8_letters_20 : decode cX8_letters 20 = .ok (.iconst 1, 1) := dz_4 (k_X8_letters 0 20 rfl)
theorem dX8_letters_21 : decode cX8_letters 21 = .ok (.iadd, 1) := dz_96 (k_X8_letters 0 21 rfl)
theorem dX8_letters_22 : decode cX8_letters 22 = .ok (.putfield 148, 3) := dz_181 (k_X8_letters 0 22 rfl) (k_X8_letters 0 23 rfl) (k_X8_letters 0 24 rfl) rfl
theorem dX8_letters_25 : decode cX8_letters 25 = .ok (.goto (-21), 3) := dz_167 (k_X8_letters 0 25 rfl) (k_X8_letters 0 26 rfl) (k_X8_letters 0 27 rfl) rfl
theorem dX8_letters_28 : decode cX8_letters 28 = .ok (.return_, 1) := dz_177 (k_X8_letters 0 28 rfl)
def B_X8_line : List (List Nat) := [[42, 3, 181, 0, 3, 29, 154, 0, 7, 4, 167, 0, 4, 3, 54, 7, 27, 184, 0, 246, 154, 0, 84, 42, 28, 182, 0, 231, 154, 0, 76, 29, 3, 16, 15, 184, 0, 107, 153, 0, 66, 21, 7, 153, 0, 11, 21, 4, 184, 0, 249, 154, 0, 53, 21, 7, 154, 0, 18, 21, 4, 2, 159, 0], [12, 42, 21, 4, 182, 1, 7, 154, 0, 33, 21, 5, 2, 159, 0, 12, 42, 21, 5, 182, 1, 7, 154, 0, 18, 21, 6, 2, 159, 0, 16, 42, 21, 6, 182, 1, 7, 153, 0, 7, 4, 167, 0, 4, 3, 54, 8, 42, 21, 8, 4, 182, 0, 224, 154, 0, 84, 42, 21, 7, 154, 0, 15, 21], [4, 2, 160, 0, 9, 21, 5, 2, 160, 0, 32, 21, 5, 2, 160, 0, 9, 21, 6, 2, 160, 0, 20, 21, 7, 153, 0, 19, 21, 5, 2, 160, 0, 9, 21, 6, 2, 159, 0, 7, 4, 167, 0, 4, 3, 5, 182, 0, 224, 154, 0, 25, 42, 42, 182, 0, 111, 16, 40, 160, 0, 7, 4, 167], [0, 4, 3, 6, 182, 0, 224, 153, 0, 5, 3, 172, 17, 5, 12, 16, 6, 42, 182, 0, 111, 104, 96, 54, 9, 42, 180, 0, 13, 21, 9, 27, 79, 42, 180, 0, 13, 21, 9, 4, 96, 28, 79, 42, 180, 0, 13, 21, 9, 5, 96, 29, 79, 42, 180, 0, 13, 21, 9, 6, 96, 21, 4, 79], [42, 180, 0, 13, 21, 9, 7, 96, 21, 5, 79, 42, 180, 0, 13, 21, 9, 8, 96, 21, 6, 79, 42, 180, 0, 13, 5, 92, 46, 4, 96, 79, 42, 182, 0, 111, 4, 100, 172]]
theorem k_X8_line (j i : Nat) {b : Nat} (h : (B_X8_line[j]?.bind fun c => c[i]?) = some b) : s_by cX8_line (64 * j + i) b := s_byC (L := B_X8_line) (by decide +kernel) (by decide +kernel) j i h
theorem dX8_line_0 : decode cX8_line 0 = .ok (.aload_n 0, 1) := dz_42 (k_X8_line 0 0 rfl)
theorem dX8_line_1 : decode cX8_line 1 = .ok (.iconst 0, 1) := dz_3 (k_X8_line 0 1 rfl)
theorem dX8_line_2 : decode cX8_line 2 = .ok (.putfield 3, 3) := dz_181 (k_X8_line 0 2 rfl) (k_X8_line 0 3 rfl) (k_X8_line 0 4 rfl) rfl
theorem dX8_line_5 : decode cX8_line 5 = .ok (.iload_n 3, 1) := dz_29 (k_X8_line 0 5 rfl)
theorem dX8_line_6 : decode cX8_line 6 = .ok (.ifCond .ne 7, 3) := dz_154 (k_X8_line 0 6 rfl) (k_X8_line 0 7 rfl) (k_X8_line 0 8 rfl) rfl
theorem dX8_line_9 : decode cX8_line 9 = .ok (.iconst 1, 1) := dz_4 (k_X8_line 0 9 rfl)
theorem dX8_line_10 : decode cX8_line 10 = .ok (.goto 4, 3) := dz_167 (k_X8_line 0 10 rfl) (k_X8_line 0 11 rfl) (k_X8_line 0 12 rfl) rfl
theorem dX8_line_13 : decode cX8_line 13 = .ok (.iconst 0, 1) := dz_3 (k_X8_line 0 13 rfl)
theorem dX8_line_14 : decode cX8_line 14 = .ok (.istore 7, 2) := dz_54 (k_X8_line 0 14 rfl) (k_X8_line 0 15 rfl)
theorem dX8_line_16 : decode cX8_line 16 = .ok (.iload_n 1, 1) := dz_27 (k_X8_line 0 16 rfl)
theorem dX8_line_17 : decode cX8_line 17 = .ok (.invokestatic 246, 3) := dz_184 (k_X8_line 0 17 rfl) (k_X8_line 0 18 rfl) (k_X8_line 0 19 rfl) rfl
theorem dX8_line_20 : decode cX8_line 20 = .ok (.ifCond .ne 84, 3) := dz_154 (k_X8_line 0 20 rfl) (k_X8_line 0 21 rfl) (k_X8_line 0 22 rfl) rfl
theorem dX8_line_23 : decode cX8_line 23 = .ok (.aload_n 0, 1) := dz_42 (k_X8_line 0 23 rfl)
theorem dX8_line_24 : decode cX8_line 24 = .ok (.iload_n 2, 1) := dz_28 (k_X8_line 0 24 rfl)
theorem dX8_line_25 : decode cX8_line 25 = .ok (.invokevirtual 231, 3) := dz_182 (k_X8_line 0 25 rfl) (k_X8_line 0 26 rfl) (k_X8_line 0 27 rfl) rfl
theorem dX8_line_28 : decode cX8_line 28 = .ok (.ifCond .ne 76, 3) := dz_154 (k_X8_line 0 28 rfl) (k_X8_line 0 29 rfl) (k_X8_line 0 30 rfl) rfl
theorem dX8_line_31 : decode cX8_line 31 = .ok (.iload_n 3, 1) := dz_29 (k_X8_line 0 31 rfl)
theorem dX8_line_32 : decode cX8_line 32 = .ok (.iconst 0, 1) := dz_3 (k_X8_line 0 32 rfl)
theorem dX8_line_33 : decode cX8_line 33 = .ok (.bipush 15, 2) := dz_16 (k_X8_line 0 33 rfl) (k_X8_line 0 34 rfl) rfl
theorem dX8_line_35 : decode cX8_line 35 = .ok (.invokestatic 107, 3) := dz_184 (k_X8_line 0 35 rfl) (k_X8_line 0 36 rfl) (k_X8_line 0 37 rfl) rfl
theorem dX8_line_38 : decode cX8_line 38 = .ok (.ifCond .eq 66, 3) := dz_153 (k_X8_line 0 38 rfl) (k_X8_line 0 39 rfl) (k_X8_line 0 40 rfl) rfl
theorem dX8_line_41 : decode cX8_line 41 = .ok (.iload 7, 2) := dz_21 (k_X8_line 0 41 rfl) (k_X8_line 0 42 rfl)
theorem dX8_line_43 : decode cX8_line 43 = .ok (.ifCond .eq 11, 3) := dz_153 (k_X8_line 0 43 rfl) (k_X8_line 0 44 rfl) (k_X8_line 0 45 rfl) rfl
theorem dX8_line_46 : decode cX8_line 46 = .ok (.iload 4, 2) := dz_21 (k_X8_line 0 46 rfl) (k_X8_line 0 47 rfl)
theorem dX8_line_48 : decode cX8_line 48 = .ok (.invokestatic 249, 3) := dz_184 (k_X8_line 0 48 rfl) (k_X8_line 0 49 rfl) (k_X8_line 0 50 rfl) rfl
theorem dX8_line_51 : decode cX8_line 51 = .ok (.ifCond .ne 53, 3) := dz_154 (k_X8_line 0 51 rfl) (k_X8_line 0 52 rfl) (k_X8_line 0 53 rfl) rfl
theorem dX8_line_54 : decode cX8_line 54 = .ok (.iload 7, 2) := dz_21 (k_X8_line 0 54 rfl) (k_X8_line 0 55 rfl)
theorem dX8_line_56 : decode cX8_line 56 = .ok (.ifCond .ne 18, 3) := dz_154 (k_X8_line 0 56 rfl) (k_X8_line 0 57 rfl) (k_X8_line 0 58 rfl) rfl
theorem dX8_line_59 : decode cX8_line 59 = .ok (.iload 4, 2) := dz_21 (k_X8_line 0 59 rfl) (k_X8_line 0 60 rfl)
theorem dX8_line_61 : decode cX8_line 61 = .ok (.iconst (-1), 1) := dz_2 (k_X8_line 0 61 rfl)
theorem dX8_line_62 : decode cX8_line 62 = .ok (.if_icmp .eq 12, 3) := dz_159 (k_X8_line 0 62 rfl) (k_X8_line 0 63 rfl) (k_X8_line 1 0 rfl) rfl
theorem dX8_line_65 : decode cX8_line 65 = .ok (.aload_n 0, 1) := dz_42 (k_X8_line 1 1 rfl)
theorem dX8_line_66 : decode cX8_line 66 = .ok (.iload 4, 2) := dz_21 (k_X8_line 1 2 rfl) (k_X8_line 1 3 rfl)
theorem dX8_line_68 : decode cX8_line 68 = .ok (.invokevirtual 263, 3) := dz_182 (k_X8_line 1 4 rfl) (k_X8_line 1 5 rfl) (k_X8_line 1 6 rfl) rfl
theorem dX8_line_71 : decode cX8_line 71 = .ok (.ifCond .ne 33, 3) := dz_154 (k_X8_line 1 7 rfl) (k_X8_line 1 8 rfl) (k_X8_line 1 9 rfl) rfl
theorem dX8_line_74 : decode cX8_line 74 = .ok (.iload 5, 2) := dz_21 (k_X8_line 1 10 rfl) (k_X8_line 1 11 rfl)
theorem dX8_line_76 : decode cX8_line 76 = .ok (.iconst (-1), 1) := dz_2 (k_X8_line 1 12 rfl)
theorem dX8_line_77 : decode cX8_line 77 = .ok (.if_icmp .eq 12, 3) := dz_159 (k_X8_line 1 13 rfl) (k_X8_line 1 14 rfl) (k_X8_line 1 15 rfl) rfl
theorem dX8_line_80 : decode cX8_line 80 = .ok (.aload_n 0, 1) := dz_42 (k_X8_line 1 16 rfl)
theorem dX8_line_81 : decode cX8_line 81 = .ok (.iload 5, 2) := dz_21 (k_X8_line 1 17 rfl) (k_X8_line 1 18 rfl)
theorem dX8_line_83 : decode cX8_line 83 = .ok (.invokevirtual 263, 3) := dz_182 (k_X8_line 1 19 rfl) (k_X8_line 1 20 rfl) (k_X8_line 1 21 rfl) rfl
theorem dX8_line_86 : decode cX8_line 86 = .ok (.ifCond .ne 18, 3) := dz_154 (k_X8_line 1 22 rfl) (k_X8_line 1 23 rfl) (k_X8_line 1 24 rfl) rfl
theorem dX8_line_89 : decode cX8_line 89 = .ok (.iload 6, 2) := dz_21 (k_X8_line 1 25 rfl) (k_X8_line 1 26 rfl)
theorem dX8_line_91 : decode cX8_line 91 = .ok (.iconst (-1), 1) := dz_2 (k_X8_line 1 27 rfl)
theorem dX8_line_92 : decode cX8_line 92 = .ok (.if_icmp .eq 16, 3) := dz_159 (k_X8_line 1 28 rfl) (k_X8_line 1 29 rfl) (k_X8_line 1 30 rfl) rfl
theorem dX8_line_95 : decode cX8_line 95 = .ok (.aload_n 0, 1) := dz_42 (k_X8_line 1 31 rfl)
theorem dX8_line_96 : decode cX8_line 96 = .ok (.iload 6, 2) := dz_21 (k_X8_line 1 32 rfl) (k_X8_line 1 33 rfl)
theorem dX8_line_98 : decode cX8_line 98 = .ok (.invokevirtual 263, 3) := dz_182 (k_X8_line 1 34 rfl) (k_X8_line 1 35 rfl) (k_X8_line 1 36 rfl) rfl
theorem dX8_line_101 : decode cX8_line 101 = .ok (.ifCond .eq 7, 3) := dz_153 (k_X8_line 1 37 rfl) (k_X8_line 1 38 rfl) (k_X8_line 1 39 rfl) rfl
theorem dX8_line_104 : decode cX8_line 104 = .ok (.iconst 1, 1) := dz_4 (k_X8_line 1 40 rfl)
theorem dX8_line_105 : decode cX8_line 105 = .ok (.goto 4, 3) := dz_167 (k_X8_line 1 41 rfl) (k_X8_line 1 42 rfl) (k_X8_line 1 43 rfl) rfl
theorem dX8_line_108 : decode cX8_line 108 = .ok (.iconst 0, 1) := dz_3 (k_X8_line 1 44 rfl)
theorem dX8_line_109 : decode cX8_line 109 = .ok (.istore 8, 2) := dz_54 (k_X8_line 1 45 rfl) (k_X8_line 1 46 rfl)
theorem dX8_line_111 : decode cX8_line 111 = .ok (.aload_n 0, 1) := dz_42 (k_X8_line 1 47 rfl)
theorem dX8_line_112 : decode cX8_line 112 = .ok (.iload 8, 2) := dz_21 (k_X8_line 1 48 rfl) (k_X8_line 1 49 rfl)
theorem dX8_line_114 : decode cX8_line 114 = .ok (.iconst 1, 1) := dz_4 (k_X8_line 1 50 rfl)
theorem dX8_line_115 : decode cX8_line 115 = .ok (.invokevirtual 224, 3) := dz_182 (k_X8_line 1 51 rfl) (k_X8_line 1 52 rfl) (k_X8_line 1 53 rfl) rfl
theorem dX8_line_118 : decode cX8_line 118 = .ok (.ifCond .ne 84, 3) := dz_154 (k_X8_line 1 54 rfl) (k_X8_line 1 55 rfl) (k_X8_line 1 56 rfl) rfl
theorem dX8_line_121 : decode cX8_line 121 = .ok (.aload_n 0, 1) := dz_42 (k_X8_line 1 57 rfl)
theorem dX8_line_122 : decode cX8_line 122 = .ok (.iload 7, 2) := dz_21 (k_X8_line 1 58 rfl) (k_X8_line 1 59 rfl)
theorem dX8_line_124 : decode cX8_line 124 = .ok (.ifCond .ne 15, 3) := dz_154 (k_X8_line 1 60 rfl) (k_X8_line 1 61 rfl) (k_X8_line 1 62 rfl) rfl
theorem dX8_line_127 : decode cX8_line 127 = .ok (.iload 4, 2) := dz_21 (k_X8_line 1 63 rfl) (k_X8_line 2 0 rfl)
theorem dX8_line_129 : decode cX8_line 129 = .ok (.iconst (-1), 1) := dz_2 (k_X8_line 2 1 rfl)
theorem dX8_line_130 : decode cX8_line 130 = .ok (.if_icmp .ne 9, 3) := dz_160 (k_X8_line 2 2 rfl) (k_X8_line 2 3 rfl) (k_X8_line 2 4 rfl) rfl
theorem dX8_line_133 : decode cX8_line 133 = .ok (.iload 5, 2) := dz_21 (k_X8_line 2 5 rfl) (k_X8_line 2 6 rfl)
theorem dX8_line_135 : decode cX8_line 135 = .ok (.iconst (-1), 1) := dz_2 (k_X8_line 2 7 rfl)
theorem dX8_line_136 : decode cX8_line 136 = .ok (.if_icmp .ne 32, 3) := dz_160 (k_X8_line 2 8 rfl) (k_X8_line 2 9 rfl) (k_X8_line 2 10 rfl) rfl
theorem dX8_line_139 : decode cX8_line 139 = .ok (.iload 5, 2) := dz_21 (k_X8_line 2 11 rfl) (k_X8_line 2 12 rfl)
theorem dX8_line_141 : decode cX8_line 141 = .ok (.iconst (-1), 1) := dz_2 (k_X8_line 2 13 rfl)
theorem dX8_line_142 : decode cX8_line 142 = .ok (.if_icmp .ne 9, 3) := dz_160 (k_X8_line 2 14 rfl) (k_X8_line 2 15 rfl) (k_X8_line 2 16 rfl) rfl
theorem dX8_line_145 : decode cX8_line 145 = .ok (.iload 6, 2) := dz_21 (k_X8_line 2 17 rfl) (k_X8_line 2 18 rfl)
theorem dX8_line_147 : decode cX8_line 147 = .ok (.iconst (-1), 1) := dz_2 (k_X8_line 2 19 rfl)
theorem dX8_line_148 : decode cX8_line 148 = .ok (.if_icmp .ne 20, 3) := dz_160 (k_X8_line 2 20 rfl) (k_X8_line 2 21 rfl) (k_X8_line 2 22 rfl) rfl
theorem dX8_line_151 : decode cX8_line 151 = .ok (.iload 7, 2) := dz_21 (k_X8_line 2 23 rfl) (k_X8_line 2 24 rfl)
theorem dX8_line_153 : decode cX8_line 153 = .ok (.ifCond .eq 19, 3) := dz_153 (k_X8_line 2 25 rfl) (k_X8_line 2 26 rfl) (k_X8_line 2 27 rfl) rfl
theorem dX8_line_156 : decode cX8_line 156 = .ok (.iload 5, 2) := dz_21 (k_X8_line 2 28 rfl) (k_X8_line 2 29 rfl)
theorem dX8_line_158 : decode cX8_line 158 = .ok (.iconst (-1), 1) := dz_2 (k_X8_line 2 30 rfl)
theorem dX8_line_159 : decode cX8_line 159 = .ok (.if_icmp .ne 9, 3) := dz_160 (k_X8_line 2 31 rfl) (k_X8_line 2 32 rfl) (k_X8_line 2 33 rfl) rfl
theorem dX8_line_162 : decode cX8_line 162 = .ok (.iload 6, 2) := dz_21 (k_X8_line 2 34 rfl) (k_X8_line 2 35 rfl)
theorem dX8_line_164 : decode cX8_line 164 = .ok (.iconst (-1), 1) := dz_2 (k_X8_line 2 36 rfl)
theorem dX8_line_165 : decode cX8_line 165 = .ok (.if_icmp .eq 7, 3) := dz_159 (k_X8_line 2 37 rfl) (k_X8_line 2 38 rfl) (k_X8_line 2 39 rfl) rfl
theorem dX8_line_168 : decode cX8_line 168 = .ok (.iconst 1, 1) := dz_4 (k_X8_line 2 40 rfl)
theorem dX8_line_169 : decode cX8_line 169 = .ok (.goto 4, 3) := dz_167 (k_X8_line 2 41 rfl) (k_X8_line 2 42 rfl) (k_X8_line 2 43 rfl) rfl
theorem dX8_line_172 : decode cX8_line 172 = .ok (.iconst 0, 1) := dz_3 (k_X8_line 2 44 rfl)
theorem dX8_line_173 : decode cX8_line 173 = .ok (.iconst 2, 1) := dz_5 (k_X8_line 2 45 rfl)
theorem dX8_line_174 : decode cX8_line 174 = .ok (.invokevirtual 224, 3) := dz_182 (k_X8_line 2 46 rfl) (k_X8_line 2 47 rfl) (k_X8_line 2 48 rfl) rfl
theorem dX8_line_177 : decode cX8_line 177 = .ok (.ifCond .ne 25, 3) := dz_154 (k_X8_line 2 49 rfl) (k_X8_line 2 50 rfl) (k_X8_line 2 51 rfl) rfl
theorem dX8_line_180 : decode cX8_line 180 = .ok (.aload_n 0, 1) := dz_42 (k_X8_line 2 52 rfl)
theorem dX8_line_181 : decode cX8_line 181 = .ok (.aload_n 0, 1) := dz_42 (k_X8_line 2 53 rfl)
theorem dX8_line_182 : decode cX8_line 182 = .ok (.invokevirtual 111, 3) := dz_182 (k_X8_line 2 54 rfl) (k_X8_line 2 55 rfl) (k_X8_line 2 56 rfl) rfl
theorem dX8_line_185 : decode cX8_line 185 = .ok (.bipush 40, 2) := dz_16 (k_X8_line 2 57 rfl) (k_X8_line 2 58 rfl) rfl
theorem dX8_line_187 : decode cX8_line 187 = .ok (.if_icmp .ne 7, 3) := dz_160 (k_X8_line 2 59 rfl) (k_X8_line 2 60 rfl) (k_X8_line 2 61 rfl) rfl
theorem dX8_line_190 : decode cX8_line 190 = .ok (.iconst 1, 1) := dz_4 (k_X8_line 2 62 rfl)
theorem dX8_line_191 : decode cX8_line 191 = .ok (.goto 4, 3) := dz_167 (k_X8_line 2 63 rfl) (k_X8_line 3 0 rfl) (k_X8_line 3 1 rfl) rfl
theorem dX8_line_194 : decode cX8_line 194 = .ok (.iconst 0, 1) := dz_3 (k_X8_line 3 2 rfl)
theorem dX8_line_195 : decode cX8_line 195 = .ok (.iconst 3, 1) := dz_6 (k_X8_line 3 3 rfl)
theorem dX8_line_196 : decode cX8_line 196 = .ok (.invokevirtual 224, 3) := dz_182 (k_X8_line 3 4 rfl) (k_X8_line 3 5 rfl) (k_X8_line 3 6 rfl) rfl
theorem dX8_line_199 : decode cX8_line 199 = .ok (.ifCond .eq 5, 3) := dz_153 (k_X8_line 3 7 rfl) (k_X8_line 3 8 rfl) (k_X8_line 3 9 rfl) rfl
theorem dX8_line_202 : decode cX8_line 202 = .ok (.iconst 0, 1) := dz_3 (k_X8_line 3 10 rfl)
theorem dX8_line_203 : decode cX8_line 203 = .ok (.ireturn, 1) := dz_172 (k_X8_line 3 11 rfl)
theorem dX8_line_204 : decode cX8_line 204 = .ok (.sipush 1292, 3) := dz_17 (k_X8_line 3 12 rfl) (k_X8_line 3 13 rfl) (k_X8_line 3 14 rfl) rfl
theorem dX8_line_207 : decode cX8_line 207 = .ok (.bipush 6, 2) := dz_16 (k_X8_line 3 15 rfl) (k_X8_line 3 16 rfl) rfl
theorem dX8_line_209 : decode cX8_line 209 = .ok (.aload_n 0, 1) := dz_42 (k_X8_line 3 17 rfl)
theorem dX8_line_210 : decode cX8_line 210 = .ok (.invokevirtual 111, 3) := dz_182 (k_X8_line 3 18 rfl) (k_X8_line 3 19 rfl) (k_X8_line 3 20 rfl) rfl
theorem dX8_line_213 : decode cX8_line 213 = .ok (.imul, 1) := dz_104 (k_X8_line 3 21 rfl)
theorem dX8_line_214 : decode cX8_line 214 = .ok (.iadd, 1) := dz_96 (k_X8_line 3 22 rfl)
theorem dX8_line_215 : decode cX8_line 215 = .ok (.istore 9, 2) := dz_54 (k_X8_line 3 23 rfl) (k_X8_line 3 24 rfl)
theorem dX8_line_217 : decode cX8_line 217 = .ok (.aload_n 0, 1) := dz_42 (k_X8_line 3 25 rfl)
theorem dX8_line_218 : decode cX8_line 218 = .ok (.getfield 13, 3) := dz_180 (k_X8_line 3 26 rfl) (k_X8_line 3 27 rfl) (k_X8_line 3 28 rfl) rfl
theorem dX8_line_221 : decode cX8_line 221 = .ok (.iload 9, 2) := dz_21 (k_X8_line 3 29 rfl) (k_X8_line 3 30 rfl)
theorem dX8_line_223 : decode cX8_line 223 = .ok (.iload_n 1, 1) := dz_27 (k_X8_line 3 31 rfl)
theorem dX8_line_224 : decode cX8_line 224 = .ok (.iastore, 1) := dz_79 (k_X8_line 3 32 rfl)
theorem dX8_line_225 : decode cX8_line 225 = .ok (.aload_n 0, 1) := dz_42 (k_X8_line 3 33 rfl)
theorem dX8_line_226 : decode cX8_line 226 = .ok (.getfield 13, 3) := dz_180 (k_X8_line 3 34 rfl) (k_X8_line 3 35 rfl) (k_X8_line 3 36 rfl) rfl
theorem dX8_line_229 : decode cX8_line 229 = .ok (.iload 9, 2) := dz_21 (k_X8_line 3 37 rfl) (k_X8_line 3 38 rfl)
theorem dX8_line_231 : decode cX8_line 231 = .ok (.iconst 1, 1) := dz_4 (k_X8_line 3 39 rfl)
theorem dX8_line_232 : decode cX8_line 232 = .ok (.iadd, 1) := dz_96 (k_X8_line 3 40 rfl)
theorem dX8_line_233 : decode cX8_line 233 = .ok (.iload_n 2, 1) := dz_28 (k_X8_line 3 41 rfl)
theorem dX8_line_234 : decode cX8_line 234 = .ok (.iastore, 1) := dz_79 (k_X8_line 3 42 rfl)
theorem dX8_line_235 : decode cX8_line 235 = .ok (.aload_n 0, 1) := dz_42 (k_X8_line 3 43 rfl)
theorem dX8_line_236 : decode cX8_line 236 = .ok (.getfield 13, 3) := dz_180 (k_X8_line 3 44 rfl) (k_X8_line 3 45 rfl) (k_X8_line 3 46 rfl) rfl
theorem dX8_line_239 : decode cX8_line 239 = .ok (.iload 9, 2) := dz_21 (k_X8_line 3 47 rfl) (k_X8_line 3 48 rfl)
theorem dX8_line_241 : decode cX8_line 241 = .ok (.iconst 2, 1) := dz_5 (k_X8_line 3 49 rfl)
theorem dX8_line_242 : decode cX8_line 242 = .ok (.iadd, 1) := dz_96 (k_X8_line 3 50 rfl)
theorem dX8_line_243 : decode cX8_line 243 = .ok (.iload_n 3, 1) := dz_29 (k_X8_line 3 51 rfl)
theorem dX8_line_244 : decode cX8_line 244 = .ok (.iastore, 1) := dz_79 (k_X8_line 3 52 rfl)
theorem dX8_line_245 : decode cX8_line 245 = .ok (.aload_n 0, 1) := dz_42 (k_X8_line 3 53 rfl)
theorem dX8_line_246 : decode cX8_line 246 = .ok (.getfield 13, 3) := dz_180 (k_X8_line 3 54 rfl) (k_X8_line 3 55 rfl) (k_X8_line 3 56 rfl) rfl
theorem dX8_line_249 : decode cX8_line 249 = .ok (.iload 9, 2) := dz_21 (k_X8_line 3 57 rfl) (k_X8_line 3 58 rfl)
theorem dX8_line_251 : decode cX8_line 251 = .ok (.iconst 3, 1) := dz_6 (k_X8_line 3 59 rfl)
theorem dX8_line_252 : decode cX8_line 252 = .ok (.iadd, 1) := dz_96 (k_X8_line 3 60 rfl)
theorem dX8_line_253 : decode cX8_line 253 = .ok (.iload 4, 2) := dz_21 (k_X8_line 3 61 rfl) (k_X8_line 3 62 rfl)
theorem dX8_line_255 : decode cX8_line 255 = .ok (.iastore, 1) := dz_79 (k_X8_line 3 63 rfl)
theorem dX8_line_256 : decode cX8_line 256 = .ok (.aload_n 0, 1) := dz_42 (k_X8_line 4 0 rfl)
theorem dX8_line_257 : decode cX8_line 257 = .ok (.getfield 13, 3) := dz_180 (k_X8_line 4 1 rfl) (k_X8_line 4 2 rfl) (k_X8_line 4 3 rfl) rfl
theorem dX8_line_260 : decode cX8_line 260 = .ok (.iload 9, 2) := dz_21 (k_X8_line 4 4 rfl) (k_X8_line 4 5 rfl)
theorem dX8_line_262 : decode cX8_line 262 = .ok (.iconst 4, 1) := dz_7 (k_X8_line 4 6 rfl)
theorem dX8_line_263 : decode cX8_line 263 = .ok (.iadd, 1) := dz_96 (k_X8_line 4 7 rfl)
theorem dX8_line_264 : decode cX8_line 264 = .ok (.iload 5, 2) := dz_21 (k_X8_line 4 8 rfl) (k_X8_line 4 9 rfl)
theorem dX8_line_266 : decode cX8_line 266 = .ok (.iastore, 1) := dz_79 (k_X8_line 4 10 rfl)
theorem dX8_line_267 : decode cX8_line 267 = .ok (.aload_n 0, 1) := dz_42 (k_X8_line 4 11 rfl)
theorem dX8_line_268 : decode cX8_line 268 = .ok (.getfield 13, 3) := dz_180 (k_X8_line 4 12 rfl) (k_X8_line 4 13 rfl) (k_X8_line 4 14 rfl) rfl
theorem dX8_line_271 : decode cX8_line 271 = .ok (.iload 9, 2) := dz_21 (k_X8_line 4 15 rfl) (k_X8_line 4 16 rfl)
theorem dX8_line_273 : decode cX8_line 273 = .ok (.iconst 5, 1) := dz_8 (k_X8_line 4 17 rfl)
theorem dX8_line_274 : decode cX8_line 274 = .ok (.iadd, 1) := dz_96 (k_X8_line 4 18 rfl)
theorem dX8_line_275 : decode cX8_line 275 = .ok (.iload 6, 2) := dz_21 (k_X8_line 4 19 rfl) (k_X8_line 4 20 rfl)
theorem dX8_line_277 : decode cX8_line 277 = .ok (.iastore, 1) := dz_79 (k_X8_line 4 21 rfl)
theorem dX8_line_278 : decode cX8_line 278 = .ok (.aload_n 0, 1) := dz_42 (k_X8_line 4 22 rfl)
theorem dX8_line_279 : decode cX8_line 279 = .ok (.getfield 13, 3) := dz_180 (k_X8_line 4 23 rfl) (k_X8_line 4 24 rfl) (k_X8_line 4 25 rfl) rfl
theorem dX8_line_282 : decode cX8_line 282 = .ok (.iconst 2, 1) := dz_5 (k_X8_line 4 26 rfl)
theorem dX8_line_283 : decode cX8_line 283 = .ok (.dup2, 1) := dz_92 (k_X8_line 4 27 rfl)
theorem dX8_line_284 : decode cX8_line 284 = .ok (.iaload, 1) := dz_46 (k_X8_line 4 28 rfl)
theorem dX8_line_285 : decode cX8_line 285 = .ok (.iconst 1, 1) := dz_4 (k_X8_line 4 29 rfl)
theorem dX8_line_286 : decode cX8_line 286 = .ok (.iadd, 1) := dz_96 (k_X8_line 4 30 rfl)
theorem dX8_line_287 : decode cX8_line 287 = .ok (.iastore, 1) := dz_79 (k_X8_line 4 31 rfl)
theorem dX8_line_288 : decode cX8_line 288 = .ok (.aload_n 0, 1) := dz_42 (k_X8_line 4 32 rfl)
theorem dX8_line_289 : decode cX8_line 289 = .ok (.invokevirtual 111, 3) := dz_182 (k_X8_line 4 33 rfl) (k_X8_line 4 34 rfl) (k_X8_line 4 35 rfl) rfl
theorem dX8_line_292 : decode cX8_line 292 = .ok (.iconst 1, 1) := dz_4 (k_X8_line 4 36 rfl)
theorem dX8_line_293 : decode cX8_line 293 = .ok (.isub, 1) := dz_100 (k_X8_line 4 37 rfl)
theorem dX8_line_294 : decode cX8_line 294 = .ok (.ireturn, 1) := dz_172 (k_X8_line 4 38 rfl)
def B_X8_lines : List (List Nat) := [[42, 180, 0, 13, 5, 46, 172]]
theorem k_X8_lines (j i : Nat) {b : Nat} (h : (B_X8_lines[j]?.bind fun c => c[i]?) = some b) : s_by cX8_lines (64 * j + i) b := s_byC (L := B_X8_lines) (by decide +kernel) (by decide +kernel) j i h
theorem dX8_lines_0 : decode cX8_lines 0 = .ok (.aload_n 0, 1) := dz_42 (k_X8_lines 0 0 rfl)
theorem dX8_lines_1 : decode cX8_lines 1 = .ok (.getfield 13, 3) := dz_180 (k_X8_lines 0 1 rfl) (k_X8_lines 0 2 rfl) (k_X8_lines 0 3 rfl) rfl
theorem dX8_lines_4 : decode cX8_lines 4 = .ok (.iconst 2, 1) := dz_5 (k_X8_lines 0 4 rfl)
theorem dX8_lines_5 : decode cX8_lines 5 = .ok (.iaload, 1) := dz_46 (k_X8_lines 0 5 rfl)
theorem dX8_lines_6 : decode cX8_lines 6 = .ok (.ireturn, 1) := dz_172 (k_X8_lines 0 6 rfl)
def B_X8_look : List (List Nat) := [[42, 3, 181, 0, 3, 42, 42, 27, 182, 1, 7, 4, 182, 0, 224, 154, 0, 26, 42, 28, 3, 16, 6, 184, 0, 107, 154, 0, 7, 4, 167, 0, 4, 3, 5, 182, 0, 224, 153, 0, 7, 3, 167, 0, 23, 28, 16, 6, 160, 0, 11, 42, 27, 182, 1, 10, 167, 0, 9, 42, 27, 28, 182, 1], [0, 172]]
theorem k_X8_look (j i : Nat) {b : Nat} (h : (B_X8_look[j]?.bind fun c => c[i]?) = some b) : s_by cX8_look (64 * j + i) b := s_byC (L := B_X8_look) (by decide +kernel) (by decide +kernel) j i h
theorem dX8_look_0 : decode cX8_look 0 = .ok (.aload_n 0, 1) := dz_42 (k_X8_look 0 0 rfl)
theorem dX8_look_1 : decode cX8_look 1 = .ok (.iconst 0, 1) := dz_3 (k_X8_look 0 1 rfl)
theorem dX8_look_2 : decode cX8_look 2 = .ok (.putfield 3, 3) := dz_181 (k_X8_look 0 2 rfl) (k_X8_look 0 3 rfl) (k_X8_look 0 4 rfl) rfl
theorem dX8_look_5 : decode cX8_look 5 = .ok (.aload_n 0, 1) := dz_42 (k_X8_look 0 5 rfl)
theorem dX8_look_6 : decode cX8_look 6 = .ok (.aload_n 0, 1) := dz_42 (k_X8_look 0 6 rfl)
theorem dX8_look_7 : decode cX8_look 7 = .ok (.iload_n 1, 1) := dz_27 (k_X8_look 0 7 rfl)
theorem dX8_look_8 : decode cX8_look 8 = .ok (.invokevirtual 263, 3) := dz_182 (k_X8_look 0 8 rfl) (k_X8_look 0 9 rfl) (k_X8_look 0 10 rfl) rfl
theorem dX8_look_11 : decode cX8_look 11 = .ok (.iconst 1, 1) := dz_4 (k_X8_look 0 11 rfl)
theorem dX8_look_12 : decode cX8_look 12 = .ok (.invokevirtual 224, 3) := dz_182 (k_X8_look 0 12 rfl) (k_X8_look 0 13 rfl) (k_X8_look 0 14 rfl) rfl
theorem dX8_look_15 : decode cX8_look 15 = .ok (.ifCond .ne 26, 3) := dz_154 (k_X8_look 0 15 rfl) (k_X8_look 0 16 rfl) (k_X8_look 0 17 rfl) rfl
theorem dX8_look_18 : decode cX8_look 18 = .ok (.aload_n 0, 1) := dz_42 (k_X8_look 0 18 rfl)
theorem dX8_look_19 : decode cX8_look 19 = .ok (.iload_n 2, 1) := dz_28 (k_X8_look 0 19 rfl)
theorem dX8_look_20 : decode cX8_look 20 = .ok (.iconst 0, 1) := dz_3 (k_X8_look 0 20 rfl)
theorem dX8_look_21 : decode cX8_look 21 = .ok (.bipush 6, 2) := dz_16 (k_X8_look 0 21 rfl) (k_X8_look 0 22 rfl) rfl
theorem dX8_look_23 : decode cX8_look 23 = .ok (.invokestatic 107, 3) := dz_184 (k_X8_look 0 23 rfl) (k_X8_look 0 24 rfl) (k_X8_look 0 25 rfl) rfl
theorem dX8_look_26 : decode cX8_look 26 = .ok (.ifCond .ne 7, 3) := dz_154 (k_X8_look 0 26 rfl) (k_X8_look 0 27 rfl) (k_X8_look 0 28 rfl) rfl
theorem dX8_look_29 : decode cX8_look 29 = .ok (.iconst 1, 1) := dz_4 (k_X8_look 0 29 rfl)
theorem dX8_look_30 : decode cX8_look 30 = .ok (.goto 4, 3) := dz_167 (k_X8_look 0 30 rfl) (k_X8_look 0 31 rfl) (k_X8_look 0 32 rfl) rfl
theorem dX8_look_33 : decode cX8_look 33 = .ok (.iconst 0, 1) := dz_3 (k_X8_look 0 33 rfl)
theorem dX8_look_34 : decode cX8_look 34 = .ok (.iconst 2, 1) := dz_5 (k_X8_look 0 34 rfl)
theorem dX8_look_35 : decode cX8_look 35 = .ok (.invokevirtual 224, 3) := dz_182 (k_X8_look 0 35 rfl) (k_X8_look 0 36 rfl) (k_X8_look 0 37 rfl) rfl
theorem dX8_look_38 : decode cX8_look 38 = .ok (.ifCond .eq 7, 3) := dz_153 (k_X8_look 0 38 rfl) (k_X8_look 0 39 rfl) (k_X8_look 0 40 rfl) rfl
theorem dX8_look_41 : decode cX8_look 41 = .ok (.iconst 0, 1) := dz_3 (k_X8_look 0 41 rfl)
theorem dX8_look_42 : decode cX8_look 42 = .ok (.goto 23, 3) := dz_167 (k_X8_look 0 42 rfl) (k_X8_look 0 43 rfl) (k_X8_look 0 44 rfl) rfl
theorem dX8_look_45 : decode cX8_look 45 = .ok (.iload_n 2, 1) := dz_28 (k_X8_look 0 45 rfl)
theorem dX8_look_46 : decode cX8_look 46 = .ok (.bipush 6, 2) := dz_16 (k_X8_look 0 46 rfl) (k_X8_look 0 47 rfl) rfl
theorem dX8_look_48 : decode cX8_look 48 = .ok (.if_icmp .ne 11, 3) := dz_160 (k_X8_look 0 48 rfl) (k_X8_look 0 49 rfl) (k_X8_look 0 50 rfl) rfl
theorem dX8_look_51 : decode cX8_look 51 = .ok (.aload_n 0, 1) := dz_42 (k_X8_look 0 51 rfl)
theorem dX8_look_52 : decode cX8_look 52 = .ok (.iload_n 1, 1) := dz_27 (k_X8_look 0 52 rfl)
theorem dX8_look_53 : decode cX8_look 53 = .ok (.invokevirtual 266, 3) := dz_182 (k_X8_look 0 53 rfl) (k_X8_look 0 54 rfl) (k_X8_look 0 55 rfl) rfl
theorem dX8_look_56 : decode cX8_look 56 = .ok (.goto 9, 3) := dz_167 (k_X8_look 0 56 rfl) (k_X8_look 0 57 rfl) (k_X8_look 0 58 rfl) rfl
theorem dX8_look_59 : decode cX8_look 59 = .ok (.aload_n 0, 1) := dz_42 (k_X8_look 0 59 rfl)
theorem dX8_look_60 : decode cX8_look 60 = .ok (.iload_n 1, 1) := dz_27 (k_X8_look 0 60 rfl)
theorem dX8_look_61 : decode cX8_look 61 = .ok (.iload_n 2, 1) := dz_28 (k_X8_look 0 61 rfl)
theorem dX8_look_62 : decode cX8_look 62 = .ok (.invokevirtual 256, 3) := dz_182 (k_X8_look 0 62 rfl) (k_X8_look 0 63 rfl) (k_X8_look 1 0 rfl) rfl
theorem dX8_look_65 : decode cX8_look 65 = .ok (.ireturn, 1) := dz_172 (k_X8_look 1 1 rfl)
def B_X8_looksAll : List (List Nat) := [[42, 3, 181, 1, 104, 42, 3, 181, 1, 101, 42, 182, 0, 103, 4, 100, 62, 29, 155, 0, 31, 28, 29, 122, 4, 126, 4, 160, 0, 16, 42, 29, 3, 42, 180, 0, 20, 29, 46, 2, 182, 1, 114, 132, 3, 255, 167, 255, 227, 42, 27, 3, 42, 180, 0, 20, 27, 46, 2, 182, 1, 114, 42, 180], [1, 101, 158, 0, 232, 42, 180, 1, 104, 16, 40, 162, 0, 223, 42, 89, 180, 1, 101, 4, 100, 181, 1, 101, 7, 42, 180, 1, 101, 104, 62, 42, 42, 180, 0, 92, 29, 46, 42, 180, 0, 92, 29, 4, 96, 46, 42, 180, 0, 92, 29, 5, 96, 46, 42, 180, 0, 92, 29, 6, 96, 46, 182, 1], [118, 155, 0, 6, 167, 255, 186, 16, 30, 42, 180, 1, 104, 96, 54, 4, 42, 16, 71, 3, 42, 180, 0, 20, 16, 71, 46, 2, 21, 4, 182, 1, 107, 42, 89, 180, 1, 104, 4, 96, 181, 1, 104, 42, 21, 4, 3, 182, 0, 114, 54, 5, 21, 5, 184, 0, 118, 153, 0, 42, 42, 21, 4, 42], [21, 4, 4, 182, 0, 132, 42, 180, 0, 20, 21, 4, 46, 2, 182, 1, 114, 42, 21, 4, 4, 42, 21, 4, 4, 182, 0, 132, 2, 182, 1, 114, 167, 0, 71, 21, 5, 16, 12, 160, 0, 21, 42, 21, 4, 4, 42, 180, 0, 20, 21, 4, 46, 2, 182, 1, 114, 167, 0, 46, 21, 5, 184, 0], [122, 153, 0, 38, 42, 182, 0, 138, 4, 100, 54, 6, 21, 6, 155, 0, 25, 42, 21, 4, 4, 42, 180, 0, 20, 21, 4, 46, 21, 6, 182, 1, 114, 132, 6, 255, 167, 255, 232, 167, 255, 23, 177]]
theorem k_X8_looksAll (j i : Nat) {b : Nat} (h : (B_X8_looksAll[j]?.bind fun c => c[i]?) = some b) : s_by cX8_looksAll (64 * j + i) b := s_byC (L := B_X8_looksAll) (by decide +kernel) (by decide +kernel) j i h
theorem dX8_looksAll_0 : decode cX8_looksAll 0 = .ok (.aload_n 0, 1) := dz_42 (k_X8_looksAll 0 0 rfl)
theorem dX8_looksAll_1 : decode cX8_looksAll 1 = .ok (.iconst 0, 1) := dz_3 (k_X8_looksAll 0 1 rfl)
theorem dX8_looksAll_2 : decode cX8_looksAll 2 = .ok (.putfield 360, 3) := dz_181 (k_X8_looksAll 0 2 rfl) (k_X8_looksAll 0 3 rfl) (k_X8_looksAll 0 4 rfl) rfl
theorem dX8_looksAll_5 : decode cX8_looksAll 5 = .ok (.aload_n 0, 1) := dz_42 (k_X8_looksAll 0 5 rfl)
theorem dX8_looksAll_6 : decode cX8_looksAll 6 = .ok (.iconst 0, 1) := dz_3 (k_X8_looksAll 0 6 rfl)
theorem dX8_looksAll_7 : decode cX8_looksAll 7 = .ok (.putfield 357, 3) := dz_181 (k_X8_looksAll 0 7 rfl) (k_X8_looksAll 0 8 rfl) (k_X8_looksAll 0 9 rfl) rfl
theorem dX8_looksAll_10 : decode cX8_looksAll 10 = .ok (.aload_n 0, 1) := dz_42 (k_X8_looksAll 0 10 rfl)
theorem dX8_looksAll_11 : decode cX8_looksAll 11 = .ok (.invokevirtual 103, 3) := dz_182 (k_X8_looksAll 0 11 rfl) (k_X8_looksAll 0 12 rfl) (k_X8_looksAll 0 13 rfl) rfl
theorem dX8_looksAll_14 : decode cX8_looksAll 14 = .ok (.iconst 1, 1) := dz_4 (k_X8_looksAll 0 14 rfl)
theorem dX8_looksAll_15 : decode cX8_looksAll 15 = .ok (.isub, 1) := dz_100 (k_X8_looksAll 0 15 rfl)
theorem dX8_looksAll_16 : decode cX8_looksAll 16 = .ok (.istore_n 3, 1) := dz_62 (k_X8_looksAll 0 16 rfl)
theorem dX8_looksAll_17 : decode cX8_looksAll 17 = .ok (.iload_n 3, 1) := dz_29 (k_X8_looksAll 0 17 rfl)
theorem dX8_looksAll_18 : decode cX8_looksAll 18 = .ok (.ifCond .lt 31, 3) := dz_155 (k_X8_looksAll 0 18 rfl) (k_X8_looksAll 0 19 rfl) (k_X8_looksAll 0 20 rfl) rfl
theorem dX8_looksAll_21 : decode cX8_looksAll 21 = .ok (.iload_n 2, 1) := dz_28 (k_X8_looksAll 0 21 rfl)
theorem dX8_looksAll_22 : decode cX8_looksAll 22 = .ok (.iload_n 3, 1) := dz_29 (k_X8_looksAll 0 22 rfl)
theorem dX8_looksAll_23 : decode cX8_looksAll 23 = .ok (.ishr, 1) := dz_122 (k_X8_looksAll 0 23 rfl)
theorem dX8_looksAll_24 : decode cX8_looksAll 24 = .ok (.iconst 1, 1) := dz_4 (k_X8_looksAll 0 24 rfl)
theorem dX8_looksAll_25 : decode cX8_looksAll 25 = .ok (.iand, 1) := dz_126 (k_X8_looksAll 0 25 rfl)
theorem dX8_looksAll_26 : decode cX8_looksAll 26 = .ok (.iconst 1, 1) := dz_4 (k_X8_looksAll 0 26 rfl)
theorem dX8_looksAll_27 : decode cX8_looksAll 27 = .ok (.if_icmp .ne 16, 3) := dz_160 (k_X8_looksAll 0 27 rfl) (k_X8_looksAll 0 28 rfl) (k_X8_looksAll 0 29 rfl) rfl
theorem dX8_looksAll_30 : decode cX8_looksAll 30 = .ok (.aload_n 0, 1) := dz_42 (k_X8_looksAll 0 30 rfl)
theorem dX8_looksAll_31 : decode cX8_looksAll 31 = .ok (.iload_n 3, 1) := dz_29 (k_X8_looksAll 0 31 rfl)
theorem dX8_looksAll_32 : decode cX8_looksAll 32 = .ok (.iconst 0, 1) := dz_3 (k_X8_looksAll 0 32 rfl)
theorem dX8_looksAll_33 : decode cX8_looksAll 33 = .ok (.aload_n 0, 1) := dz_42 (k_X8_looksAll 0 33 rfl)
theorem dX8_looksAll_34 : decode cX8_looksAll 34 = .ok (.getfield 20, 3) := dz_180 (k_X8_looksAll 0 34 rfl) (k_X8_looksAll 0 35 rfl) (k_X8_looksAll 0 36 rfl) rfl
theorem dX8_looksAll_37 : decode cX8_looksAll 37 = .ok (.iload_n 3, 1) := dz_29 (k_X8_looksAll 0 37 rfl)
theorem dX8_looksAll_38 : decode cX8_looksAll 38 = .ok (.iaload, 1) := dz_46 (k_X8_looksAll 0 38 rfl)
theorem dX8_looksAll_39 : decode cX8_looksAll 39 = .ok (.iconst (-1), 1) := dz_2 (k_X8_looksAll 0 39 rfl)
theorem dX8_looksAll_40 : decode cX8_looksAll 40 = .ok (.invokevirtual 370, 3) := dz_182 (k_X8_looksAll 0 40 rfl) (k_X8_looksAll 0 41 rfl) (k_X8_looksAll 0 42 rfl) rfl
theorem dX8_looksAll_43 : decode cX8_looksAll 43 = .ok (.iinc 3 (-1), 3) := dz_132 (k_X8_looksAll 0 43 rfl) (k_X8_looksAll 0 44 rfl) (k_X8_looksAll 0 45 rfl) rfl
theorem dX8_looksAll_46 : decode cX8_looksAll 46 = .ok (.goto (-29), 3) := dz_167 (k_X8_looksAll 0 46 rfl) (k_X8_looksAll 0 47 rfl) (k_X8_looksAll 0 48 rfl) rfl
theorem dX8_looksAll_49 : decode cX8_looksAll 49 = .ok (.aload_n 0, 1) := dz_42 (k_X8_looksAll 0 49 rfl)
theorem dX8_looksAll_50 : decode cX8_looksAll 50 = .ok (.iload_n 1, 1) := dz_27 (k_X8_looksAll 0 50 rfl)
theorem dX8_looksAll_51 : decode cX8_looksAll 51 = .ok (.iconst 0, 1) := dz_3 (k_X8_looksAll 0 51 rfl)
theorem dX8_looksAll_52 : decode cX8_looksAll 52 = .ok (.aload_n 0, 1) := dz_42 (k_X8_looksAll 0 52 rfl)
theorem dX8_looksAll_53 : decode cX8_looksAll 53 = .ok (.getfield 20, 3) := dz_180 (k_X8_looksAll 0 53 rfl) (k_X8_looksAll 0 54 rfl) (k_X8_looksAll 0 55 rfl) rfl
theorem dX8_looksAll_56 : decode cX8_looksAll 56 = .ok (.iload_n 1, 1) := dz_27 (k_X8_looksAll 0 56 rfl)
theorem dX8_looksAll_57 : decode cX8_looksAll 57 = .ok (.iaload, 1) := dz_46 (k_X8_looksAll 0 57 rfl)
theorem dX8_looksAll_58 : decode cX8_looksAll 58 = .ok (.iconst (-1), 1) := dz_2 (k_X8_looksAll 0 58 rfl)
theorem dX8_looksAll_59 : decode cX8_looksAll 59 = .ok (.invokevirtual 370, 3) := dz_182 (k_X8_looksAll 0 59 rfl) (k_X8_looksAll 0 60 rfl) (k_X8_looksAll 0 61 rfl) rfl
theorem dX8_looksAll_62 : decode cX8_looksAll 62 = .ok (.aload_n 0, 1) := dz_42 (k_X8_looksAll 0 62 rfl)
theorem dX8_looksAll_63 : decode cX8_looksAll 63 = .ok (.getfield 357, 3) := dz_180 (k_X8_looksAll 0 63 rfl) (k_X8_looksAll 1 0 rfl) (k_X8_looksAll 1 1 rfl) rfl
theorem dX8_looksAll_66 : decode cX8_looksAll 66 = .ok (.ifCond .le 232, 3) := dz_158 (k_X8_looksAll 1 2 rfl) (k_X8_looksAll 1 3 rfl) (k_X8_looksAll 1 4 rfl) rfl
theorem dX8_looksAll_69 : decode cX8_looksAll 69 = .ok (.aload_n 0, 1) := dz_42 (k_X8_looksAll 1 5 rfl)
theorem dX8_looksAll_70 : decode cX8_looksAll 70 = .ok (.getfield 360, 3) := dz_180 (k_X8_looksAll 1 6 rfl) (k_X8_looksAll 1 7 rfl) (k_X8_looksAll 1 8 rfl) rfl
theorem dX8_looksAll_73 : decode cX8_looksAll 73 = .ok (.bipush 40, 2) := dz_16 (k_X8_looksAll 1 9 rfl) (k_X8_looksAll 1 10 rfl) rfl
theorem dX8_looksAll_75 : decode cX8_looksAll 75 = .ok (.if_icmp .ge 223, 3) := dz_162 (k_X8_looksAll 1 11 rfl) (k_X8_looksAll 1 12 rfl) (k_X8_looksAll 1 13 rfl) rfl
theorem dX8_looksAll_78 : decode cX8_looksAll 78 = .ok (.aload_n 0, 1) := dz_42 (k_X8_looksAll 1 14 rfl)
theorem dX8_looksAll_79 : decode cX8_looksAll 79 = .ok (.dup, 1) := dz_89 (k_X8_looksAll 1 15 rfl)
theorem dX8_looksAll_80 : decode cX8_looksAll 80 = .ok (.getfield 357, 3) := dz_180 (k_X8_looksAll 1 16 rfl) (k_X8_looksAll 1 17 rfl) (k_X8_looksAll 1 18 rfl) rfl
theorem dX8_looksAll_83 : decode cX8_looksAll 83 = .ok (.iconst 1, 1) := dz_4 (k_X8_looksAll 1 19 rfl)
theorem dX8_looksAll_84 : decode cX8_looksAll 84 = .ok (.isub, 1) := dz_100 (k_X8_looksAll 1 20 rfl)
theorem dX8_looksAll_85 : decode cX8_looksAll 85 = .ok (.putfield 357, 3) := dz_181 (k_X8_looksAll 1 21 rfl) (k_X8_looksAll 1 22 rfl) (k_X8_looksAll 1 23 rfl) rfl
theorem dX8_looksAll_88 : decode cX8_looksAll 88 = .ok (.iconst 4, 1) := dz_7 (k_X8_looksAll 1 24 rfl)
theorem dX8_looksAll_89 : decode cX8_looksAll 89 = .ok (.aload_n 0, 1) := dz_42 (k_X8_looksAll 1 25 rfl)
theorem dX8_looksAll_90 : decode cX8_looksAll 90 = .ok (.getfield 357, 3) := dz_180 (k_X8_looksAll 1 26 rfl) (k_X8_looksAll 1 27 rfl) (k_X8_looksAll 1 28 rfl) rfl
theorem dX8_looksAll_93 : decode cX8_looksAll 93 = .ok (.imul, 1) := dz_104 (k_X8_looksAll 1 29 rfl)
theorem dX8_looksAll_94 : decode cX8_looksAll 94 = .ok (.istore_n 3, 1) := dz_62 (k_X8_looksAll 1 30 rfl)
theorem dX8_looksAll_95 : decode cX8_looksAll 95 = .ok (.aload_n 0, 1) := dz_42 (k_X8_looksAll 1 31 rfl)
theorem dX8_looksAll_96 : decode cX8_looksAll 96 = .ok (.aload_n 0, 1) := dz_42 (k_X8_looksAll 1 32 rfl)
theorem dX8_looksAll_97 : decode cX8_looksAll 97 = .ok (.getfield 92, 3) := dz_180 (k_X8_looksAll 1 33 rfl) (k_X8_looksAll 1 34 rfl) (k_X8_looksAll 1 35 rfl) rfl
theorem dX8_looksAll_100 : decode cX8_looksAll 100 = .ok (.iload_n 3, 1) := dz_29 (k_X8_looksAll 1 36 rfl)
theorem dX8_looksAll_101 : decode cX8_looksAll 101 = .ok (.iaload, 1) := dz_46 (k_X8_looksAll 1 37 rfl)
theorem dX8_looksAll_102 : decode cX8_looksAll 102 = .ok (.aload_n 0, 1) := dz_42 (k_X8_looksAll 1 38 rfl)
theorem dX8_looksAll_103 : decode cX8_looksAll 103 = .ok (.getfield 92, 3) := dz_180 (k_X8_looksAll 1 39 rfl) (k_X8_looksAll 1 40 rfl) (k_X8_looksAll 1 41 rfl) rfl
theorem dX8_looksAll_106 : decode cX8_looksAll 106 = .ok (.iload_n 3, 1) := dz_29 (k_X8_looksAll 1 42 rfl)
theorem dX8_looksAll_107 : decode cX8_looksAll 107 = .ok (.iconst 1, 1) := dz_4 (k_X8_looksAll 1 43 rfl)
theorem dX8_looksAll_108 : decode cX8_looksAll 108 = .ok (.iadd, 1) := dz_96 (k_X8_looksAll 1 44 rfl)
theorem dX8_looksAll_109 : decode cX8_looksAll 109 = .ok (.iaload, 1) := dz_46 (k_X8_looksAll 1 45 rfl)
theorem dX8_looksAll_110 : decode cX8_looksAll 110 = .ok (.aload_n 0, 1) := dz_42 (k_X8_looksAll 1 46 rfl)
theorem dX8_looksAll_111 : decode cX8_looksAll 111 = .ok (.getfield 92, 3) := dz_180 (k_X8_looksAll 1 47 rfl) (k_X8_looksAll 1 48 rfl) (k_X8_looksAll 1 49 rfl) rfl
theorem dX8_looksAll_114 : decode cX8_looksAll 114 = .ok (.iload_n 3, 1) := dz_29 (k_X8_looksAll 1 50 rfl)
theorem dX8_looksAll_115 : decode cX8_looksAll 115 = .ok (.iconst 2, 1) := dz_5 (k_X8_looksAll 1 51 rfl)
theorem dX8_looksAll_116 : decode cX8_looksAll 116 = .ok (.iadd, 1) := dz_96 (k_X8_looksAll 1 52 rfl)
theorem dX8_looksAll_117 : decode cX8_looksAll 117 = .ok (.iaload, 1) := dz_46 (k_X8_looksAll 1 53 rfl)
theorem dX8_looksAll_118 : decode cX8_looksAll 118 = .ok (.aload_n 0, 1) := dz_42 (k_X8_looksAll 1 54 rfl)
theorem dX8_looksAll_119 : decode cX8_looksAll 119 = .ok (.getfield 92, 3) := dz_180 (k_X8_looksAll 1 55 rfl) (k_X8_looksAll 1 56 rfl) (k_X8_looksAll 1 57 rfl) rfl
theorem dX8_looksAll_122 : decode cX8_looksAll 122 = .ok (.iload_n 3, 1) := dz_29 (k_X8_looksAll 1 58 rfl)
theorem dX8_looksAll_123 : decode cX8_looksAll 123 = .ok (.iconst 3, 1) := dz_6 (k_X8_looksAll 1 59 rfl)
theorem dX8_looksAll_124 : decode cX8_looksAll 124 = .ok (.iadd, 1) := dz_96 (k_X8_looksAll 1 60 rfl)
theorem dX8_looksAll_125 : decode cX8_looksAll 125 = .ok (.iaload, 1) := dz_46 (k_X8_looksAll 1 61 rfl)
theorem dX8_looksAll_126 : decode cX8_looksAll 126 = .ok (.invokevirtual 374, 3) := dz_182 (k_X8_looksAll 1 62 rfl) (k_X8_looksAll 1 63 rfl) (k_X8_looksAll 2 0 rfl) rfl
theorem dX8_looksAll_129 : decode cX8_looksAll 129 = .ok (.ifCond .lt 6, 3) := dz_155 (k_X8_looksAll 2 1 rfl) (k_X8_looksAll 2 2 rfl) (k_X8_looksAll 2 3 rfl) rfl
theorem dX8_looksAll_132 : decode cX8_looksAll 132 = .ok (.goto (-70), 3) := dz_167 (k_X8_looksAll 2 4 rfl) (k_X8_looksAll 2 5 rfl) (k_X8_looksAll 2 6 rfl) rfl
theorem dX8_looksAll_135 : decode cX8_looksAll 135 = .ok (.bipush 30, 2) := dz_16 (k_X8_looksAll 2 7 rfl) (k_X8_looksAll 2 8 rfl) rfl
theorem dX8_looksAll_137 : decode cX8_looksAll 137 = .ok (.aload_n 0, 1) := dz_42 (k_X8_looksAll 2 9 rfl)
theorem dX8_looksAll_138 : decode cX8_looksAll 138 = .ok (.getfield 360, 3) := dz_180 (k_X8_looksAll 2 10 rfl) (k_X8_looksAll 2 11 rfl) (k_X8_looksAll 2 12 rfl) rfl
theorem dX8_looksAll_141 : decode cX8_looksAll 141 = .ok (.iadd, 1) := dz_96 (k_X8_looksAll 2 13 rfl)
theorem dX8_looksAll_142 : decode cX8_looksAll 142 = .ok (.istore 4, 2) := dz_54 (k_X8_looksAll 2 14 rfl) (k_X8_looksAll 2 15 rfl)
theorem dX8_looksAll_144 : decode cX8_looksAll 144 = .ok (.aload_n 0, 1) := dz_42 (k_X8_looksAll 2 16 rfl)
theorem dX8_looksAll_145 : decode cX8_looksAll 145 = .ok (.bipush 71, 2) := dz_16 (k_X8_looksAll 2 17 rfl) (k_X8_looksAll 2 18 rfl) rfl
theorem dX8_looksAll_147 : decode cX8_looksAll 147 = .ok (.iconst 0, 1) := dz_3 (k_X8_looksAll 2 19 rfl)
theorem dX8_looksAll_148 : decode cX8_looksAll 148 = .ok (.aload_n 0, 1) := dz_42 (k_X8_looksAll 2 20 rfl)
theorem dX8_looksAll_149 : decode cX8_looksAll 149 = .ok (.getfield 20, 3) := dz_180 (k_X8_looksAll 2 21 rfl) (k_X8_looksAll 2 22 rfl) (k_X8_looksAll 2 23 rfl) rfl
theorem dX8_looksAll_152 : decode cX8_looksAll 152 = .ok (.bipush 71, 2) := dz_16 (k_X8_looksAll 2 24 rfl) (k_X8_looksAll 2 25 rfl) rfl
theorem dX8_looksAll_154 : decode cX8_looksAll 154 = .ok (.iaload, 1) := dz_46 (k_X8_looksAll 2 26 rfl)
theorem dX8_looksAll_155 : decode cX8_looksAll 155 = .ok (.iconst (-1), 1) := dz_2 (k_X8_looksAll 2 27 rfl)
theorem dX8_looksAll_156 : decode cX8_looksAll 156 = .ok (.iload 4, 2) := dz_21 (k_X8_looksAll 2 28 rfl) (k_X8_looksAll 2 29 rfl)
theorem dX8_looksAll_158 : decode cX8_looksAll 158 = .ok (.invokevirtual 363, 3) := dz_182 (k_X8_looksAll 2 30 rfl) (k_X8_looksAll 2 31 rfl) (k_X8_looksAll 2 32 rfl) rfl
theorem dX8_looksAll_161 : decode cX8_looksAll 161 = .ok (.aload_n 0, 1) := dz_42 (k_X8_looksAll 2 33 rfl)
theorem dX8_looksAll_162 : decode cX8_looksAll 162 = .ok (.dup, 1) := dz_89 (k_X8_looksAll 2 34 rfl)
theorem dX8_looksAll_163 : decode cX8_looksAll 163 = .ok (.getfield 360, 3) := dz_180 (k_X8_looksAll 2 35 rfl) (k_X8_looksAll 2 36 rfl) (k_X8_looksAll 2 37 rfl) rfl
theorem dX8_looksAll_166 : decode cX8_looksAll 166 = .ok (.iconst 1, 1) := dz_4 (k_X8_looksAll 2 38 rfl)
theorem dX8_looksAll_167 : decode cX8_looksAll 167 = .ok (.iadd, 1) := dz_96 (k_X8_looksAll 2 39 rfl)
theorem dX8_looksAll_168 : decode cX8_looksAll 168 = .ok (.putfield 360, 3) := dz_181 (k_X8_looksAll 2 40 rfl) (k_X8_looksAll 2 41 rfl) (k_X8_looksAll 2 42 rfl) rfl
theorem dX8_looksAll_171 : decode cX8_looksAll 171 = .ok (.aload_n 0, 1) := dz_42 (k_X8_looksAll 2 43 rfl)
theorem dX8_looksAll_172 : decode cX8_looksAll 172 = .ok (.iload 4, 2) := dz_21 (k_X8_looksAll 2 44 rfl) (k_X8_looksAll 2 45 rfl)
theorem dX8_looksAll_174 : decode cX8_looksAll 174 = .ok (.iconst 0, 1) := dz_3 (k_X8_looksAll 2 46 rfl)
theorem dX8_looksAll_175 : decode cX8_looksAll 175 = .ok (.invokevirtual 114, 3) := dz_182 (k_X8_looksAll 2 47 rfl) (k_X8_looksAll 2 48 rfl) (k_X8_looksAll 2 49 rfl) rfl
theorem dX8_looksAll_178 : decode cX8_looksAll 178 = .ok (.istore 5, 2) := dz_54 (k_X8_looksAll 2 50 rfl) (k_X8_looksAll 2 51 rfl)
theorem dX8_looksAll_180 : decode cX8_looksAll 180 = .ok (.iload 5, 2) := dz_21 (k_X8_looksAll 2 52 rfl) (k_X8_looksAll 2 53 rfl)
theorem dX8_looksAll_182 : decode cX8_looksAll 182 = .ok (.invokestatic 118, 3) := dz_184 (k_X8_looksAll 2 54 rfl) (k_X8_looksAll 2 55 rfl) (k_X8_looksAll 2 56 rfl) rfl
theorem dX8_looksAll_185 : decode cX8_looksAll 185 = .ok (.ifCond .eq 42, 3) := dz_153 (k_X8_looksAll 2 57 rfl) (k_X8_looksAll 2 58 rfl) (k_X8_looksAll 2 59 rfl) rfl
theorem dX8_looksAll_188 : decode cX8_looksAll 188 = .ok (.aload_n 0, 1) := dz_42 (k_X8_looksAll 2 60 rfl)
theorem dX8_looksAll_189 : decode cX8_looksAll 189 = .ok (.iload 4, 2) := dz_21 (k_X8_looksAll 2 61 rfl) (k_X8_looksAll 2 62 rfl)
theorem dX8_looksAll_191 : decode cX8_looksAll 191 = .ok (.aload_n 0, 1) := dz_42 (k_X8_looksAll 2 63 rfl)
theorem dX8_looksAll_192 : decode cX8_looksAll 192 = .ok (.iload 4, 2) := dz_21 (k_X8_looksAll 3 0 rfl) (k_X8_looksAll 3 1 rfl)
theorem dX8_looksAll_194 : decode cX8_looksAll 194 = .ok (.iconst 1, 1) := dz_4 (k_X8_looksAll 3 2 rfl)
theorem dX8_looksAll_195 : decode cX8_looksAll 195 = .ok (.invokevirtual 132, 3) := dz_182 (k_X8_looksAll 3 3 rfl) (k_X8_looksAll 3 4 rfl) (k_X8_looksAll 3 5 rfl) rfl
theorem dX8_looksAll_198 : decode cX8_looksAll 198 = .ok (.aload_n 0, 1) := dz_42 (k_X8_looksAll 3 6 rfl)
theorem dX8_looksAll_199 : decode cX8_looksAll 199 = .ok (.getfield 20, 3) := dz_180 (k_X8_looksAll 3 7 rfl) (k_X8_looksAll 3 8 rfl) (k_X8_looksAll 3 9 rfl) rfl
theorem dX8_looksAll_202 : decode cX8_looksAll 202 = .ok (.iload 4, 2) := dz_21 (k_X8_looksAll 3 10 rfl) (k_X8_looksAll 3 11 rfl)
theorem dX8_looksAll_204 : decode cX8_looksAll 204 = .ok (.iaload, 1) := dz_46 (k_X8_looksAll 3 12 rfl)
theorem dX8_looksAll_205 : decode cX8_looksAll 205 = .ok (.iconst (-1), 1) := dz_2 (k_X8_looksAll 3 13 rfl)
theorem dX8_looksAll_206 : decode cX8_looksAll 206 = .ok (.invokevirtual 370, 3) := dz_182 (k_X8_looksAll 3 14 rfl) (k_X8_looksAll 3 15 rfl) (k_X8_looksAll 3 16 rfl) rfl
theorem dX8_looksAll_209 : decode cX8_looksAll 209 = .ok (.aload_n 0, 1) := dz_42 (k_X8_looksAll 3 17 rfl)
theorem dX8_looksAll_210 : decode cX8_looksAll 210 = .ok (.iload 4, 2) := dz_21 (k_X8_looksAll 3 18 rfl) (k_X8_looksAll 3 19 rfl)
theorem dX8_looksAll_212 : decode cX8_looksAll 212 = .ok (.iconst 1, 1) := dz_4 (k_X8_looksAll 3 20 rfl)
theorem dX8_looksAll_213 : decode cX8_looksAll 213 = .ok (.aload_n 0, 1) := dz_42 (k_X8_looksAll 3 21 rfl)
theorem dX8_looksAll_214 : decode cX8_looksAll 214 = .ok (.iload 4, 2) := dz_21 (k_X8_looksAll 3 22 rfl) (k_X8_looksAll 3 23 rfl)
theorem dX8_looksAll_216 : decode cX8_looksAll 216 = .ok (.iconst 1, 1) := dz_4 (k_X8_looksAll 3 24 rfl)
theorem dX8_looksAll_217 : decode cX8_looksAll 217 = .ok (.invokevirtual 132, 3) := dz_182 (k_X8_looksAll 3 25 rfl) (k_X8_looksAll 3 26 rfl) (k_X8_looksAll 3 27 rfl) rfl
theorem dX8_looksAll_220 : decode cX8_looksAll 220 = .ok (.iconst (-1), 1) := dz_2 (k_X8_looksAll 3 28 rfl)
theorem dX8_looksAll_221 : decode cX8_looksAll 221 = .ok (.invokevirtual 370, 3) := dz_182 (k_X8_looksAll 3 29 rfl) (k_X8_looksAll 3 30 rfl) (k_X8_looksAll 3 31 rfl) rfl
theorem dX8_looksAll_224 : decode cX8_looksAll 224 = .ok (.goto 71, 3) := dz_167 (k_X8_looksAll 3 32 rfl) (k_X8_looksAll 3 33 rfl) (k_X8_looksAll 3 34 rfl) rfl
theorem dX8_looksAll_227 : decode cX8_looksAll 227 = .ok (.iload 5, 2) := dz_21 (k_X8_looksAll 3 35 rfl) (k_X8_looksAll 3 36 rfl)
theorem dX8_looksAll_229 : decode cX8_looksAll 229 = .ok (.bipush 12, 2) := dz_16 (k_X8_looksAll 3 37 rfl) (k_X8_looksAll 3 38 rfl) rfl
theorem dX8_looksAll_231 : decode cX8_looksAll 231 = .ok (.if_icmp .ne 21, 3) := dz_160 (k_X8_looksAll 3 39 rfl) (k_X8_looksAll 3 40 rfl) (k_X8_looksAll 3 41 rfl) rfl
theorem dX8_looksAll_234 : decode cX8_looksAll 234 = .ok (.aload_n 0, 1) := dz_42 (k_X8_looksAll 3 42 rfl)
theorem dX8_looksAll_235 : decode cX8_looksAll 235 = .ok (.iload 4, 2) := dz_21 (k_X8_looksAll 3 43 rfl) (k_X8_looksAll 3 44 rfl)
theorem dX8_looksAll_237 : decode cX8_looksAll 237 = .ok (.iconst 1, 1) := dz_4 (k_X8_looksAll 3 45 rfl)
theorem dX8_looksAll_238 : decode cX8_looksAll 238 = .ok (.aload_n 0, 1) := dz_42 (k_X8_looksAll 3 46 rfl)
theorem dX8_looksAll_239 : decode cX8_looksAll 239 = .ok (.getfield 20, 3) := dz_180 (k_X8_looksAll 3 47 rfl) (k_X8_looksAll 3 48 rfl) (k_X8_looksAll 3 49 rfl) rfl
theorem dX8_looksAll_242 : decode cX8_looksAll 242 = .ok (.iload 4, 2) := dz_21 (k_X8_looksAll 3 50 rfl) (k_X8_looksAll 3 51 rfl)
theorem dX8_looksAll_244 : decode cX8_looksAll 244 = .ok (.iaload, 1) := dz_46 (k_X8_looksAll 3 52 rfl)
theorem dX8_looksAll_245 : decode cX8_looksAll 245 = .ok (.iconst (-1), 1) := dz_2 (k_X8_looksAll 3 53 rfl)
theorem dX8_looksAll_246 : decode cX8_looksAll 246 = .ok (.invokevirtual 370, 3) := dz_182 (k_X8_looksAll 3 54 rfl) (k_X8_looksAll 3 55 rfl) (k_X8_looksAll 3 56 rfl) rfl
theorem dX8_looksAll_249 : decode cX8_looksAll 249 = .ok (.goto 46, 3) := dz_167 (k_X8_looksAll 3 57 rfl) (k_X8_looksAll 3 58 rfl) (k_X8_looksAll 3 59 rfl) rfl
theorem dX8_looksAll_252 : decode cX8_looksAll 252 = .ok (.iload 5, 2) := dz_21 (k_X8_looksAll 3 60 rfl) (k_X8_looksAll 3 61 rfl)
theorem dX8_looksAll_254 : decode cX8_looksAll 254 = .ok (.invokestatic 122, 3) := dz_184 (k_X8_looksAll 3 62 rfl) (k_X8_looksAll 3 63 rfl) (k_X8_looksAll 4 0 rfl) rfl
theorem dX8_looksAll_257 : decode cX8_looksAll 257 = .ok (.ifCond .eq 38, 3) := dz_153 (k_X8_looksAll 4 1 rfl) (k_X8_looksAll 4 2 rfl) (k_X8_looksAll 4 3 rfl) rfl
theorem dX8_looksAll_260 : decode cX8_looksAll 260 = .ok (.aload_n 0, 1) := dz_42 (k_X8_looksAll 4 4 rfl)
theorem dX8_looksAll_261 : decode cX8_looksAll 261 = .ok (.invokevirtual 138, 3) := dz_182 (k_X8_looksAll 4 5 rfl) (k_X8_looksAll 4 6 rfl) (k_X8_looksAll 4 7 rfl) rfl
theorem dX8_looksAll_264 : decode cX8_looksAll 264 = .ok (.iconst 1, 1) := dz_4 (k_X8_looksAll 4 8 rfl)
theorem dX8_looksAll_265 : decode cX8_looksAll 265 = .ok (.isub, 1) := dz_100 (k_X8_looksAll 4 9 rfl)
theorem dX8_looksAll_266 : decode cX8_looksAll 266 = .ok (.istore 6, 2) := dz_54 (k_X8_looksAll 4 10 rfl) (k_X8_looksAll 4 11 rfl)
theorem dX8_looksAll_268 : decode cX8_looksAll 268 = .ok (.iload 6, 2) := dz_21 (k_X8_looksAll 4 12 rfl) (k_X8_looksAll 4 13 rfl)
theorem dX8_looksAll_270 : decode cX8_looksAll 270 = .ok (.ifCond .lt 25, 3) := dz_155 (k_X8_looksAll 4 14 rfl) (k_X8_looksAll 4 15 rfl) (k_X8_looksAll 4 16 rfl) rfl
theorem dX8_looksAll_273 : decode cX8_looksAll 273 = .ok (.aload_n 0, 1) := dz_42 (k_X8_looksAll 4 17 rfl)
theorem dX8_looksAll_274 : decode cX8_looksAll 274 = .ok (.iload 4, 2) := dz_21 (k_X8_looksAll 4 18 rfl) (k_X8_looksAll 4 19 rfl)
theorem dX8_looksAll_276 : decode cX8_looksAll 276 = .ok (.iconst 1, 1) := dz_4 (k_X8_looksAll 4 20 rfl)
theorem dX8_looksAll_277 : decode cX8_looksAll 277 = .ok (.aload_n 0, 1) := dz_42 (k_X8_looksAll 4 21 rfl)
theorem dX8_looksAll_278 : decode cX8_looksAll 278 = .ok (.getfield 20, 3) := dz_180 (k_X8_looksAll 4 22 rfl) (k_X8_looksAll 4 23 rfl) (k_X8_looksAll 4 24 rfl) rfl
theorem dX8_looksAll_281 : decode cX8_looksAll 281 = .ok (.iload 4, 2) := dz_21 (k_X8_looksAll 4 25 rfl) (k_X8_looksAll 4 26 rfl)
theorem dX8_looksAll_283 : decode cX8_looksAll 283 = .ok (.iaload, 1) := dz_46 (k_X8_looksAll 4 27 rfl)
theorem dX8_looksAll_284 : decode cX8_looksAll 284 = .ok (.iload 6, 2) := dz_21 (k_X8_looksAll 4 28 rfl) (k_X8_looksAll 4 29 rfl)
theorem dX8_looksAll_286 : decode cX8_looksAll 286 = .ok (.invokevirtual 370, 3) := dz_182 (k_X8_looksAll 4 30 rfl) (k_X8_looksAll 4 31 rfl) (k_X8_looksAll 4 32 rfl) rfl
theorem dX8_looksAll_289 : decode cX8_looksAll 289 = .ok (.iinc 6 (-1), 3) := dz_132 (k_X8_looksAll 4 33 rfl) (k_X8_looksAll 4 34 rfl) (k_X8_looksAll 4 35 rfl) rfl
theorem dX8_looksAll_292 : decode cX8_looksAll 292 = .ok (.goto (-24), 3) := dz_167 (k_X8_looksAll 4 36 rfl) (k_X8_looksAll 4 37 rfl) (k_X8_looksAll 4 38 rfl) rfl
theorem dX8_looksAll_295 : decode cX8_looksAll 295 = .ok (.goto (-233), 3) := dz_167 (k_X8_looksAll 4 39 rfl) (k_X8_looksAll 4 40 rfl) (k_X8_looksAll 4 41 rfl) rfl
theorem dX8_looksAll_298 : decode cX8_looksAll 298 = .ok (.return_, 1) := dz_177 (k_X8_looksAll 4 42 rfl)
def B_X8_more : List (List Nat) := [[42, 3, 181, 0, 3, 42, 27, 184, 0, 249, 154, 0, 11, 42, 28, 182, 0, 231, 153, 0, 7, 4, 167, 0, 4, 3, 4, 182, 0, 224, 153, 0, 5, 3, 172, 42, 182, 1, 86, 3, 62, 29, 16, 32, 162, 0, 20, 42, 180, 0, 53, 17, 3, 192, 29, 96, 3, 79, 132, 3, 1, 167, 255, 236], [3, 62, 29, 42, 182, 0, 237, 162, 0, 48, 42, 180, 0, 53, 17, 3, 192, 29, 16, 32, 108, 96, 92, 46, 42, 42, 27, 182, 0, 252, 29, 182, 1, 66, 153, 0, 12, 4, 29, 16, 32, 112, 120, 167, 0, 4, 3, 128, 79, 132, 3, 1, 167, 255, 206, 3, 62, 29, 6, 163, 0, 25, 42, 29], [28, 182, 1, 89, 54, 4, 21, 4, 155, 0, 6, 21, 4, 172, 132, 3, 1, 167, 255, 232, 2, 172]]
theorem k_X8_more (j i : Nat) {b : Nat} (h : (B_X8_more[j]?.bind fun c => c[i]?) = some b) : s_by cX8_more (64 * j + i) b := s_byC (L := B_X8_more) (by decide +kernel) (by decide +kernel) j i h
theorem dX8_more_0 : decode cX8_more 0 = .ok (.aload_n 0, 1) := dz_42 (k_X8_more 0 0 rfl)
theorem dX8_more_1 : decode cX8_more 1 = .ok (.iconst 0, 1) := dz_3 (k_X8_more 0 1 rfl)
theorem dX8_more_2 : decode cX8_more 2 = .ok (.putfield 3, 3) := dz_181 (k_X8_more 0 2 rfl) (k_X8_more 0 3 rfl) (k_X8_more 0 4 rfl) rfl
theorem dX8_more_5 : decode cX8_more 5 = .ok (.aload_n 0, 1) := dz_42 (k_X8_more 0 5 rfl)
theorem dX8_more_6 : decode cX8_more 6 = .ok (.iload_n 1, 1) := dz_27 (k_X8_more 0 6 rfl)
theorem dX8_more_7 : decode cX8_more 7 = .ok (.invokestatic 249, 3) := dz_184 (k_X8_more 0 7 rfl) (k_X8_more 0 8 rfl) (k_X8_more 0 9 rfl) rfl
theorem dX8_more_10 : decode cX8_more 10 = .ok (.ifCond .ne 11, 3) := dz_154 (k_X8_more 0 10 rfl) (k_X8_more 0 11 rfl) (k_X8_more 0 12 rfl) rfl
theorem dX8_more_13 : decode cX8_more 13 = .ok (.aload_n 0, 1) := dz_42 (k_X8_more 0 13 rfl)
theorem dX8_more_14 : decode cX8_more 14 = .ok (.iload_n 2, 1) := dz_28 (k_X8_more 0 14 rfl)
theorem dX8_more_15 : decode cX8_more 15 = .ok (.invokevirtual 231, 3) := dz_182 (k_X8_more 0 15 rfl) (k_X8_more 0 16 rfl) (k_X8_more 0 17 rfl) rfl
theorem dX8_more_18 : decode cX8_more 18 = .ok (.ifCond .eq 7, 3) := dz_153 (k_X8_more 0 18 rfl) (k_X8_more 0 19 rfl) (k_X8_more 0 20 rfl) rfl
theorem dX8_more_21 : decode cX8_more 21 = .ok (.iconst 1, 1) := dz_4 (k_X8_more 0 21 rfl)
theorem dX8_more_22 : decode cX8_more 22 = .ok (.goto 4, 3) := dz_167 (k_X8_more 0 22 rfl) (k_X8_more 0 23 rfl) (k_X8_more 0 24 rfl) rfl
theorem dX8_more_25 : decode cX8_more 25 = .ok (.iconst 0, 1) := dz_3 (k_X8_more 0 25 rfl)
theorem dX8_more_26 : decode cX8_more 26 = .ok (.iconst 1, 1) := dz_4 (k_X8_more 0 26 rfl)
theorem dX8_more_27 : decode cX8_more 27 = .ok (.invokevirtual 224, 3) := dz_182 (k_X8_more 0 27 rfl) (k_X8_more 0 28 rfl) (k_X8_more 0 29 rfl) rfl
theorem dX8_more_30 : decode cX8_more 30 = .ok (.ifCond .eq 5, 3) := dz_153 (k_X8_more 0 30 rfl) (k_X8_more 0 31 rfl) (k_X8_more 0 32 rfl) rfl
theorem dX8_more_33 : decode cX8_more 33 = .ok (.iconst 0, 1) := dz_3 (k_X8_more 0 33 rfl)
theorem dX8_more_34 : decode cX8_more 34 = .ok (.ireturn, 1) := dz_172 (k_X8_more 0 34 rfl)
theorem dX8_more_35 : decode cX8_more 35 = .ok (.aload_n 0, 1) := dz_42 (k_X8_more 0 35 rfl)
theorem dX8_more_36 : decode cX8_more 36 = .ok (.invokevirtual 342, 3) := dz_182 (k_X8_more 0 36 rfl) (k_X8_more 0 37 rfl) (k_X8_more 0 38 rfl) rfl
theorem dX8_more_39 : decode cX8_more 39 = .ok (.iconst 0, 1) := dz_3 (k_X8_more 0 39 rfl)
theorem dX8_more_40 : decode cX8_more 40 = .ok (.istore_n 3, 1) := dz_62 (k_X8_more 0 40 rfl)
theorem dX8_more_41 : decode cX8_more 41 = .ok (.iload_n 3, 1) := dz_29 (k_X8_more 0 41 rfl)
theorem dX8_more_42 : decode cX8_more 42 = .ok (.bipush 32, 2) := dz_16 (k_X8_more 0 42 rfl) (k_X8_more 0 43 rfl) rfl
theorem dX8_more_44 : decode cX8_more 44 = .ok (.if_icmp .ge 20, 3) := dz_162 (k_X8_more 0 44 rfl) (k_X8_more 0 45 rfl) (k_X8_more 0 46 rfl) rfl
theorem dX8_more_47 : decode cX8_more 47 = .ok (.aload_n 0, 1) := dz_42 (k_X8_more 0 47 rfl)
theorem dX8_more_48 : decode cX8_more 48 = .ok (.getfield 53, 3) := dz_180 (k_X8_more 0 48 rfl) (k_X8_more 0 49 rfl) (k_X8_more 0 50 rfl) rfl
theorem dX8_more_51 : decode cX8_more 51 = .ok (.sipush 960, 3) := dz_17 (k_X8_more 0 51 rfl) (k_X8_more 0 52 rfl) (k_X8_more 0 53 rfl) rfl
theorem dX8_more_54 : decode cX8_more 54 = .ok (.iload_n 3, 1) := dz_29 (k_X8_more 0 54 rfl)
theorem dX8_more_55 : decode cX8_more 55 = .ok (.iadd, 1) := dz_96 (k_X8_more 0 55 rfl)
theorem dX8_more_56 : decode cX8_more 56 = .ok (.iconst 0, 1) := dz_3 (k_X8_more 0 56 rfl)
theorem dX8_more_57 : decode cX8_more 57 = .ok (.iastore, 1) := dz_79 (k_X8_more 0 57 rfl)
theorem dX8_more_58 : decode cX8_more 58 = .ok (.iinc 3 1, 3) := dz_132 (k_X8_more 0 58 rfl) (k_X8_more 0 59 rfl) (k_X8_more 0 60 rfl) rfl
theorem dX8_more_61 : decode cX8_more 61 = .ok (.goto (-20), 3) := dz_167 (k_X8_more 0 61 rfl) (k_X8_more 0 62 rfl) (k_X8_more 0 63 rfl) rfl
theorem dX8_more_64 : decode cX8_more 64 = .ok (.iconst 0, 1) := dz_3 (k_X8_more 1 0 rfl)
theorem dX8_more_65 : decode cX8_more 65 = .ok (.istore_n 3, 1) := dz_62 (k_X8_more 1 1 rfl)
theorem dX8_more_66 : decode cX8_more 66 = .ok (.iload_n 3, 1) := dz_29 (k_X8_more 1 2 rfl)
theorem dX8_more_67 : decode cX8_more 67 = .ok (.aload_n 0, 1) := dz_42 (k_X8_more 1 3 rfl)
theorem dX8_more_68 : decode cX8_more 68 = .ok (.invokevirtual 237, 3) := dz_182 (k_X8_more 1 4 rfl) (k_X8_more 1 5 rfl) (k_X8_more 1 6 rfl) rfl
theorem dX8_more_71 : decode cX8_more 71 = .ok (.if_icmp .ge 48, 3) := dz_162 (k_X8_more 1 7 rfl) (k_X8_more 1 8 rfl) (k_X8_more 1 9 rfl) rfl
theorem dX8_more_74 : decode cX8_more 74 = .ok (.aload_n 0, 1) := dz_42 (k_X8_more 1 10 rfl)
theorem dX8_more_75 : decode cX8_more 75 = .ok (.getfield 53, 3) := dz_180 (k_X8_more 1 11 rfl) (k_X8_more 1 12 rfl) (k_X8_more 1 13 rfl) rfl
theorem dX8_more_78 : decode cX8_more 78 = .ok (.sipush 960, 3) := dz_17 (k_X8_more 1 14 rfl) (k_X8_more 1 15 rfl) (k_X8_more 1 16 rfl) rfl
theorem dX8_more_81 : decode cX8_more 81 = .ok (.iload_n 3, 1) := dz_29 (k_X8_more 1 17 rfl)
theorem dX8_more_82 : decode cX8_more 82 = .ok (.bipush 32, 2) := dz_16 (k_X8_more 1 18 rfl) (k_X8_more 1 19 rfl) rfl
theorem dX8_more_84 : decode cX8_more 84 = .ok (.idiv, 1) := dz_108 (k_X8_more 1 20 rfl)
theorem dX8_more_85 : decode cX8_more 85 = .ok (.iadd, 1) := dz_96 (k_X8_more 1 21 rfl)
theorem dX8_more_86 : decode cX8_more 86 = .ok (.dup2, 1) := dz_92 (k_X8_more 1 22 rfl)
theorem dX8_more_87 : decode cX8_more 87 = .ok (.iaload, 1) := dz_46 (k_X8_more 1 23 rfl)
theorem dX8_more_88 : decode cX8_more 88 = .ok (.aload_n 0, 1) := dz_42 (k_X8_more 1 24 rfl)
theorem dX8_more_89 : decode cX8_more 89 = .ok (.aload_n 0, 1) := dz_42 (k_X8_more 1 25 rfl)
theorem dX8_more_90 : decode cX8_more 90 = .ok (.iload_n 1, 1) := dz_27 (k_X8_more 1 26 rfl)
theorem dX8_more_91 : decode cX8_more 91 = .ok (.invokevirtual 252, 3) := dz_182 (k_X8_more 1 27 rfl) (k_X8_more 1 28 rfl) (k_X8_more 1 29 rfl) rfl
theorem dX8_more_94 : decode cX8_more 94 = .ok (.iload_n 3, 1) := dz_29 (k_X8_more 1 30 rfl)
theorem dX8_more_95 : decode cX8_more 95 = .ok (.invokevirtual 322, 3) := dz_182 (k_X8_more 1 31 rfl) (k_X8_more 1 32 rfl) (k_X8_more 1 33 rfl) rfl
theorem dX8_more_98 : decode cX8_more 98 = .ok (.ifCond .eq 12, 3) := dz_153 (k_X8_more 1 34 rfl) (k_X8_more 1 35 rfl) (k_X8_more 1 36 rfl) rfl
theorem dX8_more_101 : decode cX8_more 101 = .ok (.iconst 1, 1) := dz_4 (k_X8_more 1 37 rfl)
theorem dX8_more_102 : decode cX8_more 102 = .ok (.iload_n 3, 1) := dz_29 (k_X8_more 1 38 rfl)
theorem dX8_more_103 : decode cX8_more 103 = .ok (.bipush 32, 2) := dz_16 (k_X8_more 1 39 rfl) (k_X8_more 1 40 rfl) rfl
theorem dX8_more_105 : decode cX8_more 105 = .ok (.irem, 1) := dz_112 (k_X8_more 1 41 rfl)
theorem dX8_more_106 : decode cX8_more 106 = .ok (.ishl, 1) := dz_120 (k_X8_more 1 42 rfl)
theorem dX8_more_107 : decode cX8_more 107 = .ok (.goto 4, 3) := dz_167 (k_X8_more 1 43 rfl) (k_X8_more 1 44 rfl) (k_X8_more 1 45 rfl) rfl
theorem dX8_more_110 : decode cX8_more 110 = .ok (.iconst 0, 1) := dz_3 (k_X8_more 1 46 rfl)
theorem dX8_more_111 : decode cX8_more 111 = .ok (.ior, 1) := dz_128 (k_X8_more 1 47 rfl)
theorem dX8_more_112 : decode cX8_more 112 = .ok (.iastore, 1) := dz_79 (k_X8_more 1 48 rfl)
theorem dX8_more_113 : decode cX8_more 113 = .ok (.iinc 3 1, 3) := dz_132 (k_X8_more 1 49 rfl) (k_X8_more 1 50 rfl) (k_X8_more 1 51 rfl) rfl
theorem dX8_more_116 : decode cX8_more 116 = .ok (.goto (-50), 3) := dz_167 (k_X8_more 1 52 rfl) (k_X8_more 1 53 rfl) (k_X8_more 1 54 rfl) rfl
theorem dX8_more_119 : decode cX8_more 119 = .ok (.iconst 0, 1) := dz_3 (k_X8_more 1 55 rfl)
theorem dX8_more_120 : decode cX8_more 120 = .ok (.istore_n 3, 1) := dz_62 (k_X8_more 1 56 rfl)
theorem dX8_more_121 : decode cX8_more 121 = .ok (.iload_n 3, 1) := dz_29 (k_X8_more 1 57 rfl)
theorem dX8_more_122 : decode cX8_more 122 = .ok (.iconst 3, 1) := dz_6 (k_X8_more 1 58 rfl)
theorem dX8_more_123 : decode cX8_more 123 = .ok (.if_icmp .gt 25, 3) := dz_163 (k_X8_more 1 59 rfl) (k_X8_more 1 60 rfl) (k_X8_more 1 61 rfl) rfl
theorem dX8_more_126 : decode cX8_more 126 = .ok (.aload_n 0, 1) := dz_42 (k_X8_more 1 62 rfl)
theorem dX8_more_127 : decode cX8_more 127 = .ok (.iload_n 3, 1) := dz_29 (k_X8_more 1 63 rfl)
theorem dX8_more_128 : decode cX8_more 128 = .ok (.iload_n 2, 1) := dz_28 (k_X8_more 2 0 rfl)
theorem dX8_more_129 : decode cX8_more 129 = .ok (.invokevirtual 345, 3) := dz_182 (k_X8_more 2 1 rfl) (k_X8_more 2 2 rfl) (k_X8_more 2 3 rfl) rfl
theorem dX8_more_132 : decode cX8_more 132 = .ok (.istore 4, 2) := dz_54 (k_X8_more 2 4 rfl) (k_X8_more 2 5 rfl)
theorem dX8_more_134 : decode cX8_more 134 = .ok (.iload 4, 2) := dz_21 (k_X8_more 2 6 rfl) (k_X8_more 2 7 rfl)
theorem dX8_more_136 : decode cX8_more 136 = .ok (.ifCond .lt 6, 3) := dz_155 (k_X8_more 2 8 rfl) (k_X8_more 2 9 rfl) (k_X8_more 2 10 rfl) rfl
theorem dX8_more_139 : decode cX8_more 139 = .ok (.iload 4, 2) := dz_21 (k_X8_more 2 11 rfl) (k_X8_more 2 12 rfl)
theorem dX8_more_141 : decode cX8_more 141 = .ok (.ireturn, 1) := dz_172 (k_X8_more 2 13 rfl)
theorem dX8_more_142 : decode cX8_more 142 = .ok (.iinc 3 1, 3) := dz_132 (k_X8_more 2 14 rfl) (k_X8_more 2 15 rfl) (k_X8_more 2 16 rfl) rfl
theorem dX8_more_145 : decode cX8_more 145 = .ok (.goto (-24), 3) := dz_167 (k_X8_more 2 17 rfl) (k_X8_more 2 18 rfl) (k_X8_more 2 19 rfl) rfl
theorem dX8_more_148 : decode cX8_more 148 = .ok (.iconst (-1), 1) := dz_2 (k_X8_more 2 20 rfl)
theorem dX8_more_149 : decode cX8_more 149 = .ok (.ireturn, 1) := dz_172 (k_X8_more 2 21 rfl)
def B_X8_narrows : List (List Nat) := [[3, 62, 29, 16, 32, 162, 0, 51, 42, 180, 0, 53, 16, 32, 16, 30, 27, 96, 4, 96, 104, 29, 96, 42, 180, 0, 53, 16, 32, 16, 30, 27, 96, 104, 29, 96, 46, 42, 180, 0, 53, 16, 32, 28, 104, 29, 96, 46, 126, 79, 132, 3, 1, 167, 255, 205, 177]]
theorem k_X8_narrows (j i : Nat) {b : Nat} (h : (B_X8_narrows[j]?.bind fun c => c[i]?) = some b) : s_by cX8_narrows (64 * j + i) b := s_byC (L := B_X8_narrows) (by decide +kernel) (by decide +kernel) j i h
theorem dX8_narrows_0 : decode cX8_narrows 0 = .ok (.iconst 0, 1) := dz_3 (k_X8_narrows 0 0 rfl)
theorem dX8_narrows_1 : decode cX8_narrows 1 = .ok (.istore_n 3, 1) := dz_62 (k_X8_narrows 0 1 rfl)
theorem dX8_narrows_2 : decode cX8_narrows 2 = .ok (.iload_n 3, 1) := dz_29 (k_X8_narrows 0 2 rfl)
theorem dX8_narrows_3 : decode cX8_narrows 3 = .ok (.bipush 32, 2) := dz_16 (k_X8_narrows 0 3 rfl) (k_X8_narrows 0 4 rfl) rfl
theorem dX8_narrows_5 : decode cX8_narrows 5 = .ok (.if_icmp .ge 51, 3) := dz_162 (k_X8_narrows 0 5 rfl) (k_X8_narrows 0 6 rfl) (k_X8_narrows 0 7 rfl) rfl
theorem dX8_narrows_8 : decode cX8_narrows 8 = .ok (.aload_n 0, 1) := dz_42 (k_X8_narrows 0 8 rfl)
theorem dX8_narrows_9 : decode cX8_narrows 9 = .ok (.getfield 53, 3) := dz_180 (k_X8_narrows 0 9 rfl) (k_X8_narrows 0 10 rfl) (k_X8_narrows 0 11 rfl) rfl
theorem dX8_narrows_12 : decode cX8_narrows 12 = .ok (.bipush 32, 2) := dz_16 (k_X8_narrows 0 12 rfl) (k_X8_narrows 0 13 rfl) rfl
theorem dX8_narrows_14 : decode cX8_narrows 14 = .ok (.bipush 30, 2) := dz_16 (k_X8_narrows 0 14 rfl) (k_X8_narrows 0 15 rfl) rfl
theorem dX8_narrows_16 : decode cX8_narrows 16 = .ok (.iload_n 1, 1) := dz_27 (k_X8_narrows 0 16 rfl)
theorem dX8_narrows_17 : decode cX8_narrows 17 = .ok (.iadd, 1) := dz_96 (k_X8_narrows 0 17 rfl)
theorem dX8_narrows_18 : decode cX8_narrows 18 = .ok (.iconst 1, 1) := dz_4 (k_X8_narrows 0 18 rfl)
theorem dX8_narrows_19 : decode cX8_narrows 19 = .ok (.iadd, 1) := dz_96 (k_X8_narrows 0 19 rfl)
theorem dX8_narrows_20 : decode cX8_narrows 20 = .ok (.imul, 1) := dz_104 (k_X8_narrows 0 20 rfl)
theorem dX8_narrows_21 : decode cX8_narrows 21 = .ok (.iload_n 3, 1) := dz_29 (k_X8_narrows 0 21 rfl)
theorem dX8_narrows_22 : decode cX8_narrows 22 = .ok (.iadd, 1) := dz_96 (k_X8_narrows 0 22 rfl)
theorem dX8_narrows_23 : decode cX8_narrows 23 = .ok (.aload_n 0, 1) := dz_42 (k_X8_narrows 0 23 rfl)
theorem dX8_narrows_24 : decode cX8_narrows 24 = .ok (.getfield 53, 3) := dz_180 (k_X8_narrows 0 24 rfl) (k_X8_narrows 0 25 rfl) (k_X8_narrows 0 26 rfl) rfl
theorem dX8_narrows_27 : decode cX8_narrows 27 = .ok (.bipush 32, 2) := dz_16 (k_X8_narrows 0 27 rfl) (k_X8_narrows 0 28 rfl) rfl
theorem dX8_narrows_29 : decode cX8_narrows 29 = .ok (.bipush 30, 2) := dz_16 (k_X8_narrows 0 29 rfl) (k_X8_narrows 0 30 rfl) rfl
theorem dX8_narrows_31 : decode cX8_narrows 31 = .ok (.iload_n 1, 1) := dz_27 (k_X8_narrows 0 31 rfl)
theorem dX8_narrows_32 : decode cX8_narrows 32 = .ok (.iadd, 1) := dz_96 (k_X8_narrows 0 32 rfl)
theorem dX8_narrows_33 : decode cX8_narrows 33 = .ok (.imul, 1) := dz_104 (k_X8_narrows 0 33 rfl)
theorem dX8_narrows_34 : decode cX8_narrows 34 = .ok (.iload_n 3, 1) := dz_29 (k_X8_narrows 0 34 rfl)
theorem dX8_narrows_35 : decode cX8_narrows 35 = .ok (.iadd, 1) := dz_96 (k_X8_narrows 0 35 rfl)
theorem dX8_narrows_36 : decode cX8_narrows 36 = .ok (.iaload, 1) := dz_46 (k_X8_narrows 0 36 rfl)
theorem dX8_narrows_37 : decode cX8_narrows 37 = .ok (.aload_n 0, 1) := dz_42 (k_X8_narrows 0 37 rfl)
theorem dX8_narrows_38 : decode cX8_narrows 38 = .ok (.getfield 53, 3) := dz_180 (k_X8_narrows 0 38 rfl) (k_X8_narrows 0 39 rfl) (k_X8_narrows 0 40 rfl) rfl
theorem dX8_narrows_41 : decode cX8_narrows 41 = .ok (.bipush 32, 2) := dz_16 (k_X8_narrows 0 41 rfl) (k_X8_narrows 0 42 rfl) rfl
theorem dX8_narrows_43 : decode cX8_narrows 43 = .ok (.iload_n 2, 1) := dz_28 (k_X8_narrows 0 43 rfl)
theorem dX8_narrows_44 : decode cX8_narrows 44 = .ok (.imul, 1) := dz_104 (k_X8_narrows 0 44 rfl)
theorem dX8_narrows_45 : decode cX8_narrows 45 = .ok (.iload_n 3, 1) := dz_29 (k_X8_narrows 0 45 rfl)
theorem dX8_narrows_46 : decode cX8_narrows 46 = .ok (.iadd, 1) := dz_96 (k_X8_narrows 0 46 rfl)
theorem dX8_narrows_47 : decode cX8_narrows 47 = .ok (.iaload, 1) := dz_46 (k_X8_narrows 0 47 rfl)
theorem dX8_narrows_48 : decode cX8_narrows 48 = .ok (.iand, 1) := dz_126 (k_X8_narrows 0 48 rfl)
theorem dX8_narrows_49 : decode cX8_narrows 49 = .ok (.iastore, 1) := dz_79 (k_X8_narrows 0 49 rfl)
theorem dX8_narrows_50 : decode cX8_narrows 50 = .ok (.iinc 3 1, 3) := dz_132 (k_X8_narrows 0 50 rfl) (k_X8_narrows 0 51 rfl) (k_X8_narrows 0 52 rfl) rfl
theorem dX8_narrows_53 : decode cX8_narrows 53 = .ok (.goto (-51), 3) := dz_167 (k_X8_narrows 0 53 rfl) (k_X8_narrows 0 54 rfl) (k_X8_narrows 0 55 rfl) rfl
theorem dX8_narrows_56 : decode cX8_narrows 56 = .ok (.return_, 1) := dz_177 (k_X8_narrows 0 56 rfl)
def B_X8_needs : List (List Nat) := [[42, 3, 181, 0, 3, 42, 42, 27, 182, 1, 7, 4, 182, 0, 224, 153, 0, 5, 9, 173, 42, 182, 1, 57, 42, 180, 0, 47, 27, 47, 173]]
theorem k_X8_needs (j i : Nat) {b : Nat} (h : (B_X8_needs[j]?.bind fun c => c[i]?) = some b) : s_by cX8_needs (64 * j + i) b := s_byC (L := B_X8_needs) (by decide +kernel) (by decide +kernel) j i h
theorem dX8_needs_0 : decode cX8_needs 0 = .ok (.aload_n 0, 1) := dz_42 (k_X8_needs 0 0 rfl)
theorem dX8_needs_1 : decode cX8_needs 1 = .ok (.iconst 0, 1) := dz_3 (k_X8_needs 0 1 rfl)
theorem dX8_needs_2 : decode cX8_needs 2 = .ok (.putfield 3, 3) := dz_181 (k_X8_needs 0 2 rfl) (k_X8_needs 0 3 rfl) (k_X8_needs 0 4 rfl) rfl
theorem dX8_needs_5 : decode cX8_needs 5 = .ok (.aload_n 0, 1) := dz_42 (k_X8_needs 0 5 rfl)
theorem dX8_needs_6 : decode cX8_needs 6 = .ok (.aload_n 0, 1) := dz_42 (k_X8_needs 0 6 rfl)
theorem dX8_needs_7 : decode cX8_needs 7 = .ok (.iload_n 1, 1) := dz_27 (k_X8_needs 0 7 rfl)
theorem dX8_needs_8 : decode cX8_needs 8 = .ok (.invokevirtual 263, 3) := dz_182 (k_X8_needs 0 8 rfl) (k_X8_needs 0 9 rfl) (k_X8_needs 0 10 rfl) rfl
theorem dX8_needs_11 : decode cX8_needs 11 = .ok (.iconst 1, 1) := dz_4 (k_X8_needs 0 11 rfl)
theorem dX8_needs_12 : decode cX8_needs 12 = .ok (.invokevirtual 224, 3) := dz_182 (k_X8_needs 0 12 rfl) (k_X8_needs 0 13 rfl) (k_X8_needs 0 14 rfl) rfl
theorem dX8_needs_15 : decode cX8_needs 15 = .ok (.ifCond .eq 5, 3) := dz_153 (k_X8_needs 0 15 rfl) (k_X8_needs 0 16 rfl) (k_X8_needs 0 17 rfl) rfl
theorem dX8_needs_18 : decode cX8_needs 18 = .ok (.lconst 0, 1) := dz_9 (k_X8_needs 0 18 rfl)
theorem dX8_needs_19 : decode cX8_needs 19 = .ok (.lreturn, 1) := dz_173 (k_X8_needs 0 19 rfl)
theorem dX8_needs_20 : decode cX8_needs 20 = .ok (.aload_n 0, 1) := dz_42 (k_X8_needs 0 20 rfl)
theorem dX8_needs_21 : decode cX8_needs 21 = .ok (.invokevirtual 313, 3) := dz_182 (k_X8_needs 0 21 rfl) (k_X8_needs 0 22 rfl) (k_X8_needs 0 23 rfl) rfl
theorem dX8_needs_24 : decode cX8_needs 24 = .ok (.aload_n 0, 1) := dz_42 (k_X8_needs 0 24 rfl)
theorem dX8_needs_25 : decode cX8_needs 25 = .ok (.getfield 47, 3) := dz_180 (k_X8_needs 0 25 rfl) (k_X8_needs 0 26 rfl) (k_X8_needs 0 27 rfl) rfl
theorem dX8_needs_28 : decode cX8_needs 28 = .ok (.iload_n 1, 1) := dz_27 (k_X8_needs 0 28 rfl)
theorem dX8_needs_29 : decode cX8_needs 29 = .ok (.laload, 1) := dz_47 (k_X8_needs 0 29 rfl)
theorem dX8_needs_30 : decode cX8_needs 30 = .ok (.lreturn, 1) := dz_173 (k_X8_needs 0 30 rfl)
def B_X8_noCustomer : List (List Nat) := [[26, 3, 6, 184, 0, 107, 154, 0, 7, 4, 167, 0, 4, 3, 172]]
theorem k_X8_noCustomer (j i : Nat) {b : Nat} (h : (B_X8_noCustomer[j]?.bind fun c => c[i]?) = some b) : s_by cX8_noCustomer (64 * j + i) b := s_byC (L := B_X8_noCustomer) (by decide +kernel) (by decide +kernel) j i h
theorem dX8_noCustomer_0 : decode cX8_noCustomer 0 = .ok (.iload_n 0, 1) := dz_26 (k_X8_noCustomer 0 0 rfl)
theorem dX8_noCustomer_1 : decode cX8_noCustomer 1 = .ok (.iconst 0, 1) := dz_3 (k_X8_noCustomer 0 1 rfl)
theorem dX8_noCustomer_2 : decode cX8_noCustomer 2 = .ok (.iconst 3, 1) := dz_6 (k_X8_noCustomer 0 2 rfl)
theorem dX8_noCustomer_3 : decode cX8_noCustomer 3 = .ok (.invokestatic 107, 3) := dz_184 (k_X8_noCustomer 0 3 rfl) (k_X8_noCustomer 0 4 rfl) (k_X8_noCustomer 0 5 rfl) rfl
theorem dX8_noCustomer_6 : decode cX8_noCustomer 6 = .ok (.ifCond .ne 7, 3) := dz_154 (k_X8_noCustomer 0 6 rfl) (k_X8_noCustomer 0 7 rfl) (k_X8_noCustomer 0 8 rfl) rfl
theorem dX8_noCustomer_9 : decode cX8_noCustomer 9 = .ok (.iconst 1, 1) := dz_4 (k_X8_noCustomer 0 9 rfl)
theorem dX8_noCustomer_10 : decode cX8_noCustomer 10 = .ok (.goto 4, 3) := dz_167 (k_X8_noCustomer 0 10 rfl) (k_X8_noCustomer 0 11 rfl) (k_X8_noCustomer 0 12 rfl) rfl
theorem dX8_noCustomer_13 : decode cX8_noCustomer 13 = .ok (.iconst 0, 1) := dz_3 (k_X8_noCustomer 0 13 rfl)
theorem dX8_noCustomer_14 : decode cX8_noCustomer 14 = .ok (.ireturn, 1) := dz_172 (k_X8_noCustomer 0 14 rfl)
def B_X8_noFormula : List (List Nat) := [[27, 3, 42, 182, 0, 103, 4, 100, 184, 0, 107, 154, 0, 7, 4, 167, 0, 4, 3, 172]]
theorem k_X8_noFormula (j i : Nat) {b : Nat} (h : (B_X8_noFormula[j]?.bind fun c => c[i]?) = some b) : s_by cX8_noFormula (64 * j + i) b := s_byC (L := B_X8_noFormula) (by decide +kernel) (by decide +kernel) j i h
theorem dX8_noFormula_0 : decode cX8_noFormula 0 = .ok (.iload_n 1, 1) := dz_27 (k_X8_noFormula 0 0 rfl)
theorem dX8_noFormula_1 : decode cX8_noFormula 1 = .ok (.iconst 0, 1) := dz_3 (k_X8_noFormula 0 1 rfl)
theorem dX8_noFormula_2 : decode cX8_noFormula 2 = .ok (.aload_n 0, 1) := dz_42 (k_X8_noFormula 0 2 rfl)
theorem dX8_noFormula_3 : decode cX8_noFormula 3 = .ok (.invokevirtual 103, 3) := dz_182 (k_X8_noFormula 0 3 rfl) (k_X8_noFormula 0 4 rfl) (k_X8_noFormula 0 5 rfl) rfl
theorem dX8_noFormula_6 : decode cX8_noFormula 6 = .ok (.iconst 1, 1) := dz_4 (k_X8_noFormula 0 6 rfl)
theorem dX8_noFormula_7 : decode cX8_noFormula 7 = .ok (.isub, 1) := dz_100 (k_X8_noFormula 0 7 rfl)
theorem dX8_noFormula_8 : decode cX8_noFormula 8 = .ok (.invokestatic 107, 3) := dz_184 (k_X8_noFormula 0 8 rfl) (k_X8_noFormula 0 9 rfl) (k_X8_noFormula 0 10 rfl) rfl
theorem dX8_noFormula_11 : decode cX8_noFormula 11 = .ok (.ifCond .ne 7, 3) := dz_154 (k_X8_noFormula 0 11 rfl) (k_X8_noFormula 0 12 rfl) (k_X8_noFormula 0 13 rfl) rfl
theorem dX8_noFormula_14 : decode cX8_noFormula 14 = .ok (.iconst 1, 1) := dz_4 (k_X8_noFormula 0 14 rfl)
theorem dX8_noFormula_15 : decode cX8_noFormula 15 = .ok (.goto 4, 3) := dz_167 (k_X8_noFormula 0 15 rfl) (k_X8_noFormula 0 16 rfl) (k_X8_noFormula 0 17 rfl) rfl
theorem dX8_noFormula_18 : decode cX8_noFormula 18 = .ok (.iconst 0, 1) := dz_3 (k_X8_noFormula 0 18 rfl)
theorem dX8_noFormula_19 : decode cX8_noFormula 19 = .ok (.ireturn, 1) := dz_172 (k_X8_noFormula 0 19 rfl)
def B_X8_noHouse : List (List Nat) := [[26, 3, 5, 184, 0, 107, 154, 0, 7, 4, 167, 0, 4, 3, 172]]
theorem k_X8_noHouse (j i : Nat) {b : Nat} (h : (B_X8_noHouse[j]?.bind fun c => c[i]?) = some b) : s_by cX8_noHouse (64 * j + i) b := s_byC (L := B_X8_noHouse) (by decide +kernel) (by decide +kernel) j i h
theorem dX8_noHouse_0 : decode cX8_noHouse 0 = .ok (.iload_n 0, 1) := dz_26 (k_X8_noHouse 0 0 rfl)
theorem dX8_noHouse_1 : decode cX8_noHouse 1 = .ok (.iconst 0, 1) := dz_3 (k_X8_noHouse 0 1 rfl)
theorem dX8_noHouse_2 : decode cX8_noHouse 2 = .ok (.iconst 2, 1) := dz_5 (k_X8_noHouse 0 2 rfl)
theorem dX8_noHouse_3 : decode cX8_noHouse 3 = .ok (.invokestatic 107, 3) := dz_184 (k_X8_noHouse 0 3 rfl) (k_X8_noHouse 0 4 rfl) (k_X8_noHouse 0 5 rfl) rfl
theorem dX8_noHouse_6 : decode cX8_noHouse 6 = .ok (.ifCond .ne 7, 3) := dz_154 (k_X8_noHouse 0 6 rfl) (k_X8_noHouse 0 7 rfl) (k_X8_noHouse 0 8 rfl) rfl
theorem dX8_noHouse_9 : decode cX8_noHouse 9 = .ok (.iconst 1, 1) := dz_4 (k_X8_noHouse 0 9 rfl)
theorem dX8_noHouse_10 : decode cX8_noHouse 10 = .ok (.goto 4, 3) := dz_167 (k_X8_noHouse 0 10 rfl) (k_X8_noHouse 0 11 rfl) (k_X8_noHouse 0 12 rfl) rfl
theorem dX8_noHouse_13 : decode cX8_noHouse 13 = .ok (.iconst 0, 1) := dz_3 (k_X8_noHouse 0 13 rfl)
theorem dX8_noHouse_14 : decode cX8_noHouse 14 = .ok (.ireturn, 1) := dz_172 (k_X8_noHouse 0 14 rfl)
def B_X8_noLine : List (List Nat) := [[27, 3, 42, 182, 0, 111, 4, 100, 184, 0, 107, 154, 0, 7, 4, 167, 0, 4, 3, 172]]
theorem k_X8_noLine (j i : Nat) {b : Nat} (h : (B_X8_noLine[j]?.bind fun c => c[i]?) = some b) : s_by cX8_noLine (64 * j + i) b := s_byC (L := B_X8_noLine) (by decide +kernel) (by decide +kernel) j i h
theorem dX8_noLine_0 : decode cX8_noLine 0 = .ok (.iload_n 1, 1) := dz_27 (k_X8_noLine 0 0 rfl)
theorem dX8_noLine_1 : decode cX8_noLine 1 = .ok (.iconst 0, 1) := dz_3 (k_X8_noLine 0 1 rfl)
theorem dX8_noLine_2 : decode cX8_noLine 2 = .ok (.aload_n 0, 1) := dz_42 (k_X8_noLine 0 2 rfl)
theorem dX8_noLine_3 : decode cX8_noLine 3 = .ok (.invokevirtual 111, 3) := dz_182 (k_X8_noLine 0 3 rfl) (k_X8_noLine 0 4 rfl) (k_X8_noLine 0 5 rfl) rfl
theorem dX8_noLine_6 : decode cX8_noLine 6 = .ok (.iconst 1, 1) := dz_4 (k_X8_noLine 0 6 rfl)
theorem dX8_noLine_7 : decode cX8_noLine 7 = .ok (.isub, 1) := dz_100 (k_X8_noLine 0 7 rfl)
theorem dX8_noLine_8 : decode cX8_noLine 8 = .ok (.invokestatic 107, 3) := dz_184 (k_X8_noLine 0 8 rfl) (k_X8_noLine 0 9 rfl) (k_X8_noLine 0 10 rfl) rfl
theorem dX8_noLine_11 : decode cX8_noLine 11 = .ok (.ifCond .ne 7, 3) := dz_154 (k_X8_noLine 0 11 rfl) (k_X8_noLine 0 12 rfl) (k_X8_noLine 0 13 rfl) rfl
theorem dX8_noLine_14 : decode cX8_noLine 14 = .ok (.iconst 1, 1) := dz_4 (k_X8_noLine 0 14 rfl)
theorem dX8_noLine_15 : decode cX8_noLine 15 = .ok (.goto 4, 3) := dz_167 (k_X8_noLine 0 15 rfl) (k_X8_noLine 0 16 rfl) (k_X8_noLine 0 17 rfl) rfl
theorem dX8_noLine_18 : decode cX8_noLine 18 = .ok (.iconst 0, 1) := dz_3 (k_X8_noLine 0 18 rfl)
theorem dX8_noLine_19 : decode cX8_noLine 19 = .ok (.ireturn, 1) := dz_172 (k_X8_noLine 0 19 rfl)
def B_X8_noProof : List (List Nat) := [[27, 184, 0, 246, 154, 0, 18, 28, 184, 0, 249, 154, 0, 11, 42, 29, 182, 0, 231, 153, 0, 7, 4, 167, 0, 4, 3, 172]]
theorem k_X8_noProof (j i : Nat) {b : Nat} (h : (B_X8_noProof[j]?.bind fun c => c[i]?) = some b) : s_by cX8_noProof (64 * j + i) b := s_byC (L := B_X8_noProof) (by decide +kernel) (by decide +kernel) j i h
theorem dX8_noProof_0 : decode cX8_noProof 0 = .ok (.iload_n 1, 1) := dz_27 (k_X8_noProof 0 0 rfl)
theorem dX8_noProof_1 : decode cX8_noProof 1 = .ok (.invokestatic 246, 3) := dz_184 (k_X8_noProof 0 1 rfl) (k_X8_noProof 0 2 rfl) (k_X8_noProof 0 3 rfl) rfl
theorem dX8_noProof_4 : decode cX8_noProof 4 = .ok (.ifCond .ne 18, 3) := dz_154 (k_X8_noProof 0 4 rfl) (k_X8_noProof 0 5 rfl) (k_X8_noProof 0 6 rfl) rfl
theorem dX8_noProof_7 : decode cX8_noProof 7 = .ok (.iload_n 2, 1) := dz_28 (k_X8_noProof 0 7 rfl)
theorem dX8_noProof_8 : decode cX8_noProof 8 = .ok (.invokestatic 249, 3) := dz_184 (k_X8_noProof 0 8 rfl) (k_X8_noProof 0 9 rfl) (k_X8_noProof 0 10 rfl) rfl
theorem dX8_noProof_11 : decode cX8_noProof 11 = .ok (.ifCond .ne 11, 3) := dz_154 (k_X8_noProof 0 11 rfl) (k_X8_noProof 0 12 rfl) (k_X8_noProof 0 13 rfl) rfl
theorem dX8_noProof_14 : decode cX8_noProof 14 = .ok (.aload_n 0, 1) := dz_42 (k_X8_noProof 0 14 rfl)
theorem dX8_noProof_15 : decode cX8_noProof 15 = .ok (.iload_n 3, 1) := dz_29 (k_X8_noProof 0 15 rfl)
theorem dX8_noProof_16 : decode cX8_noProof 16 = .ok (.invokevirtual 231, 3) := dz_182 (k_X8_noProof 0 16 rfl) (k_X8_noProof 0 17 rfl) (k_X8_noProof 0 18 rfl) rfl
theorem dX8_noProof_19 : decode cX8_noProof 19 = .ok (.ifCond .eq 7, 3) := dz_153 (k_X8_noProof 0 19 rfl) (k_X8_noProof 0 20 rfl) (k_X8_noProof 0 21 rfl) rfl
theorem dX8_noProof_22 : decode cX8_noProof 22 = .ok (.iconst 1, 1) := dz_4 (k_X8_noProof 0 22 rfl)
theorem dX8_noProof_23 : decode cX8_noProof 23 = .ok (.goto 4, 3) := dz_167 (k_X8_noProof 0 23 rfl) (k_X8_noProof 0 24 rfl) (k_X8_noProof 0 25 rfl) rfl
theorem dX8_noProof_26 : decode cX8_noProof 26 = .ok (.iconst 0, 1) := dz_3 (k_X8_noProof 0 26 rfl)
theorem dX8_noProof_27 : decode cX8_noProof 27 = .ok (.ireturn, 1) := dz_172 (k_X8_noProof 0 27 rfl)
def B_X8_noWorld : List (List Nat) := [[27, 3, 42, 182, 0, 237, 4, 100, 184, 0, 107, 154, 0, 7, 4, 167, 0, 4, 3, 172]]
theorem k_X8_noWorld (j i : Nat) {b : Nat} (h : (B_X8_noWorld[j]?.bind fun c => c[i]?) = some b) : s_by cX8_noWorld (64 * j + i) b := s_byC (L := B_X8_noWorld) (by decide +kernel) (by decide +kernel) j i h
theorem dX8_noWorld_0 : decode cX8_noWorld 0 = .ok (.iload_n 1, 1) := dz_27 (k_X8_noWorld 0 0 rfl)
theorem dX8_noWorld_1 : decode cX8_noWorld 1 = .ok (.iconst 0, 1) := dz_3 (k_X8_noWorld 0 1 rfl)
theorem dX8_noWorld_2 : decode cX8_noWorld 2 = .ok (.aload_n 0, 1) := dz_42 (k_X8_noWorld 0 2 rfl)
theorem dX8_noWorld_3 : decode cX8_noWorld 3 = .ok (.invokevirtual 237, 3) := dz_182 (k_X8_noWorld 0 3 rfl) (k_X8_noWorld 0 4 rfl) (k_X8_noWorld 0 5 rfl) rfl
theorem dX8_noWorld_6 : decode cX8_noWorld 6 = .ok (.iconst 1, 1) := dz_4 (k_X8_noWorld 0 6 rfl)
theorem dX8_noWorld_7 : decode cX8_noWorld 7 = .ok (.isub, 1) := dz_100 (k_X8_noWorld 0 7 rfl)
theorem dX8_noWorld_8 : decode cX8_noWorld 8 = .ok (.invokestatic 107, 3) := dz_184 (k_X8_noWorld 0 8 rfl) (k_X8_noWorld 0 9 rfl) (k_X8_noWorld 0 10 rfl) rfl
theorem dX8_noWorld_11 : decode cX8_noWorld 11 = .ok (.ifCond .ne 7, 3) := dz_154 (k_X8_noWorld 0 11 rfl) (k_X8_noWorld 0 12 rfl) (k_X8_noWorld 0 13 rfl) rfl
theorem dX8_noWorld_14 : decode cX8_noWorld 14 = .ok (.iconst 1, 1) := dz_4 (k_X8_noWorld 0 14 rfl)
theorem dX8_noWorld_15 : decode cX8_noWorld 15 = .ok (.goto 4, 3) := dz_167 (k_X8_noWorld 0 15 rfl) (k_X8_noWorld 0 16 rfl) (k_X8_noWorld 0 17 rfl) rfl
theorem dX8_noWorld_18 : decode cX8_noWorld 18 = .ok (.iconst 0, 1) := dz_3 (k_X8_noWorld 0 18 rfl)
theorem dX8_noWorld_19 : decode cX8_noWorld 19 = .ok (.ireturn, 1) := dz_172 (k_X8_noWorld 0 19 rfl)
def B_X8_ofLine : List (List Nat) := [[42, 180, 0, 13, 17, 5, 12, 16, 6, 27, 104, 96, 28, 96, 46, 172]]
theorem k_X8_ofLine (j i : Nat) {b : Nat} (h : (B_X8_ofLine[j]?.bind fun c => c[i]?) = some b) : s_by cX8_ofLine (64 * j + i) b := s_byC (L := B_X8_ofLine) (by decide +kernel) (by decide +kernel) j i h
theorem dX8_ofLine_0 : decode cX8_ofLine 0 = .ok (.aload_n 0, 1) := dz_42 (k_X8_ofLine 0 0 rfl)
theorem dX8_ofLine_1 : decode cX8_ofLine 1 = .ok (.getfield 13, 3) := dz_180 (k_X8_ofLine 0 1 rfl) (k_X8_ofLine 0 2 rfl) (k_X8_ofLine 0 3 rfl) rfl
theorem dX8_ofLine_4 : decode cX8_ofLine 4 = .ok (.sipush 1292, 3) := dz_17 (k_X8_ofLine 0 4 rfl) (k_X8_ofLine 0 5 rfl) (k_X8_ofLine 0 6 rfl) rfl
theorem dX8_ofLine_7 : decode cX8_ofLine 7 = .ok (.bipush 6, 2) := dz_16 (k_X8_ofLine 0 7 rfl) (k_X8_ofLine 0 8 rfl) rfl
theorem dX8_ofLine_9 : decode cX8_ofLine 9 = .ok (.iload_n 1, 1) := dz_27 (k_X8_ofLine 0 9 rfl)
theorem dX8_ofLine_10 : decode cX8_ofLine 10 = .ok (.imul, 1) := dz_104 (k_X8_ofLine 0 10 rfl)
theorem dX8_ofLine_11 : decode cX8_ofLine 11 = .ok (.iadd, 1) := dz_96 (k_X8_ofLine 0 11 rfl)
theorem dX8_ofLine_12 : decode cX8_ofLine 12 = .ok (.iload_n 2, 1) := dz_28 (k_X8_ofLine 0 12 rfl)
theorem dX8_ofLine_13 : decode cX8_ofLine 13 = .ok (.iadd, 1) := dz_96 (k_X8_ofLine 0 13 rfl)
theorem dX8_ofLine_14 : decode cX8_ofLine 14 = .ok (.iaload, 1) := dz_46 (k_X8_ofLine 0 14 rfl)
theorem dX8_ofLine_15 : decode cX8_ofLine 15 = .ok (.ireturn, 1) := dz_172 (k_X8_ofLine 0 15 rfl)
def B_X8_ofReceipt : List (List Nat) := [[42, 180, 0, 13, 17, 5, 252, 8, 27, 104, 96, 28, 96, 46, 172]]
theorem k_X8_ofReceipt (j i : Nat) {b : Nat} (h : (B_X8_ofReceipt[j]?.bind fun c => c[i]?) = some b) : s_by cX8_ofReceipt (64 * j + i) b := s_byC (L := B_X8_ofReceipt) (by decide +kernel) (by decide +kernel) j i h
theorem dX8_ofReceipt_0 : decode cX8_ofReceipt 0 = .ok (.aload_n 0, 1) := dz_42 (k_X8_ofReceipt 0 0 rfl)
theorem dX8_ofReceipt_1 : decode cX8_ofReceipt 1 = .ok (.getfield 13, 3) := dz_180 (k_X8_ofReceipt 0 1 rfl) (k_X8_ofReceipt 0 2 rfl) (k_X8_ofReceipt 0 3 rfl) rfl
theorem dX8_ofReceipt_4 : decode cX8_ofReceipt 4 = .ok (.sipush 1532, 3) := dz_17 (k_X8_ofReceipt 0 4 rfl) (k_X8_ofReceipt 0 5 rfl) (k_X8_ofReceipt 0 6 rfl) rfl
theorem dX8_ofReceipt_7 : decode cX8_ofReceipt 7 = .ok (.iconst 5, 1) := dz_8 (k_X8_ofReceipt 0 7 rfl)
theorem dX8_ofReceipt_8 : decode cX8_ofReceipt 8 = .ok (.iload_n 1, 1) := dz_27 (k_X8_ofReceipt 0 8 rfl)
theorem dX8_ofReceipt_9 : decode cX8_ofReceipt 9 = .ok (.imul, 1) := dz_104 (k_X8_ofReceipt 0 9 rfl)
theorem dX8_ofReceipt_10 : decode cX8_ofReceipt 10 = .ok (.iadd, 1) := dz_96 (k_X8_ofReceipt 0 10 rfl)
theorem dX8_ofReceipt_11 : decode cX8_ofReceipt 11 = .ok (.iload_n 2, 1) := dz_28 (k_X8_ofReceipt 0 11 rfl)
theorem dX8_ofReceipt_12 : decode cX8_ofReceipt 12 = .ok (.iadd, 1) := dz_96 (k_X8_ofReceipt 0 12 rfl)
theorem dX8_ofReceipt_13 : decode cX8_ofReceipt 13 = .ok (.iaload, 1) := dz_46 (k_X8_ofReceipt 0 13 rfl)
theorem dX8_ofReceipt_14 : decode cX8_ofReceipt 14 = .ok (.ireturn, 1) := dz_172 (k_X8_ofReceipt 0 14 rfl)
def B_X8_ofSign : List (List Nat) := [[4, 42, 182, 0, 138, 120, 4, 100, 62, 27, 7, 162, 0, 18, 28, 27, 122, 4, 126, 4, 160, 0, 7, 29, 167, 0, 4, 3, 172, 27, 7, 160, 0, 9, 28, 7, 122, 29, 126, 172, 27, 8, 160, 0, 14, 28, 7, 42, 182, 0, 138, 96, 122, 29, 126, 172, 27, 16, 9, 162, 0, 12, 7, 27], [96, 16, 6, 100, 167, 0, 14, 7, 42, 182, 0, 138, 96, 27, 96, 16, 9, 100, 54, 4, 28, 21, 4, 122, 4, 126, 4, 160, 0, 7, 29, 167, 0, 4, 3, 172]]
theorem k_X8_ofSign (j i : Nat) {b : Nat} (h : (B_X8_ofSign[j]?.bind fun c => c[i]?) = some b) : s_by cX8_ofSign (64 * j + i) b := s_byC (L := B_X8_ofSign) (by decide +kernel) (by decide +kernel) j i h
theorem dX8_ofSign_0 : decode cX8_ofSign 0 = .ok (.iconst 1, 1) := dz_4 (k_X8_ofSign 0 0 rfl)
theorem dX8_ofSign_1 : decode cX8_ofSign 1 = .ok (.aload_n 0, 1) := dz_42 (k_X8_ofSign 0 1 rfl)
theorem dX8_ofSign_2 : decode cX8_ofSign 2 = .ok (.invokevirtual 138, 3) := dz_182 (k_X8_ofSign 0 2 rfl) (k_X8_ofSign 0 3 rfl) (k_X8_ofSign 0 4 rfl) rfl
theorem dX8_ofSign_5 : decode cX8_ofSign 5 = .ok (.ishl, 1) := dz_120 (k_X8_ofSign 0 5 rfl)
theorem dX8_ofSign_6 : decode cX8_ofSign 6 = .ok (.iconst 1, 1) := dz_4 (k_X8_ofSign 0 6 rfl)
theorem dX8_ofSign_7 : decode cX8_ofSign 7 = .ok (.isub, 1) := dz_100 (k_X8_ofSign 0 7 rfl)
theorem dX8_ofSign_8 : decode cX8_ofSign 8 = .ok (.istore_n 3, 1) := dz_62 (k_X8_ofSign 0 8 rfl)
theorem dX8_ofSign_9 : decode cX8_ofSign 9 = .ok (.iload_n 1, 1) := dz_27 (k_X8_ofSign 0 9 rfl)
theorem dX8_ofSign_10 : decode cX8_ofSign 10 = .ok (.iconst 4, 1) := dz_7 (k_X8_ofSign 0 10 rfl)
theorem dX8_ofSign_11 : decode cX8_ofSign 11 = .ok (.if_icmp .ge 18, 3) := dz_162 (k_X8_ofSign 0 11 rfl) (k_X8_ofSign 0 12 rfl) (k_X8_ofSign 0 13 rfl) rfl
theorem dX8_ofSign_14 : decode cX8_ofSign 14 = .ok (.iload_n 2, 1) := dz_28 (k_X8_ofSign 0 14 rfl)
theorem dX8_ofSign_15 : decode cX8_ofSign 15 = .ok (.iload_n 1, 1) := dz_27 (k_X8_ofSign 0 15 rfl)
theorem dX8_ofSign_16 : decode cX8_ofSign 16 = .ok (.ishr, 1) := dz_122 (k_X8_ofSign 0 16 rfl)
theorem dX8_ofSign_17 : decode cX8_ofSign 17 = .ok (.iconst 1, 1) := dz_4 (k_X8_ofSign 0 17 rfl)
theorem dX8_ofSign_18 : decode cX8_ofSign 18 = .ok (.iand, 1) := dz_126 (k_X8_ofSign 0 18 rfl)
theorem dX8_ofSign_19 : decode cX8_ofSign 19 = .ok (.iconst 1, 1) := dz_4 (k_X8_ofSign 0 19 rfl)
theorem dX8_ofSign_20 : decode cX8_ofSign 20 = .ok (.if_icmp .ne 7, 3) := dz_160 (k_X8_ofSign 0 20 rfl) (k_X8_ofSign 0 21 rfl) (k_X8_ofSign 0 22 rfl) rfl
theorem dX8_ofSign_23 : decode cX8_ofSign 23 = .ok (.iload_n 3, 1) := dz_29 (k_X8_ofSign 0 23 rfl)
theorem dX8_ofSign_24 : decode cX8_ofSign 24 = .ok (.goto 4, 3) := dz_167 (k_X8_ofSign 0 24 rfl) (k_X8_ofSign 0 25 rfl) (k_X8_ofSign 0 26 rfl) rfl
theorem dX8_ofSign_27 : decode cX8_ofSign 27 = .ok (.iconst 0, 1) := dz_3 (k_X8_ofSign 0 27 rfl)
theorem dX8_ofSign_28 : decode cX8_ofSign 28 = .ok (.ireturn, 1) := dz_172 (k_X8_ofSign 0 28 rfl)
theorem dX8_ofSign_29 : decode cX8_ofSign 29 = .ok (.iload_n 1, 1) := dz_27 (k_X8_ofSign 0 29 rfl)
theorem dX8_ofSign_30 : decode cX8_ofSign 30 = .ok (.iconst 4, 1) := dz_7 (k_X8_ofSign 0 30 rfl)
theorem dX8_ofSign_31 : decode cX8_ofSign 31 = .ok (.if_icmp .ne 9, 3) := dz_160 (k_X8_ofSign 0 31 rfl) (k_X8_ofSign 0 32 rfl) (k_X8_ofSign 0 33 rfl) rfl
theorem dX8_ofSign_34 : decode cX8_ofSign 34 = .ok (.iload_n 2, 1) := dz_28 (k_X8_ofSign 0 34 rfl)
theorem dX8_ofSign_35 : decode cX8_ofSign 35 = .ok (.iconst 4, 1) := dz_7 (k_X8_ofSign 0 35 rfl)
theorem dX8_ofSign_36 : decode cX8_ofSign 36 = .ok (.ishr, 1) := dz_122 (k_X8_ofSign 0 36 rfl)
theorem dX8_ofSign_37 : decode cX8_ofSign 37 = .ok (.iload_n 3, 1) := dz_29 (k_X8_ofSign 0 37 rfl)
theorem dX8_ofSign_38 : decode cX8_ofSign 38 = .ok (.iand, 1) := dz_126 (k_X8_ofSign 0 38 rfl)
theorem dX8_ofSign_39 : decode cX8_ofSign 39 = .ok (.ireturn, 1) := dz_172 (k_X8_ofSign 0 39 rfl)
theorem dX8_ofSign_40 : decode cX8_ofSign 40 = .ok (.iload_n 1, 1) := dz_27 (k_X8_ofSign 0 40 rfl)
theorem dX8_ofSign_41 : decode cX8_ofSign 41 = .ok (.iconst 5, 1) := dz_8 (k_X8_ofSign 0 41 rfl)
theorem dX8_ofSign_42 : decode cX8_ofSign 42 = .ok (.if_icmp .ne 14, 3) := dz_160 (k_X8_ofSign 0 42 rfl) (k_X8_ofSign 0 43 rfl) (k_X8_ofSign 0 44 rfl) rfl
theorem dX8_ofSign_45 : decode cX8_ofSign 45 = .ok (.iload_n 2, 1) := dz_28 (k_X8_ofSign 0 45 rfl)
theorem dX8_ofSign_46 : decode cX8_ofSign 46 = .ok (.iconst 4, 1) := dz_7 (k_X8_ofSign 0 46 rfl)
theorem dX8_ofSign_47 : decode cX8_ofSign 47 = .ok (.aload_n 0, 1) := dz_42 (k_X8_ofSign 0 47 rfl)
theorem dX8_ofSign_48 : decode cX8_ofSign 48 = .ok (.invokevirtual 138, 3) := dz_182 (k_X8_ofSign 0 48 rfl) (k_X8_ofSign 0 49 rfl) (k_X8_ofSign 0 50 rfl) rfl
theorem dX8_ofSign_51 : decode cX8_ofSign 51 = .ok (.iadd, 1) := dz_96 (k_X8_ofSign 0 51 rfl)
theorem dX8_ofSign_52 : decode cX8_ofSign 52 = .ok (.ishr, 1) := dz_122 (k_X8_ofSign 0 52 rfl)
theorem dX8_ofSign_53 : decode cX8_ofSign 53 = .ok (.iload_n 3, 1) := dz_29 (k_X8_ofSign 0 53 rfl)
theorem dX8_ofSign_54 : decode cX8_ofSign 54 = .ok (.iand, 1) := dz_126 (k_X8_ofSign 0 54 rfl)
theorem dX8_ofSign_55 : decode cX8_ofSign 55 = .ok (.ireturn, 1) := dz_172 (k_X8_ofSign 0 55 rfl)
theorem dX8_ofSign_56 : decode cX8_ofSign 56 = .ok (.iload_n 1, 1) := dz_27 (k_X8_ofSign 0 56 rfl)
theorem dX8_ofSign_57 : decode cX8_ofSign 57 = .ok (.bipush 9, 2) := dz_16 (k_X8_ofSign 0 57 rfl) (k_X8_ofSign 0 58 rfl) rfl
theorem dX8_ofSign_59 : decode cX8_ofSign 59 = .ok (.if_icmp .ge 12, 3) := dz_162 (k_X8_ofSign 0 59 rfl) (k_X8_ofSign 0 60 rfl) (k_X8_ofSign 0 61 rfl) rfl
theorem dX8_ofSign_62 : decode cX8_ofSign 62 = .ok (.iconst 4, 1) := dz_7 (k_X8_ofSign 0 62 rfl)
theorem dX8_ofSign_63 : decode cX8_ofSign 63 = .ok (.iload_n 1, 1) := dz_27 (k_X8_ofSign 0 63 rfl)
theorem dX8_ofSign_64 : decode cX8_ofSign 64 = .ok (.iadd, 1) := dz_96 (k_X8_ofSign 1 0 rfl)
theorem dX8_ofSign_65 : decode cX8_ofSign 65 = .ok (.bipush 6, 2) := dz_16 (k_X8_ofSign 1 1 rfl) (k_X8_ofSign 1 2 rfl) rfl
theorem dX8_ofSign_67 : decode cX8_ofSign 67 = .ok (.isub, 1) := dz_100 (k_X8_ofSign 1 3 rfl)
theorem dX8_ofSign_68 : decode cX8_ofSign 68 = .ok (.goto 14, 3) := dz_167 (k_X8_ofSign 1 4 rfl) (k_X8_ofSign 1 5 rfl) (k_X8_ofSign 1 6 rfl) rfl
theorem dX8_ofSign_71 : decode cX8_ofSign 71 = .ok (.iconst 4, 1) := dz_7 (k_X8_ofSign 1 7 rfl)
theorem dX8_ofSign_72 : decode cX8_ofSign 72 = .ok (.aload_n 0, 1) := dz_42 (k_X8_ofSign 1 8 rfl)
theorem dX8_ofSign_73 : decode cX8_ofSign 73 = .ok (.invokevirtual 138, 3) := dz_182 (k_X8_ofSign 1 9 rfl) (k_X8_ofSign 1 10 rfl) (k_X8_ofSign 1 11 rfl) rfl
theorem dX8_ofSign_76 : decode cX8_ofSign 76 = .ok (.iadd, 1) := dz_96 (k_X8_ofSign 1 12 rfl)
theorem dX8_ofSign_77 : decode cX8_ofSign 77 = .ok (.iload_n 1, 1) := dz_27 (k_X8_ofSign 1 13 rfl)
theorem dX8_ofSign_78 : decode cX8_ofSign 78 = .ok (.iadd, 1) := dz_96 (k_X8_ofSign 1 14 rfl)
theorem dX8_ofSign_79 : decode cX8_ofSign 79 = .ok (.bipush 9, 2) := dz_16 (k_X8_ofSign 1 15 rfl) (k_X8_ofSign 1 16 rfl) rfl
theorem dX8_ofSign_81 : decode cX8_ofSign 81 = .ok (.isub, 1) := dz_100 (k_X8_ofSign 1 17 rfl)
theorem dX8_ofSign_82 : decode cX8_ofSign 82 = .ok (.istore 4, 2) := dz_54 (k_X8_ofSign 1 18 rfl) (k_X8_ofSign 1 19 rfl)
theorem dX8_ofSign_84 : decode cX8_ofSign 84 = .ok (.iload_n 2, 1) := dz_28 (k_X8_ofSign 1 20 rfl)
theorem dX8_ofSign_85 : decode cX8_ofSign 85 = .ok (.iload 4, 2) := dz_21 (k_X8_ofSign 1 21 rfl) (k_X8_ofSign 1 22 rfl)
theorem dX8_ofSign_87 : decode cX8_ofSign 87 = .ok (.ishr, 1) := dz_122 (k_X8_ofSign 1 23 rfl)
theorem dX8_ofSign_88 : decode cX8_ofSign 88 = .ok (.iconst 1, 1) := dz_4 (k_X8_ofSign 1 24 rfl)
theorem dX8_ofSign_89 : decode cX8_ofSign 89 = .ok (.iand, 1) := dz_126 (k_X8_ofSign 1 25 rfl)
theorem dX8_ofSign_90 : decode cX8_ofSign 90 = .ok (.iconst 1, 1) := dz_4 (k_X8_ofSign 1 26 rfl)
theorem dX8_ofSign_91 : decode cX8_ofSign 91 = .ok (.if_icmp .ne 7, 3) := dz_160 (k_X8_ofSign 1 27 rfl) (k_X8_ofSign 1 28 rfl) (k_X8_ofSign 1 29 rfl) rfl
theorem dX8_ofSign_94 : decode cX8_ofSign 94 = .ok (.iload_n 3, 1) := dz_29 (k_X8_ofSign 1 30 rfl)
theorem dX8_ofSign_95 : decode cX8_ofSign 95 = .ok (.goto 4, 3) := dz_167 (k_X8_ofSign 1 31 rfl) (k_X8_ofSign 1 32 rfl) (k_X8_ofSign 1 33 rfl) rfl
theorem dX8_ofSign_98 : decode cX8_ofSign 98 = .ok (.iconst 0, 1) := dz_3 (k_X8_ofSign 1 34 rfl)
theorem dX8_ofSign_99 : decode cX8_ofSign 99 = .ok (.ireturn, 1) := dz_172 (k_X8_ofSign 1 35 rfl)
def B_X8_owes : List (List Nat) := [[42, 3, 181, 0, 3, 42, 27, 184, 0, 246, 4, 182, 0, 224, 154, 0, 41, 42, 29, 3, 16, 31, 184, 0, 107, 153, 0, 18, 28, 2, 159, 0, 17, 28, 3, 16, 6, 184, 0, 107, 154, 0, 7, 4, 167, 0, 4, 3, 5, 182, 0, 224, 153, 0, 5, 3, 172, 42, 182, 1, 57, 3, 54, 4], [3, 54, 5, 21, 5, 42, 182, 1, 175, 162, 0, 61, 21, 4, 42, 21, 5, 182, 1, 190, 27, 160, 0, 39, 28, 2, 159, 0, 14, 42, 21, 5, 4, 182, 1, 178, 28, 160, 0, 23, 42, 21, 5, 29, 182, 1, 193, 153, 0, 13, 42, 21, 5, 5, 182, 1, 178, 167, 0, 4, 3, 96, 54, 4], [132, 5, 1, 167, 255, 192, 21, 4, 172]]
theorem k_X8_owes (j i : Nat) {b : Nat} (h : (B_X8_owes[j]?.bind fun c => c[i]?) = some b) : s_by cX8_owes (64 * j + i) b := s_byC (L := B_X8_owes) (by decide +kernel) (by decide +kernel) j i h
theorem dX8_owes_0 : decode cX8_owes 0 = .ok (.aload_n 0, 1) := dz_42 (k_X8_owes 0 0 rfl)
theorem dX8_owes_1 : decode cX8_owes 1 = .ok (.iconst 0, 1) := dz_3 (k_X8_owes 0 1 rfl)
theorem dX8_owes_2 : decode cX8_owes 2 = .ok (.putfield 3, 3) := dz_181 (k_X8_owes 0 2 rfl) (k_X8_owes 0 3 rfl) (k_X8_owes 0 4 rfl) rfl
theorem dX8_owes_5 : decode cX8_owes 5 = .ok (.aload_n 0, 1) := dz_42 (k_X8_owes 0 5 rfl)
theorem dX8_owes_6 : decode cX8_owes 6 = .ok (.iload_n 1, 1) := dz_27 (k_X8_owes 0 6 rfl)
theorem dX8_owes_7 : decode cX8_owes 7 = .ok (.invokestatic 246, 3) := dz_184 (k_X8_owes 0 7 rfl) (k_X8_owes 0 8 rfl) (k_X8_owes 0 9 rfl) rfl
theorem dX8_owes_10 : decode cX8_owes 10 = .ok (.iconst 1, 1) := dz_4 (k_X8_owes 0 10 rfl)
theorem dX8_owes_11 : decode cX8_owes 11 = .ok (.invokevirtual 224, 3) := dz_182 (k_X8_owes 0 11 rfl) (k_X8_owes 0 12 rfl) (k_X8_owes 0 13 rfl) rfl
theorem dX8_owes_14 : decode cX8_owes 14 = .ok (.ifCond .ne 41, 3) := dz_154 (k_X8_owes 0 14 rfl) (k_X8_owes 0 15 rfl) (k_X8_owes 0 16 rfl) rfl
theorem dX8_owes_17 : decode cX8_owes 17 = .ok (.aload_n 0, 1) := dz_42 (k_X8_owes 0 17 rfl)
theorem dX8_owes_18 : decode cX8_owes 18 = .ok (.iload_n 3, 1) := dz_29 (k_X8_owes 0 18 rfl)
theorem dX8_owes_19 : decode cX8_owes 19 = .ok (.iconst 0, 1) := dz_3 (k_X8_owes 0 19 rfl)
theorem dX8_owes_20 : decode cX8_owes 20 = .ok (.bipush 31, 2) := dz_16 (k_X8_owes 0 20 rfl) (k_X8_owes 0 21 rfl) rfl
theorem dX8_owes_22 : decode cX8_owes 22 = .ok (.invokestatic 107, 3) := dz_184 (k_X8_owes 0 22 rfl) (k_X8_owes 0 23 rfl) (k_X8_owes 0 24 rfl) rfl
theorem dX8_owes_25 : decode cX8_owes 25 = .ok (.ifCond .eq 18, 3) := dz_153 (k_X8_owes 0 25 rfl) (k_X8_owes 0 26 rfl) (k_X8_owes 0 27 rfl) rfl
theorem dX8_owes_28 : decode cX8_owes 28 = .ok (.iload_n 2, 1) := dz_28 (k_X8_owes 0 28 rfl)
theorem dX8_owes_29 : decode cX8_owes 29 = .ok (.iconst (-1), 1) := dz_2 (k_X8_owes 0 29 rfl)
theorem dX8_owes_30 : decode cX8_owes 30 = .ok (.if_icmp .eq 17, 3) := dz_159 (k_X8_owes 0 30 rfl) (k_X8_owes 0 31 rfl) (k_X8_owes 0 32 rfl) rfl
theorem dX8_owes_33 : decode cX8_owes 33 = .ok (.iload_n 2, 1) := dz_28 (k_X8_owes 0 33 rfl)
theorem dX8_owes_34 : decode cX8_owes 34 = .ok (.iconst 0, 1) := dz_3 (k_X8_owes 0 34 rfl)
theorem dX8_owes_35 : decode cX8_owes 35 = .ok (.bipush 6, 2) := dz_16 (k_X8_owes 0 35 rfl) (k_X8_owes 0 36 rfl) rfl
theorem dX8_owes_37 : decode cX8_owes 37 = .ok (.invokestatic 107, 3) := dz_184 (k_X8_owes 0 37 rfl) (k_X8_owes 0 38 rfl) (k_X8_owes 0 39 rfl) rfl
theorem dX8_owes_40 : decode cX8_owes 40 = .ok (.ifCond .ne 7, 3) := dz_154 (k_X8_owes 0 40 rfl) (k_X8_owes 0 41 rfl) (k_X8_owes 0 42 rfl) rfl
theorem dX8_owes_43 : decode cX8_owes 43 = .ok (.iconst 1, 1) := dz_4 (k_X8_owes 0 43 rfl)
theorem dX8_owes_44 : decode cX8_owes 44 = .ok (.goto 4, 3) := dz_167 (k_X8_owes 0 44 rfl) (k_X8_owes 0 45 rfl) (k_X8_owes 0 46 rfl) rfl
theorem dX8_owes_47 : decode cX8_owes 47 = .ok (.iconst 0, 1) := dz_3 (k_X8_owes 0 47 rfl)
theorem dX8_owes_48 : decode cX8_owes 48 = .ok (.iconst 2, 1) := dz_5 (k_X8_owes 0 48 rfl)
theorem dX8_owes_49 : decode cX8_owes 49 = .ok (.invokevirtual 224, 3) := dz_182 (k_X8_owes 0 49 rfl) (k_X8_owes 0 50 rfl) (k_X8_owes 0 51 rfl) rfl
theorem dX8_owes_52 : decode cX8_owes 52 = .ok (.ifCond .eq 5, 3) := dz_153 (k_X8_owes 0 52 rfl) (k_X8_owes 0 53 rfl) (k_X8_owes 0 54 rfl) rfl
theorem dX8_owes_55 : decode cX8_owes 55 = .ok (.iconst 0, 1) := dz_3 (k_X8_owes 0 55 rfl)
theorem dX8_owes_56 : decode cX8_owes 56 = .ok (.ireturn, 1) := dz_172 (k_X8_owes 0 56 rfl)
theorem dX8_owes_57 : decode cX8_owes 57 = .ok (.aload_n 0, 1) := dz_42 (k_X8_owes 0 57 rfl)
theorem dX8_owes_58 : decode cX8_owes 58 = .ok (.invokevirtual 313, 3) := dz_182 (k_X8_owes 0 58 rfl) (k_X8_owes 0 59 rfl) (k_X8_owes 0 60 rfl) rfl
theorem dX8_owes_61 : decode cX8_owes 61 = .ok (.iconst 0, 1) := dz_3 (k_X8_owes 0 61 rfl)
theorem dX8_owes_62 : decode cX8_owes 62 = .ok (.istore 4, 2) := dz_54 (k_X8_owes 0 62 rfl) (k_X8_owes 0 63 rfl)
theorem dX8_owes_64 : decode cX8_owes 64 = .ok (.iconst 0, 1) := dz_3 (k_X8_owes 1 0 rfl)
theorem dX8_owes_65 : decode cX8_owes 65 = .ok (.istore 5, 2) := dz_54 (k_X8_owes 1 1 rfl) (k_X8_owes 1 2 rfl)
theorem dX8_owes_67 : decode cX8_owes 67 = .ok (.iload 5, 2) := dz_21 (k_X8_owes 1 3 rfl) (k_X8_owes 1 4 rfl)
theorem dX8_owes_69 : decode cX8_owes 69 = .ok (.aload_n 0, 1) := dz_42 (k_X8_owes 1 5 rfl)
theorem dX8_owes_70 : decode cX8_owes 70 = .ok (.invokevirtual 431, 3) := dz_182 (k_X8_owes 1 6 rfl) (k_X8_owes 1 7 rfl) (k_X8_owes 1 8 rfl) rfl
theorem dX8_owes_73 : decode cX8_owes 73 = .ok (.if_icmp .ge 61, 3) := dz_162 (k_X8_owes 1 9 rfl) (k_X8_owes 1 10 rfl) (k_X8_owes 1 11 rfl) rfl
theorem dX8_owes_76 : decode cX8_owes 76 = .ok (.iload 4, 2) := dz_21 (k_X8_owes 1 12 rfl) (k_X8_owes 1 13 rfl)
theorem dX8_owes_78 : decode cX8_owes 78 = .ok (.aload_n 0, 1) := dz_42 (k_X8_owes 1 14 rfl)
theorem dX8_owes_79 : decode cX8_owes 79 = .ok (.iload 5, 2) := dz_21 (k_X8_owes 1 15 rfl) (k_X8_owes 1 16 rfl)
theorem dX8_owes_81 : decode cX8_owes 81 = .ok (.invokevirtual 446, 3) := dz_182 (k_X8_owes 1 17 rfl) (k_X8_owes 1 18 rfl) (k_X8_owes 1 19 rfl) rfl
theorem dX8_owes_84 : decode cX8_owes 84 = .ok (.iload_n 1, 1) := dz_27 (k_X8_owes 1 20 rfl)
theorem dX8_owes_85 : decode cX8_owes 85 = .ok (.if_icmp .ne 39, 3) := dz_160 (k_X8_owes 1 21 rfl) (k_X8_owes 1 22 rfl) (k_X8_owes 1 23 rfl) rfl
theorem dX8_owes_88 : decode cX8_owes 88 = .ok (.iload_n 2, 1) := dz_28 (k_X8_owes 1 24 rfl)
theorem dX8_owes_89 : decode cX8_owes 89 = .ok (.iconst (-1), 1) := dz_2 (k_X8_owes 1 25 rfl)
theorem dX8_owes_90 : decode cX8_owes 90 = .ok (.if_icmp .eq 14, 3) := dz_159 (k_X8_owes 1 26 rfl) (k_X8_owes 1 27 rfl) (k_X8_owes 1 28 rfl) rfl
theorem dX8_owes_93 : decode cX8_owes 93 = .ok (.aload_n 0, 1) := dz_42 (k_X8_owes 1 29 rfl)
theorem dX8_owes_94 : decode cX8_owes 94 = .ok (.iload 5, 2) := dz_21 (k_X8_owes 1 30 rfl) (k_X8_owes 1 31 rfl)
theorem dX8_owes_96 : decode cX8_owes 96 = .ok (.iconst 1, 1) := dz_4 (k_X8_owes 1 32 rfl)
theorem dX8_owes_97 : decode cX8_owes 97 = .ok (.invokevirtual 434, 3) := dz_182 (k_X8_owes 1 33 rfl) (k_X8_owes 1 34 rfl) (k_X8_owes 1 35 rfl) rfl
theorem dX8_owes_100 : decode cX8_owes 100 = .ok (.iload_n 2, 1) := dz_28 (k_X8_owes 1 36 rfl)
theorem dX8_owes_101 : decode cX8_owes 101 = .ok (.if_icmp .ne 23, 3) := dz_160 (k_X8_owes 1 37 rfl) (k_X8_owes 1 38 rfl) (k_X8_owes 1 39 rfl) rfl
theorem dX8_owes_104 : decode cX8_owes 104 = .ok (.aload_n 0, 1) := dz_42 (k_X8_owes 1 40 rfl)
theorem dX8_owes_105 : decode cX8_owes 105 = .ok (.iload 5, 2) := dz_21 (k_X8_owes 1 41 rfl) (k_X8_owes 1 42 rfl)
theorem dX8_owes_107 : decode cX8_owes 107 = .ok (.iload_n 3, 1) := dz_29 (k_X8_owes 1 43 rfl)
theorem dX8_owes_108 : decode cX8_owes 108 = .ok (.invokevirtual 449, 3) := dz_182 (k_X8_owes 1 44 rfl) (k_X8_owes 1 45 rfl) (k_X8_owes 1 46 rfl) rfl
theorem dX8_owes_111 : decode cX8_owes 111 = .ok (.ifCond .eq 13, 3) := dz_153 (k_X8_owes 1 47 rfl) (k_X8_owes 1 48 rfl) (k_X8_owes 1 49 rfl) rfl
theorem dX8_owes_114 : decode cX8_owes 114 = .ok (.aload_n 0, 1) := dz_42 (k_X8_owes 1 50 rfl)
theorem dX8_owes_115 : decode cX8_owes 115 = .ok (.iload 5, 2) := dz_21 (k_X8_owes 1 51 rfl) (k_X8_owes 1 52 rfl)
theorem dX8_owes_117 : decode cX8_owes 117 = .ok (.iconst 2, 1) := dz_5 (k_X8_owes 1 53 rfl)
theorem dX8_owes_118 : decode cX8_owes 118 = .ok (.invokevirtual 434, 3) := dz_182 (k_X8_owes 1 54 rfl) (k_X8_owes 1 55 rfl) (k_X8_owes 1 56 rfl) rfl
theorem dX8_owes_121 : decode cX8_owes 121 = .ok (.goto 4, 3) := dz_167 (k_X8_owes 1 57 rfl) (k_X8_owes 1 58 rfl) (k_X8_owes 1 59 rfl) rfl
theorem dX8_owes_124 : decode cX8_owes 124 = .ok (.iconst 0, 1) := dz_3 (k_X8_owes 1 60 rfl)
theorem dX8_owes_125 : decode cX8_owes 125 = .ok (.iadd, 1) := dz_96 (k_X8_owes 1 61 rfl)
theorem dX8_owes_126 : decode cX8_owes 126 = .ok (.istore 4, 2) := dz_54 (k_X8_owes 1 62 rfl) (k_X8_owes 1 63 rfl)
theorem dX8_owes_128 : decode cX8_owes 128 = .ok (.iinc 5 1, 3) := dz_132 (k_X8_owes 2 0 rfl) (k_X8_owes 2 1 rfl) (k_X8_owes 2 2 rfl) rfl
theorem dX8_owes_131 : decode cX8_owes 131 = .ok (.goto (-64), 3) := dz_167 (k_X8_owes 2 3 rfl) (k_X8_owes 2 4 rfl) (k_X8_owes 2 5 rfl) rfl
theorem dX8_owes_134 : decode cX8_owes 134 = .ok (.iload 4, 2) := dz_21 (k_X8_owes 2 6 rfl) (k_X8_owes 2 7 rfl)
theorem dX8_owes_136 : decode cX8_owes 136 = .ok (.ireturn, 1) := dz_172 (k_X8_owes 2 8 rfl)
def B_X8_partAt : List (List Nat) := [[42, 27, 28, 29, 21, 4, 16, 71, 182, 1, 107, 42, 16, 71, 182, 1, 111, 172]]
theorem k_X8_partAt (j i : Nat) {b : Nat} (h : (B_X8_partAt[j]?.bind fun c => c[i]?) = some b) : s_by cX8_partAt (64 * j + i) b := s_byC (L := B_X8_partAt) (by decide +kernel) (by decide +kernel) j i h
theorem dX8_partAt_0 : decode cX8_partAt 0 = .ok (.aload_n 0, 1) := dz_42 (k_X8_partAt 0 0 rfl)
theorem dX8_partAt_1 : decode cX8_partAt 1 = .ok (.iload_n 1, 1) := dz_27 (k_X8_partAt 0 1 rfl)
theorem dX8_partAt_2 : decode cX8_partAt 2 = .ok (.iload_n 2, 1) := dz_28 (k_X8_partAt 0 2 rfl)
theorem dX8_partAt_3 : decode cX8_partAt 3 = .ok (.iload_n 3, 1) := dz_29 (k_X8_partAt 0 3 rfl)
theorem dX8_partAt_4 : decode cX8_partAt 4 = .ok (.iload 4, 2) := dz_21 (k_X8_partAt 0 4 rfl) (k_X8_partAt 0 5 rfl)
theorem dX8_partAt_6 : decode cX8_partAt 6 = .ok (.bipush 71, 2) := dz_16 (k_X8_partAt 0 6 rfl) (k_X8_partAt 0 7 rfl) rfl
theorem dX8_partAt_8 : decode cX8_partAt 8 = .ok (.invokevirtual 363, 3) := dz_182 (k_X8_partAt 0 8 rfl) (k_X8_partAt 0 9 rfl) (k_X8_partAt 0 10 rfl) rfl
theorem dX8_partAt_11 : decode cX8_partAt 11 = .ok (.aload_n 0, 1) := dz_42 (k_X8_partAt 0 11 rfl)
theorem dX8_partAt_12 : decode cX8_partAt 12 = .ok (.bipush 71, 2) := dz_16 (k_X8_partAt 0 12 rfl) (k_X8_partAt 0 13 rfl) rfl
theorem dX8_partAt_14 : decode cX8_partAt 14 = .ok (.invokevirtual 367, 3) := dz_182 (k_X8_partAt 0 14 rfl) (k_X8_partAt 0 15 rfl) (k_X8_partAt 0 16 rfl) rfl
theorem dX8_partAt_17 : decode cX8_partAt 17 = .ok (.ireturn, 1) := dz_172 (k_X8_partAt 0 17 rfl)
def B_X8_premise : List (List Nat) := [[42, 27, 5, 182, 1, 0, 154, 0, 7, 2, 167, 0, 11, 42, 27, 6, 28, 96, 182, 1, 0, 172]]
theorem k_X8_premise (j i : Nat) {b : Nat} (h : (B_X8_premise[j]?.bind fun c => c[i]?) = some b) : s_by cX8_premise (64 * j + i) b := s_byC (L := B_X8_premise) (by decide +kernel) (by decide +kernel) j i h
theorem dX8_premise_0 : decode cX8_premise 0 = .ok (.aload_n 0, 1) := dz_42 (k_X8_premise 0 0 rfl)
theorem dX8_premise_1 : decode cX8_premise 1 = .ok (.iload_n 1, 1) := dz_27 (k_X8_premise 0 1 rfl)
theorem dX8_premise_2 : decode cX8_premise 2 = .ok (.iconst 2, 1) := dz_5 (k_X8_premise 0 2 rfl)
theorem dX8_premise_3 : decode cX8_premise 3 = .ok (.invokevirtual 256, 3) := dz_182 (k_X8_premise 0 3 rfl) (k_X8_premise 0 4 rfl) (k_X8_premise 0 5 rfl) rfl
theorem dX8_premise_6 : decode cX8_premise 6 = .ok (.ifCond .ne 7, 3) := dz_154 (k_X8_premise 0 6 rfl) (k_X8_premise 0 7 rfl) (k_X8_premise 0 8 rfl) rfl
theorem dX8_premise_9 : decode cX8_premise 9 = .ok (.iconst (-1), 1) := dz_2 (k_X8_premise 0 9 rfl)
theorem dX8_premise_10 : decode cX8_premise 10 = .ok (.goto 11, 3) := dz_167 (k_X8_premise 0 10 rfl) (k_X8_premise 0 11 rfl) (k_X8_premise 0 12 rfl) rfl
theorem dX8_premise_13 : decode cX8_premise 13 = .ok (.aload_n 0, 1) := dz_42 (k_X8_premise 0 13 rfl)
theorem dX8_premise_14 : decode cX8_premise 14 = .ok (.iload_n 1, 1) := dz_27 (k_X8_premise 0 14 rfl)
theorem dX8_premise_15 : decode cX8_premise 15 = .ok (.iconst 3, 1) := dz_6 (k_X8_premise 0 15 rfl)
theorem dX8_premise_16 : decode cX8_premise 16 = .ok (.iload_n 2, 1) := dz_28 (k_X8_premise 0 16 rfl)
theorem dX8_premise_17 : decode cX8_premise 17 = .ok (.iadd, 1) := dz_96 (k_X8_premise 0 17 rfl)
theorem dX8_premise_18 : decode cX8_premise 18 = .ok (.invokevirtual 256, 3) := dz_182 (k_X8_premise 0 18 rfl) (k_X8_premise 0 19 rfl) (k_X8_premise 0 20 rfl) rfl
theorem dX8_premise_21 : decode cX8_premise 21 = .ok (.ireturn, 1) := dz_172 (k_X8_premise 0 21 rfl)
def B_X8_premises : List (List Nat) := [[3, 61, 28, 6, 162, 0, 18, 42, 27, 28, 182, 1, 13, 155, 0, 9, 132, 2, 1, 167, 255, 239, 28, 172]]
theorem k_X8_premises (j i : Nat) {b : Nat} (h : (B_X8_premises[j]?.bind fun c => c[i]?) = some b) : s_by cX8_premises (64 * j + i) b := s_byC (L := B_X8_premises) (by decide +kernel) (by decide +kernel) j i h
theorem dX8_premises_0 : decode cX8_premises 0 = .ok (.iconst 0, 1) := dz_3 (k_X8_premises 0 0 rfl)
theorem dX8_premises_1 : decode cX8_premises 1 = .ok (.istore_n 2, 1) := dz_61 (k_X8_premises 0 1 rfl)
theorem dX8_premises_2 : decode cX8_premises 2 = .ok (.iload_n 2, 1) := dz_28 (k_X8_premises 0 2 rfl)
theorem dX8_premises_3 : decode cX8_premises 3 = .ok (.iconst 3, 1) := dz_6 (k_X8_premises 0 3 rfl)
theorem dX8_premises_4 : decode cX8_premises 4 = .ok (.if_icmp .ge 18, 3) := dz_162 (k_X8_premises 0 4 rfl) (k_X8_premises 0 5 rfl) (k_X8_premises 0 6 rfl) rfl
theorem dX8_premises_7 : decode cX8_premises 7 = .ok (.aload_n 0, 1) := dz_42 (k_X8_premises 0 7 rfl)
theorem dX8_premises_8 : decode cX8_premises 8 = .ok (.iload_n 1, 1) := dz_27 (k_X8_premises 0 8 rfl)
theorem dX8_premises_9 : decode cX8_premises 9 = .ok (.iload_n 2, 1) := dz_28 (k_X8_premises 0 9 rfl)
theorem dX8_premises_10 : decode cX8_premises 10 = .ok (.invokevirtual 269, 3) := dz_182 (k_X8_premises 0 10 rfl) (k_X8_premises 0 11 rfl) (k_X8_premises 0 12 rfl) rfl
theorem dX8_premises_13 : decode cX8_premises 13 = .ok (.ifCond .lt 9, 3) := dz_155 (k_X8_premises 0 13 rfl) (k_X8_premises 0 14 rfl) (k_X8_premises 0 15 rfl) rfl
theorem dX8_premises_16 : decode cX8_premises 16 = .ok (.iinc 2 1, 3) := dz_132 (k_X8_premises 0 16 rfl) (k_X8_premises 0 17 rfl) (k_X8_premises 0 18 rfl) rfl
theorem dX8_premises_19 : decode cX8_premises 19 = .ok (.goto (-17), 3) := dz_167 (k_X8_premises 0 19 rfl) (k_X8_premises 0 20 rfl) (k_X8_premises 0 21 rfl) rfl
theorem dX8_premises_22 : decode cX8_premises 22 = .ok (.iload_n 2, 1) := dz_28 (k_X8_premises 0 22 rfl)
theorem dX8_premises_23 : decode cX8_premises 23 = .ok (.ireturn, 1) := dz_172 (k_X8_premises 0 23 rfl)
def B_X8_premisesBy : List (List Nat) := [[19, 1, 131, 54, 4, 27, 170, 0, 0, 0, 2, 193, 0, 0, 0, 0, 0, 0, 0, 13, 0, 0, 0, 70, 0, 0, 0, 87, 0, 0, 0, 116, 0, 0, 0, 159, 0, 0, 0, 217, 0, 0, 1, 19, 0, 0, 1, 48, 0, 0, 1, 77, 0, 0, 1, 150, 0, 0, 1, 200, 0, 0, 2, 19], [0, 0, 2, 26, 0, 0, 2, 76, 0, 0, 2, 138, 42, 180, 0, 71, 28, 51, 153, 0, 7, 3, 167, 0, 6, 19, 1, 131, 172, 42, 28, 182, 1, 125, 155, 0, 20, 29, 42, 28, 182, 1, 125, 122, 4, 126, 4, 160, 0, 7, 3, 167, 0, 6, 19, 1, 131, 172, 42, 180, 0, 59, 28, 46], [16, 13, 160, 0, 31, 42, 42, 180, 0, 62, 28, 46, 29, 182, 1, 137, 42, 42, 180, 0, 65, 28, 46, 29, 182, 1, 137, 184, 1, 140, 167, 0, 6, 19, 1, 131, 172, 3, 54, 5, 21, 5, 42, 180, 1, 104, 162, 0, 46, 42, 180, 0, 59, 21, 5, 46, 16, 13, 160, 0, 28, 42, 180, 0], [62, 21, 5, 46, 28, 160, 0, 17, 21, 4, 42, 21, 5, 29, 182, 1, 137, 184, 1, 132, 54, 4, 132, 5, 1, 167, 255, 207, 21, 4, 172, 3, 54, 5, 21, 5, 42, 180, 1, 104, 162, 0, 46, 42, 180, 0, 59, 21, 5, 46, 16, 13, 160, 0, 28, 42, 180, 0, 65, 21, 5, 46, 28, 160], [0, 17, 21, 4, 42, 21, 5, 29, 182, 1, 137, 184, 1, 132, 54, 4, 132, 5, 1, 167, 255, 207, 21, 4, 172, 42, 180, 0, 59, 28, 46, 16, 14, 160, 0, 17, 42, 42, 180, 0, 62, 28, 46, 29, 182, 1, 137, 167, 0, 6, 19, 1, 131, 172, 42, 180, 0, 59, 28, 46, 16, 14, 160, 0], [17, 42, 42, 180, 0, 65, 28, 46, 29, 182, 1, 137, 167, 0, 6, 19, 1, 131, 172, 3, 54, 5, 21, 5, 42, 180, 1, 104, 162, 0, 61, 42, 180, 0, 59, 21, 5, 46, 16, 15, 160, 0, 43, 42, 180, 0, 65, 21, 5, 46, 28, 160, 0, 32, 21, 4, 42, 42, 180, 0, 62, 21, 5, 46], [29, 182, 1, 137, 42, 21, 5, 29, 182, 1, 137, 184, 1, 140, 184, 1, 132, 54, 4, 132, 5, 1, 167, 255, 192, 21, 4, 172, 3, 54, 5, 21, 5, 42, 180, 1, 104, 162, 0, 38, 42, 180, 0, 77, 16, 40, 21, 5, 104, 28, 96, 51, 153, 0, 17, 21, 4, 42, 21, 5, 29, 182, 1, 137], [184, 1, 132, 54, 4, 132, 5, 1, 167, 255, 215, 21, 4, 172, 3, 54, 5, 21, 5, 42, 180, 1, 104, 162, 0, 63, 21, 4, 42, 21, 5, 29, 182, 1, 137, 42, 42, 180, 0, 80, 16, 40, 21, 5, 104, 28, 96, 46, 29, 182, 1, 137, 42, 42, 180, 0, 83, 16, 40, 21, 5, 104, 28, 96], [46, 29, 182, 1, 137, 184, 1, 140, 184, 1, 140, 184, 1, 132, 54, 4, 132, 5, 1, 167, 255, 190, 21, 4, 172, 42, 28, 29, 182, 1, 143, 172, 3, 54, 5, 21, 5, 42, 180, 1, 104, 162, 0, 38, 42, 180, 0, 74, 16, 40, 21, 5, 104, 28, 96, 51, 153, 0, 17, 21, 4, 42, 21, 5], [29, 182, 1, 137, 184, 1, 132, 54, 4, 132, 5, 1, 167, 255, 215, 21, 4, 172, 42, 180, 0, 59, 28, 46, 16, 16, 159, 0, 7, 19, 1, 131, 172, 3, 54, 4, 3, 54, 5, 21, 5, 42, 182, 0, 138, 162, 0, 32, 21, 4, 42, 42, 180, 0, 68, 6, 28, 104, 21, 5, 96, 46, 29, 182], [1, 137, 184, 1, 140, 54, 4, 132, 5, 1, 167, 255, 221, 21, 4, 172, 3, 54, 5, 21, 5, 42, 182, 0, 138, 162, 0, 43, 42, 180, 0, 59, 28, 46, 16, 17, 160, 0, 32, 21, 4, 42, 42, 180, 0, 68, 6, 28, 104, 21, 5, 96, 46, 29, 182, 1, 137, 184, 1, 132, 54, 4, 132, 5], [1, 167, 255, 210, 21, 4, 172, 3, 54, 5, 21, 5, 42, 180, 1, 104, 162, 0, 50, 42, 180, 0, 59, 21, 5, 46, 16, 12, 160, 0, 32, 21, 4, 42, 42, 180, 0, 62, 21, 5, 46, 29, 182, 1, 137, 42, 21, 5, 29, 182, 1, 137, 184, 1, 140, 184, 1, 132, 54, 4, 132, 5, 1, 167], [255, 203, 21, 4, 172]]
theorem k_X8_premisesBy (j i : Nat) {b : Nat} (h : (B_X8_premisesBy[j]?.bind fun c => c[i]?) = some b) : s_by cX8_premisesBy (64 * j + i) b := s_byC (L := B_X8_premisesBy) (by decide +kernel) (by decide +kernel) j i h
theorem dX8_premisesBy_0 : decode cX8_premisesBy 0 = .ok (.ldc_w 387, 3) := dz_19 (k_X8_premisesBy 0 0 rfl) (k_X8_premisesBy 0 1 rfl) (k_X8_premisesBy 0 2 rfl) rfl
theorem dX8_premisesBy_3 : decode cX8_premisesBy 3 = .ok (.istore 4, 2) := dz_54 (k_X8_premisesBy 0 3 rfl) (k_X8_premisesBy 0 4 rfl)
theorem dX8_premisesBy_5 : decode cX8_premisesBy 5 = .ok (.iload_n 1, 1) := dz_27 (k_X8_premisesBy 0 5 rfl)
theorem dX8_premisesBy_6 : decode cX8_premisesBy 6 = .ok (.tableswitch 705 0 13 #[70, 87, 116, 159, 217, 275, 304, 333, 406, 456, 531, 538, 588, 650], 70) := by decide +kernel
theorem dX8_premisesBy_76 : decode cX8_premisesBy 76 = .ok (.aload_n 0, 1) := dz_42 (k_X8_premisesBy 1 12 rfl)
theorem dX8_premisesBy_77 : decode cX8_premisesBy 77 = .ok (.getfield 71, 3) := dz_180 (k_X8_premisesBy 1 13 rfl) (k_X8_premisesBy 1 14 rfl) (k_X8_premisesBy 1 15 rfl) rfl
theorem dX8_premisesBy_80 : decode cX8_premisesBy 80 = .ok (.iload_n 2, 1) := dz_28 (k_X8_premisesBy 1 16 rfl)
theorem dX8_premisesBy_81 : decode cX8_premisesBy 81 = .ok (.baload, 1) := dz_51 (k_X8_premisesBy 1 17 rfl)
theorem dX8_premisesBy_82 : decode cX8_premisesBy 82 = .ok (.ifCond .eq 7, 3) := dz_153 (k_X8_premisesBy 1 18 rfl) (k_X8_premisesBy 1 19 rfl) (k_X8_premisesBy 1 20 rfl) rfl
theorem dX8_premisesBy_85 : decode cX8_premisesBy 85 = .ok (.iconst 0, 1) := dz_3 (k_X8_premisesBy 1 21 rfl)
theorem dX8_premisesBy_86 : decode cX8_premisesBy 86 = .ok (.goto 6, 3) := dz_167 (k_X8_premisesBy 1 22 rfl) (k_X8_premisesBy 1 23 rfl) (k_X8_premisesBy 1 24 rfl) rfl
theorem dX8_premisesBy_89 : decode cX8_premisesBy 89 = .ok (.ldc_w 387, 3) := dz_19 (k_X8_premisesBy 1 25 rfl) (k_X8_premisesBy 1 26 rfl) (k_X8_premisesBy 1 27 rfl) rfl
theorem dX8_premisesBy_92 : decode cX8_premisesBy 92 = .ok (.ireturn, 1) := dz_172 (k_X8_premisesBy 1 28 rfl)
theorem dX8_premisesBy_93 : decode cX8_premisesBy 93 = .ok (.aload_n 0, 1) := dz_42 (k_X8_premisesBy 1 29 rfl)
theorem dX8_premisesBy_94 : decode cX8_premisesBy 94 = .ok (.iload_n 2, 1) := dz_28 (k_X8_premisesBy 1 30 rfl)
theorem dX8_premisesBy_95 : decode cX8_premisesBy 95 = .ok (.invokevirtual 381, 3) := dz_182 (k_X8_premisesBy 1 31 rfl) (k_X8_premisesBy 1 32 rfl) (k_X8_premisesBy 1 33 rfl) rfl
theorem dX8_premisesBy_98 : decode cX8_premisesBy 98 = .ok (.ifCond .lt 20, 3) := dz_155 (k_X8_premisesBy 1 34 rfl) (k_X8_premisesBy 1 35 rfl) (k_X8_premisesBy 1 36 rfl) rfl
theorem dX8_premisesBy_101 : decode cX8_premisesBy 101 = .ok (.iload_n 3, 1) := dz_29 (k_X8_premisesBy 1 37 rfl)
theorem dX8_premisesBy_102 : decode cX8_premisesBy 102 = .ok (.aload_n 0, 1) := dz_42 (k_X8_premisesBy 1 38 rfl)
theorem dX8_premisesBy_103 : decode cX8_premisesBy 103 = .ok (.iload_n 2, 1) := dz_28 (k_X8_premisesBy 1 39 rfl)
theorem dX8_premisesBy_104 : decode cX8_premisesBy 104 = .ok (.invokevirtual 381, 3) := dz_182 (k_X8_premisesBy 1 40 rfl) (k_X8_premisesBy 1 41 rfl) (k_X8_premisesBy 1 42 rfl) rfl
theorem dX8_premisesBy_107 : decode cX8_premisesBy 107 = .ok (.ishr, 1) := dz_122 (k_X8_premisesBy 1 43 rfl)
theorem dX8_premisesBy_108 : decode cX8_premisesBy 108 = .ok (.iconst 1, 1) := dz_4 (k_X8_premisesBy 1 44 rfl)
theorem dX8_premisesBy_109 : decode cX8_premisesBy 109 = .ok (.iand, 1) := dz_126 (k_X8_premisesBy 1 45 rfl)
theorem dX8_premisesBy_110 : decode cX8_premisesBy 110 = .ok (.iconst 1, 1) := dz_4 (k_X8_premisesBy 1 46 rfl)
theorem dX8_premisesBy_111 : decode cX8_premisesBy 111 = .ok (.if_icmp .ne 7, 3) := dz_160 (k_X8_premisesBy 1 47 rfl) (k_X8_premisesBy 1 48 rfl) (k_X8_premisesBy 1 49 rfl) rfl
theorem dX8_premisesBy_114 : decode cX8_premisesBy 114 = .ok (.iconst 0, 1) := dz_3 (k_X8_premisesBy 1 50 rfl)
theorem dX8_premisesBy_115 : decode cX8_premisesBy 115 = .ok (.goto 6, 3) := dz_167 (k_X8_premisesBy 1 51 rfl) (k_X8_premisesBy 1 52 rfl) (k_X8_premisesBy 1 53 rfl) rfl
theorem dX8_premisesBy_118 : decode cX8_premisesBy 118 = .ok (.ldc_w 387, 3) := dz_19 (k_X8_premisesBy 1 54 rfl) (k_X8_premisesBy 1 55 rfl) (k_X8_premisesBy 1 56 rfl) rfl
theorem dX8_premisesBy_121 : decode cX8_premisesBy 121 = .ok (.ireturn, 1) := dz_172 (k_X8_premisesBy 1 57 rfl)
theorem dX8_premisesBy_122 : decode cX8_premisesBy 122 = .ok (.aload_n 0, 1) := dz_42 (k_X8_premisesBy 1 58 rfl)
theorem dX8_premisesBy_123 : decode cX8_premisesBy 123 = .ok (.getfield 59, 3) := dz_180 (k_X8_premisesBy 1 59 rfl) (k_X8_premisesBy 1 60 rfl) (k_X8_premisesBy 1 61 rfl) rfl
theorem dX8_premisesBy_126 : decode cX8_premisesBy 126 = .ok (.iload_n 2, 1) := dz_28 (k_X8_premisesBy 1 62 rfl)
theorem dX8_premisesBy_127 : decode cX8_premisesBy 127 = .ok (.iaload, 1) := dz_46 (k_X8_premisesBy 1 63 rfl)
theorem dX8_premisesBy_128 : decode cX8_premisesBy 128 = .ok (.bipush 13, 2) := dz_16 (k_X8_premisesBy 2 0 rfl) (k_X8_premisesBy 2 1 rfl) rfl
theorem dX8_premisesBy_130 : decode cX8_premisesBy 130 = .ok (.if_icmp .ne 31, 3) := dz_160 (k_X8_premisesBy 2 2 rfl) (k_X8_premisesBy 2 3 rfl) (k_X8_premisesBy 2 4 rfl) rfl
theorem dX8_premisesBy_133 : decode cX8_premisesBy 133 = .ok (.aload_n 0, 1) := dz_42 (k_X8_premisesBy 2 5 rfl)
theorem dX8_premisesBy_134 : decode cX8_premisesBy 134 = .ok (.aload_n 0, 1) := dz_42 (k_X8_premisesBy 2 6 rfl)
theorem dX8_premisesBy_135 : decode cX8_premisesBy 135 = .ok (.getfield 62, 3) := dz_180 (k_X8_premisesBy 2 7 rfl) (k_X8_premisesBy 2 8 rfl) (k_X8_premisesBy 2 9 rfl) rfl
theorem dX8_premisesBy_138 : decode cX8_premisesBy 138 = .ok (.iload_n 2, 1) := dz_28 (k_X8_premisesBy 2 10 rfl)
theorem dX8_premisesBy_139 : decode cX8_premisesBy 139 = .ok (.iaload, 1) := dz_46 (k_X8_premisesBy 2 11 rfl)
theorem dX8_premisesBy_140 : decode cX8_premisesBy 140 = .ok (.iload_n 3, 1) := dz_29 (k_X8_premisesBy 2 12 rfl)
theorem dX8_premisesBy_141 : decode cX8_premisesBy 141 = .ok (.invokevirtual 393, 3) := dz_182 (k_X8_premisesBy 2 13 rfl) (k_X8_premisesBy 2 14 rfl) (k_X8_premisesBy 2 15 rfl) rfl
theorem dX8_premisesBy_144 : decode cX8_premisesBy 144 = .ok (.aload_n 0, 1) := dz_42 (k_X8_premisesBy 2 16 rfl)
theorem dX8_premisesBy_145 : decode cX8_premisesBy 145 = .ok (.aload_n 0, 1) := dz_42 (k_X8_premisesBy 2 17 rfl)
theorem dX8_premisesBy_146 : decode cX8_premisesBy 146 = .ok (.getfield 65, 3) := dz_180 (k_X8_premisesBy 2 18 rfl) (k_X8_premisesBy 2 19 rfl) (k_X8_premisesBy 2 20 rfl) rfl
theorem dX8_premisesBy_149 : decode cX8_premisesBy 149 = .ok (.iload_n 2, 1) := dz_28 (k_X8_premisesBy 2 21 rfl)
theorem dX8_premisesBy_150 : decode cX8_premisesBy 150 = .ok (.iaload, 1) := dz_46 (k_X8_premisesBy 2 22 rfl)
theorem dX8_premisesBy_151 : decode cX8_premisesBy 151 = .ok (.iload_n 3, 1) := dz_29 (k_X8_premisesBy 2 23 rfl)
theorem dX8_premisesBy_152 : decode cX8_premisesBy 152 = .ok (.invokevirtual 393, 3) := dz_182 (k_X8_premisesBy 2 24 rfl) (k_X8_premisesBy 2 25 rfl) (k_X8_premisesBy 2 26 rfl) rfl
theorem dX8_premisesBy_155 : decode cX8_premisesBy 155 = .ok (.invokestatic 396, 3) := dz_184 (k_X8_premisesBy 2 27 rfl) (k_X8_premisesBy 2 28 rfl) (k_X8_premisesBy 2 29 rfl) rfl
theorem dX8_premisesBy_158 : decode cX8_premisesBy 158 = .ok (.goto 6, 3) := dz_167 (k_X8_premisesBy 2 30 rfl) (k_X8_premisesBy 2 31 rfl) (k_X8_premisesBy 2 32 rfl) rfl
theorem dX8_premisesBy_161 : decode cX8_premisesBy 161 = .ok (.ldc_w 387, 3) := dz_19 (k_X8_premisesBy 2 33 rfl) (k_X8_premisesBy 2 34 rfl) (k_X8_premisesBy 2 35 rfl) rfl
theorem dX8_premisesBy_164 : decode cX8_premisesBy 164 = .ok (.ireturn, 1) := dz_172 (k_X8_premisesBy 2 36 rfl)
theorem dX8_premisesBy_165 : decode cX8_premisesBy 165 = .ok (.iconst 0, 1) := dz_3 (k_X8_premisesBy 2 37 rfl)
theorem dX8_premisesBy_166 : decode cX8_premisesBy 166 = .ok (.istore 5, 2) := dz_54 (k_X8_premisesBy 2 38 rfl) (k_X8_premisesBy 2 39 rfl)
theorem dX8_premisesBy_168 : decode cX8_premisesBy 168 = .ok (.iload 5, 2) := dz_21 (k_X8_premisesBy 2 40 rfl) (k_X8_premisesBy 2 41 rfl)
theorem dX8_premisesBy_170 : decode cX8_premisesBy 170 = .ok (.aload_n 0, 1) := dz_42 (k_X8_premisesBy 2 42 rfl)
theorem dX8_premisesBy_171 : decode cX8_premisesBy 171 = .ok (.getfield 360, 3) := dz_180 (k_X8_premisesBy 2 43 rfl) (k_X8_premisesBy 2 44 rfl) (k_X8_premisesBy 2 45 rfl) rfl
theorem dX8_premisesBy_174 : decode cX8_premisesBy 174 = .ok (.if_icmp .ge 46, 3) := dz_162 (k_X8_premisesBy 2 46 rfl) (k_X8_premisesBy 2 47 rfl) (k_X8_premisesBy 2 48 rfl) rfl
theorem dX8_premisesBy_177 : decode cX8_premisesBy 177 = .ok (.aload_n 0, 1) := dz_42 (k_X8_premisesBy 2 49 rfl)
theorem dX8_premisesBy_178 : decode cX8_premisesBy 178 = .ok (.getfield 59, 3) := dz_180 (k_X8_premisesBy 2 50 rfl) (k_X8_premisesBy 2 51 rfl) (k_X8_premisesBy 2 52 rfl) rfl
theorem dX8_premisesBy_181 : decode cX8_premisesBy 181 = .ok (.iload 5, 2) := dz_21 (k_X8_premisesBy 2 53 rfl) (k_X8_premisesBy 2 54 rfl)
theorem dX8_premisesBy_183 : decode cX8_premisesBy 183 = .ok (.iaload, 1) := dz_46 (k_X8_premisesBy 2 55 rfl)
theorem dX8_premisesBy_184 : decode cX8_premisesBy 184 = .ok (.bipush 13, 2) := dz_16 (k_X8_premisesBy 2 56 rfl) (k_X8_premisesBy 2 57 rfl) rfl
theorem dX8_premisesBy_186 : decode cX8_premisesBy 186 = .ok (.if_icmp .ne 28, 3) := dz_160 (k_X8_premisesBy 2 58 rfl) (k_X8_premisesBy 2 59 rfl) (k_X8_premisesBy 2 60 rfl) rfl
theorem dX8_premisesBy_189 : decode cX8_premisesBy 189 = .ok (.aload_n 0, 1) := dz_42 (k_X8_premisesBy 2 61 rfl)
theorem dX8_premisesBy_190 : decode cX8_premisesBy 190 = .ok (.getfield 62, 3) := dz_180 (k_X8_premisesBy 2 62 rfl) (k_X8_premisesBy 2 63 rfl) (k_X8_premisesBy 3 0 rfl) rfl
theorem dX8_premisesBy_193 : decode cX8_premisesBy 193 = .ok (.iload 5, 2) := dz_21 (k_X8_premisesBy 3 1 rfl) (k_X8_premisesBy 3 2 rfl)
theorem dX8_premisesBy_195 : decode cX8_premisesBy 195 = .ok (.iaload, 1) := dz_46 (k_X8_premisesBy 3 3 rfl)
theorem dX8_premisesBy_196 : decode cX8_premisesBy 196 = .ok (.iload_n 2, 1) := dz_28 (k_X8_premisesBy 3 4 rfl)
theorem dX8_premisesBy_197 : decode cX8_premisesBy 197 = .ok (.if_icmp .ne 17, 3) := dz_160 (k_X8_premisesBy 3 5 rfl) (k_X8_premisesBy 3 6 rfl) (k_X8_premisesBy 3 7 rfl) rfl
theorem dX8_premisesBy_200 : decode cX8_premisesBy 200 = .ok (.iload 4, 2) := dz_21 (k_X8_premisesBy 3 8 rfl) (k_X8_premisesBy 3 9 rfl)
theorem dX8_premisesBy_202 : decode cX8_premisesBy 202 = .ok (.aload_n 0, 1) := dz_42 (k_X8_premisesBy 3 10 rfl)
theorem dX8_premisesBy_203 : decode cX8_premisesBy 203 = .ok (.iload 5, 2) := dz_21 (k_X8_premisesBy 3 11 rfl) (k_X8_premisesBy 3 12 rfl)
theorem dX8_premisesBy_205 : decode cX8_premisesBy 205 = .ok (.iload_n 3, 1) := dz_29 (k_X8_premisesBy 3 13 rfl)
theorem dX8_premisesBy_206 : decode cX8_premisesBy 206 = .ok (.invokevirtual 393, 3) := dz_182 (k_X8_premisesBy 3 14 rfl) (k_X8_premisesBy 3 15 rfl) (k_X8_premisesBy 3 16 rfl) rfl
theorem dX8_premisesBy_209 : decode cX8_premisesBy 209 = .ok (.invokestatic 388, 3) := dz_184 (k_X8_premisesBy 3 17 rfl) (k_X8_premisesBy 3 18 rfl) (k_X8_premisesBy 3 19 rfl) rfl
theorem dX8_premisesBy_212 : decode cX8_premisesBy 212 = .ok (.istore 4, 2) := dz_54 (k_X8_premisesBy 3 20 rfl) (k_X8_premisesBy 3 21 rfl)
theorem dX8_premisesBy_214 : decode cX8_premisesBy 214 = .ok (.iinc 5 1, 3) := dz_132 (k_X8_premisesBy 3 22 rfl) (k_X8_premisesBy 3 23 rfl) (k_X8_premisesBy 3 24 rfl) rfl
theorem dX8_premisesBy_217 : decode cX8_premisesBy 217 = .ok (.goto (-49), 3) := dz_167 (k_X8_premisesBy 3 25 rfl) (k_X8_premisesBy 3 26 rfl) (k_X8_premisesBy 3 27 rfl) rfl
theorem dX8_premisesBy_220 : decode cX8_premisesBy 220 = .ok (.iload 4, 2) := dz_21 (k_X8_premisesBy 3 28 rfl) (k_X8_premisesBy 3 29 rfl)
theorem dX8_premisesBy_222 : decode cX8_premisesBy 222 = .ok (.ireturn, 1) := dz_172 (k_X8_premisesBy 3 30 rfl)
theorem dX8_premisesBy_223 : decode cX8_premisesBy 223 = .ok (.iconst 0, 1) := dz_3 (k_X8_premisesBy 3 31 rfl)
theorem dX8_premisesBy_224 : decode cX8_premisesBy 224 = .ok (.istore 5, 2) := dz_54 (k_X8_premisesBy 3 32 rfl) (k_X8_premisesBy 3 33 rfl)
theorem dX8_premisesBy_226 : decode cX8_premisesBy 226 = .ok (.iload 5, 2) := dz_21 (k_X8_premisesBy 3 34 rfl) (k_X8_premisesBy 3 35 rfl)
theorem dX8_premisesBy_228 : decode cX8_premisesBy 228 = .ok (.aload_n 0, 1) := dz_42 (k_X8_premisesBy 3 36 rfl)
theorem dX8_premisesBy_229 : decode cX8_premisesBy 229 = .ok (.getfield 360, 3) := dz_180 (k_X8_premisesBy 3 37 rfl) (k_X8_premisesBy 3 38 rfl) (k_X8_premisesBy 3 39 rfl) rfl
theorem dX8_premisesBy_232 : decode cX8_premisesBy 232 = .ok (.if_icmp .ge 46, 3) := dz_162 (k_X8_premisesBy 3 40 rfl) (k_X8_premisesBy 3 41 rfl) (k_X8_premisesBy 3 42 rfl) rfl
theorem dX8_premisesBy_235 : decode cX8_premisesBy 235 = .ok (.aload_n 0, 1) := dz_42 (k_X8_premisesBy 3 43 rfl)
theorem dX8_premisesBy_236 : decode cX8_premisesBy 236 = .ok (.getfield 59, 3) := dz_180 (k_X8_premisesBy 3 44 rfl) (k_X8_premisesBy 3 45 rfl) (k_X8_premisesBy 3 46 rfl) rfl
theorem dX8_premisesBy_239 : decode cX8_premisesBy 239 = .ok (.iload 5, 2) := dz_21 (k_X8_premisesBy 3 47 rfl) (k_X8_premisesBy 3 48 rfl)
theorem dX8_premisesBy_241 : decode cX8_premisesBy 241 = .ok (.iaload, 1) := dz_46 (k_X8_premisesBy 3 49 rfl)
theorem dX8_premisesBy_242 : decode cX8_premisesBy 242 = .ok (.bipush 13, 2) := dz_16 (k_X8_premisesBy 3 50 rfl) (k_X8_premisesBy 3 51 rfl) rfl
theorem dX8_premisesBy_244 : decode cX8_premisesBy 244 = .ok (.if_icmp .ne 28, 3) := dz_160 (k_X8_premisesBy 3 52 rfl) (k_X8_premisesBy 3 53 rfl) (k_X8_premisesBy 3 54 rfl) rfl
theorem dX8_premisesBy_247 : decode cX8_premisesBy 247 = .ok (.aload_n 0, 1) := dz_42 (k_X8_premisesBy 3 55 rfl)
theorem dX8_premisesBy_248 : decode cX8_premisesBy 248 = .ok (.getfield 65, 3) := dz_180 (k_X8_premisesBy 3 56 rfl) (k_X8_premisesBy 3 57 rfl) (k_X8_premisesBy 3 58 rfl) rfl
theorem dX8_premisesBy_251 : decode cX8_premisesBy 251 = .ok (.iload 5, 2) := dz_21 (k_X8_premisesBy 3 59 rfl) (k_X8_premisesBy 3 60 rfl)
theorem dX8_premisesBy_253 : decode cX8_premisesBy 253 = .ok (.iaload, 1) := dz_46 (k_X8_premisesBy 3 61 rfl)
theorem dX8_premisesBy_254 : decode cX8_premisesBy 254 = .ok (.iload_n 2, 1) := dz_28 (k_X8_premisesBy 3 62 rfl)
theorem dX8_premisesBy_255 : decode cX8_premisesBy 255 = .ok (.if_icmp .ne 17, 3) := dz_160 (k_X8_premisesBy 3 63 rfl) (k_X8_premisesBy 4 0 rfl) (k_X8_premisesBy 4 1 rfl) rfl
theorem dX8_premisesBy_258 : decode cX8_premisesBy 258 = .ok (.iload 4, 2) := dz_21 (k_X8_premisesBy 4 2 rfl) (k_X8_premisesBy 4 3 rfl)
theorem dX8_premisesBy_260 : decode cX8_premisesBy 260 = .ok (.aload_n 0, 1) := dz_42 (k_X8_premisesBy 4 4 rfl)
theorem dX8_premisesBy_261 : decode cX8_premisesBy 261 = .ok (.iload 5, 2) := dz_21 (k_X8_premisesBy 4 5 rfl) (k_X8_premisesBy 4 6 rfl)
theorem dX8_premisesBy_263 : decode cX8_premisesBy 263 = .ok (.iload_n 3, 1) := dz_29 (k_X8_premisesBy 4 7 rfl)
theorem dX8_premisesBy_264 : decode cX8_premisesBy 264 = .ok (.invokevirtual 393, 3) := dz_182 (k_X8_premisesBy 4 8 rfl) (k_X8_premisesBy 4 9 rfl) (k_X8_premisesBy 4 10 rfl) rfl
theorem dX8_premisesBy_267 : decode cX8_premisesBy 267 = .ok (.invokestatic 388, 3) := dz_184 (k_X8_premisesBy 4 11 rfl) (k_X8_premisesBy 4 12 rfl) (k_X8_premisesBy 4 13 rfl) rfl
theorem dX8_premisesBy_270 : decode cX8_premisesBy 270 = .ok (.istore 4, 2) := dz_54 (k_X8_premisesBy 4 14 rfl) (k_X8_premisesBy 4 15 rfl)
theorem dX8_premisesBy_272 : decode cX8_premisesBy 272 = .ok (.iinc 5 1, 3) := dz_132 (k_X8_premisesBy 4 16 rfl) (k_X8_premisesBy 4 17 rfl) (k_X8_premisesBy 4 18 rfl) rfl
theorem dX8_premisesBy_275 : decode cX8_premisesBy 275 = .ok (.goto (-49), 3) := dz_167 (k_X8_premisesBy 4 19 rfl) (k_X8_premisesBy 4 20 rfl) (k_X8_premisesBy 4 21 rfl) rfl
theorem dX8_premisesBy_278 : decode cX8_premisesBy 278 = .ok (.iload 4, 2) := dz_21 (k_X8_premisesBy 4 22 rfl) (k_X8_premisesBy 4 23 rfl)
theorem dX8_premisesBy_280 : decode cX8_premisesBy 280 = .ok (.ireturn, 1) := dz_172 (k_X8_premisesBy 4 24 rfl)
theorem dX8_premisesBy_281 : decode cX8_premisesBy 281 = .ok (.aload_n 0, 1) := dz_42 (k_X8_premisesBy 4 25 rfl)
theorem dX8_premisesBy_282 : decode cX8_premisesBy 282 = .ok (.getfield 59, 3) := dz_180 (k_X8_premisesBy 4 26 rfl) (k_X8_premisesBy 4 27 rfl) (k_X8_premisesBy 4 28 rfl) rfl
theorem dX8_premisesBy_285 : decode cX8_premisesBy 285 = .ok (.iload_n 2, 1) := dz_28 (k_X8_premisesBy 4 29 rfl)
theorem dX8_premisesBy_286 : decode cX8_premisesBy 286 = .ok (.iaload, 1) := dz_46 (k_X8_premisesBy 4 30 rfl)
theorem dX8_premisesBy_287 : decode cX8_premisesBy 287 = .ok (.bipush 14, 2) := dz_16 (k_X8_premisesBy 4 31 rfl) (k_X8_premisesBy 4 32 rfl) rfl
theorem dX8_premisesBy_289 : decode cX8_premisesBy 289 = .ok (.if_icmp .ne 17, 3) := dz_160 (k_X8_premisesBy 4 33 rfl) (k_X8_premisesBy 4 34 rfl) (k_X8_premisesBy 4 35 rfl) rfl
theorem dX8_premisesBy_292 : decode cX8_premisesBy 292 = .ok (.aload_n 0, 1) := dz_42 (k_X8_premisesBy 4 36 rfl)
theorem dX8_premisesBy_293 : decode cX8_premisesBy 293 = .ok (.aload_n 0, 1) := dz_42 (k_X8_premisesBy 4 37 rfl)
theorem dX8_premisesBy_294 : decode cX8_premisesBy 294 = .ok (.getfield 62, 3) := dz_180 (k_X8_premisesBy 4 38 rfl) (k_X8_premisesBy 4 39 rfl) (k_X8_premisesBy 4 40 rfl) rfl
theorem dX8_premisesBy_297 : decode cX8_premisesBy 297 = .ok (.iload_n 2, 1) := dz_28 (k_X8_premisesBy 4 41 rfl)
theorem dX8_premisesBy_298 : decode cX8_premisesBy 298 = .ok (.iaload, 1) := dz_46 (k_X8_premisesBy 4 42 rfl)
theorem dX8_premisesBy_299 : decode cX8_premisesBy 299 = .ok (.iload_n 3, 1) := dz_29 (k_X8_premisesBy 4 43 rfl)
theorem dX8_premisesBy_300 : decode cX8_premisesBy 300 = .ok (.invokevirtual 393, 3) := dz_182 (k_X8_premisesBy 4 44 rfl) (k_X8_premisesBy 4 45 rfl) (k_X8_premisesBy 4 46 rfl) rfl
theorem dX8_premisesBy_303 : decode cX8_premisesBy 303 = .ok (.goto 6, 3) := dz_167 (k_X8_premisesBy 4 47 rfl) (k_X8_premisesBy 4 48 rfl) (k_X8_premisesBy 4 49 rfl) rfl
theorem dX8_premisesBy_306 : decode cX8_premisesBy 306 = .ok (.ldc_w 387, 3) := dz_19 (k_X8_premisesBy 4 50 rfl) (k_X8_premisesBy 4 51 rfl) (k_X8_premisesBy 4 52 rfl) rfl
theorem dX8_premisesBy_309 : decode cX8_premisesBy 309 = .ok (.ireturn, 1) := dz_172 (k_X8_premisesBy 4 53 rfl)
theorem dX8_premisesBy_310 : decode cX8_premisesBy 310 = .ok (.aload_n 0, 1) := dz_42 (k_X8_premisesBy 4 54 rfl)
theorem dX8_premisesBy_311 : decode cX8_premisesBy 311 = .ok (.getfield 59, 3) := dz_180 (k_X8_premisesBy 4 55 rfl) (k_X8_premisesBy 4 56 rfl) (k_X8_premisesBy 4 57 rfl) rfl
theorem dX8_premisesBy_314 : decode cX8_premisesBy 314 = .ok (.iload_n 2, 1) := dz_28 (k_X8_premisesBy 4 58 rfl)
theorem dX8_premisesBy_315 : decode cX8_premisesBy 315 = .ok (.iaload, 1) := dz_46 (k_X8_premisesBy 4 59 rfl)
theorem dX8_premisesBy_316 : decode cX8_premisesBy 316 = .ok (.bipush 14, 2) := dz_16 (k_X8_premisesBy 4 60 rfl) (k_X8_premisesBy 4 61 rfl) rfl
theorem dX8_premisesBy_318 : decode cX8_premisesBy 318 = .ok (.if_icmp .ne 17, 3) := dz_160 (k_X8_premisesBy 4 62 rfl) (k_X8_premisesBy 4 63 rfl) (k_X8_premisesBy 5 0 rfl) rfl
theorem dX8_premisesBy_321 : decode cX8_premisesBy 321 = .ok (.aload_n 0, 1) := dz_42 (k_X8_premisesBy 5 1 rfl)
theorem dX8_premisesBy_322 : decode cX8_premisesBy 322 = .ok (.aload_n 0, 1) := dz_42 (k_X8_premisesBy 5 2 rfl)
theorem dX8_premisesBy_323 : decode cX8_premisesBy 323 = .ok (.getfield 65, 3) := dz_180 (k_X8_premisesBy 5 3 rfl) (k_X8_premisesBy 5 4 rfl) (k_X8_premisesBy 5 5 rfl) rfl
theorem dX8_premisesBy_326 : decode cX8_premisesBy 326 = .ok (.iload_n 2, 1) := dz_28 (k_X8_premisesBy 5 6 rfl)
theorem dX8_premisesBy_327 : decode cX8_premisesBy 327 = .ok (.iaload, 1) := dz_46 (k_X8_premisesBy 5 7 rfl)
theorem dX8_premisesBy_328 : decode cX8_premisesBy 328 = .ok (.iload_n 3, 1) := dz_29 (k_X8_premisesBy 5 8 rfl)
theorem dX8_premisesBy_329 : decode cX8_premisesBy 329 = .ok (.invokevirtual 393, 3) := dz_182 (k_X8_premisesBy 5 9 rfl) (k_X8_premisesBy 5 10 rfl) (k_X8_premisesBy 5 11 rfl) rfl
theorem dX8_premisesBy_332 : decode cX8_premisesBy 332 = .ok (.goto 6, 3) := dz_167 (k_X8_premisesBy 5 12 rfl) (k_X8_premisesBy 5 13 rfl) (k_X8_premisesBy 5 14 rfl) rfl
theorem dX8_premisesBy_335 : decode cX8_premisesBy 335 = .ok (.ldc_w 387, 3) := dz_19 (k_X8_premisesBy 5 15 rfl) (k_X8_premisesBy 5 16 rfl) (k_X8_premisesBy 5 17 rfl) rfl
theorem dX8_premisesBy_338 : decode cX8_premisesBy 338 = .ok (.ireturn, 1) := dz_172 (k_X8_premisesBy 5 18 rfl)
theorem dX8_premisesBy_339 : decode cX8_premisesBy 339 = .ok (.iconst 0, 1) := dz_3 (k_X8_premisesBy 5 19 rfl)
theorem dX8_premisesBy_340 : decode cX8_premisesBy 340 = .ok (.istore 5, 2) := dz_54 (k_X8_premisesBy 5 20 rfl) (k_X8_premisesBy 5 21 rfl)
theorem dX8_premisesBy_342 : decode cX8_premisesBy 342 = .ok (.iload 5, 2) := dz_21 (k_X8_premisesBy 5 22 rfl) (k_X8_premisesBy 5 23 rfl)
theorem dX8_premisesBy_344 : decode cX8_premisesBy 344 = .ok (.aload_n 0, 1) := dz_42 (k_X8_premisesBy 5 24 rfl)
theorem dX8_premisesBy_345 : decode cX8_premisesBy 345 = .ok (.getfield 360, 3) := dz_180 (k_X8_premisesBy 5 25 rfl) (k_X8_premisesBy 5 26 rfl) (k_X8_premisesBy 5 27 rfl) rfl
theorem dX8_premisesBy_348 : decode cX8_premisesBy 348 = .ok (.if_icmp .ge 61, 3) := dz_162 (k_X8_premisesBy 5 28 rfl) (k_X8_premisesBy 5 29 rfl) (k_X8_premisesBy 5 30 rfl) rfl
theorem dX8_premisesBy_351 : decode cX8_premisesBy 351 = .ok (.aload_n 0, 1) := dz_42 (k_X8_premisesBy 5 31 rfl)
theorem dX8_premisesBy_352 : decode cX8_premisesBy 352 = .ok (.getfield 59, 3) := dz_180 (k_X8_premisesBy 5 32 rfl) (k_X8_premisesBy 5 33 rfl) (k_X8_premisesBy 5 34 rfl) rfl
theorem dX8_premisesBy_355 : decode cX8_premisesBy 355 = .ok (.iload 5, 2) := dz_21 (k_X8_premisesBy 5 35 rfl) (k_X8_premisesBy 5 36 rfl)
theorem dX8_premisesBy_357 : decode cX8_premisesBy 357 = .ok (.iaload, 1) := dz_46 (k_X8_premisesBy 5 37 rfl)
theorem dX8_premisesBy_358 : decode cX8_premisesBy 358 = .ok (.bipush 15, 2) := dz_16 (k_X8_premisesBy 5 38 rfl) (k_X8_premisesBy 5 39 rfl) rfl
theorem dX8_premisesBy_360 : decode cX8_premisesBy 360 = .ok (.if_icmp .ne 43, 3) := dz_160 (k_X8_premisesBy 5 40 rfl) (k_X8_premisesBy 5 41 rfl) (k_X8_premisesBy 5 42 rfl) rfl
theorem dX8_premisesBy_363 : decode cX8_premisesBy 363 = .ok (.aload_n 0, 1) := dz_42 (k_X8_premisesBy 5 43 rfl)
theorem dX8_premisesBy_364 : decode cX8_premisesBy 364 = .ok (.getfield 65, 3) := dz_180 (k_X8_premisesBy 5 44 rfl) (k_X8_premisesBy 5 45 rfl) (k_X8_premisesBy 5 46 rfl) rfl
theorem dX8_premisesBy_367 : decode cX8_premisesBy 367 = .ok (.iload 5, 2) := dz_21 (k_X8_premisesBy 5 47 rfl) (k_X8_premisesBy 5 48 rfl)
theorem dX8_premisesBy_369 : decode cX8_premisesBy 369 = .ok (.iaload, 1) := dz_46 (k_X8_premisesBy 5 49 rfl)
theorem dX8_premisesBy_370 : decode cX8_premisesBy 370 = .ok (.iload_n 2, 1) := dz_28 (k_X8_premisesBy 5 50 rfl)
theorem dX8_premisesBy_371 : decode cX8_premisesBy 371 = .ok (.if_icmp .ne 32, 3) := dz_160 (k_X8_premisesBy 5 51 rfl) (k_X8_premisesBy 5 52 rfl) (k_X8_premisesBy 5 53 rfl) rfl
theorem dX8_premisesBy_374 : decode cX8_premisesBy 374 = .ok (.iload 4, 2) := dz_21 (k_X8_premisesBy 5 54 rfl) (k_X8_premisesBy 5 55 rfl)
theorem dX8_premisesBy_376 : decode cX8_premisesBy 376 = .ok (.aload_n 0, 1) := dz_42 (k_X8_premisesBy 5 56 rfl)
theorem dX8_premisesBy_377 : decode cX8_premisesBy 377 = .ok (.aload_n 0, 1) := dz_42 (k_X8_premisesBy 5 57 rfl)
theorem dX8_premisesBy_378 : decode cX8_premisesBy 378 = .ok (.getfield 62, 3) := dz_180 (k_X8_premisesBy 5 58 rfl) (k_X8_premisesBy 5 59 rfl) (k_X8_premisesBy 5 60 rfl) rfl
theorem dX8_premisesBy_381 : decode cX8_premisesBy 381 = .ok (.iload 5, 2) := dz_21 (k_X8_premisesBy 5 61 rfl) (k_X8_premisesBy 5 62 rfl)
theorem dX8_premisesBy_383 : decode cX8_premisesBy 383 = .ok (.iaload, 1) := dz_46 (k_X8_premisesBy 5 63 rfl)
theorem dX8_premisesBy_384 : decode cX8_premisesBy 384 = .ok (.iload_n 3, 1) := dz_29 (k_X8_premisesBy 6 0 rfl)
theorem dX8_premisesBy_385 : decode cX8_premisesBy 385 = .ok (.invokevirtual 393, 3) := dz_182 (k_X8_premisesBy 6 1 rfl) (k_X8_premisesBy 6 2 rfl) (k_X8_premisesBy 6 3 rfl) rfl
theorem dX8_premisesBy_388 : decode cX8_premisesBy 388 = .ok (.aload_n 0, 1) := dz_42 (k_X8_premisesBy 6 4 rfl)
theorem dX8_premisesBy_389 : decode cX8_premisesBy 389 = .ok (.iload 5, 2) := dz_21 (k_X8_premisesBy 6 5 rfl) (k_X8_premisesBy 6 6 rfl)
theorem dX8_premisesBy_391 : decode cX8_premisesBy 391 = .ok (.iload_n 3, 1) := dz_29 (k_X8_premisesBy 6 7 rfl)
theorem dX8_premisesBy_392 : decode cX8_premisesBy 392 = .ok (.invokevirtual 393, 3) := dz_182 (k_X8_premisesBy 6 8 rfl) (k_X8_premisesBy 6 9 rfl) (k_X8_premisesBy 6 10 rfl) rfl
theorem dX8_premisesBy_395 : decode cX8_premisesBy 395 = .ok (.invokestatic 396, 3) := dz_184 (k_X8_premisesBy 6 11 rfl) (k_X8_premisesBy 6 12 rfl) (k_X8_premisesBy 6 13 rfl) rfl
theorem dX8_premisesBy_398 : decode cX8_premisesBy 398 = .ok (.invokestatic 388, 3) := dz_184 (k_X8_premisesBy 6 14 rfl) (k_X8_premisesBy 6 15 rfl) (k_X8_premisesBy 6 16 rfl) rfl
theorem dX8_premisesBy_401 : decode cX8_premisesBy 401 = .ok (.istore 4, 2) := dz_54 (k_X8_premisesBy 6 17 rfl) (k_X8_premisesBy 6 18 rfl)
theorem dX8_premisesBy_403 : decode cX8_premisesBy 403 = .ok (.iinc 5 1, 3) := dz_132 (k_X8_premisesBy 6 19 rfl) (k_X8_premisesBy 6 20 rfl) (k_X8_premisesBy 6 21 rfl) rfl
theorem dX8_premisesBy_406 : decode cX8_premisesBy 406 = .ok (.goto (-64), 3) := dz_167 (k_X8_premisesBy 6 22 rfl) (k_X8_premisesBy 6 23 rfl) (k_X8_premisesBy 6 24 rfl) rfl
theorem dX8_premisesBy_409 : decode cX8_premisesBy 409 = .ok (.iload 4, 2) := dz_21 (k_X8_premisesBy 6 25 rfl) (k_X8_premisesBy 6 26 rfl)
theorem dX8_premisesBy_411 : decode cX8_premisesBy 411 = .ok (.ireturn, 1) := dz_172 (k_X8_premisesBy 6 27 rfl)
theorem dX8_premisesBy_412 : decode cX8_premisesBy 412 = .ok (.iconst 0, 1) := dz_3 (k_X8_premisesBy 6 28 rfl)
theorem dX8_premisesBy_413 : decode cX8_premisesBy 413 = .ok (.istore 5, 2) := dz_54 (k_X8_premisesBy 6 29 rfl) (k_X8_premisesBy 6 30 rfl)
theorem dX8_premisesBy_415 : decode cX8_premisesBy 415 = .ok (.iload 5, 2) := dz_21 (k_X8_premisesBy 6 31 rfl) (k_X8_premisesBy 6 32 rfl)
theorem dX8_premisesBy_417 : decode cX8_premisesBy 417 = .ok (.aload_n 0, 1) := dz_42 (k_X8_premisesBy 6 33 rfl)
theorem dX8_premisesBy_418 : decode cX8_premisesBy 418 = .ok (.getfield 360, 3) := dz_180 (k_X8_premisesBy 6 34 rfl) (k_X8_premisesBy 6 35 rfl) (k_X8_premisesBy 6 36 rfl) rfl
theorem dX8_premisesBy_421 : decode cX8_premisesBy 421 = .ok (.if_icmp .ge 38, 3) := dz_162 (k_X8_premisesBy 6 37 rfl) (k_X8_premisesBy 6 38 rfl) (k_X8_premisesBy 6 39 rfl) rfl
theorem dX8_premisesBy_424 : decode cX8_premisesBy 424 = .ok (.aload_n 0, 1) := dz_42 (k_X8_premisesBy 6 40 rfl)
theorem dX8_premisesBy_425 : decode cX8_premisesBy 425 = .ok (.getfield 77, 3) := dz_180 (k_X8_premisesBy 6 41 rfl) (k_X8_premisesBy 6 42 rfl) (k_X8_premisesBy 6 43 rfl) rfl
theorem dX8_premisesBy_428 : decode cX8_premisesBy 428 = .ok (.bipush 40, 2) := dz_16 (k_X8_premisesBy 6 44 rfl) (k_X8_premisesBy 6 45 rfl) rfl
theorem dX8_premisesBy_430 : decode cX8_premisesBy 430 = .ok (.iload 5, 2) := dz_21 (k_X8_premisesBy 6 46 rfl) (k_X8_premisesBy 6 47 rfl)
theorem dX8_premisesBy_432 : decode cX8_premisesBy 432 = .ok (.imul, 1) := dz_104 (k_X8_premisesBy 6 48 rfl)
theorem dX8_premisesBy_433 : decode cX8_premisesBy 433 = .ok (.iload_n 2, 1) := dz_28 (k_X8_premisesBy 6 49 rfl)
theorem dX8_premisesBy_434 : decode cX8_premisesBy 434 = .ok (.iadd, 1) := dz_96 (k_X8_premisesBy 6 50 rfl)
theorem dX8_premisesBy_435 : decode cX8_premisesBy 435 = .ok (.baload, 1) := dz_51 (k_X8_premisesBy 6 51 rfl)
theorem dX8_premisesBy_436 : decode cX8_premisesBy 436 = .ok (.ifCond .eq 17, 3) := dz_153 (k_X8_premisesBy 6 52 rfl) (k_X8_premisesBy 6 53 rfl) (k_X8_premisesBy 6 54 rfl) rfl
theorem dX8_premisesBy_439 : decode cX8_premisesBy 439 = .ok (.iload 4, 2) := dz_21 (k_X8_premisesBy 6 55 rfl) (k_X8_premisesBy 6 56 rfl)
theorem dX8_premisesBy_441 : decode cX8_premisesBy 441 = .ok (.aload_n 0, 1) := dz_42 (k_X8_premisesBy 6 57 rfl)
theorem dX8_premisesBy_442 : decode cX8_premisesBy 442 = .ok (.iload 5, 2) := dz_21 (k_X8_premisesBy 6 58 rfl) (k_X8_premisesBy 6 59 rfl)
theorem dX8_premisesBy_444 : decode cX8_premisesBy 444 = .ok (.iload_n 3, 1) := dz_29 (k_X8_premisesBy 6 60 rfl)
theorem dX8_premisesBy_445 : decode cX8_premisesBy 445 = .ok (.invokevirtual 393, 3) := dz_182 (k_X8_premisesBy 6 61 rfl) (k_X8_premisesBy 6 62 rfl) (k_X8_premisesBy 6 63 rfl) rfl
theorem dX8_premisesBy_448 : decode cX8_premisesBy 448 = .ok (.invokestatic 388, 3) := dz_184 (k_X8_premisesBy 7 0 rfl) (k_X8_premisesBy 7 1 rfl) (k_X8_premisesBy 7 2 rfl) rfl
theorem dX8_premisesBy_451 : decode cX8_premisesBy 451 = .ok (.istore 4, 2) := dz_54 (k_X8_premisesBy 7 3 rfl) (k_X8_premisesBy 7 4 rfl)
theorem dX8_premisesBy_453 : decode cX8_premisesBy 453 = .ok (.iinc 5 1, 3) := dz_132 (k_X8_premisesBy 7 5 rfl) (k_X8_premisesBy 7 6 rfl) (k_X8_premisesBy 7 7 rfl) rfl
theorem dX8_premisesBy_456 : decode cX8_premisesBy 456 = .ok (.goto (-41), 3) := dz_167 (k_X8_premisesBy 7 8 rfl) (k_X8_premisesBy 7 9 rfl) (k_X8_premisesBy 7 10 rfl) rfl
theorem dX8_premisesBy_459 : decode cX8_premisesBy 459 = .ok (.iload 4, 2) := dz_21 (k_X8_premisesBy 7 11 rfl) (k_X8_premisesBy 7 12 rfl)
theorem dX8_premisesBy_461 : decode cX8_premisesBy 461 = .ok (.ireturn, 1) := dz_172 (k_X8_premisesBy 7 13 rfl)
theorem dX8_premisesBy_462 : decode cX8_premisesBy 462 = .ok (.iconst 0, 1) := dz_3 (k_X8_premisesBy 7 14 rfl)
theorem dX8_premisesBy_463 : decode cX8_premisesBy 463 = .ok (.istore 5, 2) := dz_54 (k_X8_premisesBy 7 15 rfl) (k_X8_premisesBy 7 16 rfl)
theorem dX8_premisesBy_465 : decode cX8_premisesBy 465 = .ok (.iload 5, 2) := dz_21 (k_X8_premisesBy 7 17 rfl) (k_X8_premisesBy 7 18 rfl)
theorem dX8_premisesBy_467 : decode cX8_premisesBy 467 = .ok (.aload_n 0, 1) := dz_42 (k_X8_premisesBy 7 19 rfl)
theorem dX8_premisesBy_468 : decode cX8_premisesBy 468 = .ok (.getfield 360, 3) := dz_180 (k_X8_premisesBy 7 20 rfl) (k_X8_premisesBy 7 21 rfl) (k_X8_premisesBy 7 22 rfl) rfl
theorem dX8_premisesBy_471 : decode cX8_premisesBy 471 = .ok (.if_icmp .ge 63, 3) := dz_162 (k_X8_premisesBy 7 23 rfl) (k_X8_premisesBy 7 24 rfl) (k_X8_premisesBy 7 25 rfl) rfl
theorem dX8_premisesBy_474 : decode cX8_premisesBy 474 = .ok (.iload 4, 2) := dz_21 (k_X8_premisesBy 7 26 rfl) (k_X8_premisesBy 7 27 rfl)
theorem dX8_premisesBy_476 : decode cX8_premisesBy 476 = .ok (.aload_n 0, 1) := dz_42 (k_X8_premisesBy 7 28 rfl)
theorem dX8_premisesBy_477 : decode cX8_premisesBy 477 = .ok (.iload 5, 2) := dz_21 (k_X8_premisesBy 7 29 rfl) (k_X8_premisesBy 7 30 rfl)
theorem dX8_premisesBy_479 : decode cX8_premisesBy 479 = .ok (.iload_n 3, 1) := dz_29 (k_X8_premisesBy 7 31 rfl)
theorem dX8_premisesBy_480 : decode cX8_premisesBy 480 = .ok (.invokevirtual 393, 3) := dz_182 (k_X8_premisesBy 7 32 rfl) (k_X8_premisesBy 7 33 rfl) (k_X8_premisesBy 7 34 rfl) rfl
theorem dX8_premisesBy_483 : decode cX8_premisesBy 483 = .ok (.aload_n 0, 1) := dz_42 (k_X8_premisesBy 7 35 rfl)
theorem dX8_premisesBy_484 : decode cX8_premisesBy 484 = .ok (.aload_n 0, 1) := dz_42 (k_X8_premisesBy 7 36 rfl)
theorem dX8_premisesBy_485 : decode cX8_premisesBy 485 = .ok (.getfield 80, 3) := dz_180 (k_X8_premisesBy 7 37 rfl) (k_X8_premisesBy 7 38 rfl) (k_X8_premisesBy 7 39 rfl) rfl
theorem dX8_premisesBy_488 : decode cX8_premisesBy 488 = .ok (.bipush 40, 2) := dz_16 (k_X8_premisesBy 7 40 rfl) (k_X8_premisesBy 7 41 rfl) rfl
theorem dX8_premisesBy_490 : decode cX8_premisesBy 490 = .ok (.iload 5, 2) := dz_21 (k_X8_premisesBy 7 42 rfl) (k_X8_premisesBy 7 43 rfl)
theorem dX8_premisesBy_492 : decode cX8_premisesBy 492 = .ok (.imul, 1) := dz_104 (k_X8_premisesBy 7 44 rfl)
theorem dX8_premisesBy_493 : decode cX8_premisesBy 493 = .ok (.iload_n 2, 1) := dz_28 (k_X8_premisesBy 7 45 rfl)
theorem dX8_premisesBy_494 : decode cX8_premisesBy 494 = .ok (.iadd, 1) := dz_96 (k_X8_premisesBy 7 46 rfl)
theorem dX8_premisesBy_495 : decode cX8_premisesBy 495 = .ok (.iaload, 1) := dz_46 (k_X8_premisesBy 7 47 rfl)
theorem dX8_premisesBy_496 : decode cX8_premisesBy 496 = .ok (.iload_n 3, 1) := dz_29 (k_X8_premisesBy 7 48 rfl)
theorem dX8_premisesBy_497 : decode cX8_premisesBy 497 = .ok (.invokevirtual 393, 3) := dz_182 (k_X8_premisesBy 7 49 rfl) (k_X8_premisesBy 7 50 rfl) (k_X8_premisesBy 7 51 rfl) rfl
theorem dX8_premisesBy_500 : decode cX8_premisesBy 500 = .ok (.aload_n 0, 1) := dz_42 (k_X8_premisesBy 7 52 rfl)
theorem dX8_premisesBy_501 : decode cX8_premisesBy 501 = .ok (.aload_n 0, 1) := dz_42 (k_X8_premisesBy 7 53 rfl)
theorem dX8_premisesBy_502 : decode cX8_premisesBy 502 = .ok (.getfield 83, 3) := dz_180 (k_X8_premisesBy 7 54 rfl) (k_X8_premisesBy 7 55 rfl) (k_X8_premisesBy 7 56 rfl) rfl
theorem dX8_premisesBy_505 : decode cX8_premisesBy 505 = .ok (.bipush 40, 2) := dz_16 (k_X8_premisesBy 7 57 rfl) (k_X8_premisesBy 7 58 rfl) rfl
theorem dX8_premisesBy_507 : decode cX8_premisesBy 507 = .ok (.iload 5, 2) := dz_21 (k_X8_premisesBy 7 59 rfl) (k_X8_premisesBy 7 60 rfl)
theorem dX8_premisesBy_509 : decode cX8_premisesBy 509 = .ok (.imul, 1) := dz_104 (k_X8_premisesBy 7 61 rfl)
theorem dX8_premisesBy_510 : decode cX8_premisesBy 510 = .ok (.iload_n 2, 1) := dz_28 (k_X8_premisesBy 7 62 rfl)
theorem dX8_premisesBy_511 : decode cX8_premisesBy 511 = .ok (.iadd, 1) := dz_96 (k_X8_premisesBy 7 63 rfl)
theorem dX8_premisesBy_512 : decode cX8_premisesBy 512 = .ok (.iaload, 1) := dz_46 (k_X8_premisesBy 8 0 rfl)
theorem dX8_premisesBy_513 : decode cX8_premisesBy 513 = .ok (.iload_n 3, 1) := dz_29 (k_X8_premisesBy 8 1 rfl)
theorem dX8_premisesBy_514 : decode cX8_premisesBy 514 = .ok (.invokevirtual 393, 3) := dz_182 (k_X8_premisesBy 8 2 rfl) (k_X8_premisesBy 8 3 rfl) (k_X8_premisesBy 8 4 rfl) rfl
theorem dX8_premisesBy_517 : decode cX8_premisesBy 517 = .ok (.invokestatic 396, 3) := dz_184 (k_X8_premisesBy 8 5 rfl) (k_X8_premisesBy 8 6 rfl) (k_X8_premisesBy 8 7 rfl) rfl
theorem dX8_premisesBy_520 : decode cX8_premisesBy 520 = .ok (.invokestatic 396, 3) := dz_184 (k_X8_premisesBy 8 8 rfl) (k_X8_premisesBy 8 9 rfl) (k_X8_premisesBy 8 10 rfl) rfl
theorem dX8_premisesBy_523 : decode cX8_premisesBy 523 = .ok (.invokestatic 388, 3) := dz_184 (k_X8_premisesBy 8 11 rfl) (k_X8_premisesBy 8 12 rfl) (k_X8_premisesBy 8 13 rfl) rfl
theorem dX8_premisesBy_526 : decode cX8_premisesBy 526 = .ok (.istore 4, 2) := dz_54 (k_X8_premisesBy 8 14 rfl) (k_X8_premisesBy 8 15 rfl)
theorem dX8_premisesBy_528 : decode cX8_premisesBy 528 = .ok (.iinc 5 1, 3) := dz_132 (k_X8_premisesBy 8 16 rfl) (k_X8_premisesBy 8 17 rfl) (k_X8_premisesBy 8 18 rfl) rfl
theorem dX8_premisesBy_531 : decode cX8_premisesBy 531 = .ok (.goto (-66), 3) := dz_167 (k_X8_premisesBy 8 19 rfl) (k_X8_premisesBy 8 20 rfl) (k_X8_premisesBy 8 21 rfl) rfl
theorem dX8_premisesBy_534 : decode cX8_premisesBy 534 = .ok (.iload 4, 2) := dz_21 (k_X8_premisesBy 8 22 rfl) (k_X8_premisesBy 8 23 rfl)
theorem dX8_premisesBy_536 : decode cX8_premisesBy 536 = .ok (.ireturn, 1) := dz_172 (k_X8_premisesBy 8 24 rfl)
theorem dX8_premisesBy_537 : decode cX8_premisesBy 537 = .ok (.aload_n 0, 1) := dz_42 (k_X8_premisesBy 8 25 rfl)
theorem dX8_premisesBy_538 : decode cX8_premisesBy 538 = .ok (.iload_n 2, 1) := dz_28 (k_X8_premisesBy 8 26 rfl)
theorem dX8_premisesBy_539 : decode cX8_premisesBy 539 = .ok (.iload_n 3, 1) := dz_29 (k_X8_premisesBy 8 27 rfl)
theorem dX8_premisesBy_540 : decode cX8_premisesBy 540 = .ok (.invokevirtual 399, 3) := dz_182 (k_X8_premisesBy 8 28 rfl) (k_X8_premisesBy 8 29 rfl) (k_X8_premisesBy 8 30 rfl) rfl
theorem dX8_premisesBy_543 : decode cX8_premisesBy 543 = .ok (.ireturn, 1) := dz_172 (k_X8_premisesBy 8 31 rfl)
theorem dX8_premisesBy_544 : decode cX8_premisesBy 544 = .ok (.iconst 0, 1) := dz_3 (k_X8_premisesBy 8 32 rfl)
theorem dX8_premisesBy_545 : decode cX8_premisesBy 545 = .ok (.istore 5, 2) := dz_54 (k_X8_premisesBy 8 33 rfl) (k_X8_premisesBy 8 34 rfl)
theorem dX8_premisesBy_547 : decode cX8_premisesBy 547 = .ok (.iload 5, 2) := dz_21 (k_X8_premisesBy 8 35 rfl) (k_X8_premisesBy 8 36 rfl)
theorem dX8_premisesBy_549 : decode cX8_premisesBy 549 = .ok (.aload_n 0, 1) := dz_42 (k_X8_premisesBy 8 37 rfl)
theorem dX8_premisesBy_550 : decode cX8_premisesBy 550 = .ok (.getfield 360, 3) := dz_180 (k_X8_premisesBy 8 38 rfl) (k_X8_premisesBy 8 39 rfl) (k_X8_premisesBy 8 40 rfl) rfl
theorem dX8_premisesBy_553 : decode cX8_premisesBy 553 = .ok (.if_icmp .ge 38, 3) := dz_162 (k_X8_premisesBy 8 41 rfl) (k_X8_premisesBy 8 42 rfl) (k_X8_premisesBy 8 43 rfl) rfl
theorem dX8_premisesBy_556 : decode cX8_premisesBy 556 = .ok (.aload_n 0, 1) := dz_42 (k_X8_premisesBy 8 44 rfl)
theorem dX8_premisesBy_557 : decode cX8_premisesBy 557 = .ok (.getfield 74, 3) := dz_180 (k_X8_premisesBy 8 45 rfl) (k_X8_premisesBy 8 46 rfl) (k_X8_premisesBy 8 47 rfl) rfl
theorem dX8_premisesBy_560 : decode cX8_premisesBy 560 = .ok (.bipush 40, 2) := dz_16 (k_X8_premisesBy 8 48 rfl) (k_X8_premisesBy 8 49 rfl) rfl
theorem dX8_premisesBy_562 : decode cX8_premisesBy 562 = .ok (.iload 5, 2) := dz_21 (k_X8_premisesBy 8 50 rfl) (k_X8_premisesBy 8 51 rfl)
theorem dX8_premisesBy_564 : decode cX8_premisesBy 564 = .ok (.imul, 1) := dz_104 (k_X8_premisesBy 8 52 rfl)
theorem dX8_premisesBy_565 : decode cX8_premisesBy 565 = .ok (.iload_n 2, 1) := dz_28 (k_X8_premisesBy 8 53 rfl)
theorem dX8_premisesBy_566 : decode cX8_premisesBy 566 = .ok (.iadd, 1) := dz_96 (k_X8_premisesBy 8 54 rfl)
theorem dX8_premisesBy_567 : decode cX8_premisesBy 567 = .ok (.baload, 1) := dz_51 (k_X8_premisesBy 8 55 rfl)
theorem dX8_premisesBy_568 : decode cX8_premisesBy 568 = .ok (.ifCond .eq 17, 3) := dz_153 (k_X8_premisesBy 8 56 rfl) (k_X8_premisesBy 8 57 rfl) (k_X8_premisesBy 8 58 rfl) rfl
theorem dX8_premisesBy_571 : decode cX8_premisesBy 571 = .ok (.iload 4, 2) := dz_21 (k_X8_premisesBy 8 59 rfl) (k_X8_premisesBy 8 60 rfl)
theorem dX8_premisesBy_573 : decode cX8_premisesBy 573 = .ok (.aload_n 0, 1) := dz_42 (k_X8_premisesBy 8 61 rfl)
theorem dX8_premisesBy_574 : decode cX8_premisesBy 574 = .ok (.iload 5, 2) := dz_21 (k_X8_premisesBy 8 62 rfl) (k_X8_premisesBy 8 63 rfl)
theorem dX8_premisesBy_576 : decode cX8_premisesBy 576 = .ok (.iload_n 3, 1) := dz_29 (k_X8_premisesBy 9 0 rfl)
theorem dX8_premisesBy_577 : decode cX8_premisesBy 577 = .ok (.invokevirtual 393, 3) := dz_182 (k_X8_premisesBy 9 1 rfl) (k_X8_premisesBy 9 2 rfl) (k_X8_premisesBy 9 3 rfl) rfl
theorem dX8_premisesBy_580 : decode cX8_premisesBy 580 = .ok (.invokestatic 388, 3) := dz_184 (k_X8_premisesBy 9 4 rfl) (k_X8_premisesBy 9 5 rfl) (k_X8_premisesBy 9 6 rfl) rfl
theorem dX8_premisesBy_583 : decode cX8_premisesBy 583 = .ok (.istore 4, 2) := dz_54 (k_X8_premisesBy 9 7 rfl) (k_X8_premisesBy 9 8 rfl)
theorem dX8_premisesBy_585 : decode cX8_premisesBy 585 = .ok (.iinc 5 1, 3) := dz_132 (k_X8_premisesBy 9 9 rfl) (k_X8_premisesBy 9 10 rfl) (k_X8_premisesBy 9 11 rfl) rfl
theorem dX8_premisesBy_588 : decode cX8_premisesBy 588 = .ok (.goto (-41), 3) := dz_167 (k_X8_premisesBy 9 12 rfl) (k_X8_premisesBy 9 13 rfl) (k_X8_premisesBy 9 14 rfl) rfl
theorem dX8_premisesBy_591 : decode cX8_premisesBy 591 = .ok (.iload 4, 2) := dz_21 (k_X8_premisesBy 9 15 rfl) (k_X8_premisesBy 9 16 rfl)
theorem dX8_premisesBy_593 : decode cX8_premisesBy 593 = .ok (.ireturn, 1) := dz_172 (k_X8_premisesBy 9 17 rfl)
theorem dX8_premisesBy_594 : decode cX8_premisesBy 594 = .ok (.aload_n 0, 1) := dz_42 (k_X8_premisesBy 9 18 rfl)
theorem dX8_premisesBy_595 : decode cX8_premisesBy 595 = .ok (.getfield 59, 3) := dz_180 (k_X8_premisesBy 9 19 rfl) (k_X8_premisesBy 9 20 rfl) (k_X8_premisesBy 9 21 rfl) rfl
theorem dX8_premisesBy_598 : decode cX8_premisesBy 598 = .ok (.iload_n 2, 1) := dz_28 (k_X8_premisesBy 9 22 rfl)
theorem dX8_premisesBy_599 : decode cX8_premisesBy 599 = .ok (.iaload, 1) := dz_46 (k_X8_premisesBy 9 23 rfl)
theorem dX8_premisesBy_600 : decode cX8_premisesBy 600 = .ok (.bipush 16, 2) := dz_16 (k_X8_premisesBy 9 24 rfl) (k_X8_premisesBy 9 25 rfl) rfl
theorem dX8_premisesBy_602 : decode cX8_premisesBy 602 = .ok (.if_icmp .eq 7, 3) := dz_159 (k_X8_premisesBy 9 26 rfl) (k_X8_premisesBy 9 27 rfl) (k_X8_premisesBy 9 28 rfl) rfl
theorem dX8_premisesBy_605 : decode cX8_premisesBy 605 = .ok (.ldc_w 387, 3) := dz_19 (k_X8_premisesBy 9 29 rfl) (k_X8_premisesBy 9 30 rfl) (k_X8_premisesBy 9 31 rfl) rfl
theorem dX8_premisesBy_608 : decode cX8_premisesBy 608 = .ok (.ireturn, 1) := dz_172 (k_X8_premisesBy 9 32 rfl)
theorem dX8_premisesBy_609 : decode cX8_premisesBy 609 = .ok (.iconst 0, 1) := dz_3 (k_X8_premisesBy 9 33 rfl)
theorem dX8_premisesBy_610 : decode cX8_premisesBy 610 = .ok (.istore 4, 2) := dz_54 (k_X8_premisesBy 9 34 rfl) (k_X8_premisesBy 9 35 rfl)
theorem dX8_premisesBy_612 : decode cX8_premisesBy 612 = .ok (.iconst 0, 1) := dz_3 (k_X8_premisesBy 9 36 rfl)
theorem dX8_premisesBy_613 : decode cX8_premisesBy 613 = .ok (.istore 5, 2) := dz_54 (k_X8_premisesBy 9 37 rfl) (k_X8_premisesBy 9 38 rfl)
theorem dX8_premisesBy_615 : decode cX8_premisesBy 615 = .ok (.iload 5, 2) := dz_21 (k_X8_premisesBy 9 39 rfl) (k_X8_premisesBy 9 40 rfl)
theorem dX8_premisesBy_617 : decode cX8_premisesBy 617 = .ok (.aload_n 0, 1) := dz_42 (k_X8_premisesBy 9 41 rfl)
theorem dX8_premisesBy_618 : decode cX8_premisesBy 618 = .ok (.invokevirtual 138, 3) := dz_182 (k_X8_premisesBy 9 42 rfl) (k_X8_premisesBy 9 43 rfl) (k_X8_premisesBy 9 44 rfl) rfl
theorem dX8_premisesBy_621 : decode cX8_premisesBy 621 = .ok (.if_icmp .ge 32, 3) := dz_162 (k_X8_premisesBy 9 45 rfl) (k_X8_premisesBy 9 46 rfl) (k_X8_premisesBy 9 47 rfl) rfl
theorem dX8_premisesBy_624 : decode cX8_premisesBy 624 = .ok (.iload 4, 2) := dz_21 (k_X8_premisesBy 9 48 rfl) (k_X8_premisesBy 9 49 rfl)
theorem dX8_premisesBy_626 : decode cX8_premisesBy 626 = .ok (.aload_n 0, 1) := dz_42 (k_X8_premisesBy 9 50 rfl)
theorem dX8_premisesBy_627 : decode cX8_premisesBy 627 = .ok (.aload_n 0, 1) := dz_42 (k_X8_premisesBy 9 51 rfl)
theorem dX8_premisesBy_628 : decode cX8_premisesBy 628 = .ok (.getfield 68, 3) := dz_180 (k_X8_premisesBy 9 52 rfl) (k_X8_premisesBy 9 53 rfl) (k_X8_premisesBy 9 54 rfl) rfl
theorem dX8_premisesBy_631 : decode cX8_premisesBy 631 = .ok (.iconst 3, 1) := dz_6 (k_X8_premisesBy 9 55 rfl)
theorem dX8_premisesBy_632 : decode cX8_premisesBy 632 = .ok (.iload_n 2, 1) := dz_28 (k_X8_premisesBy 9 56 rfl)
theorem dX8_premisesBy_633 : decode cX8_premisesBy 633 = .ok (.imul, 1) := dz_104 (k_X8_premisesBy 9 57 rfl)
theorem dX8_premisesBy_634 : decode cX8_premisesBy 634 = .ok (.iload 5, 2) := dz_21 (k_X8_premisesBy 9 58 rfl) (k_X8_premisesBy 9 59 rfl)
theorem dX8_premisesBy_636 : decode cX8_premisesBy 636 = .ok (.iadd, 1) := dz_96 (k_X8_premisesBy 9 60 rfl)
theorem dX8_premisesBy_637 : decode cX8_premisesBy 637 = .ok (.iaload, 1) := dz_46 (k_X8_premisesBy 9 61 rfl)
theorem dX8_premisesBy_638 : decode cX8_premisesBy 638 = .ok (.iload_n 3, 1) := dz_29 (k_X8_premisesBy 9 62 rfl)
theorem dX8_premisesBy_639 : decode cX8_premisesBy 639 = .ok (.invokevirtual 393, 3) := dz_182 (k_X8_premisesBy 9 63 rfl) (k_X8_premisesBy 10 0 rfl) (k_X8_premisesBy 10 1 rfl) rfl
theorem dX8_premisesBy_642 : decode cX8_premisesBy 642 = .ok (.invokestatic 396, 3) := dz_184 (k_X8_premisesBy 10 2 rfl) (k_X8_premisesBy 10 3 rfl) (k_X8_premisesBy 10 4 rfl) rfl
theorem dX8_premisesBy_645 : decode cX8_premisesBy 645 = .ok (.istore 4, 2) := dz_54 (k_X8_premisesBy 10 5 rfl) (k_X8_premisesBy 10 6 rfl)
theorem dX8_premisesBy_647 : decode cX8_premisesBy 647 = .ok (.iinc 5 1, 3) := dz_132 (k_X8_premisesBy 10 7 rfl) (k_X8_premisesBy 10 8 rfl) (k_X8_premisesBy 10 9 rfl) rfl
theorem dX8_premisesBy_650 : decode cX8_premisesBy 650 = .ok (.goto (-35), 3) := dz_167 (k_X8_premisesBy 10 10 rfl) (k_X8_premisesBy 10 11 rfl) (k_X8_premisesBy 10 12 rfl) rfl
theorem dX8_premisesBy_653 : decode cX8_premisesBy 653 = .ok (.iload 4, 2) := dz_21 (k_X8_premisesBy 10 13 rfl) (k_X8_premisesBy 10 14 rfl)
theorem dX8_premisesBy_655 : decode cX8_premisesBy 655 = .ok (.ireturn, 1) := dz_172 (k_X8_premisesBy 10 15 rfl)
theorem dX8_premisesBy_656 : decode cX8_premisesBy 656 = .ok (.iconst 0, 1) := dz_3 (k_X8_premisesBy 10 16 rfl)
theorem dX8_premisesBy_657 : decode cX8_premisesBy 657 = .ok (.istore 5, 2) := dz_54 (k_X8_premisesBy 10 17 rfl) (k_X8_premisesBy 10 18 rfl)
theorem dX8_premisesBy_659 : decode cX8_premisesBy 659 = .ok (.iload 5, 2) := dz_21 (k_X8_premisesBy 10 19 rfl) (k_X8_premisesBy 10 20 rfl)
theorem dX8_premisesBy_661 : decode cX8_premisesBy 661 = .ok (.aload_n 0, 1) := dz_42 (k_X8_premisesBy 10 21 rfl)
theorem dX8_premisesBy_662 : decode cX8_premisesBy 662 = .ok (.invokevirtual 138, 3) := dz_182 (k_X8_premisesBy 10 22 rfl) (k_X8_premisesBy 10 23 rfl) (k_X8_premisesBy 10 24 rfl) rfl
theorem dX8_premisesBy_665 : decode cX8_premisesBy 665 = .ok (.if_icmp .ge 43, 3) := dz_162 (k_X8_premisesBy 10 25 rfl) (k_X8_premisesBy 10 26 rfl) (k_X8_premisesBy 10 27 rfl) rfl
theorem dX8_premisesBy_668 : decode cX8_premisesBy 668 = .ok (.aload_n 0, 1) := dz_42 (k_X8_premisesBy 10 28 rfl)
theorem dX8_premisesBy_669 : decode cX8_premisesBy 669 = .ok (.getfield 59, 3) := dz_180 (k_X8_premisesBy 10 29 rfl) (k_X8_premisesBy 10 30 rfl) (k_X8_premisesBy 10 31 rfl) rfl
theorem dX8_premisesBy_672 : decode cX8_premisesBy 672 = .ok (.iload_n 2, 1) := dz_28 (k_X8_premisesBy 10 32 rfl)
theorem dX8_premisesBy_673 : decode cX8_premisesBy 673 = .ok (.iaload, 1) := dz_46 (k_X8_premisesBy 10 33 rfl)
theorem dX8_premisesBy_674 : decode cX8_premisesBy 674 = .ok (.bipush 17, 2) := dz_16 (k_X8_premisesBy 10 34 rfl) (k_X8_premisesBy 10 35 rfl) rfl
theorem dX8_premisesBy_676 : decode cX8_premisesBy 676 = .ok (.if_icmp .ne 32, 3) := dz_160 (k_X8_premisesBy 10 36 rfl) (k_X8_premisesBy 10 37 rfl) (k_X8_premisesBy 10 38 rfl) rfl
theorem dX8_premisesBy_679 : decode cX8_premisesBy 679 = .ok (.iload 4, 2) := dz_21 (k_X8_premisesBy 10 39 rfl) (k_X8_premisesBy 10 40 rfl)
theorem dX8_premisesBy_681 : decode cX8_premisesBy 681 = .ok (.aload_n 0, 1) := dz_42 (k_X8_premisesBy 10 41 rfl)
theorem dX8_premisesBy_682 : decode cX8_premisesBy 682 = .ok (.aload_n 0, 1) := dz_42 (k_X8_premisesBy 10 42 rfl)
theorem dX8_premisesBy_683 : decode cX8_premisesBy 683 = .ok (.getfield 68, 3) := dz_180 (k_X8_premisesBy 10 43 rfl) (k_X8_premisesBy 10 44 rfl) (k_X8_premisesBy 10 45 rfl) rfl
theorem dX8_premisesBy_686 : decode cX8_premisesBy 686 = .ok (.iconst 3, 1) := dz_6 (k_X8_premisesBy 10 46 rfl)
theorem dX8_premisesBy_687 : decode cX8_premisesBy 687 = .ok (.iload_n 2, 1) := dz_28 (k_X8_premisesBy 10 47 rfl)
theorem dX8_premisesBy_688 : decode cX8_premisesBy 688 = .ok (.imul, 1) := dz_104 (k_X8_premisesBy 10 48 rfl)
theorem dX8_premisesBy_689 : decode cX8_premisesBy 689 = .ok (.iload 5, 2) := dz_21 (k_X8_premisesBy 10 49 rfl) (k_X8_premisesBy 10 50 rfl)
theorem dX8_premisesBy_691 : decode cX8_premisesBy 691 = .ok (.iadd, 1) := dz_96 (k_X8_premisesBy 10 51 rfl)
theorem dX8_premisesBy_692 : decode cX8_premisesBy 692 = .ok (.iaload, 1) := dz_46 (k_X8_premisesBy 10 52 rfl)
theorem dX8_premisesBy_693 : decode cX8_premisesBy 693 = .ok (.iload_n 3, 1) := dz_29 (k_X8_premisesBy 10 53 rfl)
theorem dX8_premisesBy_694 : decode cX8_premisesBy 694 = .ok (.invokevirtual 393, 3) := dz_182 (k_X8_premisesBy 10 54 rfl) (k_X8_premisesBy 10 55 rfl) (k_X8_premisesBy 10 56 rfl) rfl
theorem dX8_premisesBy_697 : decode cX8_premisesBy 697 = .ok (.invokestatic 388, 3) := dz_184 (k_X8_premisesBy 10 57 rfl) (k_X8_premisesBy 10 58 rfl) (k_X8_premisesBy 10 59 rfl) rfl
theorem dX8_premisesBy_700 : decode cX8_premisesBy 700 = .ok (.istore 4, 2) := dz_54 (k_X8_premisesBy 10 60 rfl) (k_X8_premisesBy 10 61 rfl)
theorem dX8_premisesBy_702 : decode cX8_premisesBy 702 = .ok (.iinc 5 1, 3) := dz_132 (k_X8_premisesBy 10 62 rfl) (k_X8_premisesBy 10 63 rfl) (k_X8_premisesBy 11 0 rfl) rfl
theorem dX8_premisesBy_705 : decode cX8_premisesBy 705 = .ok (.goto (-46), 3) := dz_167 (k_X8_premisesBy 11 1 rfl) (k_X8_premisesBy 11 2 rfl) (k_X8_premisesBy 11 3 rfl) rfl
theorem dX8_premisesBy_708 : decode cX8_premisesBy 708 = .ok (.iload 4, 2) := dz_21 (k_X8_premisesBy 11 4 rfl) (k_X8_premisesBy 11 5 rfl)
theorem dX8_premisesBy_710 : decode cX8_premisesBy 710 = .ok (.ireturn, 1) := dz_172 (k_X8_premisesBy 11 6 rfl)
theorem dX8_premisesBy_711 : decode cX8_premisesBy 711 = .ok (.iconst 0, 1) := dz_3 (k_X8_premisesBy 11 7 rfl)
theorem dX8_premisesBy_712 : decode cX8_premisesBy 712 = .ok (.istore 5, 2) := dz_54 (k_X8_premisesBy 11 8 rfl) (k_X8_premisesBy 11 9 rfl)
theorem dX8_premisesBy_714 : decode cX8_premisesBy 714 = .ok (.iload 5, 2) := dz_21 (k_X8_premisesBy 11 10 rfl) (k_X8_premisesBy 11 11 rfl)
theorem dX8_premisesBy_716 : decode cX8_premisesBy 716 = .ok (.aload_n 0, 1) := dz_42 (k_X8_premisesBy 11 12 rfl)
theorem dX8_premisesBy_717 : decode cX8_premisesBy 717 = .ok (.getfield 360, 3) := dz_180 (k_X8_premisesBy 11 13 rfl) (k_X8_premisesBy 11 14 rfl) (k_X8_premisesBy 11 15 rfl) rfl
theorem dX8_premisesBy_720 : decode cX8_premisesBy 720 = .ok (.if_icmp .ge 50, 3) := dz_162 (k_X8_premisesBy 11 16 rfl) (k_X8_premisesBy 11 17 rfl) (k_X8_premisesBy 11 18 rfl) rfl
theorem dX8_premisesBy_723 : decode cX8_premisesBy 723 = .ok (.aload_n 0, 1) := dz_42 (k_X8_premisesBy 11 19 rfl)
theorem dX8_premisesBy_724 : decode cX8_premisesBy 724 = .ok (.getfield 59, 3) := dz_180 (k_X8_premisesBy 11 20 rfl) (k_X8_premisesBy 11 21 rfl) (k_X8_premisesBy 11 22 rfl) rfl
theorem dX8_premisesBy_727 : decode cX8_premisesBy 727 = .ok (.iload 5, 2) := dz_21 (k_X8_premisesBy 11 23 rfl) (k_X8_premisesBy 11 24 rfl)
theorem dX8_premisesBy_729 : decode cX8_premisesBy 729 = .ok (.iaload, 1) := dz_46 (k_X8_premisesBy 11 25 rfl)
theorem dX8_premisesBy_730 : decode cX8_premisesBy 730 = .ok (.bipush 12, 2) := dz_16 (k_X8_premisesBy 11 26 rfl) (k_X8_premisesBy 11 27 rfl) rfl
theorem dX8_premisesBy_732 : decode cX8_premisesBy 732 = .ok (.if_icmp .ne 32, 3) := dz_160 (k_X8_premisesBy 11 28 rfl) (k_X8_premisesBy 11 29 rfl) (k_X8_premisesBy 11 30 rfl) rfl
theorem dX8_premisesBy_735 : decode cX8_premisesBy 735 = .ok (.iload 4, 2) := dz_21 (k_X8_premisesBy 11 31 rfl) (k_X8_premisesBy 11 32 rfl)
theorem dX8_premisesBy_737 : decode cX8_premisesBy 737 = .ok (.aload_n 0, 1) := dz_42 (k_X8_premisesBy 11 33 rfl)
theorem dX8_premisesBy_738 : decode cX8_premisesBy 738 = .ok (.aload_n 0, 1) := dz_42 (k_X8_premisesBy 11 34 rfl)
theorem dX8_premisesBy_739 : decode cX8_premisesBy 739 = .ok (.getfield 62, 3) := dz_180 (k_X8_premisesBy 11 35 rfl) (k_X8_premisesBy 11 36 rfl) (k_X8_premisesBy 11 37 rfl) rfl
theorem dX8_premisesBy_742 : decode cX8_premisesBy 742 = .ok (.iload 5, 2) := dz_21 (k_X8_premisesBy 11 38 rfl) (k_X8_premisesBy 11 39 rfl)
theorem dX8_premisesBy_744 : decode cX8_premisesBy 744 = .ok (.iaload, 1) := dz_46 (k_X8_premisesBy 11 40 rfl)
theorem dX8_premisesBy_745 : decode cX8_premisesBy 745 = .ok (.iload_n 3, 1) := dz_29 (k_X8_premisesBy 11 41 rfl)
theorem dX8_premisesBy_746 : decode cX8_premisesBy 746 = .ok (.invokevirtual 393, 3) := dz_182 (k_X8_premisesBy 11 42 rfl) (k_X8_premisesBy 11 43 rfl) (k_X8_premisesBy 11 44 rfl) rfl
theorem dX8_premisesBy_749 : decode cX8_premisesBy 749 = .ok (.aload_n 0, 1) := dz_42 (k_X8_premisesBy 11 45 rfl)
theorem dX8_premisesBy_750 : decode cX8_premisesBy 750 = .ok (.iload 5, 2) := dz_21 (k_X8_premisesBy 11 46 rfl) (k_X8_premisesBy 11 47 rfl)
theorem dX8_premisesBy_752 : decode cX8_premisesBy 752 = .ok (.iload_n 3, 1) := dz_29 (k_X8_premisesBy 11 48 rfl)
theorem dX8_premisesBy_753 : decode cX8_premisesBy 753 = .ok (.invokevirtual 393, 3) := dz_182 (k_X8_premisesBy 11 49 rfl) (k_X8_premisesBy 11 50 rfl) (k_X8_premisesBy 11 51 rfl) rfl
theorem dX8_premisesBy_756 : decode cX8_premisesBy 756 = .ok (.invokestatic 396, 3) := dz_184 (k_X8_premisesBy 11 52 rfl) (k_X8_premisesBy 11 53 rfl) (k_X8_premisesBy 11 54 rfl) rfl
theorem dX8_premisesBy_759 : decode cX8_premisesBy 759 = .ok (.invokestatic 388, 3) := dz_184 (k_X8_premisesBy 11 55 rfl) (k_X8_premisesBy 11 56 rfl) (k_X8_premisesBy 11 57 rfl) rfl
theorem dX8_premisesBy_762 : decode cX8_premisesBy 762 = .ok (.istore 4, 2) := dz_54 (k_X8_premisesBy 11 58 rfl) (k_X8_premisesBy 11 59 rfl)
theorem dX8_premisesBy_764 : decode cX8_premisesBy 764 = .ok (.iinc 5 1, 3) := dz_132 (k_X8_premisesBy 11 60 rfl) (k_X8_premisesBy 11 61 rfl) (k_X8_premisesBy 11 62 rfl) rfl
theorem dX8_premisesBy_767 : decode cX8_premisesBy 767 = .ok (.goto (-53), 3) := dz_167 (k_X8_premisesBy 11 63 rfl) (k_X8_premisesBy 12 0 rfl) (k_X8_premisesBy 12 1 rfl) rfl
theorem dX8_premisesBy_770 : decode cX8_premisesBy 770 = .ok (.iload 4, 2) := dz_21 (k_X8_premisesBy 12 2 rfl) (k_X8_premisesBy 12 3 rfl)
theorem dX8_premisesBy_772 : decode cX8_premisesBy 772 = .ok (.ireturn, 1) := dz_172 (k_X8_premisesBy 12 4 rfl)
def B_X8_price : List (List Nat) := [[42, 3, 181, 0, 3, 42, 27, 184, 0, 246, 154, 0, 13, 28, 3, 16, 16, 184, 0, 107, 154, 0, 7, 4, 167, 0, 4, 3, 4, 182, 0, 224, 154, 0, 37, 42, 29, 3, 28, 16, 16, 160, 0, 8, 16, 9, 167, 0, 5, 16, 99, 184, 0, 107, 154, 0, 7, 4, 167, 0, 4, 3, 5, 182], [0, 224, 153, 0, 5, 3, 172, 7, 16, 18, 27, 104, 96, 4, 96, 28, 96, 54, 4, 42, 180, 0, 13, 21, 4, 46, 54, 5, 42, 180, 0, 13, 21, 4, 29, 79, 21, 5, 172]]
theorem k_X8_price (j i : Nat) {b : Nat} (h : (B_X8_price[j]?.bind fun c => c[i]?) = some b) : s_by cX8_price (64 * j + i) b := s_byC (L := B_X8_price) (by decide +kernel) (by decide +kernel) j i h
theorem dX8_price_0 : decode cX8_price 0 = .ok (.aload_n 0, 1) := dz_42 (k_X8_price 0 0 rfl)
theorem dX8_price_1 : decode cX8_price 1 = .ok (.iconst 0, 1) := dz_3 (k_X8_price 0 1 rfl)
theorem dX8_price_2 : decode cX8_price 2 = .ok (.putfield 3, 3) := dz_181 (k_X8_price 0 2 rfl) (k_X8_price 0 3 rfl) (k_X8_price 0 4 rfl) rfl
theorem dX8_price_5 : decode cX8_price 5 = .ok (.aload_n 0, 1) := dz_42 (k_X8_price 0 5 rfl)
theorem dX8_price_6 : decode cX8_price 6 = .ok (.iload_n 1, 1) := dz_27 (k_X8_price 0 6 rfl)
theorem dX8_price_7 : decode cX8_price 7 = .ok (.invokestatic 246, 3) := dz_184 (k_X8_price 0 7 rfl) (k_X8_price 0 8 rfl) (k_X8_price 0 9 rfl) rfl
theorem dX8_price_10 : decode cX8_price 10 = .ok (.ifCond .ne 13, 3) := dz_154 (k_X8_price 0 10 rfl) (k_X8_price 0 11 rfl) (k_X8_price 0 12 rfl) rfl
theorem dX8_price_13 : decode cX8_price 13 = .ok (.iload_n 2, 1) := dz_28 (k_X8_price 0 13 rfl)
theorem dX8_price_14 : decode cX8_price 14 = .ok (.iconst 0, 1) := dz_3 (k_X8_price 0 14 rfl)
theorem dX8_price_15 : decode cX8_price 15 = .ok (.bipush 16, 2) := dz_16 (k_X8_price 0 15 rfl) (k_X8_price 0 16 rfl) rfl
theorem dX8_price_17 : decode cX8_price 17 = .ok (.invokestatic 107, 3) := dz_184 (k_X8_price 0 17 rfl) (k_X8_price 0 18 rfl) (k_X8_price 0 19 rfl) rfl
theorem dX8_price_20 : decode cX8_price 20 = .ok (.ifCond .ne 7, 3) := dz_154 (k_X8_price 0 20 rfl) (k_X8_price 0 21 rfl) (k_X8_price 0 22 rfl) rfl
theorem dX8_price_23 : decode cX8_price 23 = .ok (.iconst 1, 1) := dz_4 (k_X8_price 0 23 rfl)
theorem dX8_price_24 : decode cX8_price 24 = .ok (.goto 4, 3) := dz_167 (k_X8_price 0 24 rfl) (k_X8_price 0 25 rfl) (k_X8_price 0 26 rfl) rfl
theorem dX8_price_27 : decode cX8_price 27 = .ok (.iconst 0, 1) := dz_3 (k_X8_price 0 27 rfl)
theorem dX8_price_28 : decode cX8_price 28 = .ok (.iconst 1, 1) := dz_4 (k_X8_price 0 28 rfl)
theorem dX8_price_29 : decode cX8_price 29 = .ok (.invokevirtual 224, 3) := dz_182 (k_X8_price 0 29 rfl) (k_X8_price 0 30 rfl) (k_X8_price 0 31 rfl) rfl
theorem dX8_price_32 : decode cX8_price 32 = .ok (.ifCond .ne 37, 3) := dz_154 (k_X8_price 0 32 rfl) (k_X8_price 0 33 rfl) (k_X8_price 0 34 rfl) rfl
theorem dX8_price_35 : decode cX8_price 35 = .ok (.aload_n 0, 1) := dz_42 (k_X8_price 0 35 rfl)
theorem dX8_price_36 : decode cX8_price 36 = .ok (.iload_n 3, 1) := dz_29 (k_X8_price 0 36 rfl)
theorem dX8_price_37 : decode cX8_price 37 = .ok (.iconst 0, 1) := dz_3 (k_X8_price 0 37 rfl)
theorem dX8_price_38 : decode cX8_price 38 = .ok (.iload_n 2, 1) := dz_28 (k_X8_price 0 38 rfl)
theorem dX8_price_39 : decode cX8_price 39 = .ok (.bipush 16, 2) := dz_16 (k_X8_price 0 39 rfl) (k_X8_price 0 40 rfl) rfl
theorem dX8_price_41 : decode cX8_price 41 = .ok (.if_icmp .ne 8, 3) := dz_160 (k_X8_price 0 41 rfl) (k_X8_price 0 42 rfl) (k_X8_price 0 43 rfl) rfl
theorem dX8_price_44 : decode cX8_price 44 = .ok (.bipush 9, 2) := dz_16 (k_X8_price 0 44 rfl) (k_X8_price 0 45 rfl) rfl
theorem dX8_price_46 : decode cX8_price 46 = .ok (.goto 5, 3) := dz_167 (k_X8_price 0 46 rfl) (k_X8_price 0 47 rfl) (k_X8_price 0 48 rfl) rfl
theorem dX8_price_49 : decode cX8_price 49 = .ok (.bipush 99, 2) := dz_16 (k_X8_price 0 49 rfl) (k_X8_price 0 50 rfl) rfl
theorem dX8_price_51 : decode cX8_price 51 = .ok (.invokestatic 107, 3) := dz_184 (k_X8_price 0 51 rfl) (k_X8_price 0 52 rfl) (k_X8_price 0 53 rfl) rfl
theorem dX8_price_54 : decode cX8_price 54 = .ok (.ifCond .ne 7, 3) := dz_154 (k_X8_price 0 54 rfl) (k_X8_price 0 55 rfl) (k_X8_price 0 56 rfl) rfl
theorem dX8_price_57 : decode cX8_price 57 = .ok (.iconst 1, 1) := dz_4 (k_X8_price 0 57 rfl)
theorem dX8_price_58 : decode cX8_price 58 = .ok (.goto 4, 3) := dz_167 (k_X8_price 0 58 rfl) (k_X8_price 0 59 rfl) (k_X8_price 0 60 rfl) rfl
theorem dX8_price_61 : decode cX8_price 61 = .ok (.iconst 0, 1) := dz_3 (k_X8_price 0 61 rfl)
theorem dX8_price_62 : decode cX8_price 62 = .ok (.iconst 2, 1) := dz_5 (k_X8_price 0 62 rfl)
theorem dX8_price_63 : decode cX8_price 63 = .ok (.invokevirtual 224, 3) := dz_182 (k_X8_price 0 63 rfl) (k_X8_price 1 0 rfl) (k_X8_price 1 1 rfl) rfl
theorem dX8_price_66 : decode cX8_price 66 = .ok (.ifCond .eq 5, 3) := dz_153 (k_X8_price 1 2 rfl) (k_X8_price 1 3 rfl) (k_X8_price 1 4 rfl) rfl
theorem dX8_price_69 : decode cX8_price 69 = .ok (.iconst 0, 1) := dz_3 (k_X8_price 1 5 rfl)
theorem dX8_price_70 : decode cX8_price 70 = .ok (.ireturn, 1) := dz_172 (k_X8_price 1 6 rfl)
theorem dX8_price_71 : decode cX8_price 71 = .ok (.iconst 4, 1) := dz_7 (k_X8_price 1 7 rfl)
theorem dX8_price_72 : decode cX8_price 72 = .ok (.bipush 18, 2) := dz_16 (k_X8_price 1 8 rfl) (k_X8_price 1 9 rfl) rfl
theorem dX8_price_74 : decode cX8_price 74 = .ok (.iload_n 1, 1) := dz_27 (k_X8_price 1 10 rfl)
theorem dX8_price_75 : decode cX8_price 75 = .ok (.imul, 1) := dz_104 (k_X8_price 1 11 rfl)
theorem dX8_price_76 : decode cX8_price 76 = .ok (.iadd, 1) := dz_96 (k_X8_price 1 12 rfl)
theorem dX8_price_77 : decode cX8_price 77 = .ok (.iconst 1, 1) := dz_4 (k_X8_price 1 13 rfl)
theorem dX8_price_78 : decode cX8_price 78 = .ok (.iadd, 1) := dz_96 (k_X8_price 1 14 rfl)
theorem dX8_price_79 : decode cX8_price 79 = .ok (.iload_n 2, 1) := dz_28 (k_X8_price 1 15 rfl)
theorem dX8_price_80 : decode cX8_price 80 = .ok (.iadd, 1) := dz_96 (k_X8_price 1 16 rfl)
theorem dX8_price_81 : decode cX8_price 81 = .ok (.istore 4, 2) := dz_54 (k_X8_price 1 17 rfl) (k_X8_price 1 18 rfl)
theorem dX8_price_83 : decode cX8_price 83 = .ok (.aload_n 0, 1) := dz_42 (k_X8_price 1 19 rfl)
theorem dX8_price_84 : decode cX8_price 84 = .ok (.getfield 13, 3) := dz_180 (k_X8_price 1 20 rfl) (k_X8_price 1 21 rfl) (k_X8_price 1 22 rfl) rfl
theorem dX8_price_87 : decode cX8_price 87 = .ok (.iload 4, 2) := dz_21 (k_X8_price 1 23 rfl) (k_X8_price 1 24 rfl)
theorem dX8_price_89 : decode cX8_price 89 = .ok (.iaload, 1) := dz_46 (k_X8_price 1 25 rfl)
theorem dX8_price_90 : decode cX8_price 90 = .ok (.istore 5, 2) := dz_54 (k_X8_price 1 26 rfl) (k_X8_price 1 27 rfl)
theorem dX8_price_92 : decode cX8_price 92 = .ok (.aload_n 0, 1) := dz_42 (k_X8_price 1 28 rfl)
theorem dX8_price_93 : decode cX8_price 93 = .ok (.getfield 13, 3) := dz_180 (k_X8_price 1 29 rfl) (k_X8_price 1 30 rfl) (k_X8_price 1 31 rfl) rfl
theorem dX8_price_96 : decode cX8_price 96 = .ok (.iload 4, 2) := dz_21 (k_X8_price 1 32 rfl) (k_X8_price 1 33 rfl)
theorem dX8_price_98 : decode cX8_price 98 = .ok (.iload_n 3, 1) := dz_29 (k_X8_price 1 34 rfl)
theorem dX8_price_99 : decode cX8_price 99 = .ok (.iastore, 1) := dz_79 (k_X8_price 1 35 rfl)
theorem dX8_price_100 : decode cX8_price 100 = .ok (.iload 5, 2) := dz_21 (k_X8_price 1 36 rfl) (k_X8_price 1 37 rfl)
theorem dX8_price_102 : decode cX8_price 102 = .ok (.ireturn, 1) := dz_172 (k_X8_price 1 38 rfl)
