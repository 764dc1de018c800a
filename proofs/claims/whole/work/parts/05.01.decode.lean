def B_J0_charAt_5068e : List (List Nat) := [[42, 182, 1, 236, 153, 0, 12, 42, 180, 0, 9, 27, 184, 1, 239, 172, 42, 180, 0, 9, 27, 184, 1, 242, 172]]
theorem k_J0_charAt_5068e (j i : Nat) {b : Nat} (h : (B_J0_charAt_5068e[j]?.bind fun c => c[i]?) = some b) : s_by cJ0_charAt_5068e (64 * j + i) b := s_byC (L := B_J0_charAt_5068e) (by decide +kernel) (by decide +kernel) j i h
theorem dJ0_charAt_5068e_0 : decode cJ0_charAt_5068e 0 = .ok (.aload_n 0, 1) := dz_42 (k_J0_charAt_5068e 0 0 rfl)
theorem dJ0_charAt_5068e_1 : decode cJ0_charAt_5068e 1 = .ok (.invokevirtual 492, 3) := dz_182 (k_J0_charAt_5068e 0 1 rfl) (k_J0_charAt_5068e 0 2 rfl) (k_J0_charAt_5068e 0 3 rfl) rfl
theorem dJ0_charAt_5068e_4 : decode cJ0_charAt_5068e 4 = .ok (.ifCond .eq 12, 3) := dz_153 (k_J0_charAt_5068e 0 4 rfl) (k_J0_charAt_5068e 0 5 rfl) (k_J0_charAt_5068e 0 6 rfl) rfl
theorem dJ0_charAt_5068e_7 : decode cJ0_charAt_5068e 7 = .ok (.aload_n 0, 1) := dz_42 (k_J0_charAt_5068e 0 7 rfl)
theorem dJ0_charAt_5068e_8 : decode cJ0_charAt_5068e 8 = .ok (.getfield 9, 3) := dz_180 (k_J0_charAt_5068e 0 8 rfl) (k_J0_charAt_5068e 0 9 rfl) (k_J0_charAt_5068e 0 10 rfl) rfl
theorem dJ0_charAt_5068e_11 : decode cJ0_charAt_5068e 11 = .ok (.iload_n 1, 1) := dz_27 (k_J0_charAt_5068e 0 11 rfl)
theorem dJ0_charAt_5068e_12 : decode cJ0_charAt_5068e 12 = .ok (.invokestatic 495, 3) := dz_184 (k_J0_charAt_5068e 0 12 rfl) (k_J0_charAt_5068e 0 13 rfl) (k_J0_charAt_5068e 0 14 rfl) rfl
theorem dJ0_charAt_5068e_15 : decode cJ0_charAt_5068e 15 = .ok (.ireturn, 1) := dz_172 (k_J0_charAt_5068e 0 15 rfl)
theorem dJ0_charAt_5068e_16 : decode cJ0_charAt_5068e 16 = .ok (.aload_n 0, 1) := dz_42 (k_J0_charAt_5068e 0 16 rfl)
theorem dJ0_charAt_5068e_17 : decode cJ0_charAt_5068e 17 = .ok (.getfield 9, 3) := dz_180 (k_J0_charAt_5068e 0 17 rfl) (k_J0_charAt_5068e 0 18 rfl) (k_J0_charAt_5068e 0 19 rfl) rfl
theorem dJ0_charAt_5068e_20 : decode cJ0_charAt_5068e 20 = .ok (.iload_n 1, 1) := dz_27 (k_J0_charAt_5068e 0 20 rfl)
theorem dJ0_charAt_5068e_21 : decode cJ0_charAt_5068e 21 = .ok (.invokestatic 498, 3) := dz_184 (k_J0_charAt_5068e 0 21 rfl) (k_J0_charAt_5068e 0 22 rfl) (k_J0_charAt_5068e 0 23 rfl) rfl
theorem dJ0_charAt_5068e_24 : decode cJ0_charAt_5068e 24 = .ok (.ireturn, 1) := dz_172 (k_J0_charAt_5068e 0 24 rfl)
def B_J0_checkIndex_df160 : List (List Nat) := [[26, 27, 178, 4, 29, 184, 4, 35, 87, 177]]
theorem k_J0_checkIndex_df160 (j i : Nat) {b : Nat} (h : (B_J0_checkIndex_df160[j]?.bind fun c => c[i]?) = some b) : s_by cJ0_checkIndex_df160 (64 * j + i) b := s_byC (L := B_J0_checkIndex_df160) (by decide +kernel) (by decide +kernel) j i h
theorem dJ0_checkIndex_df160_0 : decode cJ0_checkIndex_df160 0 = .ok (.iload_n 0, 1) := dz_26 (k_J0_checkIndex_df160 0 0 rfl)
theorem dJ0_checkIndex_df160_1 : decode cJ0_checkIndex_df160 1 = .ok (.iload_n 1, 1) := dz_27 (k_J0_checkIndex_df160 0 1 rfl)
theorem dJ0_checkIndex_df160_2 : decode cJ0_checkIndex_df160 2 = .ok (.getstatic 1053, 3) := dz_178 (k_J0_checkIndex_df160 0 2 rfl) (k_J0_checkIndex_df160 0 3 rfl) (k_J0_checkIndex_df160 0 4 rfl) rfl
theorem dJ0_checkIndex_df160_5 : decode cJ0_checkIndex_df160 5 = .ok (.invokestatic 1059, 3) := dz_184 (k_J0_checkIndex_df160 0 5 rfl) (k_J0_checkIndex_df160 0 6 rfl) (k_J0_checkIndex_df160 0 7 rfl) rfl
theorem dJ0_checkIndex_df160_8 : decode cJ0_checkIndex_df160 8 = .ok (.pop, 1) := dz_87 (k_J0_checkIndex_df160 0 8 rfl)
theorem dJ0_checkIndex_df160_9 : decode cJ0_checkIndex_df160 9 = .ok (.return_, 1) := dz_177 (k_J0_checkIndex_df160 0 9 rfl)
def B_J0_coder_7d493 : List (List Nat) := [[178, 0, 38, 153, 0, 10, 42, 180, 0, 15, 167, 0, 4, 4, 172]]
theorem k_J0_coder_7d493 (j i : Nat) {b : Nat} (h : (B_J0_coder_7d493[j]?.bind fun c => c[i]?) = some b) : s_by cJ0_coder_7d493 (64 * j + i) b := s_byC (L := B_J0_coder_7d493) (by decide +kernel) (by decide +kernel) j i h
theorem dJ0_coder_7d493_0 : decode cJ0_coder_7d493 0 = .ok (.getstatic 38, 3) := dz_178 (k_J0_coder_7d493 0 0 rfl) (k_J0_coder_7d493 0 1 rfl) (k_J0_coder_7d493 0 2 rfl) rfl
theorem dJ0_coder_7d493_3 : decode cJ0_coder_7d493 3 = .ok (.ifCond .eq 10, 3) := dz_153 (k_J0_coder_7d493 0 3 rfl) (k_J0_coder_7d493 0 4 rfl) (k_J0_coder_7d493 0 5 rfl) rfl
theorem dJ0_coder_7d493_6 : decode cJ0_coder_7d493 6 = .ok (.aload_n 0, 1) := dz_42 (k_J0_coder_7d493 0 6 rfl)
theorem dJ0_coder_7d493_7 : decode cJ0_coder_7d493 7 = .ok (.getfield 15, 3) := dz_180 (k_J0_coder_7d493 0 7 rfl) (k_J0_coder_7d493 0 8 rfl) (k_J0_coder_7d493 0 9 rfl) rfl
theorem dJ0_coder_7d493_10 : decode cJ0_coder_7d493 10 = .ok (.goto 4, 3) := dz_167 (k_J0_coder_7d493 0 10 rfl) (k_J0_coder_7d493 0 11 rfl) (k_J0_coder_7d493 0 12 rfl) rfl
theorem dJ0_coder_7d493_13 : decode cJ0_coder_7d493 13 = .ok (.iconst 1, 1) := dz_4 (k_J0_coder_7d493 0 13 rfl)
theorem dJ0_coder_7d493_14 : decode cJ0_coder_7d493 14 = .ok (.ireturn, 1) := dz_172 (k_J0_coder_7d493 0 14 rfl)
def B_J0_isLatin1_aae02 : List (List Nat) := [[178, 0, 38, 153, 0, 14, 42, 180, 0, 15, 154, 0, 7, 4, 167, 0, 4, 3, 172]]
theorem k_J0_isLatin1_aae02 (j i : Nat) {b : Nat} (h : (B_J0_isLatin1_aae02[j]?.bind fun c => c[i]?) = some b) : s_by cJ0_isLatin1_aae02 (64 * j + i) b := s_byC (L := B_J0_isLatin1_aae02) (by decide +kernel) (by decide +kernel) j i h
theorem dJ0_isLatin1_aae02_0 : decode cJ0_isLatin1_aae02 0 = .ok (.getstatic 38, 3) := dz_178 (k_J0_isLatin1_aae02 0 0 rfl) (k_J0_isLatin1_aae02 0 1 rfl) (k_J0_isLatin1_aae02 0 2 rfl) rfl
theorem dJ0_isLatin1_aae02_3 : decode cJ0_isLatin1_aae02 3 = .ok (.ifCond .eq 14, 3) := dz_153 (k_J0_isLatin1_aae02 0 3 rfl) (k_J0_isLatin1_aae02 0 4 rfl) (k_J0_isLatin1_aae02 0 5 rfl) rfl
theorem dJ0_isLatin1_aae02_6 : decode cJ0_isLatin1_aae02 6 = .ok (.aload_n 0, 1) := dz_42 (k_J0_isLatin1_aae02 0 6 rfl)
theorem dJ0_isLatin1_aae02_7 : decode cJ0_isLatin1_aae02 7 = .ok (.getfield 15, 3) := dz_180 (k_J0_isLatin1_aae02 0 7 rfl) (k_J0_isLatin1_aae02 0 8 rfl) (k_J0_isLatin1_aae02 0 9 rfl) rfl
theorem dJ0_isLatin1_aae02_10 : decode cJ0_isLatin1_aae02 10 = .ok (.ifCond .ne 7, 3) := dz_154 (k_J0_isLatin1_aae02 0 10 rfl) (k_J0_isLatin1_aae02 0 11 rfl) (k_J0_isLatin1_aae02 0 12 rfl) rfl
theorem dJ0_isLatin1_aae02_13 : decode cJ0_isLatin1_aae02 13 = .ok (.iconst 1, 1) := dz_4 (k_J0_isLatin1_aae02 0 13 rfl)
theorem dJ0_isLatin1_aae02_14 : decode cJ0_isLatin1_aae02 14 = .ok (.goto 4, 3) := dz_167 (k_J0_isLatin1_aae02 0 14 rfl) (k_J0_isLatin1_aae02 0 15 rfl) (k_J0_isLatin1_aae02 0 16 rfl) rfl
theorem dJ0_isLatin1_aae02_17 : decode cJ0_isLatin1_aae02 17 = .ok (.iconst 0, 1) := dz_3 (k_J0_isLatin1_aae02 0 17 rfl)
theorem dJ0_isLatin1_aae02_18 : decode cJ0_isLatin1_aae02 18 = .ok (.ireturn, 1) := dz_172 (k_J0_isLatin1_aae02 0 18 rfl)
def B_J0_length_8abf5 : List (List Nat) := [[42, 180, 0, 9, 190, 42, 182, 1, 79, 122, 172]]
theorem k_J0_length_8abf5 (j i : Nat) {b : Nat} (h : (B_J0_length_8abf5[j]?.bind fun c => c[i]?) = some b) : s_by cJ0_length_8abf5 (64 * j + i) b := s_byC (L := B_J0_length_8abf5) (by decide +kernel) (by decide +kernel) j i h
theorem dJ0_length_8abf5_0 : decode cJ0_length_8abf5 0 = .ok (.aload_n 0, 1) := dz_42 (k_J0_length_8abf5 0 0 rfl)
theorem dJ0_length_8abf5_1 : decode cJ0_length_8abf5 1 = .ok (.getfield 9, 3) := dz_180 (k_J0_length_8abf5 0 1 rfl) (k_J0_length_8abf5 0 2 rfl) (k_J0_length_8abf5 0 3 rfl) rfl
theorem dJ0_length_8abf5_4 : decode cJ0_length_8abf5 4 = .ok (.arraylength, 1) := dz_190 (k_J0_length_8abf5 0 4 rfl)
theorem dJ0_length_8abf5_5 : decode cJ0_length_8abf5 5 = .ok (.aload_n 0, 1) := dz_42 (k_J0_length_8abf5 0 5 rfl)
theorem dJ0_length_8abf5_6 : decode cJ0_length_8abf5 6 = .ok (.invokevirtual 335, 3) := dz_182 (k_J0_length_8abf5 0 6 rfl) (k_J0_length_8abf5 0 7 rfl) (k_J0_length_8abf5 0 8 rfl) rfl
theorem dJ0_length_8abf5_9 : decode cJ0_length_8abf5 9 = .ok (.ishr, 1) := dz_122 (k_J0_length_8abf5 0 9 rfl)
theorem dJ0_length_8abf5_10 : decode cJ0_length_8abf5 10 = .ok (.ireturn, 1) := dz_172 (k_J0_length_8abf5 0 10 rfl)
def B_J13_bitCount_95d88 : List (List Nat) := [[30, 30, 4, 125, 20, 1, 58, 127, 101, 63, 30, 20, 1, 60, 127, 30, 5, 125, 20, 1, 60, 127, 97, 63, 30, 30, 7, 125, 97, 20, 1, 62, 127, 63, 30, 30, 16, 8, 125, 97, 63, 30, 30, 16, 16, 125, 97, 63, 30, 30, 16, 32, 125, 97, 63, 30, 136, 16, 127, 126, 172]]
theorem k_J13_bitCount_95d88 (j i : Nat) {b : Nat} (h : (B_J13_bitCount_95d88[j]?.bind fun c => c[i]?) = some b) : s_by cJ13_bitCount_95d88 (64 * j + i) b := s_byC (L := B_J13_bitCount_95d88) (by decide +kernel) (by decide +kernel) j i h
theorem dJ13_bitCount_95d88_0 : decode cJ13_bitCount_95d88 0 = .ok (.lload_n 0, 1) := dz_30 (k_J13_bitCount_95d88 0 0 rfl)
theorem dJ13_bitCount_95d88_1 : decode cJ13_bitCount_95d88 1 = .ok (.lload_n 0, 1) := dz_30 (k_J13_bitCount_95d88 0 1 rfl)
theorem dJ13_bitCount_95d88_2 : decode cJ13_bitCount_95d88 2 = .ok (.iconst 1, 1) := dz_4 (k_J13_bitCount_95d88 0 2 rfl)
theorem dJ13_bitCount_95d88_3 : decode cJ13_bitCount_95d88 3 = .ok (.lushr, 1) := dz_125 (k_J13_bitCount_95d88 0 3 rfl)
theorem dJ13_bitCount_95d88_4 : decode cJ13_bitCount_95d88 4 = .ok (.ldc2_w 314, 3) := dz_20 (k_J13_bitCount_95d88 0 4 rfl) (k_J13_bitCount_95d88 0 5 rfl) (k_J13_bitCount_95d88 0 6 rfl) rfl
theorem dJ13_bitCount_95d88_7 : decode cJ13_bitCount_95d88 7 = .ok (.land, 1) := dz_127 (k_J13_bitCount_95d88 0 7 rfl)
theorem dJ13_bitCount_95d88_8 : decode cJ13_bitCount_95d88 8 = .ok (.lsub, 1) := dz_101 (k_J13_bitCount_95d88 0 8 rfl)
theorem dJ13_bitCount_95d88_9 : decode cJ13_bitCount_95d88 9 = .ok (.lstore_n 0, 1) := dz_63 (k_J13_bitCount_95d88 0 9 rfl)
theorem dJ13_bitCount_95d88_10 : decode cJ13_bitCount_95d88 10 = .ok (.lload_n 0, 1) := dz_30 (k_J13_bitCount_95d88 0 10 rfl)
theorem dJ13_bitCount_95d88_11 : decode cJ13_bitCount_95d88 11 = .ok (.ldc2_w 316, 3) := dz_20 (k_J13_bitCount_95d88 0 11 rfl) (k_J13_bitCount_95d88 0 12 rfl) (k_J13_bitCount_95d88 0 13 rfl) rfl
theorem dJ13_bitCount_95d88_14 : decode cJ13_bitCount_95d88 14 = .ok (.land, 1) := dz_127 (k_J13_bitCount_95d88 0 14 rfl)
theorem dJ13_bitCount_95d88_15 : decode cJ13_bitCount_95d88 15 = .ok (.lload_n 0, 1) := dz_30 (k_J13_bitCount_95d88 0 15 rfl)
theorem dJ13_bitCount_95d88_16 : decode cJ13_bitCount_95d88 16 = .ok (.iconst 2, 1) := dz_5 (k_J13_bitCount_95d88 0 16 rfl)
theorem dJ13_bitCount_95d88_17 : decode cJ13_bitCount_95d88 17 = .ok (.lushr, 1) := dz_125 (k_J13_bitCount_95d88 0 17 rfl)
theorem dJ13_bitCount_95d88_18 : decode cJ13_bitCount_95d88 18 = .ok (.ldc2_w 316, 3) := dz_20 (k_J13_bitCount_95d88 0 18 rfl) (k_J13_bitCount_95d88 0 19 rfl) (k_J13_bitCount_95d88 0 20 rfl) rfl
theorem dJ13_bitCount_95d88_21 : decode cJ13_bitCount_95d88 21 = .ok (.land, 1) := dz_127 (k_J13_bitCount_95d88 0 21 rfl)
theorem dJ13_bitCount_95d88_22 : decode cJ13_bitCount_95d88 22 = .ok (.ladd, 1) := dz_97 (k_J13_bitCount_95d88 0 22 rfl)
theorem dJ13_bitCount_95d88_23 : decode cJ13_bitCount_95d88 23 = .ok (.lstore_n 0, 1) := dz_63 (k_J13_bitCount_95d88 0 23 rfl)
theorem dJ13_bitCount_95d88_24 : decode cJ13_bitCount_95d88 24 = .ok (.lload_n 0, 1) := dz_30 (k_J13_bitCount_95d88 0 24 rfl)
theorem dJ13_bitCount_95d88_25 : decode cJ13_bitCount_95d88 25 = .ok (.lload_n 0, 1) := dz_30 (k_J13_bitCount_95d88 0 25 rfl)
theorem dJ13_bitCount_95d88_26 : decode cJ13_bitCount_95d88 26 = .ok (.iconst 4, 1) := dz_7 (k_J13_bitCount_95d88 0 26 rfl)
theorem dJ13_bitCount_95d88_27 : decode cJ13_bitCount_95d88 27 = .ok (.lushr, 1) := dz_125 (k_J13_bitCount_95d88 0 27 rfl)
theorem dJ13_bitCount_95d88_28 : decode cJ13_bitCount_95d88 28 = .ok (.ladd, 1) := dz_97 (k_J13_bitCount_95d88 0 28 rfl)
theorem dJ13_bitCount_95d88_29 : decode cJ13_bitCount_95d88 29 = .ok (.ldc2_w 318, 3) := dz_20 (k_J13_bitCount_95d88 0 29 rfl) (k_J13_bitCount_95d88 0 30 rfl) (k_J13_bitCount_95d88 0 31 rfl) rfl
theorem dJ13_bitCount_95d88_32 : decode cJ13_bitCount_95d88 32 = .ok (.land, 1) := dz_127 (k_J13_bitCount_95d88 0 32 rfl)
theorem dJ13_bitCount_95d88_33 : decode cJ13_bitCount_95d88 33 = .ok (.lstore_n 0, 1) := dz_63 (k_J13_bitCount_95d88 0 33 rfl)
theorem dJ13_bitCount_95d88_34 : decode cJ13_bitCount_95d88 34 = .ok (.lload_n 0, 1) := dz_30 (k_J13_bitCount_95d88 0 34 rfl)
theorem dJ13_bitCount_95d88_35 : decode cJ13_bitCount_95d88 35 = .ok (.lload_n 0, 1) := dz_30 (k_J13_bitCount_95d88 0 35 rfl)
theorem dJ13_bitCount_95d88_36 : decode cJ13_bitCount_95d88 36 = .ok (.bipush 8, 2) := dz_16 (k_J13_bitCount_95d88 0 36 rfl) (k_J13_bitCount_95d88 0 37 rfl) rfl
theorem dJ13_bitCount_95d88_38 : decode cJ13_bitCount_95d88 38 = .ok (.lushr, 1) := dz_125 (k_J13_bitCount_95d88 0 38 rfl)
theorem dJ13_bitCount_95d88_39 : decode cJ13_bitCount_95d88 39 = .ok (.ladd, 1) := dz_97 (k_J13_bitCount_95d88 0 39 rfl)
theorem dJ13_bitCount_95d88_40 : decode cJ13_bitCount_95d88 40 = .ok (.lstore_n 0, 1) := dz_63 (k_J13_bitCount_95d88 0 40 rfl)
theorem dJ13_bitCount_95d88_41 : decode cJ13_bitCount_95d88 41 = .ok (.lload_n 0, 1) := dz_30 (k_J13_bitCount_95d88 0 41 rfl)
theorem dJ13_bitCount_95d88_42 : decode cJ13_bitCount_95d88 42 = .ok (.lload_n 0, 1) := dz_30 (k_J13_bitCount_95d88 0 42 rfl)
theorem dJ13_bitCount_95d88_43 : decode cJ13_bitCount_95d88 43 = .ok (.bipush 16, 2) := dz_16 (k_J13_bitCount_95d88 0 43 rfl) (k_J13_bitCount_95d88 0 44 rfl) rfl
theorem dJ13_bitCount_95d88_45 : decode cJ13_bitCount_95d88 45 = .ok (.lushr, 1) := dz_125 (k_J13_bitCount_95d88 0 45 rfl)
theorem dJ13_bitCount_95d88_46 : decode cJ13_bitCount_95d88 46 = .ok (.ladd, 1) := dz_97 (k_J13_bitCount_95d88 0 46 rfl)
theorem dJ13_bitCount_95d88_47 : decode cJ13_bitCount_95d88 47 = .ok (.lstore_n 0, 1) := dz_63 (k_J13_bitCount_95d88 0 47 rfl)
theorem dJ13_bitCount_95d88_48 : decode cJ13_bitCount_95d88 48 = .ok (.lload_n 0, 1) := dz_30 (k_J13_bitCount_95d88 0 48 rfl)
theorem dJ13_bitCount_95d88_49 : decode cJ13_bitCount_95d88 49 = .ok (.lload_n 0, 1) := dz_30 (k_J13_bitCount_95d88 0 49 rfl)
theorem dJ13_bitCount_95d88_50 : decode cJ13_bitCount_95d88 50 = .ok (.bipush 32, 2) := dz_16 (k_J13_bitCount_95d88 0 50 rfl) (k_J13_bitCount_95d88 0 51 rfl) rfl
theorem dJ13_bitCount_95d88_52 : decode cJ13_bitCount_95d88 52 = .ok (.lushr, 1) := dz_125 (k_J13_bitCount_95d88 0 52 rfl)
theorem dJ13_bitCount_95d88_53 : decode cJ13_bitCount_95d88 53 = .ok (.ladd, 1) := dz_97 (k_J13_bitCount_95d88 0 53 rfl)
theorem dJ13_bitCount_95d88_54 : decode cJ13_bitCount_95d88 54 = .ok (.lstore_n 0, 1) := dz_63 (k_J13_bitCount_95d88 0 54 rfl)
theorem dJ13_bitCount_95d88_55 : decode cJ13_bitCount_95d88 55 = .ok (.lload_n 0, 1) := dz_30 (k_J13_bitCount_95d88 0 55 rfl)
theorem dJ13_bitCount_95d88_56 : decode cJ13_bitCount_95d88 56 = .ok (.l2i, 1) := dz_136 (k_J13_bitCount_95d88 0 56 rfl)
theorem dJ13_bitCount_95d88_57 : decode cJ13_bitCount_95d88 57 = .ok (.bipush 127, 2) := dz_16 (k_J13_bitCount_95d88 0 57 rfl) (k_J13_bitCount_95d88 0 58 rfl) rfl
theorem dJ13_bitCount_95d88_59 : decode cJ13_bitCount_95d88 59 = .ok (.iand, 1) := dz_126 (k_J13_bitCount_95d88 0 59 rfl)
theorem dJ13_bitCount_95d88_60 : decode cJ13_bitCount_95d88 60 = .ok (.ireturn, 1) := dz_172 (k_J13_bitCount_95d88 0 60 rfl)
def B_J13_numberOfTrailingZeros_95d88 : List (List Nat) := [[30, 136, 61, 28, 154, 0, 17, 16, 32, 30, 16, 32, 125, 136, 184, 1, 55, 96, 167, 0, 7, 28, 184, 1, 55, 172]]
theorem k_J13_numberOfTrailingZeros_95d88 (j i : Nat) {b : Nat} (h : (B_J13_numberOfTrailingZeros_95d88[j]?.bind fun c => c[i]?) = some b) : s_by cJ13_numberOfTrailingZeros_95d88 (64 * j + i) b := s_byC (L := B_J13_numberOfTrailingZeros_95d88) (by decide +kernel) (by decide +kernel) j i h
theorem dJ13_numberOfTrailingZeros_95d88_0 : decode cJ13_numberOfTrailingZeros_95d88 0 = .ok (.lload_n 0, 1) := dz_30 (k_J13_numberOfTrailingZeros_95d88 0 0 rfl)
theorem dJ13_numberOfTrailingZeros_95d88_1 : decode cJ13_numberOfTrailingZeros_95d88 1 = .ok (.l2i, 1) := dz_136 (k_J13_numberOfTrailingZeros_95d88 0 1 rfl)
theorem dJ13_numberOfTrailingZeros_95d88_2 : decode cJ13_numberOfTrailingZeros_95d88 2 = .ok (.istore_n 2, 1) := dz_61 (k_J13_numberOfTrailingZeros_95d88 0 2 rfl)
theorem dJ13_numberOfTrailingZeros_95d88_3 : decode cJ13_numberOfTrailingZeros_95d88 3 = .ok (.iload_n 2, 1) := dz_28 (k_J13_numberOfTrailingZeros_95d88 0 3 rfl)
theorem dJ13_numberOfTrailingZeros_95d88_4 : decode cJ13_numberOfTrailingZeros_95d88 4 = .ok (.ifCond .ne 17, 3) := dz_154 (k_J13_numberOfTrailingZeros_95d88 0 4 rfl) (k_J13_numberOfTrailingZeros_95d88 0 5 rfl) (k_J13_numberOfTrailingZeros_95d88 0 6 rfl) rfl
theorem dJ13_numberOfTrailingZeros_95d88_7 : decode cJ13_numberOfTrailingZeros_95d88 7 = .ok (.bipush 32, 2) := dz_16 (k_J13_numberOfTrailingZeros_95d88 0 7 rfl) (k_J13_numberOfTrailingZeros_95d88 0 8 rfl) rfl
theorem dJ13_numberOfTrailingZeros_95d88_9 : decode cJ13_numberOfTrailingZeros_95d88 9 = .ok (.lload_n 0, 1) := dz_30 (k_J13_numberOfTrailingZeros_95d88 0 9 rfl)
theorem dJ13_numberOfTrailingZeros_95d88_10 : decode cJ13_numberOfTrailingZeros_95d88 10 = .ok (.bipush 32, 2) := dz_16 (k_J13_numberOfTrailingZeros_95d88 0 10 rfl) (k_J13_numberOfTrailingZeros_95d88 0 11 rfl) rfl
theorem dJ13_numberOfTrailingZeros_95d88_12 : decode cJ13_numberOfTrailingZeros_95d88 12 = .ok (.lushr, 1) := dz_125 (k_J13_numberOfTrailingZeros_95d88 0 12 rfl)
theorem dJ13_numberOfTrailingZeros_95d88_13 : decode cJ13_numberOfTrailingZeros_95d88 13 = .ok (.l2i, 1) := dz_136 (k_J13_numberOfTrailingZeros_95d88 0 13 rfl)
theorem dJ13_numberOfTrailingZeros_95d88_14 : decode cJ13_numberOfTrailingZeros_95d88 14 = .ok (.invokestatic 311, 3) := dz_184 (k_J13_numberOfTrailingZeros_95d88 0 14 rfl) (k_J13_numberOfTrailingZeros_95d88 0 15 rfl) (k_J13_numberOfTrailingZeros_95d88 0 16 rfl) rfl
theorem dJ13_numberOfTrailingZeros_95d88_17 : decode cJ13_numberOfTrailingZeros_95d88 17 = .ok (.iadd, 1) := dz_96 (k_J13_numberOfTrailingZeros_95d88 0 17 rfl)
theorem dJ13_numberOfTrailingZeros_95d88_18 : decode cJ13_numberOfTrailingZeros_95d88 18 = .ok (.goto 7, 3) := dz_167 (k_J13_numberOfTrailingZeros_95d88 0 18 rfl) (k_J13_numberOfTrailingZeros_95d88 0 19 rfl) (k_J13_numberOfTrailingZeros_95d88 0 20 rfl) rfl
theorem dJ13_numberOfTrailingZeros_95d88_21 : decode cJ13_numberOfTrailingZeros_95d88 21 = .ok (.iload_n 2, 1) := dz_28 (k_J13_numberOfTrailingZeros_95d88 0 21 rfl)
theorem dJ13_numberOfTrailingZeros_95d88_22 : decode cJ13_numberOfTrailingZeros_95d88 22 = .ok (.invokestatic 311, 3) := dz_184 (k_J13_numberOfTrailingZeros_95d88 0 22 rfl) (k_J13_numberOfTrailingZeros_95d88 0 23 rfl) (k_J13_numberOfTrailingZeros_95d88 0 24 rfl) rfl
theorem dJ13_numberOfTrailingZeros_95d88_25 : decode cJ13_numberOfTrailingZeros_95d88 25 = .ok (.ireturn, 1) := dz_172 (k_J13_numberOfTrailingZeros_95d88 0 25 rfl)
def B_J1_charAt_3b067 : List (List Nat) := [[27, 42, 190, 184, 0, 9, 42, 27, 51, 17, 0, 255, 126, 146, 172]]
theorem k_J1_charAt_3b067 (j i : Nat) {b : Nat} (h : (B_J1_charAt_3b067[j]?.bind fun c => c[i]?) = some b) : s_by cJ1_charAt_3b067 (64 * j + i) b := s_byC (L := B_J1_charAt_3b067) (by decide +kernel) (by decide +kernel) j i h
theorem dJ1_charAt_3b067_0 : decode cJ1_charAt_3b067 0 = .ok (.iload_n 1, 1) := dz_27 (k_J1_charAt_3b067 0 0 rfl)
theorem dJ1_charAt_3b067_1 : decode cJ1_charAt_3b067 1 = .ok (.aload_n 0, 1) := dz_42 (k_J1_charAt_3b067 0 1 rfl)
theorem dJ1_charAt_3b067_2 : decode cJ1_charAt_3b067 2 = .ok (.arraylength, 1) := dz_190 (k_J1_charAt_3b067 0 2 rfl)
theorem dJ1_charAt_3b067_3 : decode cJ1_charAt_3b067 3 = .ok (.invokestatic 9, 3) := dz_184 (k_J1_charAt_3b067 0 3 rfl) (k_J1_charAt_3b067 0 4 rfl) (k_J1_charAt_3b067 0 5 rfl) rfl
theorem dJ1_charAt_3b067_6 : decode cJ1_charAt_3b067 6 = .ok (.aload_n 0, 1) := dz_42 (k_J1_charAt_3b067 0 6 rfl)
theorem dJ1_charAt_3b067_7 : decode cJ1_charAt_3b067 7 = .ok (.iload_n 1, 1) := dz_27 (k_J1_charAt_3b067 0 7 rfl)
theorem dJ1_charAt_3b067_8 : decode cJ1_charAt_3b067 8 = .ok (.baload, 1) := dz_51 (k_J1_charAt_3b067 0 8 rfl)
theorem dJ1_charAt_3b067_9 : decode cJ1_charAt_3b067 9 = .ok (.sipush 255, 3) := dz_17 (k_J1_charAt_3b067 0 9 rfl) (k_J1_charAt_3b067 0 10 rfl) (k_J1_charAt_3b067 0 11 rfl) rfl
theorem dJ1_charAt_3b067_12 : decode cJ1_charAt_3b067 12 = .ok (.iand, 1) := dz_126 (k_J1_charAt_3b067 0 12 rfl)
theorem dJ1_charAt_3b067_13 : decode cJ1_charAt_3b067 13 = .ok (.i2c, 1) := dz_146 (k_J1_charAt_3b067 0 13 rfl)
theorem dJ1_charAt_3b067_14 : decode cJ1_charAt_3b067 14 = .ok (.ireturn, 1) := dz_172 (k_J1_charAt_3b067 0 14 rfl)
def B_J2_charAt_3b067 : List (List Nat) := [[27, 42, 184, 0, 67, 42, 27, 184, 0, 71, 172]]
theorem k_J2_charAt_3b067 (j i : Nat) {b : Nat} (h : (B_J2_charAt_3b067[j]?.bind fun c => c[i]?) = some b) : s_by cJ2_charAt_3b067 (64 * j + i) b := s_byC (L := B_J2_charAt_3b067) (by decide +kernel) (by decide +kernel) j i h
theorem dJ2_charAt_3b067_0 : decode cJ2_charAt_3b067 0 = .ok (.iload_n 1, 1) := dz_27 (k_J2_charAt_3b067 0 0 rfl)
theorem dJ2_charAt_3b067_1 : decode cJ2_charAt_3b067 1 = .ok (.aload_n 0, 1) := dz_42 (k_J2_charAt_3b067 0 1 rfl)
theorem dJ2_charAt_3b067_2 : decode cJ2_charAt_3b067 2 = .ok (.invokestatic 67, 3) := dz_184 (k_J2_charAt_3b067 0 2 rfl) (k_J2_charAt_3b067 0 3 rfl) (k_J2_charAt_3b067 0 4 rfl) rfl
theorem dJ2_charAt_3b067_5 : decode cJ2_charAt_3b067 5 = .ok (.aload_n 0, 1) := dz_42 (k_J2_charAt_3b067 0 5 rfl)
theorem dJ2_charAt_3b067_6 : decode cJ2_charAt_3b067 6 = .ok (.iload_n 1, 1) := dz_27 (k_J2_charAt_3b067 0 6 rfl)
theorem dJ2_charAt_3b067_7 : decode cJ2_charAt_3b067 7 = .ok (.invokestatic 71, 3) := dz_184 (k_J2_charAt_3b067 0 7 rfl) (k_J2_charAt_3b067 0 8 rfl) (k_J2_charAt_3b067 0 9 rfl) rfl
theorem dJ2_charAt_3b067_10 : decode cJ2_charAt_3b067 10 = .ok (.ireturn, 1) := dz_172 (k_J2_charAt_3b067 0 10 rfl)
def B_J2_checkIndex_2214a : List (List Nat) := [[26, 43, 184, 0, 48, 184, 1, 158, 177]]
theorem k_J2_checkIndex_2214a (j i : Nat) {b : Nat} (h : (B_J2_checkIndex_2214a[j]?.bind fun c => c[i]?) = some b) : s_by cJ2_checkIndex_2214a (64 * j + i) b := s_byC (L := B_J2_checkIndex_2214a) (by decide +kernel) (by decide +kernel) j i h
theorem dJ2_checkIndex_2214a_0 : decode cJ2_checkIndex_2214a 0 = .ok (.iload_n 0, 1) := dz_26 (k_J2_checkIndex_2214a 0 0 rfl)
theorem dJ2_checkIndex_2214a_1 : decode cJ2_checkIndex_2214a 1 = .ok (.aload_n 1, 1) := dz_43 (k_J2_checkIndex_2214a 0 1 rfl)
theorem dJ2_checkIndex_2214a_2 : decode cJ2_checkIndex_2214a 2 = .ok (.invokestatic 48, 3) := dz_184 (k_J2_checkIndex_2214a 0 2 rfl) (k_J2_checkIndex_2214a 0 3 rfl) (k_J2_checkIndex_2214a 0 4 rfl) rfl
theorem dJ2_checkIndex_2214a_5 : decode cJ2_checkIndex_2214a 5 = .ok (.invokestatic 414, 3) := dz_184 (k_J2_checkIndex_2214a 0 5 rfl) (k_J2_checkIndex_2214a 0 6 rfl) (k_J2_checkIndex_2214a 0 7 rfl) rfl
theorem dJ2_checkIndex_2214a_8 : decode cJ2_checkIndex_2214a 8 = .ok (.return_, 1) := dz_177 (k_J2_checkIndex_2214a 0 8 rfl)
def B_J2_getChar_3b067 : List (List Nat) := [[178, 0, 44, 154, 0, 25, 27, 155, 0, 11, 27, 42, 184, 0, 48, 161, 0, 13, 187, 0, 52, 89, 18, 54, 183, 0, 56, 191, 27, 4, 120, 60, 42, 27, 132, 1, 1, 51, 17, 0, 255, 126, 178, 0, 59, 120, 42, 27, 51, 17, 0, 255, 126, 178, 0, 63, 120, 128, 146, 172]]
theorem k_J2_getChar_3b067 (j i : Nat) {b : Nat} (h : (B_J2_getChar_3b067[j]?.bind fun c => c[i]?) = some b) : s_by cJ2_getChar_3b067 (64 * j + i) b := s_byC (L := B_J2_getChar_3b067) (by decide +kernel) (by decide +kernel) j i h
theorem dJ2_getChar_3b067_0 : decode cJ2_getChar_3b067 0 = .ok (.getstatic 44, 3) := dz_178 (k_J2_getChar_3b067 0 0 rfl) (k_J2_getChar_3b067 0 1 rfl) (k_J2_getChar_3b067 0 2 rfl) rfl
theorem dJ2_getChar_3b067_3 : decode cJ2_getChar_3b067 3 = .ok (.ifCond .ne 25, 3) := dz_154 (k_J2_getChar_3b067 0 3 rfl) (k_J2_getChar_3b067 0 4 rfl) (k_J2_getChar_3b067 0 5 rfl) rfl
theorem dJ2_getChar_3b067_6 : decode cJ2_getChar_3b067 6 = .ok (.iload_n 1, 1) := dz_27 (k_J2_getChar_3b067 0 6 rfl)
theorem dJ2_getChar_3b067_7 : decode cJ2_getChar_3b067 7 = .ok (.ifCond .lt 11, 3) := dz_155 (k_J2_getChar_3b067 0 7 rfl) (k_J2_getChar_3b067 0 8 rfl) (k_J2_getChar_3b067 0 9 rfl) rfl
theorem dJ2_getChar_3b067_10 : decode cJ2_getChar_3b067 10 = .ok (.iload_n 1, 1) := dz_27 (k_J2_getChar_3b067 0 10 rfl)
theorem dJ2_getChar_3b067_11 : decode cJ2_getChar_3b067 11 = .ok (.aload_n 0, 1) := dz_42 (k_J2_getChar_3b067 0 11 rfl)
theorem dJ2_getChar_3b067_12 : decode cJ2_getChar_3b067 12 = .ok (.invokestatic 48, 3) := dz_184 (k_J2_getChar_3b067 0 12 rfl) (k_J2_getChar_3b067 0 13 rfl) (k_J2_getChar_3b067 0 14 rfl) rfl
theorem dJ2_getChar_3b067_15 : decode cJ2_getChar_3b067 15 = .ok (.if_icmp .lt 13, 3) := dz_161 (k_J2_getChar_3b067 0 15 rfl) (k_J2_getChar_3b067 0 16 rfl) (k_J2_getChar_3b067 0 17 rfl) rfl
theorem dJ2_getChar_3b067_18 : decode cJ2_getChar_3b067 18 = .ok (.new 52, 3) := dz_187 (k_J2_getChar_3b067 0 18 rfl) (k_J2_getChar_3b067 0 19 rfl) (k_J2_getChar_3b067 0 20 rfl) rfl
theorem dJ2_getChar_3b067_21 : decode cJ2_getChar_3b067 21 = .ok (.dup, 1) := dz_89 (k_J2_getChar_3b067 0 21 rfl)
theorem dJ2_getChar_3b067_22 : decode cJ2_getChar_3b067 22 = .ok (.ldc 54, 2) := dz_18 (k_J2_getChar_3b067 0 22 rfl) (k_J2_getChar_3b067 0 23 rfl)
theorem dJ2_getChar_3b067_24 : decode cJ2_getChar_3b067 24 = .ok (.invokespecial 56, 3) := dz_183 (k_J2_getChar_3b067 0 24 rfl) (k_J2_getChar_3b067 0 25 rfl) (k_J2_getChar_3b067 0 26 rfl) rfl
theorem dJ2_getChar_3b067_27 : decode cJ2_getChar_3b067 27 = .ok (.athrow, 1) := dz_191 (k_J2_getChar_3b067 0 27 rfl)
theorem dJ2_getChar_3b067_28 : decode cJ2_getChar_3b067 28 = .ok (.iload_n 1, 1) := dz_27 (k_J2_getChar_3b067 0 28 rfl)
theorem dJ2_getChar_3b067_29 : decode cJ2_getChar_3b067 29 = .ok (.iconst 1, 1) := dz_4 (k_J2_getChar_3b067 0 29 rfl)
theorem dJ2_getChar_3b067_30 : decode cJ2_getChar_3b067 30 = .ok (.ishl, 1) := dz_120 (k_J2_getChar_3b067 0 30 rfl)
theorem dJ2_getChar_3b067_31 : decode cJ2_getChar_3b067 31 = .ok (.istore_n 1, 1) := dz_60 (k_J2_getChar_3b067 0 31 rfl)
theorem dJ2_getChar_3b067_32 : decode cJ2_getChar_3b067 32 = .ok (.aload_n 0, 1) := dz_42 (k_J2_getChar_3b067 0 32 rfl)
theorem dJ2_getChar_3b067_33 : decode cJ2_getChar_3b067 33 = .ok (.iload_n 1, 1) := dz_27 (k_J2_getChar_3b067 0 33 rfl)
theorem dJ2_getChar_3b067_34 : decode cJ2_getChar_3b067 34 = .ok (.iinc 1 1, 3) := dz_132 (k_J2_getChar_3b067 0 34 rfl) (k_J2_getChar_3b067 0 35 rfl) (k_J2_getChar_3b067 0 36 rfl) rfl
theorem dJ2_getChar_3b067_37 : decode cJ2_getChar_3b067 37 = .ok (.baload, 1) := dz_51 (k_J2_getChar_3b067 0 37 rfl)
theorem dJ2_getChar_3b067_38 : decode cJ2_getChar_3b067 38 = .ok (.sipush 255, 3) := dz_17 (k_J2_getChar_3b067 0 38 rfl) (k_J2_getChar_3b067 0 39 rfl) (k_J2_getChar_3b067 0 40 rfl) rfl
theorem dJ2_getChar_3b067_41 : decode cJ2_getChar_3b067 41 = .ok (.iand, 1) := dz_126 (k_J2_getChar_3b067 0 41 rfl)
theorem dJ2_getChar_3b067_42 : decode cJ2_getChar_3b067 42 = .ok (.getstatic 59, 3) := dz_178 (k_J2_getChar_3b067 0 42 rfl) (k_J2_getChar_3b067 0 43 rfl) (k_J2_getChar_3b067 0 44 rfl) rfl
theorem dJ2_getChar_3b067_45 : decode cJ2_getChar_3b067 45 = .ok (.ishl, 1) := dz_120 (k_J2_getChar_3b067 0 45 rfl)
theorem dJ2_getChar_3b067_46 : decode cJ2_getChar_3b067 46 = .ok (.aload_n 0, 1) := dz_42 (k_J2_getChar_3b067 0 46 rfl)
theorem dJ2_getChar_3b067_47 : decode cJ2_getChar_3b067 47 = .ok (.iload_n 1, 1) := dz_27 (k_J2_getChar_3b067 0 47 rfl)
theorem dJ2_getChar_3b067_48 : decode cJ2_getChar_3b067 48 = .ok (.baload, 1) := dz_51 (k_J2_getChar_3b067 0 48 rfl)
theorem dJ2_getChar_3b067_49 : decode cJ2_getChar_3b067 49 = .ok (.sipush 255, 3) := dz_17 (k_J2_getChar_3b067 0 49 rfl) (k_J2_getChar_3b067 0 50 rfl) (k_J2_getChar_3b067 0 51 rfl) rfl
theorem dJ2_getChar_3b067_52 : decode cJ2_getChar_3b067 52 = .ok (.iand, 1) := dz_126 (k_J2_getChar_3b067 0 52 rfl)
theorem dJ2_getChar_3b067_53 : decode cJ2_getChar_3b067 53 = .ok (.getstatic 63, 3) := dz_178 (k_J2_getChar_3b067 0 53 rfl) (k_J2_getChar_3b067 0 54 rfl) (k_J2_getChar_3b067 0 55 rfl) rfl
theorem dJ2_getChar_3b067_56 : decode cJ2_getChar_3b067 56 = .ok (.ishl, 1) := dz_120 (k_J2_getChar_3b067 0 56 rfl)
theorem dJ2_getChar_3b067_57 : decode cJ2_getChar_3b067 57 = .ok (.ior, 1) := dz_128 (k_J2_getChar_3b067 0 57 rfl)
theorem dJ2_getChar_3b067_58 : decode cJ2_getChar_3b067 58 = .ok (.i2c, 1) := dz_146 (k_J2_getChar_3b067 0 58 rfl)
theorem dJ2_getChar_3b067_59 : decode cJ2_getChar_3b067 59 = .ok (.ireturn, 1) := dz_172 (k_J2_getChar_3b067 0 59 rfl)
def B_J2_length_9d52b : List (List Nat) := [[42, 190, 4, 122, 172]]
theorem k_J2_length_9d52b (j i : Nat) {b : Nat} (h : (B_J2_length_9d52b[j]?.bind fun c => c[i]?) = some b) : s_by cJ2_length_9d52b (64 * j + i) b := s_byC (L := B_J2_length_9d52b) (by decide +kernel) (by decide +kernel) j i h
theorem dJ2_length_9d52b_0 : decode cJ2_length_9d52b 0 = .ok (.aload_n 0, 1) := dz_42 (k_J2_length_9d52b 0 0 rfl)
theorem dJ2_length_9d52b_1 : decode cJ2_length_9d52b 1 = .ok (.arraylength, 1) := dz_190 (k_J2_length_9d52b 0 1 rfl)
theorem dJ2_length_9d52b_2 : decode cJ2_length_9d52b 2 = .ok (.iconst 1, 1) := dz_4 (k_J2_length_9d52b 0 2 rfl)
theorem dJ2_length_9d52b_3 : decode cJ2_length_9d52b 3 = .ok (.ishr, 1) := dz_122 (k_J2_length_9d52b 0 3 rfl)
theorem dJ2_length_9d52b_4 : decode cJ2_length_9d52b 4 = .ok (.ireturn, 1) := dz_172 (k_J2_length_9d52b 0 4 rfl)
def B_J3_checkIndex_8e157 : List (List Nat) := [[26, 155, 0, 8, 26, 27, 161, 0, 10, 44, 26, 27, 184, 0, 95, 191, 26, 172]]
theorem k_J3_checkIndex_8e157 (j i : Nat) {b : Nat} (h : (B_J3_checkIndex_8e157[j]?.bind fun c => c[i]?) = some b) : s_by cJ3_checkIndex_8e157 (64 * j + i) b := s_byC (L := B_J3_checkIndex_8e157) (by decide +kernel) (by decide +kernel) j i h
theorem dJ3_checkIndex_8e157_0 : decode cJ3_checkIndex_8e157 0 = .ok (.iload_n 0, 1) := dz_26 (k_J3_checkIndex_8e157 0 0 rfl)
theorem dJ3_checkIndex_8e157_1 : decode cJ3_checkIndex_8e157 1 = .ok (.ifCond .lt 8, 3) := dz_155 (k_J3_checkIndex_8e157 0 1 rfl) (k_J3_checkIndex_8e157 0 2 rfl) (k_J3_checkIndex_8e157 0 3 rfl) rfl
theorem dJ3_checkIndex_8e157_4 : decode cJ3_checkIndex_8e157 4 = .ok (.iload_n 0, 1) := dz_26 (k_J3_checkIndex_8e157 0 4 rfl)
theorem dJ3_checkIndex_8e157_5 : decode cJ3_checkIndex_8e157 5 = .ok (.iload_n 1, 1) := dz_27 (k_J3_checkIndex_8e157 0 5 rfl)
theorem dJ3_checkIndex_8e157_6 : decode cJ3_checkIndex_8e157 6 = .ok (.if_icmp .lt 10, 3) := dz_161 (k_J3_checkIndex_8e157 0 6 rfl) (k_J3_checkIndex_8e157 0 7 rfl) (k_J3_checkIndex_8e157 0 8 rfl) rfl
theorem dJ3_checkIndex_8e157_9 : decode cJ3_checkIndex_8e157 9 = .ok (.aload_n 2, 1) := dz_44 (k_J3_checkIndex_8e157 0 9 rfl)
theorem dJ3_checkIndex_8e157_10 : decode cJ3_checkIndex_8e157 10 = .ok (.iload_n 0, 1) := dz_26 (k_J3_checkIndex_8e157 0 10 rfl)
theorem dJ3_checkIndex_8e157_11 : decode cJ3_checkIndex_8e157 11 = .ok (.iload_n 1, 1) := dz_27 (k_J3_checkIndex_8e157 0 11 rfl)
theorem dJ3_checkIndex_8e157_12 : decode cJ3_checkIndex_8e157 12 = .ok (.invokestatic 95, 3) := dz_184 (k_J3_checkIndex_8e157 0 12 rfl) (k_J3_checkIndex_8e157 0 13 rfl) (k_J3_checkIndex_8e157 0 14 rfl) rfl
theorem dJ3_checkIndex_8e157_15 : decode cJ3_checkIndex_8e157 15 = .ok (.athrow, 1) := dz_191 (k_J3_checkIndex_8e157 0 15 rfl)
theorem dJ3_checkIndex_8e157_16 : decode cJ3_checkIndex_8e157 16 = .ok (.iload_n 0, 1) := dz_26 (k_J3_checkIndex_8e157 0 16 rfl)
theorem dJ3_checkIndex_8e157_17 : decode cJ3_checkIndex_8e157 17 = .ok (.ireturn, 1) := dz_172 (k_J3_checkIndex_8e157 0 17 rfl)
def B_J6_bitCount_0f7a4 : List (List Nat) := [[26, 26, 4, 124, 19, 1, 9, 126, 100, 59, 26, 19, 1, 10, 126, 26, 5, 124, 19, 1, 10, 126, 96, 59, 26, 26, 7, 124, 96, 19, 1, 11, 126, 59, 26, 26, 16, 8, 124, 96, 59, 26, 26, 16, 16, 124, 96, 59, 26, 16, 63, 126, 172]]
theorem k_J6_bitCount_0f7a4 (j i : Nat) {b : Nat} (h : (B_J6_bitCount_0f7a4[j]?.bind fun c => c[i]?) = some b) : s_by cJ6_bitCount_0f7a4 (64 * j + i) b := s_byC (L := B_J6_bitCount_0f7a4) (by decide +kernel) (by decide +kernel) j i h
theorem dJ6_bitCount_0f7a4_0 : decode cJ6_bitCount_0f7a4 0 = .ok (.iload_n 0, 1) := dz_26 (k_J6_bitCount_0f7a4 0 0 rfl)
theorem dJ6_bitCount_0f7a4_1 : decode cJ6_bitCount_0f7a4 1 = .ok (.iload_n 0, 1) := dz_26 (k_J6_bitCount_0f7a4 0 1 rfl)
theorem dJ6_bitCount_0f7a4_2 : decode cJ6_bitCount_0f7a4 2 = .ok (.iconst 1, 1) := dz_4 (k_J6_bitCount_0f7a4 0 2 rfl)
theorem dJ6_bitCount_0f7a4_3 : decode cJ6_bitCount_0f7a4 3 = .ok (.iushr, 1) := dz_124 (k_J6_bitCount_0f7a4 0 3 rfl)
theorem dJ6_bitCount_0f7a4_4 : decode cJ6_bitCount_0f7a4 4 = .ok (.ldc_w 265, 3) := dz_19 (k_J6_bitCount_0f7a4 0 4 rfl) (k_J6_bitCount_0f7a4 0 5 rfl) (k_J6_bitCount_0f7a4 0 6 rfl) rfl
theorem dJ6_bitCount_0f7a4_7 : decode cJ6_bitCount_0f7a4 7 = .ok (.iand, 1) := dz_126 (k_J6_bitCount_0f7a4 0 7 rfl)
theorem dJ6_bitCount_0f7a4_8 : decode cJ6_bitCount_0f7a4 8 = .ok (.isub, 1) := dz_100 (k_J6_bitCount_0f7a4 0 8 rfl)
theorem dJ6_bitCount_0f7a4_9 : decode cJ6_bitCount_0f7a4 9 = .ok (.istore_n 0, 1) := dz_59 (k_J6_bitCount_0f7a4 0 9 rfl)
theorem dJ6_bitCount_0f7a4_10 : decode cJ6_bitCount_0f7a4 10 = .ok (.iload_n 0, 1) := dz_26 (k_J6_bitCount_0f7a4 0 10 rfl)
theorem dJ6_bitCount_0f7a4_11 : decode cJ6_bitCount_0f7a4 11 = .ok (.ldc_w 266, 3) := dz_19 (k_J6_bitCount_0f7a4 0 11 rfl) (k_J6_bitCount_0f7a4 0 12 rfl) (k_J6_bitCount_0f7a4 0 13 rfl) rfl
theorem dJ6_bitCount_0f7a4_14 : decode cJ6_bitCount_0f7a4 14 = .ok (.iand, 1) := dz_126 (k_J6_bitCount_0f7a4 0 14 rfl)
theorem dJ6_bitCount_0f7a4_15 : decode cJ6_bitCount_0f7a4 15 = .ok (.iload_n 0, 1) := dz_26 (k_J6_bitCount_0f7a4 0 15 rfl)
theorem dJ6_bitCount_0f7a4_16 : decode cJ6_bitCount_0f7a4 16 = .ok (.iconst 2, 1) := dz_5 (k_J6_bitCount_0f7a4 0 16 rfl)
theorem dJ6_bitCount_0f7a4_17 : decode cJ6_bitCount_0f7a4 17 = .ok (.iushr, 1) := dz_124 (k_J6_bitCount_0f7a4 0 17 rfl)
theorem dJ6_bitCount_0f7a4_18 : decode cJ6_bitCount_0f7a4 18 = .ok (.ldc_w 266, 3) := dz_19 (k_J6_bitCount_0f7a4 0 18 rfl) (k_J6_bitCount_0f7a4 0 19 rfl) (k_J6_bitCount_0f7a4 0 20 rfl) rfl
theorem dJ6_bitCount_0f7a4_21 : decode cJ6_bitCount_0f7a4 21 = .ok (.iand, 1) := dz_126 (k_J6_bitCount_0f7a4 0 21 rfl)
theorem dJ6_bitCount_0f7a4_22 : decode cJ6_bitCount_0f7a4 22 = .ok (.iadd, 1) := dz_96 (k_J6_bitCount_0f7a4 0 22 rfl)
theorem dJ6_bitCount_0f7a4_23 : decode cJ6_bitCount_0f7a4 23 = .ok (.istore_n 0, 1) := dz_59 (k_J6_bitCount_0f7a4 0 23 rfl)
theorem dJ6_bitCount_0f7a4_24 : decode cJ6_bitCount_0f7a4 24 = .ok (.iload_n 0, 1) := dz_26 (k_J6_bitCount_0f7a4 0 24 rfl)
theorem dJ6_bitCount_0f7a4_25 : decode cJ6_bitCount_0f7a4 25 = .ok (.iload_n 0, 1) := dz_26 (k_J6_bitCount_0f7a4 0 25 rfl)
theorem dJ6_bitCount_0f7a4_26 : decode cJ6_bitCount_0f7a4 26 = .ok (.iconst 4, 1) := dz_7 (k_J6_bitCount_0f7a4 0 26 rfl)
theorem dJ6_bitCount_0f7a4_27 : decode cJ6_bitCount_0f7a4 27 = .ok (.iushr, 1) := dz_124 (k_J6_bitCount_0f7a4 0 27 rfl)
theorem dJ6_bitCount_0f7a4_28 : decode cJ6_bitCount_0f7a4 28 = .ok (.iadd, 1) := dz_96 (k_J6_bitCount_0f7a4 0 28 rfl)
theorem dJ6_bitCount_0f7a4_29 : decode cJ6_bitCount_0f7a4 29 = .ok (.ldc_w 267, 3) := dz_19 (k_J6_bitCount_0f7a4 0 29 rfl) (k_J6_bitCount_0f7a4 0 30 rfl) (k_J6_bitCount_0f7a4 0 31 rfl) rfl
theorem dJ6_bitCount_0f7a4_32 : decode cJ6_bitCount_0f7a4 32 = .ok (.iand, 1) := dz_126 (k_J6_bitCount_0f7a4 0 32 rfl)
theorem dJ6_bitCount_0f7a4_33 : decode cJ6_bitCount_0f7a4 33 = .ok (.istore_n 0, 1) := dz_59 (k_J6_bitCount_0f7a4 0 33 rfl)
theorem dJ6_bitCount_0f7a4_34 : decode cJ6_bitCount_0f7a4 34 = .ok (.iload_n 0, 1) := dz_26 (k_J6_bitCount_0f7a4 0 34 rfl)
theorem dJ6_bitCount_0f7a4_35 : decode cJ6_bitCount_0f7a4 35 = .ok (.iload_n 0, 1) := dz_26 (k_J6_bitCount_0f7a4 0 35 rfl)
theorem dJ6_bitCount_0f7a4_36 : decode cJ6_bitCount_0f7a4 36 = .ok (.bipush 8, 2) := dz_16 (k_J6_bitCount_0f7a4 0 36 rfl) (k_J6_bitCount_0f7a4 0 37 rfl) rfl
theorem dJ6_bitCount_0f7a4_38 : decode cJ6_bitCount_0f7a4 38 = .ok (.iushr, 1) := dz_124 (k_J6_bitCount_0f7a4 0 38 rfl)
theorem dJ6_bitCount_0f7a4_39 : decode cJ6_bitCount_0f7a4 39 = .ok (.iadd, 1) := dz_96 (k_J6_bitCount_0f7a4 0 39 rfl)
theorem dJ6_bitCount_0f7a4_40 : decode cJ6_bitCount_0f7a4 40 = .ok (.istore_n 0, 1) := dz_59 (k_J6_bitCount_0f7a4 0 40 rfl)
theorem dJ6_bitCount_0f7a4_41 : decode cJ6_bitCount_0f7a4 41 = .ok (.iload_n 0, 1) := dz_26 (k_J6_bitCount_0f7a4 0 41 rfl)
theorem dJ6_bitCount_0f7a4_42 : decode cJ6_bitCount_0f7a4 42 = .ok (.iload_n 0, 1) := dz_26 (k_J6_bitCount_0f7a4 0 42 rfl)
theorem dJ6_bitCount_0f7a4_43 : decode cJ6_bitCount_0f7a4 43 = .ok (.bipush 16, 2) := dz_16 (k_J6_bitCount_0f7a4 0 43 rfl) (k_J6_bitCount_0f7a4 0 44 rfl) rfl
theorem dJ6_bitCount_0f7a4_45 : decode cJ6_bitCount_0f7a4 45 = .ok (.iushr, 1) := dz_124 (k_J6_bitCount_0f7a4 0 45 rfl)
theorem dJ6_bitCount_0f7a4_46 : decode cJ6_bitCount_0f7a4 46 = .ok (.iadd, 1) := dz_96 (k_J6_bitCount_0f7a4 0 46 rfl)
theorem dJ6_bitCount_0f7a4_47 : decode cJ6_bitCount_0f7a4 47 = .ok (.istore_n 0, 1) := dz_59 (k_J6_bitCount_0f7a4 0 47 rfl)
theorem dJ6_bitCount_0f7a4_48 : decode cJ6_bitCount_0f7a4 48 = .ok (.iload_n 0, 1) := dz_26 (k_J6_bitCount_0f7a4 0 48 rfl)
theorem dJ6_bitCount_0f7a4_49 : decode cJ6_bitCount_0f7a4 49 = .ok (.bipush 63, 2) := dz_16 (k_J6_bitCount_0f7a4 0 49 rfl) (k_J6_bitCount_0f7a4 0 50 rfl) rfl
theorem dJ6_bitCount_0f7a4_51 : decode cJ6_bitCount_0f7a4 51 = .ok (.iand, 1) := dz_126 (k_J6_bitCount_0f7a4 0 51 rfl)
theorem dJ6_bitCount_0f7a4_52 : decode cJ6_bitCount_0f7a4 52 = .ok (.ireturn, 1) := dz_172 (k_J6_bitCount_0f7a4 0 52 rfl)
def B_J6_numberOfTrailingZeros_0f7a4 : List (List Nat) := [[26, 2, 130, 26, 4, 100, 126, 59, 26, 157, 0, 8, 26, 16, 32, 126, 172, 4, 60, 26, 19, 1, 8, 164, 0, 11, 132, 1, 16, 26, 16, 16, 124, 59, 26, 17, 1, 0, 164, 0, 11, 132, 1, 8, 26, 16, 8, 124, 59, 26, 16, 16, 164, 0, 10, 132, 1, 4, 26, 7, 124, 59, 26, 7], [164, 0, 10, 132, 1, 2, 26, 5, 124, 59, 27, 26, 4, 124, 96, 172]]
theorem k_J6_numberOfTrailingZeros_0f7a4 (j i : Nat) {b : Nat} (h : (B_J6_numberOfTrailingZeros_0f7a4[j]?.bind fun c => c[i]?) = some b) : s_by cJ6_numberOfTrailingZeros_0f7a4 (64 * j + i) b := s_byC (L := B_J6_numberOfTrailingZeros_0f7a4) (by decide +kernel) (by decide +kernel) j i h
theorem dJ6_numberOfTrailingZeros_0f7a4_0 : decode cJ6_numberOfTrailingZeros_0f7a4 0 = .ok (.iload_n 0, 1) := dz_26 (k_J6_numberOfTrailingZeros_0f7a4 0 0 rfl)
theorem dJ6_numberOfTrailingZeros_0f7a4_1 : decode cJ6_numberOfTrailingZeros_0f7a4 1 = .ok (.iconst (-1), 1) := dz_2 (k_J6_numberOfTrailingZeros_0f7a4 0 1 rfl)
theorem dJ6_numberOfTrailingZeros_0f7a4_2 : decode cJ6_numberOfTrailingZeros_0f7a4 2 = .ok (.ixor, 1) := dz_130 (k_J6_numberOfTrailingZeros_0f7a4 0 2 rfl)
theorem dJ6_numberOfTrailingZeros_0f7a4_3 : decode cJ6_numberOfTrailingZeros_0f7a4 3 = .ok (.iload_n 0, 1) := dz_26 (k_J6_numberOfTrailingZeros_0f7a4 0 3 rfl)
theorem dJ6_numberOfTrailingZeros_0f7a4_4 : decode cJ6_numberOfTrailingZeros_0f7a4 4 = .ok (.iconst 1, 1) := dz_4 (k_J6_numberOfTrailingZeros_0f7a4 0 4 rfl)
theorem dJ6_numberOfTrailingZeros_0f7a4_5 : decode cJ6_numberOfTrailingZeros_0f7a4 5 = .ok (.isub, 1) := dz_100 (k_J6_numberOfTrailingZeros_0f7a4 0 5 rfl)
theorem dJ6_numberOfTrailingZeros_0f7a4_6 : decode cJ6_numberOfTrailingZeros_0f7a4 6 = .ok (.iand, 1) := dz_126 (k_J6_numberOfTrailingZeros_0f7a4 0 6 rfl)
theorem dJ6_numberOfTrailingZeros_0f7a4_7 : decode cJ6_numberOfTrailingZeros_0f7a4 7 = .ok (.istore_n 0, 1) := dz_59 (k_J6_numberOfTrailingZeros_0f7a4 0 7 rfl)
theorem dJ6_numberOfTrailingZeros_0f7a4_8 : decode cJ6_numberOfTrailingZeros_0f7a4 8 = .ok (.iload_n 0, 1) := dz_26 (k_J6_numberOfTrailingZeros_0f7a4 0 8 rfl)
theorem dJ6_numberOfTrailingZeros_0f7a4_9 : decode cJ6_numberOfTrailingZeros_0f7a4 9 = .ok (.ifCond .gt 8, 3) := dz_157 (k_J6_numberOfTrailingZeros_0f7a4 0 9 rfl) (k_J6_numberOfTrailingZeros_0f7a4 0 10 rfl) (k_J6_numberOfTrailingZeros_0f7a4 0 11 rfl) rfl
theorem dJ6_numberOfTrailingZeros_0f7a4_12 : decode cJ6_numberOfTrailingZeros_0f7a4 12 = .ok (.iload_n 0, 1) := dz_26 (k_J6_numberOfTrailingZeros_0f7a4 0 12 rfl)
theorem dJ6_numberOfTrailingZeros_0f7a4_13 : decode cJ6_numberOfTrailingZeros_0f7a4 13 = .ok (.bipush 32, 2) := dz_16 (k_J6_numberOfTrailingZeros_0f7a4 0 13 rfl) (k_J6_numberOfTrailingZeros_0f7a4 0 14 rfl) rfl
theorem dJ6_numberOfTrailingZeros_0f7a4_15 : decode cJ6_numberOfTrailingZeros_0f7a4 15 = .ok (.iand, 1) := dz_126 (k_J6_numberOfTrailingZeros_0f7a4 0 15 rfl)
theorem dJ6_numberOfTrailingZeros_0f7a4_16 : decode cJ6_numberOfTrailingZeros_0f7a4 16 = .ok (.ireturn, 1) := dz_172 (k_J6_numberOfTrailingZeros_0f7a4 0 16 rfl)
theorem dJ6_numberOfTrailingZeros_0f7a4_17 : decode cJ6_numberOfTrailingZeros_0f7a4 17 = .ok (.iconst 1, 1) := dz_4 (k_J6_numberOfTrailingZeros_0f7a4 0 17 rfl)
theorem dJ6_numberOfTrailingZeros_0f7a4_18 : decode cJ6_numberOfTrailingZeros_0f7a4 18 = .ok (.istore_n 1, 1) := dz_60 (k_J6_numberOfTrailingZeros_0f7a4 0 18 rfl)
theorem dJ6_numberOfTrailingZeros_0f7a4_19 : decode cJ6_numberOfTrailingZeros_0f7a4 19 = .ok (.iload_n 0, 1) := dz_26 (k_J6_numberOfTrailingZeros_0f7a4 0 19 rfl)
theorem dJ6_numberOfTrailingZeros_0f7a4_20 : decode cJ6_numberOfTrailingZeros_0f7a4 20 = .ok (.ldc_w 264, 3) := dz_19 (k_J6_numberOfTrailingZeros_0f7a4 0 20 rfl) (k_J6_numberOfTrailingZeros_0f7a4 0 21 rfl) (k_J6_numberOfTrailingZeros_0f7a4 0 22 rfl) rfl
theorem dJ6_numberOfTrailingZeros_0f7a4_23 : decode cJ6_numberOfTrailingZeros_0f7a4 23 = .ok (.if_icmp .le 11, 3) := dz_164 (k_J6_numberOfTrailingZeros_0f7a4 0 23 rfl) (k_J6_numberOfTrailingZeros_0f7a4 0 24 rfl) (k_J6_numberOfTrailingZeros_0f7a4 0 25 rfl) rfl
theorem dJ6_numberOfTrailingZeros_0f7a4_26 : decode cJ6_numberOfTrailingZeros_0f7a4 26 = .ok (.iinc 1 16, 3) := dz_132 (k_J6_numberOfTrailingZeros_0f7a4 0 26 rfl) (k_J6_numberOfTrailingZeros_0f7a4 0 27 rfl) (k_J6_numberOfTrailingZeros_0f7a4 0 28 rfl) rfl
theorem dJ6_numberOfTrailingZeros_0f7a4_29 : decode cJ6_numberOfTrailingZeros_0f7a4 29 = .ok (.iload_n 0, 1) := dz_26 (k_J6_numberOfTrailingZeros_0f7a4 0 29 rfl)
theorem dJ6_numberOfTrailingZeros_0f7a4_30 : decode cJ6_numberOfTrailingZeros_0f7a4 30 = .ok (.bipush 16, 2) := dz_16 (k_J6_numberOfTrailingZeros_0f7a4 0 30 rfl) (k_J6_numberOfTrailingZeros_0f7a4 0 31 rfl) rfl
theorem dJ6_numberOfTrailingZeros_0f7a4_32 : decode cJ6_numberOfTrailingZeros_0f7a4 32 = .ok (.iushr, 1) := dz_124 (k_J6_numberOfTrailingZeros_0f7a4 0 32 rfl)
theorem dJ6_numberOfTrailingZeros_0f7a4_33 : decode cJ6_numberOfTrailingZeros_0f7a4 33 = .ok (.istore_n 0, 1) := dz_59 (k_J6_numberOfTrailingZeros_0f7a4 0 33 rfl)
theorem dJ6_numberOfTrailingZeros_0f7a4_34 : decode cJ6_numberOfTrailingZeros_0f7a4 34 = .ok (.iload_n 0, 1) := dz_26 (k_J6_numberOfTrailingZeros_0f7a4 0 34 rfl)
theorem dJ6_numberOfTrailingZeros_0f7a4_35 : decode cJ6_numberOfTrailingZeros_0f7a4 35 = .ok (.sipush 256, 3) := dz_17 (k_J6_numberOfTrailingZeros_0f7a4 0 35 rfl) (k_J6_numberOfTrailingZeros_0f7a4 0 36 rfl) (k_J6_numberOfTrailingZeros_0f7a4 0 37 rfl) rfl
theorem dJ6_numberOfTrailingZeros_0f7a4_38 : decode cJ6_numberOfTrailingZeros_0f7a4 38 = .ok (.if_icmp .le 11, 3) := dz_164 (k_J6_numberOfTrailingZeros_0f7a4 0 38 rfl) (k_J6_numberOfTrailingZeros_0f7a4 0 39 rfl) (k_J6_numberOfTrailingZeros_0f7a4 0 40 rfl) rfl
theorem dJ6_numberOfTrailingZeros_0f7a4_41 : decode cJ6_numberOfTrailingZeros_0f7a4 41 = .ok (.iinc 1 8, 3) := dz_132 (k_J6_numberOfTrailingZeros_0f7a4 0 41 rfl) (k_J6_numberOfTrailingZeros_0f7a4 0 42 rfl) (k_J6_numberOfTrailingZeros_0f7a4 0 43 rfl) rfl
theorem dJ6_numberOfTrailingZeros_0f7a4_44 : decode cJ6_numberOfTrailingZeros_0f7a4 44 = .ok (.iload_n 0, 1) := dz_26 (k_J6_numberOfTrailingZeros_0f7a4 0 44 rfl)
theorem dJ6_numberOfTrailingZeros_0f7a4_45 : decode cJ6_numberOfTrailingZeros_0f7a4 45 = .ok (.bipush 8, 2) := dz_16 (k_J6_numberOfTrailingZeros_0f7a4 0 45 rfl) (k_J6_numberOfTrailingZeros_0f7a4 0 46 rfl) rfl
theorem dJ6_numberOfTrailingZeros_0f7a4_47 : decode cJ6_numberOfTrailingZeros_0f7a4 47 = .ok (.iushr, 1) := dz_124 (k_J6_numberOfTrailingZeros_0f7a4 0 47 rfl)
theorem dJ6_numberOfTrailingZeros_0f7a4_48 : decode cJ6_numberOfTrailingZeros_0f7a4 48 = .ok (.istore_n 0, 1) := dz_59 (k_J6_numberOfTrailingZeros_0f7a4 0 48 rfl)
theorem dJ6_numberOfTrailingZeros_0f7a4_49 : decode cJ6_numberOfTrailingZeros_0f7a4 49 = .ok (.iload_n 0, 1) := dz_26 (k_J6_numberOfTrailingZeros_0f7a4 0 49 rfl)
theorem dJ6_numberOfTrailingZeros_0f7a4_50 : decode cJ6_numberOfTrailingZeros_0f7a4 50 = .ok (.bipush 16, 2) := dz_16 (k_J6_numberOfTrailingZeros_0f7a4 0 50 rfl) (k_J6_numberOfTrailingZeros_0f7a4 0 51 rfl) rfl
theorem dJ6_numberOfTrailingZeros_0f7a4_52 : decode cJ6_numberOfTrailingZeros_0f7a4 52 = .ok (.if_icmp .le 10, 3) := dz_164 (k_J6_numberOfTrailingZeros_0f7a4 0 52 rfl) (k_J6_numberOfTrailingZeros_0f7a4 0 53 rfl) (k_J6_numberOfTrailingZeros_0f7a4 0 54 rfl) rfl
theorem dJ6_numberOfTrailingZeros_0f7a4_55 : decode cJ6_numberOfTrailingZeros_0f7a4 55 = .ok (.iinc 1 4, 3) := dz_132 (k_J6_numberOfTrailingZeros_0f7a4 0 55 rfl) (k_J6_numberOfTrailingZeros_0f7a4 0 56 rfl) (k_J6_numberOfTrailingZeros_0f7a4 0 57 rfl) rfl
theorem dJ6_numberOfTrailingZeros_0f7a4_58 : decode cJ6_numberOfTrailingZeros_0f7a4 58 = .ok (.iload_n 0, 1) := dz_26 (k_J6_numberOfTrailingZeros_0f7a4 0 58 rfl)
theorem dJ6_numberOfTrailingZeros_0f7a4_59 : decode cJ6_numberOfTrailingZeros_0f7a4 59 = .ok (.iconst 4, 1) := dz_7 (k_J6_numberOfTrailingZeros_0f7a4 0 59 rfl)
theorem dJ6_numberOfTrailingZeros_0f7a4_60 : decode cJ6_numberOfTrailingZeros_0f7a4 60 = .ok (.iushr, 1) := dz_124 (k_J6_numberOfTrailingZeros_0f7a4 0 60 rfl)
theorem dJ6_numberOfTrailingZeros_0f7a4_61 : decode cJ6_numberOfTrailingZeros_0f7a4 61 = .ok (.istore_n 0, 1) := dz_59 (k_J6_numberOfTrailingZeros_0f7a4 0 61 rfl)
theorem dJ6_numberOfTrailingZeros_0f7a4_62 : decode cJ6_numberOfTrailingZeros_0f7a4 62 = .ok (.iload_n 0, 1) := dz_26 (k_J6_numberOfTrailingZeros_0f7a4 0 62 rfl)
theorem dJ6_numberOfTrailingZeros_0f7a4_63 : decode cJ6_numberOfTrailingZeros_0f7a4 63 = .ok (.iconst 4, 1) := dz_7 (k_J6_numberOfTrailingZeros_0f7a4 0 63 rfl)
theorem dJ6_numberOfTrailingZeros_0f7a4_64 : decode cJ6_numberOfTrailingZeros_0f7a4 64 = .ok (.if_icmp .le 10, 3) := dz_164 (k_J6_numberOfTrailingZeros_0f7a4 1 0 rfl) (k_J6_numberOfTrailingZeros_0f7a4 1 1 rfl) (k_J6_numberOfTrailingZeros_0f7a4 1 2 rfl) rfl
theorem dJ6_numberOfTrailingZeros_0f7a4_67 : decode cJ6_numberOfTrailingZeros_0f7a4 67 = .ok (.iinc 1 2, 3) := dz_132 (k_J6_numberOfTrailingZeros_0f7a4 1 3 rfl) (k_J6_numberOfTrailingZeros_0f7a4 1 4 rfl) (k_J6_numberOfTrailingZeros_0f7a4 1 5 rfl) rfl
theorem dJ6_numberOfTrailingZeros_0f7a4_70 : decode cJ6_numberOfTrailingZeros_0f7a4 70 = .ok (.iload_n 0, 1) := dz_26 (k_J6_numberOfTrailingZeros_0f7a4 1 6 rfl)
theorem dJ6_numberOfTrailingZeros_0f7a4_71 : decode cJ6_numberOfTrailingZeros_0f7a4 71 = .ok (.iconst 2, 1) := dz_5 (k_J6_numberOfTrailingZeros_0f7a4 1 7 rfl)
theorem dJ6_numberOfTrailingZeros_0f7a4_72 : decode cJ6_numberOfTrailingZeros_0f7a4 72 = .ok (.iushr, 1) := dz_124 (k_J6_numberOfTrailingZeros_0f7a4 1 8 rfl)
theorem dJ6_numberOfTrailingZeros_0f7a4_73 : decode cJ6_numberOfTrailingZeros_0f7a4 73 = .ok (.istore_n 0, 1) := dz_59 (k_J6_numberOfTrailingZeros_0f7a4 1 9 rfl)
theorem dJ6_numberOfTrailingZeros_0f7a4_74 : decode cJ6_numberOfTrailingZeros_0f7a4 74 = .ok (.iload_n 1, 1) := dz_27 (k_J6_numberOfTrailingZeros_0f7a4 1 10 rfl)
theorem dJ6_numberOfTrailingZeros_0f7a4_75 : decode cJ6_numberOfTrailingZeros_0f7a4 75 = .ok (.iload_n 0, 1) := dz_26 (k_J6_numberOfTrailingZeros_0f7a4 1 11 rfl)
theorem dJ6_numberOfTrailingZeros_0f7a4_76 : decode cJ6_numberOfTrailingZeros_0f7a4 76 = .ok (.iconst 1, 1) := dz_4 (k_J6_numberOfTrailingZeros_0f7a4 1 12 rfl)
theorem dJ6_numberOfTrailingZeros_0f7a4_77 : decode cJ6_numberOfTrailingZeros_0f7a4 77 = .ok (.iushr, 1) := dz_124 (k_J6_numberOfTrailingZeros_0f7a4 1 13 rfl)
theorem dJ6_numberOfTrailingZeros_0f7a4_78 : decode cJ6_numberOfTrailingZeros_0f7a4 78 = .ok (.iadd, 1) := dz_96 (k_J6_numberOfTrailingZeros_0f7a4 1 14 rfl)
theorem dJ6_numberOfTrailingZeros_0f7a4_79 : decode cJ6_numberOfTrailingZeros_0f7a4 79 = .ok (.ireturn, 1) := dz_172 (k_J6_numberOfTrailingZeros_0f7a4 1 15 rfl)
def B_J7_copyOf_59c91 : List (List Nat) := [[27, 42, 190, 160, 0, 11, 42, 182, 1, 60, 192, 1, 61, 176, 27, 188, 10, 77, 42, 3, 44, 3, 42, 190, 27, 184, 1, 48, 184, 0, 150, 44, 176]]
theorem k_J7_copyOf_59c91 (j i : Nat) {b : Nat} (h : (B_J7_copyOf_59c91[j]?.bind fun c => c[i]?) = some b) : s_by cJ7_copyOf_59c91 (64 * j + i) b := s_byC (L := B_J7_copyOf_59c91) (by decide +kernel) (by decide +kernel) j i h
theorem dJ7_copyOf_59c91_0 : decode cJ7_copyOf_59c91 0 = .ok (.iload_n 1, 1) := dz_27 (k_J7_copyOf_59c91 0 0 rfl)
theorem dJ7_copyOf_59c91_1 : decode cJ7_copyOf_59c91 1 = .ok (.aload_n 0, 1) := dz_42 (k_J7_copyOf_59c91 0 1 rfl)
theorem dJ7_copyOf_59c91_2 : decode cJ7_copyOf_59c91 2 = .ok (.arraylength, 1) := dz_190 (k_J7_copyOf_59c91 0 2 rfl)
theorem dJ7_copyOf_59c91_3 : decode cJ7_copyOf_59c91 3 = .ok (.if_icmp .ne 11, 3) := dz_160 (k_J7_copyOf_59c91 0 3 rfl) (k_J7_copyOf_59c91 0 4 rfl) (k_J7_copyOf_59c91 0 5 rfl) rfl
theorem dJ7_copyOf_59c91_6 : decode cJ7_copyOf_59c91 6 = .ok (.aload_n 0, 1) := dz_42 (k_J7_copyOf_59c91 0 6 rfl)
theorem dJ7_copyOf_59c91_7 : decode cJ7_copyOf_59c91 7 = .ok (.invokevirtual 316, 3) := dz_182 (k_J7_copyOf_59c91 0 7 rfl) (k_J7_copyOf_59c91 0 8 rfl) (k_J7_copyOf_59c91 0 9 rfl) rfl
theorem dJ7_copyOf_59c91_10 : decode cJ7_copyOf_59c91 10 = .ok (.checkcast 317, 3) := dz_192 (k_J7_copyOf_59c91 0 10 rfl) (k_J7_copyOf_59c91 0 11 rfl) (k_J7_copyOf_59c91 0 12 rfl) rfl
theorem dJ7_copyOf_59c91_13 : decode cJ7_copyOf_59c91 13 = .ok (.areturn, 1) := dz_176 (k_J7_copyOf_59c91 0 13 rfl)
theorem dJ7_copyOf_59c91_14 : decode cJ7_copyOf_59c91 14 = .ok (.iload_n 1, 1) := dz_27 (k_J7_copyOf_59c91 0 14 rfl)
theorem dJ7_copyOf_59c91_15 : decode cJ7_copyOf_59c91 15 = .ok (.newarray .int, 2) := by decide +kernel
theorem dJ7_copyOf_59c91_17 : decode cJ7_copyOf_59c91 17 = .ok (.astore_n 2, 1) := dz_77 (k_J7_copyOf_59c91 0 17 rfl)
theorem dJ7_copyOf_59c91_18 : decode cJ7_copyOf_59c91 18 = .ok (.aload_n 0, 1) := dz_42 (k_J7_copyOf_59c91 0 18 rfl)
theorem dJ7_copyOf_59c91_19 : decode cJ7_copyOf_59c91 19 = .ok (.iconst 0, 1) := dz_3 (k_J7_copyOf_59c91 0 19 rfl)
theorem dJ7_copyOf_59c91_20 : decode cJ7_copyOf_59c91 20 = .ok (.aload_n 2, 1) := dz_44 (k_J7_copyOf_59c91 0 20 rfl)
theorem dJ7_copyOf_59c91_21 : decode cJ7_copyOf_59c91 21 = .ok (.iconst 0, 1) := dz_3 (k_J7_copyOf_59c91 0 21 rfl)
theorem dJ7_copyOf_59c91_22 : decode cJ7_copyOf_59c91 22 = .ok (.aload_n 0, 1) := dz_42 (k_J7_copyOf_59c91 0 22 rfl)
theorem dJ7_copyOf_59c91_23 : decode cJ7_copyOf_59c91 23 = .ok (.arraylength, 1) := dz_190 (k_J7_copyOf_59c91 0 23 rfl)
theorem dJ7_copyOf_59c91_24 : decode cJ7_copyOf_59c91 24 = .ok (.iload_n 1, 1) := dz_27 (k_J7_copyOf_59c91 0 24 rfl)
theorem dJ7_copyOf_59c91_25 : decode cJ7_copyOf_59c91 25 = .ok (.invokestatic 304, 3) := dz_184 (k_J7_copyOf_59c91 0 25 rfl) (k_J7_copyOf_59c91 0 26 rfl) (k_J7_copyOf_59c91 0 27 rfl) rfl
theorem dJ7_copyOf_59c91_28 : decode cJ7_copyOf_59c91 28 = .ok (.invokestatic 150, 3) := dz_184 (k_J7_copyOf_59c91 0 28 rfl) (k_J7_copyOf_59c91 0 29 rfl) (k_J7_copyOf_59c91 0 30 rfl) rfl
theorem dJ7_copyOf_59c91_31 : decode cJ7_copyOf_59c91 31 = .ok (.aload_n 2, 1) := dz_44 (k_J7_copyOf_59c91 0 31 rfl)
theorem dJ7_copyOf_59c91_32 : decode cJ7_copyOf_59c91 32 = .ok (.areturn, 1) := dz_176 (k_J7_copyOf_59c91 0 32 rfl)
def B_J7_fill_53178 : List (List Nat) := [[3, 61, 42, 190, 62, 28, 29, 162, 0, 13, 42, 28, 27, 79, 132, 2, 1, 167, 255, 244, 177]]
theorem k_J7_fill_53178 (j i : Nat) {b : Nat} (h : (B_J7_fill_53178[j]?.bind fun c => c[i]?) = some b) : s_by cJ7_fill_53178 (64 * j + i) b := s_byC (L := B_J7_fill_53178) (by decide +kernel) (by decide +kernel) j i h
theorem dJ7_fill_53178_0 : decode cJ7_fill_53178 0 = .ok (.iconst 0, 1) := dz_3 (k_J7_fill_53178 0 0 rfl)
theorem dJ7_fill_53178_1 : decode cJ7_fill_53178 1 = .ok (.istore_n 2, 1) := dz_61 (k_J7_fill_53178 0 1 rfl)
theorem dJ7_fill_53178_2 : decode cJ7_fill_53178 2 = .ok (.aload_n 0, 1) := dz_42 (k_J7_fill_53178 0 2 rfl)
theorem dJ7_fill_53178_3 : decode cJ7_fill_53178 3 = .ok (.arraylength, 1) := dz_190 (k_J7_fill_53178 0 3 rfl)
theorem dJ7_fill_53178_4 : decode cJ7_fill_53178 4 = .ok (.istore_n 3, 1) := dz_62 (k_J7_fill_53178 0 4 rfl)
theorem dJ7_fill_53178_5 : decode cJ7_fill_53178 5 = .ok (.iload_n 2, 1) := dz_28 (k_J7_fill_53178 0 5 rfl)
theorem dJ7_fill_53178_6 : decode cJ7_fill_53178 6 = .ok (.iload_n 3, 1) := dz_29 (k_J7_fill_53178 0 6 rfl)
theorem dJ7_fill_53178_7 : decode cJ7_fill_53178 7 = .ok (.if_icmp .ge 13, 3) := dz_162 (k_J7_fill_53178 0 7 rfl) (k_J7_fill_53178 0 8 rfl) (k_J7_fill_53178 0 9 rfl) rfl
theorem dJ7_fill_53178_10 : decode cJ7_fill_53178 10 = .ok (.aload_n 0, 1) := dz_42 (k_J7_fill_53178 0 10 rfl)
theorem dJ7_fill_53178_11 : decode cJ7_fill_53178 11 = .ok (.iload_n 2, 1) := dz_28 (k_J7_fill_53178 0 11 rfl)
theorem dJ7_fill_53178_12 : decode cJ7_fill_53178 12 = .ok (.iload_n 1, 1) := dz_27 (k_J7_fill_53178 0 12 rfl)
theorem dJ7_fill_53178_13 : decode cJ7_fill_53178 13 = .ok (.iastore, 1) := dz_79 (k_J7_fill_53178 0 13 rfl)
theorem dJ7_fill_53178_14 : decode cJ7_fill_53178 14 = .ok (.iinc 2 1, 3) := dz_132 (k_J7_fill_53178 0 14 rfl) (k_J7_fill_53178 0 15 rfl) (k_J7_fill_53178 0 16 rfl) rfl
theorem dJ7_fill_53178_17 : decode cJ7_fill_53178 17 = .ok (.goto (-12), 3) := dz_167 (k_J7_fill_53178 0 17 rfl) (k_J7_fill_53178 0 18 rfl) (k_J7_fill_53178 0 19 rfl) rfl
theorem dJ7_fill_53178_20 : decode cJ7_fill_53178 20 = .ok (.return_, 1) := dz_177 (k_J7_fill_53178 0 20 rfl)
def B_J7_fill_d0a16 : List (List Nat) := [[3, 62, 42, 190, 54, 4, 29, 21, 4, 162, 0, 13, 42, 29, 31, 80, 132, 3, 1, 167, 255, 243, 177]]
theorem k_J7_fill_d0a16 (j i : Nat) {b : Nat} (h : (B_J7_fill_d0a16[j]?.bind fun c => c[i]?) = some b) : s_by cJ7_fill_d0a16 (64 * j + i) b := s_byC (L := B_J7_fill_d0a16) (by decide +kernel) (by decide +kernel) j i h
theorem dJ7_fill_d0a16_0 : decode cJ7_fill_d0a16 0 = .ok (.iconst 0, 1) := dz_3 (k_J7_fill_d0a16 0 0 rfl)
theorem dJ7_fill_d0a16_1 : decode cJ7_fill_d0a16 1 = .ok (.istore_n 3, 1) := dz_62 (k_J7_fill_d0a16 0 1 rfl)
theorem dJ7_fill_d0a16_2 : decode cJ7_fill_d0a16 2 = .ok (.aload_n 0, 1) := dz_42 (k_J7_fill_d0a16 0 2 rfl)
theorem dJ7_fill_d0a16_3 : decode cJ7_fill_d0a16 3 = .ok (.arraylength, 1) := dz_190 (k_J7_fill_d0a16 0 3 rfl)
theorem dJ7_fill_d0a16_4 : decode cJ7_fill_d0a16 4 = .ok (.istore 4, 2) := dz_54 (k_J7_fill_d0a16 0 4 rfl) (k_J7_fill_d0a16 0 5 rfl)
theorem dJ7_fill_d0a16_6 : decode cJ7_fill_d0a16 6 = .ok (.iload_n 3, 1) := dz_29 (k_J7_fill_d0a16 0 6 rfl)
theorem dJ7_fill_d0a16_7 : decode cJ7_fill_d0a16 7 = .ok (.iload 4, 2) := dz_21 (k_J7_fill_d0a16 0 7 rfl) (k_J7_fill_d0a16 0 8 rfl)
theorem dJ7_fill_d0a16_9 : decode cJ7_fill_d0a16 9 = .ok (.if_icmp .ge 13, 3) := dz_162 (k_J7_fill_d0a16 0 9 rfl) (k_J7_fill_d0a16 0 10 rfl) (k_J7_fill_d0a16 0 11 rfl) rfl
theorem dJ7_fill_d0a16_12 : decode cJ7_fill_d0a16 12 = .ok (.aload_n 0, 1) := dz_42 (k_J7_fill_d0a16 0 12 rfl)
theorem dJ7_fill_d0a16_13 : decode cJ7_fill_d0a16 13 = .ok (.iload_n 3, 1) := dz_29 (k_J7_fill_d0a16 0 13 rfl)
theorem dJ7_fill_d0a16_14 : decode cJ7_fill_d0a16 14 = .ok (.lload_n 1, 1) := dz_31 (k_J7_fill_d0a16 0 14 rfl)
theorem dJ7_fill_d0a16_15 : decode cJ7_fill_d0a16 15 = .ok (.lastore, 1) := dz_80 (k_J7_fill_d0a16 0 15 rfl)
theorem dJ7_fill_d0a16_16 : decode cJ7_fill_d0a16 16 = .ok (.iinc 3 1, 3) := dz_132 (k_J7_fill_d0a16 0 16 rfl) (k_J7_fill_d0a16 0 17 rfl) (k_J7_fill_d0a16 0 18 rfl) rfl
theorem dJ7_fill_d0a16_19 : decode cJ7_fill_d0a16 19 = .ok (.goto (-13), 3) := dz_167 (k_J7_fill_d0a16 0 19 rfl) (k_J7_fill_d0a16 0 20 rfl) (k_J7_fill_d0a16 0 21 rfl) rfl
theorem dJ7_fill_d0a16_22 : decode cJ7_fill_d0a16 22 = .ok (.return_, 1) := dz_177 (k_J7_fill_d0a16 0 22 rfl)
def B_J9_max_7cf53 : List (List Nat) := [[26, 27, 161, 0, 7, 26, 167, 0, 4, 27, 172]]
theorem k_J9_max_7cf53 (j i : Nat) {b : Nat} (h : (B_J9_max_7cf53[j]?.bind fun c => c[i]?) = some b) : s_by cJ9_max_7cf53 (64 * j + i) b := s_byC (L := B_J9_max_7cf53) (by decide +kernel) (by decide +kernel) j i h
theorem dJ9_max_7cf53_0 : decode cJ9_max_7cf53 0 = .ok (.iload_n 0, 1) := dz_26 (k_J9_max_7cf53 0 0 rfl)
theorem dJ9_max_7cf53_1 : decode cJ9_max_7cf53 1 = .ok (.iload_n 1, 1) := dz_27 (k_J9_max_7cf53 0 1 rfl)
theorem dJ9_max_7cf53_2 : decode cJ9_max_7cf53 2 = .ok (.if_icmp .lt 7, 3) := dz_161 (k_J9_max_7cf53 0 2 rfl) (k_J9_max_7cf53 0 3 rfl) (k_J9_max_7cf53 0 4 rfl) rfl
theorem dJ9_max_7cf53_5 : decode cJ9_max_7cf53 5 = .ok (.iload_n 0, 1) := dz_26 (k_J9_max_7cf53 0 5 rfl)
theorem dJ9_max_7cf53_6 : decode cJ9_max_7cf53 6 = .ok (.goto 4, 3) := dz_167 (k_J9_max_7cf53 0 6 rfl) (k_J9_max_7cf53 0 7 rfl) (k_J9_max_7cf53 0 8 rfl) rfl
theorem dJ9_max_7cf53_9 : decode cJ9_max_7cf53 9 = .ok (.iload_n 1, 1) := dz_27 (k_J9_max_7cf53 0 9 rfl)
theorem dJ9_max_7cf53_10 : decode cJ9_max_7cf53 10 = .ok (.ireturn, 1) := dz_172 (k_J9_max_7cf53 0 10 rfl)
def B_J9_min_7cf53 : List (List Nat) := [[26, 27, 163, 0, 7, 26, 167, 0, 4, 27, 172]]
theorem k_J9_min_7cf53 (j i : Nat) {b : Nat} (h : (B_J9_min_7cf53[j]?.bind fun c => c[i]?) = some b) : s_by cJ9_min_7cf53 (64 * j + i) b := s_byC (L := B_J9_min_7cf53) (by decide +kernel) (by decide +kernel) j i h
theorem dJ9_min_7cf53_0 : decode cJ9_min_7cf53 0 = .ok (.iload_n 0, 1) := dz_26 (k_J9_min_7cf53 0 0 rfl)
theorem dJ9_min_7cf53_1 : decode cJ9_min_7cf53 1 = .ok (.iload_n 1, 1) := dz_27 (k_J9_min_7cf53 0 1 rfl)
theorem dJ9_min_7cf53_2 : decode cJ9_min_7cf53 2 = .ok (.if_icmp .gt 7, 3) := dz_163 (k_J9_min_7cf53 0 2 rfl) (k_J9_min_7cf53 0 3 rfl) (k_J9_min_7cf53 0 4 rfl) rfl
theorem dJ9_min_7cf53_5 : decode cJ9_min_7cf53 5 = .ok (.iload_n 0, 1) := dz_26 (k_J9_min_7cf53 0 5 rfl)
theorem dJ9_min_7cf53_6 : decode cJ9_min_7cf53 6 = .ok (.goto 4, 3) := dz_167 (k_J9_min_7cf53 0 6 rfl) (k_J9_min_7cf53 0 7 rfl) (k_J9_min_7cf53 0 8 rfl) rfl
theorem dJ9_min_7cf53_9 : decode cJ9_min_7cf53 9 = .ok (.iload_n 1, 1) := dz_27 (k_J9_min_7cf53 0 9 rfl)
theorem dJ9_min_7cf53_10 : decode cJ9_min_7cf53 10 = .ok (.ireturn, 1) := dz_172 (k_J9_min_7cf53 0 10 rfl)
def B_L_agree : List (List Nat) := [[45, 3, 42, 27, 28, 182, 0, 104, 133, 80, 167, 0, 7, 58, 4, 4, 172, 3, 172]]
theorem k_L_agree (j i : Nat) {b : Nat} (h : (B_L_agree[j]?.bind fun c => c[i]?) = some b) : s_by cL_agree (64 * j + i) b := s_byC (L := B_L_agree) (by decide +kernel) (by decide +kernel) j i h
theorem dL_agree_0 : decode cL_agree 0 = .ok (.aload_n 3, 1) := dz_45 (k_L_agree 0 0 rfl)
theorem dL_agree_1 : decode cL_agree 1 = .ok (.iconst 0, 1) := dz_3 (k_L_agree 0 1 rfl)
theorem dL_agree_2 : decode cL_agree 2 = .ok (.aload_n 0, 1) := dz_42 (k_L_agree 0 2 rfl)
theorem dL_agree_3 : decode cL_agree 3 = .ok (.iload_n 1, 1) := dz_27 (k_L_agree 0 3 rfl)
theorem dL_agree_4 : decode cL_agree 4 = .ok (.iload_n 2, 1) := dz_28 (k_L_agree 0 4 rfl)
theorem dL_agree_5 : decode cL_agree 5 = .ok (.invokevirtual 104, 3) := dz_182 (k_L_agree 0 5 rfl) (k_L_agree 0 6 rfl) (k_L_agree 0 7 rfl) rfl
theorem dL_agree_8 : decode cL_agree 8 = .ok (.i2l, 1) := dz_133 (k_L_agree 0 8 rfl)
theorem dL_agree_9 : decode cL_agree 9 = .ok (.lastore, 1) := dz_80 (k_L_agree 0 9 rfl)
theorem dL_agree_10 : decode cL_agree 10 = .ok (.goto 7, 3) := dz_167 (k_L_agree 0 10 rfl) (k_L_agree 0 11 rfl) (k_L_agree 0 12 rfl) rfl
theorem dL_agree_13 : decode cL_agree 13 = .ok (.astore 4, 2) := dz_58 (k_L_agree 0 13 rfl) (k_L_agree 0 14 rfl)
theorem dL_agree_15 : decode cL_agree 15 = .ok (.iconst 1, 1) := dz_4 (k_L_agree 0 15 rfl)
theorem dL_agree_16 : decode cL_agree 16 = .ok (.ireturn, 1) := dz_172 (k_L_agree 0 16 rfl)
theorem dL_agree_17 : decode cL_agree 17 = .ok (.iconst 0, 1) := dz_3 (k_L_agree 0 17 rfl)
theorem dL_agree_18 : decode cL_agree 18 = .ok (.ireturn, 1) := dz_172 (k_L_agree 0 18 rfl)
def B_L_alike : List (List Nat) := [[44, 3, 42, 27, 182, 0, 113, 133, 80, 167, 0, 6, 78, 4, 172, 3, 172]]
theorem k_L_alike (j i : Nat) {b : Nat} (h : (B_L_alike[j]?.bind fun c => c[i]?) = some b) : s_by cL_alike (64 * j + i) b := s_byC (L := B_L_alike) (by decide +kernel) (by decide +kernel) j i h
theorem dL_alike_0 : decode cL_alike 0 = .ok (.aload_n 2, 1) := dz_44 (k_L_alike 0 0 rfl)
theorem dL_alike_1 : decode cL_alike 1 = .ok (.iconst 0, 1) := dz_3 (k_L_alike 0 1 rfl)
theorem dL_alike_2 : decode cL_alike 2 = .ok (.aload_n 0, 1) := dz_42 (k_L_alike 0 2 rfl)
theorem dL_alike_3 : decode cL_alike 3 = .ok (.iload_n 1, 1) := dz_27 (k_L_alike 0 3 rfl)
theorem dL_alike_4 : decode cL_alike 4 = .ok (.invokevirtual 113, 3) := dz_182 (k_L_alike 0 4 rfl) (k_L_alike 0 5 rfl) (k_L_alike 0 6 rfl) rfl
theorem dL_alike_7 : decode cL_alike 7 = .ok (.i2l, 1) := dz_133 (k_L_alike 0 7 rfl)
theorem dL_alike_8 : decode cL_alike 8 = .ok (.lastore, 1) := dz_80 (k_L_alike 0 8 rfl)
theorem dL_alike_9 : decode cL_alike 9 = .ok (.goto 6, 3) := dz_167 (k_L_alike 0 9 rfl) (k_L_alike 0 10 rfl) (k_L_alike 0 11 rfl) rfl
theorem dL_alike_12 : decode cL_alike 12 = .ok (.astore_n 3, 1) := dz_78 (k_L_alike 0 12 rfl)
theorem dL_alike_13 : decode cL_alike 13 = .ok (.iconst 1, 1) := dz_4 (k_L_alike 0 13 rfl)
theorem dL_alike_14 : decode cL_alike 14 = .ok (.ireturn, 1) := dz_172 (k_L_alike 0 14 rfl)
theorem dL_alike_15 : decode cL_alike 15 = .ok (.iconst 0, 1) := dz_3 (k_L_alike 0 15 rfl)
theorem dL_alike_16 : decode cL_alike 16 = .ok (.ireturn, 1) := dz_172 (k_L_alike 0 16 rfl)
def B_L_beliefs : List (List Nat) := [[44, 3, 42, 27, 182, 0, 51, 133, 80, 167, 0, 6, 78, 4, 172, 3, 172]]
theorem k_L_beliefs (j i : Nat) {b : Nat} (h : (B_L_beliefs[j]?.bind fun c => c[i]?) = some b) : s_by cL_beliefs (64 * j + i) b := s_byC (L := B_L_beliefs) (by decide +kernel) (by decide +kernel) j i h
theorem dL_beliefs_0 : decode cL_beliefs 0 = .ok (.aload_n 2, 1) := dz_44 (k_L_beliefs 0 0 rfl)
theorem dL_beliefs_1 : decode cL_beliefs 1 = .ok (.iconst 0, 1) := dz_3 (k_L_beliefs 0 1 rfl)
theorem dL_beliefs_2 : decode cL_beliefs 2 = .ok (.aload_n 0, 1) := dz_42 (k_L_beliefs 0 2 rfl)
theorem dL_beliefs_3 : decode cL_beliefs 3 = .ok (.iload_n 1, 1) := dz_27 (k_L_beliefs 0 3 rfl)
theorem dL_beliefs_4 : decode cL_beliefs 4 = .ok (.invokevirtual 51, 3) := dz_182 (k_L_beliefs 0 4 rfl) (k_L_beliefs 0 5 rfl) (k_L_beliefs 0 6 rfl) rfl
theorem dL_beliefs_7 : decode cL_beliefs 7 = .ok (.i2l, 1) := dz_133 (k_L_beliefs 0 7 rfl)
theorem dL_beliefs_8 : decode cL_beliefs 8 = .ok (.lastore, 1) := dz_80 (k_L_beliefs 0 8 rfl)
theorem dL_beliefs_9 : decode cL_beliefs 9 = .ok (.goto 6, 3) := dz_167 (k_L_beliefs 0 9 rfl) (k_L_beliefs 0 10 rfl) (k_L_beliefs 0 11 rfl) rfl
theorem dL_beliefs_12 : decode cL_beliefs 12 = .ok (.astore_n 3, 1) := dz_78 (k_L_beliefs 0 12 rfl)
theorem dL_beliefs_13 : decode cL_beliefs 13 = .ok (.iconst 1, 1) := dz_4 (k_L_beliefs 0 13 rfl)
theorem dL_beliefs_14 : decode cL_beliefs 14 = .ok (.ireturn, 1) := dz_172 (k_L_beliefs 0 14 rfl)
theorem dL_beliefs_15 : decode cL_beliefs 15 = .ok (.iconst 0, 1) := dz_3 (k_L_beliefs 0 15 rfl)
theorem dL_beliefs_16 : decode cL_beliefs 16 = .ok (.ireturn, 1) := dz_172 (k_L_beliefs 0 16 rfl)
def B_L_believe : List (List Nat) := [[25, 4, 3, 42, 27, 28, 29, 182, 0, 47, 153, 0, 7, 10, 167, 0, 4, 9, 80, 167, 0, 7, 58, 5, 4, 172, 3, 172]]
theorem k_L_believe (j i : Nat) {b : Nat} (h : (B_L_believe[j]?.bind fun c => c[i]?) = some b) : s_by cL_believe (64 * j + i) b := s_byC (L := B_L_believe) (by decide +kernel) (by decide +kernel) j i h
theorem dL_believe_0 : decode cL_believe 0 = .ok (.aload 4, 2) := dz_25 (k_L_believe 0 0 rfl) (k_L_believe 0 1 rfl)
theorem dL_believe_2 : decode cL_believe 2 = .ok (.iconst 0, 1) := dz_3 (k_L_believe 0 2 rfl)
theorem dL_believe_3 : decode cL_believe 3 = .ok (.aload_n 0, 1) := dz_42 (k_L_believe 0 3 rfl)
theorem dL_believe_4 : decode cL_believe 4 = .ok (.iload_n 1, 1) := dz_27 (k_L_believe 0 4 rfl)
theorem dL_believe_5 : decode cL_believe 5 = .ok (.iload_n 2, 1) := dz_28 (k_L_believe 0 5 rfl)
theorem dL_believe_6 : decode cL_believe 6 = .ok (.iload_n 3, 1) := dz_29 (k_L_believe 0 6 rfl)
theorem dL_believe_7 : decode cL_believe 7 = .ok (.invokevirtual 47, 3) := dz_182 (k_L_believe 0 7 rfl) (k_L_believe 0 8 rfl) (k_L_believe 0 9 rfl) rfl
theorem dL_believe_10 : decode cL_believe 10 = .ok (.ifCond .eq 7, 3) := dz_153 (k_L_believe 0 10 rfl) (k_L_believe 0 11 rfl) (k_L_believe 0 12 rfl) rfl
theorem dL_believe_13 : decode cL_believe 13 = .ok (.lconst 1, 1) := dz_10 (k_L_believe 0 13 rfl)
theorem dL_believe_14 : decode cL_believe 14 = .ok (.goto 4, 3) := dz_167 (k_L_believe 0 14 rfl) (k_L_believe 0 15 rfl) (k_L_believe 0 16 rfl) rfl
theorem dL_believe_17 : decode cL_believe 17 = .ok (.lconst 0, 1) := dz_9 (k_L_believe 0 17 rfl)
theorem dL_believe_18 : decode cL_believe 18 = .ok (.lastore, 1) := dz_80 (k_L_believe 0 18 rfl)
theorem dL_believe_19 : decode cL_believe 19 = .ok (.goto 7, 3) := dz_167 (k_L_believe 0 19 rfl) (k_L_believe 0 20 rfl) (k_L_believe 0 21 rfl) rfl
theorem dL_believe_22 : decode cL_believe 22 = .ok (.astore 5, 2) := dz_58 (k_L_believe 0 22 rfl) (k_L_believe 0 23 rfl)
theorem dL_believe_24 : decode cL_believe 24 = .ok (.iconst 1, 1) := dz_4 (k_L_believe 0 24 rfl)
theorem dL_believe_25 : decode cL_believe 25 = .ok (.ireturn, 1) := dz_172 (k_L_believe 0 25 rfl)
theorem dL_believe_26 : decode cL_believe 26 = .ok (.iconst 0, 1) := dz_3 (k_L_believe 0 26 rfl)
theorem dL_believe_27 : decode cL_believe 27 = .ok (.ireturn, 1) := dz_172 (k_L_believe 0 27 rfl)
def B_L_chain : List (List Nat) := [[44, 3, 42, 27, 182, 0, 139, 133, 80, 167, 0, 6, 78, 4, 172, 3, 172]]
theorem k_L_chain (j i : Nat) {b : Nat} (h : (B_L_chain[j]?.bind fun c => c[i]?) = some b) : s_by cL_chain (64 * j + i) b := s_byC (L := B_L_chain) (by decide +kernel) (by decide +kernel) j i h
theorem dL_chain_0 : decode cL_chain 0 = .ok (.aload_n 2, 1) := dz_44 (k_L_chain 0 0 rfl)
theorem dL_chain_1 : decode cL_chain 1 = .ok (.iconst 0, 1) := dz_3 (k_L_chain 0 1 rfl)
theorem dL_chain_2 : decode cL_chain 2 = .ok (.aload_n 0, 1) := dz_42 (k_L_chain 0 2 rfl)
theorem dL_chain_3 : decode cL_chain 3 = .ok (.iload_n 1, 1) := dz_27 (k_L_chain 0 3 rfl)
theorem dL_chain_4 : decode cL_chain 4 = .ok (.invokevirtual 139, 3) := dz_182 (k_L_chain 0 4 rfl) (k_L_chain 0 5 rfl) (k_L_chain 0 6 rfl) rfl
theorem dL_chain_7 : decode cL_chain 7 = .ok (.i2l, 1) := dz_133 (k_L_chain 0 7 rfl)
theorem dL_chain_8 : decode cL_chain 8 = .ok (.lastore, 1) := dz_80 (k_L_chain 0 8 rfl)
theorem dL_chain_9 : decode cL_chain 9 = .ok (.goto 6, 3) := dz_167 (k_L_chain 0 9 rfl) (k_L_chain 0 10 rfl) (k_L_chain 0 11 rfl) rfl
theorem dL_chain_12 : decode cL_chain 12 = .ok (.astore_n 3, 1) := dz_78 (k_L_chain 0 12 rfl)
theorem dL_chain_13 : decode cL_chain 13 = .ok (.iconst 1, 1) := dz_4 (k_L_chain 0 13 rfl)
theorem dL_chain_14 : decode cL_chain 14 = .ok (.ireturn, 1) := dz_172 (k_L_chain 0 14 rfl)
theorem dL_chain_15 : decode cL_chain 15 = .ok (.iconst 0, 1) := dz_3 (k_L_chain 0 15 rfl)
theorem dL_chain_16 : decode cL_chain 16 = .ok (.ireturn, 1) := dz_172 (k_L_chain 0 16 rfl)
def B_L_cheapest : List (List Nat) := [[25, 4, 3, 42, 27, 28, 29, 182, 0, 86, 133, 80, 167, 0, 7, 58, 5, 4, 172, 3, 172]]
theorem k_L_cheapest (j i : Nat) {b : Nat} (h : (B_L_cheapest[j]?.bind fun c => c[i]?) = some b) : s_by cL_cheapest (64 * j + i) b := s_byC (L := B_L_cheapest) (by decide +kernel) (by decide +kernel) j i h
theorem dL_cheapest_0 : decode cL_cheapest 0 = .ok (.aload 4, 2) := dz_25 (k_L_cheapest 0 0 rfl) (k_L_cheapest 0 1 rfl)
theorem dL_cheapest_2 : decode cL_cheapest 2 = .ok (.iconst 0, 1) := dz_3 (k_L_cheapest 0 2 rfl)
theorem dL_cheapest_3 : decode cL_cheapest 3 = .ok (.aload_n 0, 1) := dz_42 (k_L_cheapest 0 3 rfl)
theorem dL_cheapest_4 : decode cL_cheapest 4 = .ok (.iload_n 1, 1) := dz_27 (k_L_cheapest 0 4 rfl)
theorem dL_cheapest_5 : decode cL_cheapest 5 = .ok (.iload_n 2, 1) := dz_28 (k_L_cheapest 0 5 rfl)
theorem dL_cheapest_6 : decode cL_cheapest 6 = .ok (.iload_n 3, 1) := dz_29 (k_L_cheapest 0 6 rfl)
theorem dL_cheapest_7 : decode cL_cheapest 7 = .ok (.invokevirtual 86, 3) := dz_182 (k_L_cheapest 0 7 rfl) (k_L_cheapest 0 8 rfl) (k_L_cheapest 0 9 rfl) rfl
theorem dL_cheapest_10 : decode cL_cheapest 10 = .ok (.i2l, 1) := dz_133 (k_L_cheapest 0 10 rfl)
theorem dL_cheapest_11 : decode cL_cheapest 11 = .ok (.lastore, 1) := dz_80 (k_L_cheapest 0 11 rfl)
theorem dL_cheapest_12 : decode cL_cheapest 12 = .ok (.goto 7, 3) := dz_167 (k_L_cheapest 0 12 rfl) (k_L_cheapest 0 13 rfl) (k_L_cheapest 0 14 rfl) rfl
theorem dL_cheapest_15 : decode cL_cheapest 15 = .ok (.astore 5, 2) := dz_58 (k_L_cheapest 0 15 rfl) (k_L_cheapest 0 16 rfl)
theorem dL_cheapest_17 : decode cL_cheapest 17 = .ok (.iconst 1, 1) := dz_4 (k_L_cheapest 0 17 rfl)
theorem dL_cheapest_18 : decode cL_cheapest 18 = .ok (.ireturn, 1) := dz_172 (k_L_cheapest 0 18 rfl)
theorem dL_cheapest_19 : decode cL_cheapest 19 = .ok (.iconst 0, 1) := dz_3 (k_L_cheapest 0 19 rfl)
theorem dL_cheapest_20 : decode cL_cheapest 20 = .ok (.ireturn, 1) := dz_172 (k_L_cheapest 0 20 rfl)
def B_L_core : List (List Nat) := [[44, 3, 42, 27, 182, 0, 116, 133, 80, 167, 0, 6, 78, 4, 172, 3, 172]]
theorem k_L_core (j i : Nat) {b : Nat} (h : (B_L_core[j]?.bind fun c => c[i]?) = some b) : s_by cL_core (64 * j + i) b := s_byC (L := B_L_core) (by decide +kernel) (by decide +kernel) j i h
theorem dL_core_0 : decode cL_core 0 = .ok (.aload_n 2, 1) := dz_44 (k_L_core 0 0 rfl)
theorem dL_core_1 : decode cL_core 1 = .ok (.iconst 0, 1) := dz_3 (k_L_core 0 1 rfl)
theorem dL_core_2 : decode cL_core 2 = .ok (.aload_n 0, 1) := dz_42 (k_L_core 0 2 rfl)
theorem dL_core_3 : decode cL_core 3 = .ok (.iload_n 1, 1) := dz_27 (k_L_core 0 3 rfl)
theorem dL_core_4 : decode cL_core 4 = .ok (.invokevirtual 116, 3) := dz_182 (k_L_core 0 4 rfl) (k_L_core 0 5 rfl) (k_L_core 0 6 rfl) rfl
theorem dL_core_7 : decode cL_core 7 = .ok (.i2l, 1) := dz_133 (k_L_core 0 7 rfl)
theorem dL_core_8 : decode cL_core 8 = .ok (.lastore, 1) := dz_80 (k_L_core 0 8 rfl)
theorem dL_core_9 : decode cL_core 9 = .ok (.goto 6, 3) := dz_167 (k_L_core 0 9 rfl) (k_L_core 0 10 rfl) (k_L_core 0 11 rfl) rfl
theorem dL_core_12 : decode cL_core 12 = .ok (.astore_n 3, 1) := dz_78 (k_L_core 0 12 rfl)
theorem dL_core_13 : decode cL_core 13 = .ok (.iconst 1, 1) := dz_4 (k_L_core 0 13 rfl)
theorem dL_core_14 : decode cL_core 14 = .ok (.ireturn, 1) := dz_172 (k_L_core 0 14 rfl)
theorem dL_core_15 : decode cL_core 15 = .ok (.iconst 0, 1) := dz_3 (k_L_core 0 15 rfl)
theorem dL_core_16 : decode cL_core 16 = .ok (.ireturn, 1) := dz_172 (k_L_core 0 16 rfl)
def B_L_counter : List (List Nat) := [[45, 3, 42, 27, 28, 182, 0, 83, 133, 80, 167, 0, 7, 58, 4, 4, 172, 3, 172]]
theorem k_L_counter (j i : Nat) {b : Nat} (h : (B_L_counter[j]?.bind fun c => c[i]?) = some b) : s_by cL_counter (64 * j + i) b := s_byC (L := B_L_counter) (by decide +kernel) (by decide +kernel) j i h
theorem dL_counter_0 : decode cL_counter 0 = .ok (.aload_n 3, 1) := dz_45 (k_L_counter 0 0 rfl)
theorem dL_counter_1 : decode cL_counter 1 = .ok (.iconst 0, 1) := dz_3 (k_L_counter 0 1 rfl)
theorem dL_counter_2 : decode cL_counter 2 = .ok (.aload_n 0, 1) := dz_42 (k_L_counter 0 2 rfl)
theorem dL_counter_3 : decode cL_counter 3 = .ok (.iload_n 1, 1) := dz_27 (k_L_counter 0 3 rfl)
theorem dL_counter_4 : decode cL_counter 4 = .ok (.iload_n 2, 1) := dz_28 (k_L_counter 0 4 rfl)
theorem dL_counter_5 : decode cL_counter 5 = .ok (.invokevirtual 83, 3) := dz_182 (k_L_counter 0 5 rfl) (k_L_counter 0 6 rfl) (k_L_counter 0 7 rfl) rfl
theorem dL_counter_8 : decode cL_counter 8 = .ok (.i2l, 1) := dz_133 (k_L_counter 0 8 rfl)
theorem dL_counter_9 : decode cL_counter 9 = .ok (.lastore, 1) := dz_80 (k_L_counter 0 9 rfl)
theorem dL_counter_10 : decode cL_counter 10 = .ok (.goto 7, 3) := dz_167 (k_L_counter 0 10 rfl) (k_L_counter 0 11 rfl) (k_L_counter 0 12 rfl) rfl
theorem dL_counter_13 : decode cL_counter 13 = .ok (.astore 4, 2) := dz_58 (k_L_counter 0 13 rfl) (k_L_counter 0 14 rfl)
theorem dL_counter_15 : decode cL_counter 15 = .ok (.iconst 1, 1) := dz_4 (k_L_counter 0 15 rfl)
theorem dL_counter_16 : decode cL_counter 16 = .ok (.ireturn, 1) := dz_172 (k_L_counter 0 16 rfl)
theorem dL_counter_17 : decode cL_counter 17 = .ok (.iconst 0, 1) := dz_3 (k_L_counter 0 17 rfl)
theorem dL_counter_18 : decode cL_counter 18 = .ok (.ireturn, 1) := dz_172 (k_L_counter 0 18 rfl)
def B_L_falls : List (List Nat) := [[45, 3, 42, 27, 28, 182, 0, 76, 80, 167, 0, 7, 58, 4, 4, 172, 3, 172]]
theorem k_L_falls (j i : Nat) {b : Nat} (h : (B_L_falls[j]?.bind fun c => c[i]?) = some b) : s_by cL_falls (64 * j + i) b := s_byC (L := B_L_falls) (by decide +kernel) (by decide +kernel) j i h
theorem dL_falls_0 : decode cL_falls 0 = .ok (.aload_n 3, 1) := dz_45 (k_L_falls 0 0 rfl)
theorem dL_falls_1 : decode cL_falls 1 = .ok (.iconst 0, 1) := dz_3 (k_L_falls 0 1 rfl)
theorem dL_falls_2 : decode cL_falls 2 = .ok (.aload_n 0, 1) := dz_42 (k_L_falls 0 2 rfl)
theorem dL_falls_3 : decode cL_falls 3 = .ok (.iload_n 1, 1) := dz_27 (k_L_falls 0 3 rfl)
theorem dL_falls_4 : decode cL_falls 4 = .ok (.iload_n 2, 1) := dz_28 (k_L_falls 0 4 rfl)
theorem dL_falls_5 : decode cL_falls 5 = .ok (.invokevirtual 76, 3) := dz_182 (k_L_falls 0 5 rfl) (k_L_falls 0 6 rfl) (k_L_falls 0 7 rfl) rfl
theorem dL_falls_8 : decode cL_falls 8 = .ok (.lastore, 1) := dz_80 (k_L_falls 0 8 rfl)
theorem dL_falls_9 : decode cL_falls 9 = .ok (.goto 7, 3) := dz_167 (k_L_falls 0 9 rfl) (k_L_falls 0 10 rfl) (k_L_falls 0 11 rfl) rfl
theorem dL_falls_12 : decode cL_falls 12 = .ok (.astore 4, 2) := dz_58 (k_L_falls 0 12 rfl) (k_L_falls 0 13 rfl)
theorem dL_falls_14 : decode cL_falls 14 = .ok (.iconst 1, 1) := dz_4 (k_L_falls 0 14 rfl)
theorem dL_falls_15 : decode cL_falls 15 = .ok (.ireturn, 1) := dz_172 (k_L_falls 0 15 rfl)
theorem dL_falls_16 : decode cL_falls 16 = .ok (.iconst 0, 1) := dz_3 (k_L_falls 0 16 rfl)
theorem dL_falls_17 : decode cL_falls 17 = .ok (.ireturn, 1) := dz_172 (k_L_falls 0 17 rfl)
def B_L_follows : List (List Nat) := [[45, 3, 42, 27, 28, 182, 0, 80, 153, 0, 7, 10, 167, 0, 4, 9, 80, 167, 0, 7, 58, 4, 4, 172, 3, 172]]
theorem k_L_follows (j i : Nat) {b : Nat} (h : (B_L_follows[j]?.bind fun c => c[i]?) = some b) : s_by cL_follows (64 * j + i) b := s_byC (L := B_L_follows) (by decide +kernel) (by decide +kernel) j i h
theorem dL_follows_0 : decode cL_follows 0 = .ok (.aload_n 3, 1) := dz_45 (k_L_follows 0 0 rfl)
theorem dL_follows_1 : decode cL_follows 1 = .ok (.iconst 0, 1) := dz_3 (k_L_follows 0 1 rfl)
theorem dL_follows_2 : decode cL_follows 2 = .ok (.aload_n 0, 1) := dz_42 (k_L_follows 0 2 rfl)
theorem dL_follows_3 : decode cL_follows 3 = .ok (.iload_n 1, 1) := dz_27 (k_L_follows 0 3 rfl)
theorem dL_follows_4 : decode cL_follows 4 = .ok (.iload_n 2, 1) := dz_28 (k_L_follows 0 4 rfl)
theorem dL_follows_5 : decode cL_follows 5 = .ok (.invokevirtual 80, 3) := dz_182 (k_L_follows 0 5 rfl) (k_L_follows 0 6 rfl) (k_L_follows 0 7 rfl) rfl
theorem dL_follows_8 : decode cL_follows 8 = .ok (.ifCond .eq 7, 3) := dz_153 (k_L_follows 0 8 rfl) (k_L_follows 0 9 rfl) (k_L_follows 0 10 rfl) rfl
theorem dL_follows_11 : decode cL_follows 11 = .ok (.lconst 1, 1) := dz_10 (k_L_follows 0 11 rfl)
theorem dL_follows_12 : decode cL_follows 12 = .ok (.goto 4, 3) := dz_167 (k_L_follows 0 12 rfl) (k_L_follows 0 13 rfl) (k_L_follows 0 14 rfl) rfl
theorem dL_follows_15 : decode cL_follows 15 = .ok (.lconst 0, 1) := dz_9 (k_L_follows 0 15 rfl)
theorem dL_follows_16 : decode cL_follows 16 = .ok (.lastore, 1) := dz_80 (k_L_follows 0 16 rfl)
theorem dL_follows_17 : decode cL_follows 17 = .ok (.goto 7, 3) := dz_167 (k_L_follows 0 17 rfl) (k_L_follows 0 18 rfl) (k_L_follows 0 19 rfl) rfl
theorem dL_follows_20 : decode cL_follows 20 = .ok (.astore 4, 2) := dz_58 (k_L_follows 0 20 rfl) (k_L_follows 0 21 rfl)
theorem dL_follows_22 : decode cL_follows 22 = .ok (.iconst 1, 1) := dz_4 (k_L_follows 0 22 rfl)
theorem dL_follows_23 : decode cL_follows 23 = .ok (.ireturn, 1) := dz_172 (k_L_follows 0 23 rfl)
theorem dL_follows_24 : decode cL_follows 24 = .ok (.iconst 0, 1) := dz_3 (k_L_follows 0 24 rfl)
theorem dL_follows_25 : decode cL_follows 25 = .ok (.ireturn, 1) := dz_172 (k_L_follows 0 25 rfl)
def B_L_formula : List (List Nat) := [[43, 3, 42, 182, 0, 7, 133, 80, 167, 0, 9, 77, 4, 172, 77, 5, 172, 3, 172]]
theorem k_L_formula (j i : Nat) {b : Nat} (h : (B_L_formula[j]?.bind fun c => c[i]?) = some b) : s_by cL_formula (64 * j + i) b := s_byC (L := B_L_formula) (by decide +kernel) (by decide +kernel) j i h
theorem dL_formula_0 : decode cL_formula 0 = .ok (.aload_n 1, 1) := dz_43 (k_L_formula 0 0 rfl)
theorem dL_formula_1 : decode cL_formula 1 = .ok (.iconst 0, 1) := dz_3 (k_L_formula 0 1 rfl)
theorem dL_formula_2 : decode cL_formula 2 = .ok (.aload_n 0, 1) := dz_42 (k_L_formula 0 2 rfl)
theorem dL_formula_3 : decode cL_formula 3 = .ok (.invokevirtual 7, 3) := dz_182 (k_L_formula 0 3 rfl) (k_L_formula 0 4 rfl) (k_L_formula 0 5 rfl) rfl
theorem dL_formula_6 : decode cL_formula 6 = .ok (.i2l, 1) := dz_133 (k_L_formula 0 6 rfl)
theorem dL_formula_7 : decode cL_formula 7 = .ok (.lastore, 1) := dz_80 (k_L_formula 0 7 rfl)
theorem dL_formula_8 : decode cL_formula 8 = .ok (.goto 9, 3) := dz_167 (k_L_formula 0 8 rfl) (k_L_formula 0 9 rfl) (k_L_formula 0 10 rfl) rfl
theorem dL_formula_11 : decode cL_formula 11 = .ok (.astore_n 2, 1) := dz_77 (k_L_formula 0 11 rfl)
theorem dL_formula_12 : decode cL_formula 12 = .ok (.iconst 1, 1) := dz_4 (k_L_formula 0 12 rfl)
theorem dL_formula_13 : decode cL_formula 13 = .ok (.ireturn, 1) := dz_172 (k_L_formula 0 13 rfl)
theorem dL_formula_14 : decode cL_formula 14 = .ok (.astore_n 2, 1) := dz_77 (k_L_formula 0 14 rfl)
theorem dL_formula_15 : decode cL_formula 15 = .ok (.iconst 2, 1) := dz_5 (k_L_formula 0 15 rfl)
theorem dL_formula_16 : decode cL_formula 16 = .ok (.ireturn, 1) := dz_172 (k_L_formula 0 16 rfl)
theorem dL_formula_17 : decode cL_formula 17 = .ok (.iconst 0, 1) := dz_3 (k_L_formula 0 17 rfl)
theorem dL_formula_18 : decode cL_formula 18 = .ok (.ireturn, 1) := dz_172 (k_L_formula 0 18 rfl)
def B_L_forward : List (List Nat) := [[25, 4, 3, 42, 27, 28, 29, 182, 0, 98, 133, 80, 167, 0, 7, 58, 5, 4, 172, 3, 172]]
theorem k_L_forward (j i : Nat) {b : Nat} (h : (B_L_forward[j]?.bind fun c => c[i]?) = some b) : s_by cL_forward (64 * j + i) b := s_byC (L := B_L_forward) (by decide +kernel) (by decide +kernel) j i h
theorem dL_forward_0 : decode cL_forward 0 = .ok (.aload 4, 2) := dz_25 (k_L_forward 0 0 rfl) (k_L_forward 0 1 rfl)
theorem dL_forward_2 : decode cL_forward 2 = .ok (.iconst 0, 1) := dz_3 (k_L_forward 0 2 rfl)
theorem dL_forward_3 : decode cL_forward 3 = .ok (.aload_n 0, 1) := dz_42 (k_L_forward 0 3 rfl)
theorem dL_forward_4 : decode cL_forward 4 = .ok (.iload_n 1, 1) := dz_27 (k_L_forward 0 4 rfl)
theorem dL_forward_5 : decode cL_forward 5 = .ok (.iload_n 2, 1) := dz_28 (k_L_forward 0 5 rfl)
theorem dL_forward_6 : decode cL_forward 6 = .ok (.iload_n 3, 1) := dz_29 (k_L_forward 0 6 rfl)
theorem dL_forward_7 : decode cL_forward 7 = .ok (.invokevirtual 98, 3) := dz_182 (k_L_forward 0 7 rfl) (k_L_forward 0 8 rfl) (k_L_forward 0 9 rfl) rfl
theorem dL_forward_10 : decode cL_forward 10 = .ok (.i2l, 1) := dz_133 (k_L_forward 0 10 rfl)
theorem dL_forward_11 : decode cL_forward 11 = .ok (.lastore, 1) := dz_80 (k_L_forward 0 11 rfl)
theorem dL_forward_12 : decode cL_forward 12 = .ok (.goto 7, 3) := dz_167 (k_L_forward 0 12 rfl) (k_L_forward 0 13 rfl) (k_L_forward 0 14 rfl) rfl
theorem dL_forward_15 : decode cL_forward 15 = .ok (.astore 5, 2) := dz_58 (k_L_forward 0 15 rfl) (k_L_forward 0 16 rfl)
theorem dL_forward_17 : decode cL_forward 17 = .ok (.iconst 1, 1) := dz_4 (k_L_forward 0 17 rfl)
theorem dL_forward_18 : decode cL_forward 18 = .ok (.ireturn, 1) := dz_172 (k_L_forward 0 18 rfl)
theorem dL_forward_19 : decode cL_forward 19 = .ok (.iconst 0, 1) := dz_3 (k_L_forward 0 19 rfl)
theorem dL_forward_20 : decode cL_forward 20 = .ok (.ireturn, 1) := dz_172 (k_L_forward 0 20 rfl)
def B_L_gains : List (List Nat) := [[45, 3, 42, 27, 28, 182, 0, 122, 133, 80, 167, 0, 11, 58, 4, 4, 172, 58, 4, 5, 172, 3, 172]]
theorem k_L_gains (j i : Nat) {b : Nat} (h : (B_L_gains[j]?.bind fun c => c[i]?) = some b) : s_by cL_gains (64 * j + i) b := s_byC (L := B_L_gains) (by decide +kernel) (by decide +kernel) j i h
theorem dL_gains_0 : decode cL_gains 0 = .ok (.aload_n 3, 1) := dz_45 (k_L_gains 0 0 rfl)
theorem dL_gains_1 : decode cL_gains 1 = .ok (.iconst 0, 1) := dz_3 (k_L_gains 0 1 rfl)
theorem dL_gains_2 : decode cL_gains 2 = .ok (.aload_n 0, 1) := dz_42 (k_L_gains 0 2 rfl)
theorem dL_gains_3 : decode cL_gains 3 = .ok (.iload_n 1, 1) := dz_27 (k_L_gains 0 3 rfl)
theorem dL_gains_4 : decode cL_gains 4 = .ok (.iload_n 2, 1) := dz_28 (k_L_gains 0 4 rfl)
theorem dL_gains_5 : decode cL_gains 5 = .ok (.invokevirtual 122, 3) := dz_182 (k_L_gains 0 5 rfl) (k_L_gains 0 6 rfl) (k_L_gains 0 7 rfl) rfl
theorem dL_gains_8 : decode cL_gains 8 = .ok (.i2l, 1) := dz_133 (k_L_gains 0 8 rfl)
theorem dL_gains_9 : decode cL_gains 9 = .ok (.lastore, 1) := dz_80 (k_L_gains 0 9 rfl)
theorem dL_gains_10 : decode cL_gains 10 = .ok (.goto 11, 3) := dz_167 (k_L_gains 0 10 rfl) (k_L_gains 0 11 rfl) (k_L_gains 0 12 rfl) rfl
theorem dL_gains_13 : decode cL_gains 13 = .ok (.astore 4, 2) := dz_58 (k_L_gains 0 13 rfl) (k_L_gains 0 14 rfl)
theorem dL_gains_15 : decode cL_gains 15 = .ok (.iconst 1, 1) := dz_4 (k_L_gains 0 15 rfl)
theorem dL_gains_16 : decode cL_gains 16 = .ok (.ireturn, 1) := dz_172 (k_L_gains 0 16 rfl)
theorem dL_gains_17 : decode cL_gains 17 = .ok (.astore 4, 2) := dz_58 (k_L_gains 0 17 rfl) (k_L_gains 0 18 rfl)
theorem dL_gains_19 : decode cL_gains 19 = .ok (.iconst 2, 1) := dz_5 (k_L_gains 0 19 rfl)
theorem dL_gains_20 : decode cL_gains 20 = .ok (.ireturn, 1) := dz_172 (k_L_gains 0 20 rfl)
theorem dL_gains_21 : decode cL_gains 21 = .ok (.iconst 0, 1) := dz_3 (k_L_gains 0 21 rfl)
theorem dL_gains_22 : decode cL_gains 22 = .ok (.ireturn, 1) := dz_172 (k_L_gains 0 22 rfl)
def B_L_holds : List (List Nat) := [[45, 3, 42, 27, 28, 182, 0, 33, 153, 0, 7, 10, 167, 0, 4, 9, 80, 167, 0, 11, 58, 4, 4, 172, 58, 4, 5, 172, 3, 172]]
theorem k_L_holds (j i : Nat) {b : Nat} (h : (B_L_holds[j]?.bind fun c => c[i]?) = some b) : s_by cL_holds (64 * j + i) b := s_byC (L := B_L_holds) (by decide +kernel) (by decide +kernel) j i h
theorem dL_holds_0 : decode cL_holds 0 = .ok (.aload_n 3, 1) := dz_45 (k_L_holds 0 0 rfl)
theorem dL_holds_1 : decode cL_holds 1 = .ok (.iconst 0, 1) := dz_3 (k_L_holds 0 1 rfl)
theorem dL_holds_2 : decode cL_holds 2 = .ok (.aload_n 0, 1) := dz_42 (k_L_holds 0 2 rfl)
theorem dL_holds_3 : decode cL_holds 3 = .ok (.iload_n 1, 1) := dz_27 (k_L_holds 0 3 rfl)
theorem dL_holds_4 : decode cL_holds 4 = .ok (.iload_n 2, 1) := dz_28 (k_L_holds 0 4 rfl)
theorem dL_holds_5 : decode cL_holds 5 = .ok (.invokevirtual 33, 3) := dz_182 (k_L_holds 0 5 rfl) (k_L_holds 0 6 rfl) (k_L_holds 0 7 rfl) rfl
theorem dL_holds_8 : decode cL_holds 8 = .ok (.ifCond .eq 7, 3) := dz_153 (k_L_holds 0 8 rfl) (k_L_holds 0 9 rfl) (k_L_holds 0 10 rfl) rfl
theorem dL_holds_11 : decode cL_holds 11 = .ok (.lconst 1, 1) := dz_10 (k_L_holds 0 11 rfl)
theorem dL_holds_12 : decode cL_holds 12 = .ok (.goto 4, 3) := dz_167 (k_L_holds 0 12 rfl) (k_L_holds 0 13 rfl) (k_L_holds 0 14 rfl) rfl
theorem dL_holds_15 : decode cL_holds 15 = .ok (.lconst 0, 1) := dz_9 (k_L_holds 0 15 rfl)
theorem dL_holds_16 : decode cL_holds 16 = .ok (.lastore, 1) := dz_80 (k_L_holds 0 16 rfl)
theorem dL_holds_17 : decode cL_holds 17 = .ok (.goto 11, 3) := dz_167 (k_L_holds 0 17 rfl) (k_L_holds 0 18 rfl) (k_L_holds 0 19 rfl) rfl
theorem dL_holds_20 : decode cL_holds 20 = .ok (.astore 4, 2) := dz_58 (k_L_holds 0 20 rfl) (k_L_holds 0 21 rfl)
theorem dL_holds_22 : decode cL_holds 22 = .ok (.iconst 1, 1) := dz_4 (k_L_holds 0 22 rfl)
theorem dL_holds_23 : decode cL_holds 23 = .ok (.ireturn, 1) := dz_172 (k_L_holds 0 23 rfl)
theorem dL_holds_24 : decode cL_holds 24 = .ok (.astore 4, 2) := dz_58 (k_L_holds 0 24 rfl) (k_L_holds 0 25 rfl)
theorem dL_holds_26 : decode cL_holds 26 = .ok (.iconst 2, 1) := dz_5 (k_L_holds 0 26 rfl)
theorem dL_holds_27 : decode cL_holds 27 = .ok (.ireturn, 1) := dz_172 (k_L_holds 0 27 rfl)
theorem dL_holds_28 : decode cL_holds 28 = .ok (.iconst 0, 1) := dz_3 (k_L_holds 0 28 rfl)
theorem dL_holds_29 : decode cL_holds 29 = .ok (.ireturn, 1) := dz_172 (k_L_holds 0 29 rfl)
def B_L_idle : List (List Nat) := [[44, 3, 42, 27, 182, 0, 110, 133, 80, 167, 0, 6, 78, 4, 172, 3, 172]]
theorem k_L_idle (j i : Nat) {b : Nat} (h : (B_L_idle[j]?.bind fun c => c[i]?) = some b) : s_by cL_idle (64 * j + i) b := s_byC (L := B_L_idle) (by decide +kernel) (by decide +kernel) j i h
theorem dL_idle_0 : decode cL_idle 0 = .ok (.aload_n 2, 1) := dz_44 (k_L_idle 0 0 rfl)
theorem dL_idle_1 : decode cL_idle 1 = .ok (.iconst 0, 1) := dz_3 (k_L_idle 0 1 rfl)
theorem dL_idle_2 : decode cL_idle 2 = .ok (.aload_n 0, 1) := dz_42 (k_L_idle 0 2 rfl)
theorem dL_idle_3 : decode cL_idle 3 = .ok (.iload_n 1, 1) := dz_27 (k_L_idle 0 3 rfl)
theorem dL_idle_4 : decode cL_idle 4 = .ok (.invokevirtual 110, 3) := dz_182 (k_L_idle 0 4 rfl) (k_L_idle 0 5 rfl) (k_L_idle 0 6 rfl) rfl
theorem dL_idle_7 : decode cL_idle 7 = .ok (.i2l, 1) := dz_133 (k_L_idle 0 7 rfl)
theorem dL_idle_8 : decode cL_idle 8 = .ok (.lastore, 1) := dz_80 (k_L_idle 0 8 rfl)
theorem dL_idle_9 : decode cL_idle 9 = .ok (.goto 6, 3) := dz_167 (k_L_idle 0 9 rfl) (k_L_idle 0 10 rfl) (k_L_idle 0 11 rfl) rfl
theorem dL_idle_12 : decode cL_idle 12 = .ok (.astore_n 3, 1) := dz_78 (k_L_idle 0 12 rfl)
theorem dL_idle_13 : decode cL_idle 13 = .ok (.iconst 1, 1) := dz_4 (k_L_idle 0 13 rfl)
theorem dL_idle_14 : decode cL_idle 14 = .ok (.ireturn, 1) := dz_172 (k_L_idle 0 14 rfl)
theorem dL_idle_15 : decode cL_idle 15 = .ok (.iconst 0, 1) := dz_3 (k_L_idle 0 15 rfl)
theorem dL_idle_16 : decode cL_idle 16 = .ok (.ireturn, 1) := dz_172 (k_L_idle 0 16 rfl)
def B_L_is : List (List Nat) := [[45, 3, 42, 27, 28, 182, 0, 63, 153, 0, 7, 10, 167, 0, 4, 9, 80, 167, 0, 11, 58, 4, 4, 172, 58, 4, 5, 172, 3, 172]]
theorem k_L_is (j i : Nat) {b : Nat} (h : (B_L_is[j]?.bind fun c => c[i]?) = some b) : s_by cL_is (64 * j + i) b := s_byC (L := B_L_is) (by decide +kernel) (by decide +kernel) j i h
theorem dL_is_0 : decode cL_is 0 = .ok (.aload_n 3, 1) := dz_45 (k_L_is 0 0 rfl)
theorem dL_is_1 : decode cL_is 1 = .ok (.iconst 0, 1) := dz_3 (k_L_is 0 1 rfl)
theorem dL_is_2 : decode cL_is 2 = .ok (.aload_n 0, 1) := dz_42 (k_L_is 0 2 rfl)
theorem dL_is_3 : decode cL_is 3 = .ok (.iload_n 1, 1) := dz_27 (k_L_is 0 3 rfl)
theorem dL_is_4 : decode cL_is 4 = .ok (.iload_n 2, 1) := dz_28 (k_L_is 0 4 rfl)
theorem dL_is_5 : decode cL_is 5 = .ok (.invokevirtual 63, 3) := dz_182 (k_L_is 0 5 rfl) (k_L_is 0 6 rfl) (k_L_is 0 7 rfl) rfl
theorem dL_is_8 : decode cL_is 8 = .ok (.ifCond .eq 7, 3) := dz_153 (k_L_is 0 8 rfl) (k_L_is 0 9 rfl) (k_L_is 0 10 rfl) rfl
theorem dL_is_11 : decode cL_is 11 = .ok (.lconst 1, 1) := dz_10 (k_L_is 0 11 rfl)
theorem dL_is_12 : decode cL_is 12 = .ok (.goto 4, 3) := dz_167 (k_L_is 0 12 rfl) (k_L_is 0 13 rfl) (k_L_is 0 14 rfl) rfl
theorem dL_is_15 : decode cL_is 15 = .ok (.lconst 0, 1) := dz_9 (k_L_is 0 15 rfl)
theorem dL_is_16 : decode cL_is 16 = .ok (.lastore, 1) := dz_80 (k_L_is 0 16 rfl)
theorem dL_is_17 : decode cL_is 17 = .ok (.goto 11, 3) := dz_167 (k_L_is 0 17 rfl) (k_L_is 0 18 rfl) (k_L_is 0 19 rfl) rfl
theorem dL_is_20 : decode cL_is 20 = .ok (.astore 4, 2) := dz_58 (k_L_is 0 20 rfl) (k_L_is 0 21 rfl)
theorem dL_is_22 : decode cL_is 22 = .ok (.iconst 1, 1) := dz_4 (k_L_is 0 22 rfl)
theorem dL_is_23 : decode cL_is 23 = .ok (.ireturn, 1) := dz_172 (k_L_is 0 23 rfl)
theorem dL_is_24 : decode cL_is 24 = .ok (.astore 4, 2) := dz_58 (k_L_is 0 24 rfl) (k_L_is 0 25 rfl)
theorem dL_is_26 : decode cL_is 26 = .ok (.iconst 2, 1) := dz_5 (k_L_is 0 26 rfl)
theorem dL_is_27 : decode cL_is 27 = .ok (.ireturn, 1) := dz_172 (k_L_is 0 27 rfl)
theorem dL_is_28 : decode cL_is 28 = .ok (.iconst 0, 1) := dz_3 (k_L_is 0 28 rfl)
theorem dL_is_29 : decode cL_is 29 = .ok (.ireturn, 1) := dz_172 (k_L_is 0 29 rfl)
def B_L_lastly : List (List Nat) := [[25, 4, 3, 42, 27, 28, 29, 182, 0, 89, 133, 80, 167, 0, 7, 58, 5, 4, 172, 3, 172]]
theorem k_L_lastly (j i : Nat) {b : Nat} (h : (B_L_lastly[j]?.bind fun c => c[i]?) = some b) : s_by cL_lastly (64 * j + i) b := s_byC (L := B_L_lastly) (by decide +kernel) (by decide +kernel) j i h
theorem dL_lastly_0 : decode cL_lastly 0 = .ok (.aload 4, 2) := dz_25 (k_L_lastly 0 0 rfl) (k_L_lastly 0 1 rfl)
theorem dL_lastly_2 : decode cL_lastly 2 = .ok (.iconst 0, 1) := dz_3 (k_L_lastly 0 2 rfl)
theorem dL_lastly_3 : decode cL_lastly 3 = .ok (.aload_n 0, 1) := dz_42 (k_L_lastly 0 3 rfl)
theorem dL_lastly_4 : decode cL_lastly 4 = .ok (.iload_n 1, 1) := dz_27 (k_L_lastly 0 4 rfl)
theorem dL_lastly_5 : decode cL_lastly 5 = .ok (.iload_n 2, 1) := dz_28 (k_L_lastly 0 5 rfl)
theorem dL_lastly_6 : decode cL_lastly 6 = .ok (.iload_n 3, 1) := dz_29 (k_L_lastly 0 6 rfl)
theorem dL_lastly_7 : decode cL_lastly 7 = .ok (.invokevirtual 89, 3) := dz_182 (k_L_lastly 0 7 rfl) (k_L_lastly 0 8 rfl) (k_L_lastly 0 9 rfl) rfl
theorem dL_lastly_10 : decode cL_lastly 10 = .ok (.i2l, 1) := dz_133 (k_L_lastly 0 10 rfl)
theorem dL_lastly_11 : decode cL_lastly 11 = .ok (.lastore, 1) := dz_80 (k_L_lastly 0 11 rfl)
theorem dL_lastly_12 : decode cL_lastly 12 = .ok (.goto 7, 3) := dz_167 (k_L_lastly 0 12 rfl) (k_L_lastly 0 13 rfl) (k_L_lastly 0 14 rfl) rfl
theorem dL_lastly_15 : decode cL_lastly 15 = .ok (.astore 5, 2) := dz_58 (k_L_lastly 0 15 rfl) (k_L_lastly 0 16 rfl)
theorem dL_lastly_17 : decode cL_lastly 17 = .ok (.iconst 1, 1) := dz_4 (k_L_lastly 0 17 rfl)
theorem dL_lastly_18 : decode cL_lastly 18 = .ok (.ireturn, 1) := dz_172 (k_L_lastly 0 18 rfl)
theorem dL_lastly_19 : decode cL_lastly 19 = .ok (.iconst 0, 1) := dz_3 (k_L_lastly 0 19 rfl)
theorem dL_lastly_20 : decode cL_lastly 20 = .ok (.ireturn, 1) := dz_172 (k_L_lastly 0 20 rfl)
def B_L_law : List (List Nat) := [[187, 0, 8, 89, 183, 0, 142, 76, 187, 0, 143, 89, 183, 0, 145, 77, 4, 188, 11, 78, 3, 54, 4, 21, 4, 42, 190, 16, 7, 100, 163, 11, 87, 42, 21, 4, 46, 16, 63, 126, 170, 0, 0, 0, 0, 0, 11, 71, 0, 0, 0, 0, 0, 0, 0, 44, 0, 0, 0, 196, 0, 0, 1, 13], [0, 0, 1, 38, 0, 0, 1, 82, 0, 0, 1, 95, 0, 0, 1, 131, 0, 0, 1, 187, 0, 0, 2, 6, 0, 0, 2, 81, 0, 0, 2, 137, 0, 0, 2, 205, 0, 0, 3, 29, 0, 0, 3, 132, 0, 0, 3, 188, 0, 0, 4, 50, 0, 0, 4, 118, 0, 0, 4, 193, 0, 0, 4, 206], [0, 0, 5, 5, 0, 0, 5, 60, 0, 0, 5, 116, 0, 0, 5, 183, 0, 0, 6, 2, 0, 0, 6, 70, 0, 0, 6, 150, 0, 0, 6, 230, 0, 0, 7, 42, 0, 0, 7, 122, 0, 0, 7, 202, 0, 0, 8, 2, 0, 0, 8, 70, 0, 0, 8, 126, 0, 0, 8, 182, 0, 0, 8, 238], [0, 0, 9, 38, 0, 0, 9, 106, 0, 0, 9, 174, 0, 0, 10, 10, 0, 0, 10, 73, 0, 0, 10, 153, 0, 0, 10, 209, 0, 0, 10, 222, 0, 0, 11, 22, 0, 0, 11, 33, 0, 0, 11, 46, 43, 42, 21, 4, 4, 96, 46, 42, 21, 4, 5, 96, 46, 42, 21, 4, 6, 96, 46, 42], [21, 4, 7, 96, 46, 42, 21, 4, 8, 96, 46, 182, 0, 146, 44, 42, 21, 4, 4, 96, 46, 42, 21, 4, 5, 96, 46, 42, 21, 4, 6, 96, 46, 42, 21, 4, 7, 96, 46, 42, 21, 4, 8, 96, 46, 182, 0, 150, 159, 10, 63, 3, 172, 43, 42, 21, 4, 4, 96, 46, 182, 0, 151, 44], [42, 21, 4, 4, 96, 46, 182, 0, 154, 159, 10, 38, 3, 172, 43, 45, 184, 0, 155, 54, 5, 44, 182, 0, 160, 54, 6, 44, 182, 0, 161, 21, 5, 159, 0, 5, 3, 172, 21, 5, 154, 0, 15, 45, 3, 47, 21, 6, 133, 148, 153, 0, 5, 3, 172, 167, 9, 248, 43, 182, 0, 164, 44, 182], [0, 167, 159, 9, 237, 3, 172, 43, 42, 21, 4, 4, 96, 46, 184, 0, 168, 54, 5, 44, 42, 21, 4, 4, 96, 46, 182, 0, 171, 44, 182, 0, 161, 21, 5, 159, 0, 5, 3, 172, 167, 9, 199, 43, 42, 21, 4, 4, 96, 46, 45, 184, 0, 172, 54, 5, 44, 42, 21, 4, 4, 96, 46, 182], [0, 175, 54, 6, 44, 182, 0, 161, 21, 5, 159, 0, 5, 3, 172, 21, 5, 154, 0, 15, 45, 3, 47, 21, 6, 133, 148, 153, 0, 5, 3, 172, 167, 9, 143, 43, 42, 21, 4, 4, 96, 46, 42, 21, 4, 5, 96, 46, 45, 184, 0, 176, 54, 5, 44, 42, 21, 4, 4, 96, 46, 42, 21, 4], [5, 96, 46, 182, 0, 179, 54, 6, 44, 182, 0, 161, 21, 5, 159, 0, 5, 3, 172, 21, 5, 154, 0, 22, 45, 3, 47, 21, 6, 153, 0, 7, 10, 167, 0, 4, 9, 148, 153, 0, 5, 3, 172, 167, 9, 68, 43, 42, 21, 4, 4, 96, 46, 42, 21, 4, 5, 96, 46, 45, 184, 0, 180, 54], [5, 44, 42, 21, 4, 4, 96, 46, 42, 21, 4, 5, 96, 46, 182, 0, 182, 54, 6, 44, 182, 0, 161, 21, 5, 159, 0, 5, 3, 172, 21, 5, 154, 0, 22, 45, 3, 47, 21, 6, 153, 0, 7, 10, 167, 0, 4, 9, 148, 153, 0, 5, 3, 172, 167, 8, 249, 43, 42, 21, 4, 4, 96, 46], [45, 184, 0, 183, 54, 5, 44, 42, 21, 4, 4, 96, 46, 182, 0, 185, 54, 6, 44, 182, 0, 161, 21, 5, 159, 0, 5, 3, 172, 21, 5, 154, 0, 15, 45, 3, 47, 21, 6, 133, 148, 153, 0, 5, 3, 172, 167, 8, 193, 43, 42, 21, 4, 4, 96, 46, 42, 21, 4, 5, 96, 46, 45, 184], [0, 186, 54, 5, 44, 42, 21, 4, 4, 96, 46, 42, 21, 4, 5, 96, 46, 182, 0, 188, 54, 6, 44, 182, 0, 161, 21, 5, 159, 0, 5, 3, 172, 21, 5, 154, 0, 15, 45, 3, 47, 21, 6, 133, 148, 153, 0, 5, 3, 172, 167, 8, 125, 43, 42, 21, 4, 4, 96, 46, 42, 21, 4, 5], [96, 46, 42, 21, 4, 6, 96, 46, 45, 184, 0, 189, 54, 5, 44, 42, 21, 4, 4, 96, 46, 42, 21, 4, 5, 96, 46, 42, 21, 4, 6, 96, 46, 182, 0, 192, 54, 6, 44, 182, 0, 161, 21, 5, 159, 0, 5, 3, 172, 21, 5, 154, 0, 15, 45, 3, 47, 21, 6, 133, 148, 153, 0, 5], [3, 172, 167, 8, 45, 43, 42, 21, 4, 4, 96, 46, 42, 21, 4, 5, 96, 46, 42, 21, 4, 6, 96, 46, 153, 0, 7, 4, 167, 0, 4, 3, 45, 184, 0, 193, 54, 5, 44, 42, 21, 4, 4, 96, 46, 42, 21, 4, 5, 96, 46, 42, 21, 4, 6, 96, 46, 153, 0, 7, 4, 167, 0, 4], [3, 182, 0, 196, 54, 6, 44, 182, 0, 161, 21, 5, 159, 0, 5, 3, 172, 21, 5, 154, 0, 22, 45, 3, 47, 21, 6, 153, 0, 7, 10, 167, 0, 4, 9, 148, 153, 0, 5, 3, 172, 167, 7, 198, 43, 42, 21, 4, 4, 96, 46, 45, 184, 0, 197, 54, 5, 44, 42, 21, 4, 4, 96, 46], [182, 0, 199, 54, 6, 44, 182, 0, 161, 21, 5, 159, 0, 5, 3, 172, 21, 5, 154, 0, 15, 45, 3, 47, 21, 6, 133, 148, 153, 0, 5, 3, 172, 167, 7, 142, 43, 42, 21, 4, 4, 96, 46, 42, 21, 4, 5, 96, 46, 42, 21, 4, 6, 96, 46, 42, 21, 4, 7, 96, 46, 42, 21, 4], [8, 96, 46, 42, 21, 4, 16, 6, 96, 46, 45, 184, 0, 200, 54, 5, 44, 42, 21, 4, 4, 96, 46, 42, 21, 4, 5, 96, 46, 42, 21, 4, 6, 96, 46, 42, 21, 4, 7, 96, 46, 42, 21, 4, 8, 96, 46, 42, 21, 4, 16, 6, 96, 46, 182, 0, 203, 54, 6, 44, 182, 0, 161, 21], [5, 159, 0, 5, 3, 172, 21, 5, 154, 0, 15, 45, 3, 47, 21, 6, 133, 148, 153, 0, 5, 3, 172, 167, 7, 24, 43, 42, 21, 4, 4, 96, 46, 42, 21, 4, 5, 96, 46, 45, 184, 0, 204, 54, 5, 44, 42, 21, 4, 4, 96, 46, 42, 21, 4, 5, 96, 46, 182, 0, 206, 54, 6, 44], [182, 0, 161, 21, 5, 159, 0, 5, 3, 172, 21, 5, 154, 0, 15, 45, 3, 47, 21, 6, 133, 148, 153, 0, 5, 3, 172, 167, 6, 212, 43, 42, 21, 4, 4, 96, 46, 42, 21, 4, 5, 96, 46, 45, 184, 0, 207, 54, 5, 44, 42, 21, 4, 4, 96, 46, 42, 21, 4, 5, 96, 46, 182, 0], [209, 54, 6, 44, 182, 0, 161, 21, 5, 159, 0, 5, 3, 172, 21, 5, 154, 0, 22, 45, 3, 47, 21, 6, 153, 0, 7, 10, 167, 0, 4, 9, 148, 153, 0, 5, 3, 172, 167, 6, 137, 43, 182, 0, 210, 44, 182, 0, 213, 159, 6, 126, 3, 172, 43, 42, 21, 4, 4, 96, 46, 45, 184, 0], [214, 54, 5, 44, 42, 21, 4, 4, 96, 46, 182, 0, 216, 55, 6, 44, 182, 0, 161, 21, 5, 159, 0, 5, 3, 172, 21, 5, 154, 0, 14, 45, 3, 47, 22, 6, 148, 153, 0, 5, 3, 172, 167, 6, 69, 43, 42, 21, 4, 4, 96, 46, 45, 184, 0, 217, 54, 5, 44, 42, 21, 4, 4, 96], [46, 182, 0, 219, 55, 6, 44, 182, 0, 161, 21, 5, 159, 0, 5, 3, 172, 21, 5, 154, 0, 14, 45, 3, 47, 22, 6, 148, 153, 0, 5, 3, 172, 167, 6, 14, 43, 42, 21, 4, 4, 96, 46, 45, 184, 0, 220, 54, 5, 44, 42, 21, 4, 4, 96, 46, 182, 0, 222, 54, 6, 44, 182, 0], [161, 21, 5, 159, 0, 5, 3, 172, 21, 5, 154, 0, 15, 45, 3, 47, 21, 6, 133, 148, 153, 0, 5, 3, 172, 167, 5, 214, 43, 42, 21, 4, 4, 96, 46, 42, 21, 4, 5, 96, 46, 45, 184, 0, 223, 54, 5, 44, 42, 21, 4, 4, 96, 46, 42, 21, 4, 5, 96, 46, 182, 0, 225, 55], [6, 44, 182, 0, 161, 21, 5, 159, 0, 5, 3, 172, 21, 5, 154, 0, 14, 45, 3, 47, 22, 6, 148, 153, 0, 5, 3, 172, 167, 5, 147, 43, 42, 21, 4, 4, 96, 46, 42, 21, 4, 5, 96, 46, 45, 184, 0, 226, 54, 5, 44, 42, 21, 4, 4, 96, 46, 42, 21, 4, 5, 96, 46, 182], [0, 228, 54, 6, 44, 182, 0, 161, 21, 5, 159, 0, 5, 3, 172, 21, 5, 154, 0, 22, 45, 3, 47, 21, 6, 153, 0, 7, 10, 167, 0, 4, 9, 148, 153, 0, 5, 3, 172, 167, 5, 72, 43, 42, 21, 4, 4, 96, 46, 42, 21, 4, 5, 96, 46, 45, 184, 0, 229, 54, 5, 44, 42, 21], [4, 4, 96, 46, 42, 21, 4, 5, 96, 46, 182, 0, 231, 54, 6, 44, 182, 0, 161, 21, 5, 159, 0, 5, 3, 172, 21, 5, 154, 0, 15, 45, 3, 47, 21, 6, 133, 148, 153, 0, 5, 3, 172, 167, 5, 4, 43, 42, 21, 4, 4, 96, 46, 42, 21, 4, 5, 96, 46, 42, 21, 4, 6, 96], [46, 45, 184, 0, 232, 54, 5, 44, 42, 21, 4, 4, 96, 46, 42, 21, 4, 5, 96, 46, 42, 21, 4, 6, 96, 46, 182, 0, 234, 54, 6, 44, 182, 0, 161, 21, 5, 159, 0, 5, 3, 172, 21, 5, 154, 0, 15, 45, 3, 47, 21, 6, 133, 148, 153, 0, 5, 3, 172, 167, 4, 180, 43, 42], [21, 4, 4, 96, 46, 42, 21, 4, 5, 96, 46, 42, 21, 4, 6, 96, 46, 45, 184, 0, 235, 54, 5, 44, 42, 21, 4, 4, 96, 46, 42, 21, 4, 5, 96, 46, 42, 21, 4, 6, 96, 46, 182, 0, 237, 54, 6, 44, 182, 0, 161, 21, 5, 159, 0, 5, 3, 172, 21, 5, 154, 0, 15, 45], [3, 47, 21, 6, 133, 148, 153, 0, 5, 3, 172, 167, 4, 100, 43, 42, 21, 4, 4, 96, 46, 42, 21, 4, 5, 96, 46, 45, 184, 0, 238, 54, 5, 44, 42, 21, 4, 4, 96, 46, 42, 21, 4, 5, 96, 46, 182, 0, 240, 54, 6, 44, 182, 0, 161, 21, 5, 159, 0, 5, 3, 172, 21, 5], [154, 0, 15, 45, 3, 47, 21, 6, 133, 148, 153, 0, 5, 3, 172, 167, 4, 32, 43, 42, 21, 4, 4, 96, 46, 42, 21, 4, 5, 96, 46, 42, 21, 4, 6, 96, 46, 45, 184, 0, 241, 54, 5, 44, 42, 21, 4, 4, 96, 46, 42, 21, 4, 5, 96, 46, 42, 21, 4, 6, 96, 46, 182, 0], [243, 54, 6, 44, 182, 0, 161, 21, 5, 159, 0, 5, 3, 172, 21, 5, 154, 0, 15, 45, 3, 47, 21, 6, 133, 148, 153, 0, 5, 3, 172, 167, 3, 208, 43, 42, 21, 4, 4, 96, 46, 42, 21, 4, 5, 96, 46, 42, 21, 4, 6, 96, 46, 45, 184, 0, 244, 54, 5, 44, 42, 21, 4, 4], [96, 46, 42, 21, 4, 5, 96, 46, 42, 21, 4, 6, 96, 46, 182, 0, 246, 54, 6, 44, 182, 0, 161, 21, 5, 159, 0, 5, 3, 172, 21, 5, 154, 0, 15, 45, 3, 47, 21, 6, 133, 148, 153, 0, 5, 3, 172, 167, 3, 128, 43, 42, 21, 4, 4, 96, 46, 45, 184, 0, 247, 54, 5, 44], [42, 21, 4, 4, 96, 46, 182, 0, 249, 54, 6, 44, 182, 0, 161, 21, 5, 159, 0, 5, 3, 172, 21, 5, 154, 0, 15, 45, 3, 47, 21, 6, 133, 148, 153, 0, 5, 3, 172, 167, 3, 72, 43, 42, 21, 4, 4, 96, 46, 42, 21, 4, 5, 96, 46, 45, 184, 0, 250, 54, 5, 44, 42, 21], [4, 4, 96, 46, 42, 21, 4, 5, 96, 46, 182, 0, 252, 54, 6, 44, 182, 0, 161, 21, 5, 159, 0, 5, 3, 172, 21, 5, 154, 0, 15, 45, 3, 47, 21, 6, 133, 148, 153, 0, 5, 3, 172, 167, 3, 4, 43, 42, 21, 4, 4, 96, 46, 45, 184, 0, 253, 54, 5, 44, 42, 21, 4, 4], [96, 46, 182, 0, 255, 54, 6, 44, 182, 0, 161, 21, 5, 159, 0, 5, 3, 172, 21, 5, 154, 0, 15, 45, 3, 47, 21, 6, 133, 148, 153, 0, 5, 3, 172, 167, 2, 204, 43, 42, 21, 4, 4, 96, 46, 45, 184, 1, 0, 54, 5, 44, 42, 21, 4, 4, 96, 46, 182, 1, 2, 54, 6, 44], [182, 0, 161, 21, 5, 159, 0, 5, 3, 172, 21, 5, 154, 0, 15, 45, 3, 47, 21, 6, 133, 148, 153, 0, 5, 3, 172, 167, 2, 148, 43, 42, 21, 4, 4, 96, 46, 45, 184, 1, 3, 54, 5, 44, 42, 21, 4, 4, 96, 46, 182, 1, 5, 54, 6, 44, 182, 0, 161, 21, 5, 159, 0, 5], [3, 172, 21, 5, 154, 0, 15, 45, 3, 47, 21, 6, 133, 148, 153, 0, 5, 3, 172, 167, 2, 92, 43, 42, 21, 4, 4, 96, 46, 45, 184, 1, 6, 54, 5, 44, 42, 21, 4, 4, 96, 46, 182, 1, 8, 54, 6, 44, 182, 0, 161, 21, 5, 159, 0, 5, 3, 172, 21, 5, 154, 0, 15, 45], [3, 47, 21, 6, 133, 148, 153, 0, 5, 3, 172, 167, 2, 36, 43, 42, 21, 4, 4, 96, 46, 42, 21, 4, 5, 96, 46, 45, 184, 1, 9, 54, 5, 44, 42, 21, 4, 4, 96, 46, 42, 21, 4, 5, 96, 46, 182, 1, 11, 54, 6, 44, 182, 0, 161, 21, 5, 159, 0, 5, 3, 172, 21, 5], [154, 0, 15, 45, 3, 47, 21, 6, 133, 148, 153, 0, 5, 3, 172, 167, 1, 224, 43, 42, 21, 4, 4, 96, 46, 42, 21, 4, 5, 96, 46, 45, 184, 1, 12, 54, 5, 44, 42, 21, 4, 4, 96, 46, 42, 21, 4, 5, 96, 46, 182, 1, 14, 54, 6, 44, 182, 0, 161, 21, 5, 159, 0, 5], [3, 172, 21, 5, 154, 0, 15, 45, 3, 47, 21, 6, 133, 148, 153, 0, 5, 3, 172, 167, 1, 156, 43, 42, 21, 4, 4, 96, 46, 42, 21, 4, 5, 96, 46, 42, 21, 4, 6, 96, 46, 42, 21, 4, 7, 96, 46, 45, 184, 1, 15, 54, 5, 44, 42, 21, 4, 4, 96, 46, 42, 21, 4, 5], [96, 46, 42, 21, 4, 6, 96, 46, 42, 21, 4, 7, 96, 46, 182, 1, 18, 54, 6, 44, 182, 0, 161, 21, 5, 159, 0, 5, 3, 172, 21, 5, 154, 0, 15, 45, 3, 47, 21, 6, 133, 148, 153, 0, 5, 3, 172, 167, 1, 64, 43, 42, 21, 4, 4, 96, 46, 45, 184, 1, 19, 54, 5, 44], [42, 21, 4, 4, 96, 46, 182, 1, 21, 54, 6, 44, 182, 0, 161, 21, 5, 159, 0, 5, 3, 172, 21, 5, 154, 0, 22, 45, 3, 47, 21, 6, 153, 0, 7, 10, 167, 0, 4, 9, 148, 153, 0, 5, 3, 172, 167, 1, 1, 43, 42, 21, 4, 4, 96, 46, 42, 21, 4, 5, 96, 46, 42, 21], [4, 6, 96, 46, 45, 184, 1, 22, 54, 5, 44, 42, 21, 4, 4, 96, 46, 42, 21, 4, 5, 96, 46, 42, 21, 4, 6, 96, 46, 182, 1, 24, 54, 6, 44, 182, 0, 161, 21, 5, 159, 0, 5, 3, 172, 21, 5, 154, 0, 15, 45, 3, 47, 21, 6, 133, 148, 153, 0, 5, 3, 172, 167, 0], [177, 43, 42, 21, 4, 4, 96, 46, 45, 184, 1, 25, 54, 5, 44, 42, 21, 4, 4, 96, 46, 182, 1, 27, 54, 6, 44, 182, 0, 161, 21, 5, 159, 0, 5, 3, 172, 21, 5, 154, 0, 15, 45, 3, 47, 21, 6, 133, 148, 153, 0, 5, 3, 172, 167, 0, 121, 43, 182, 1, 28, 44, 182, 1], [31, 159, 0, 110, 3, 172, 43, 42, 21, 4, 4, 96, 46, 45, 184, 1, 32, 54, 5, 44, 42, 21, 4, 4, 96, 46, 182, 1, 34, 54, 6, 44, 182, 0, 161, 21, 5, 159, 0, 5, 3, 172, 21, 5, 154, 0, 15, 45, 3, 47, 21, 6, 133, 148, 153, 0, 5, 3, 172, 167, 0, 52, 43, 182], [1, 35, 44, 182, 1, 38, 167, 0, 41, 43, 182, 1, 39, 44, 182, 1, 43, 159, 0, 30, 3, 172, 43, 42, 21, 4, 4, 96, 46, 182, 1, 44, 44, 42, 21, 4, 4, 96, 46, 182, 1, 47, 159, 0, 5, 3, 172, 132, 4, 7, 167, 244, 165, 4, 172]]
theorem k_L_law (j i : Nat) {b : Nat} (h : (B_L_law[j]?.bind fun c => c[i]?) = some b) : s_by cL_law (64 * j + i) b := s_byC (L := B_L_law) (by decide +kernel) (by decide +kernel) j i h
theorem dL_law_0 : decode cL_law 0 = .ok (.new 8, 3) := dz_187 (k_L_law 0 0 rfl) (k_L_law 0 1 rfl) (k_L_law 0 2 rfl) rfl
theorem dL_law_3 : decode cL_law 3 = .ok (.dup, 1) := dz_89 (k_L_law 0 3 rfl)
theorem dL_law_4 : decode cL_law 4 = .ok (.invokespecial 142, 3) := dz_183 (k_L_law 0 4 rfl) (k_L_law 0 5 rfl) (k_L_law 0 6 rfl) rfl
theorem dL_law_7 : decode cL_law 7 = .ok (.astore_n 1, 1) := dz_76 (k_L_law 0 7 rfl)
theorem dL_law_8 : decode cL_law 8 = .ok (.new 143, 3) := dz_187 (k_L_law 0 8 rfl) (k_L_law 0 9 rfl) (k_L_law 0 10 rfl) rfl
theorem dL_law_11 : decode cL_law 11 = .ok (.dup, 1) := dz_89 (k_L_law 0 11 rfl)
theorem dL_law_12 : decode cL_law 12 = .ok (.invokespecial 145, 3) := dz_183 (k_L_law 0 12 rfl) (k_L_law 0 13 rfl) (k_L_law 0 14 rfl) rfl
theorem dL_law_15 : decode cL_law 15 = .ok (.astore_n 2, 1) := dz_77 (k_L_law 0 15 rfl)
theorem dL_law_16 : decode cL_law 16 = .ok (.iconst 1, 1) := dz_4 (k_L_law 0 16 rfl)
theorem dL_law_17 : decode cL_law 17 = .ok (.newarray .long, 2) := by decide +kernel
theorem dL_law_19 : decode cL_law 19 = .ok (.astore_n 3, 1) := dz_78 (k_L_law 0 19 rfl)
theorem dL_law_20 : decode cL_law 20 = .ok (.iconst 0, 1) := dz_3 (k_L_law 0 20 rfl)
theorem dL_law_21 : decode cL_law 21 = .ok (.istore 4, 2) := dz_54 (k_L_law 0 21 rfl) (k_L_law 0 22 rfl)
theorem dL_law_23 : decode cL_law 23 = .ok (.iload 4, 2) := dz_21 (k_L_law 0 23 rfl) (k_L_law 0 24 rfl)
theorem dL_law_25 : decode cL_law 25 = .ok (.aload_n 0, 1) := dz_42 (k_L_law 0 25 rfl)
theorem dL_law_26 : decode cL_law 26 = .ok (.arraylength, 1) := dz_190 (k_L_law 0 26 rfl)
theorem dL_law_27 : decode cL_law 27 = .ok (.bipush 7, 2) := dz_16 (k_L_law 0 27 rfl) (k_L_law 0 28 rfl) rfl
theorem dL_law_29 : decode cL_law 29 = .ok (.isub, 1) := dz_100 (k_L_law 0 29 rfl)
theorem dL_law_30 : decode cL_law 30 = .ok (.if_icmp .gt 2903, 3) := dz_163 (k_L_law 0 30 rfl) (k_L_law 0 31 rfl) (k_L_law 0 32 rfl) rfl
theorem dL_law_33 : decode cL_law 33 = .ok (.aload_n 0, 1) := dz_42 (k_L_law 0 33 rfl)
theorem dL_law_34 : decode cL_law 34 = .ok (.iload 4, 2) := dz_21 (k_L_law 0 34 rfl) (k_L_law 0 35 rfl)
theorem dL_law_36 : decode cL_law 36 = .ok (.iaload, 1) := dz_46 (k_L_law 0 36 rfl)
theorem dL_law_37 : decode cL_law 37 = .ok (.bipush 63, 2) := dz_16 (k_L_law 0 37 rfl) (k_L_law 0 38 rfl) rfl
theorem dL_law_39 : decode cL_law 39 = .ok (.iand, 1) := dz_126 (k_L_law 0 39 rfl)
theorem dL_law_40 : decode cL_law 40 = .ok (.tableswitch 2887 0 44 #[196, 269, 294, 338, 351, 387, 443, 518, 593, 649, 717, 797, 900, 956, 1074, 1142, 1217, 1230, 1285, 1340, 1396, 1463, 1538, 1606, 1686, 1766, 1834, 1914, 1994, 2050, 2118, 2174, 2230, 2286, 2342, 2410, 2478, 2570, 2633, 2713, 2769, 2782, 2838, 2849, 2862], 196) := by decide +kernel
theorem dL_law_236 : decode cL_law 236 = .ok (.aload_n 1, 1) := dz_43 (k_L_law 3 44 rfl)
theorem dL_law_237 : decode cL_law 237 = .ok (.aload_n 0, 1) := dz_42 (k_L_law 3 45 rfl)
theorem dL_law_238 : decode cL_law 238 = .ok (.iload 4, 2) := dz_21 (k_L_law 3 46 rfl) (k_L_law 3 47 rfl)
theorem dL_law_240 : decode cL_law 240 = .ok (.iconst 1, 1) := dz_4 (k_L_law 3 48 rfl)
theorem dL_law_241 : decode cL_law 241 = .ok (.iadd, 1) := dz_96 (k_L_law 3 49 rfl)
theorem dL_law_242 : decode cL_law 242 = .ok (.iaload, 1) := dz_46 (k_L_law 3 50 rfl)
theorem dL_law_243 : decode cL_law 243 = .ok (.aload_n 0, 1) := dz_42 (k_L_law 3 51 rfl)
theorem dL_law_244 : decode cL_law 244 = .ok (.iload 4, 2) := dz_21 (k_L_law 3 52 rfl) (k_L_law 3 53 rfl)
theorem dL_law_246 : decode cL_law 246 = .ok (.iconst 2, 1) := dz_5 (k_L_law 3 54 rfl)
theorem dL_law_247 : decode cL_law 247 = .ok (.iadd, 1) := dz_96 (k_L_law 3 55 rfl)
theorem dL_law_248 : decode cL_law 248 = .ok (.iaload, 1) := dz_46 (k_L_law 3 56 rfl)
theorem dL_law_249 : decode cL_law 249 = .ok (.aload_n 0, 1) := dz_42 (k_L_law 3 57 rfl)
theorem dL_law_250 : decode cL_law 250 = .ok (.iload 4, 2) := dz_21 (k_L_law 3 58 rfl) (k_L_law 3 59 rfl)
theorem dL_law_252 : decode cL_law 252 = .ok (.iconst 3, 1) := dz_6 (k_L_law 3 60 rfl)
theorem dL_law_253 : decode cL_law 253 = .ok (.iadd, 1) := dz_96 (k_L_law 3 61 rfl)
theorem dL_law_254 : decode cL_law 254 = .ok (.iaload, 1) := dz_46 (k_L_law 3 62 rfl)
theorem dL_law_255 : decode cL_law 255 = .ok (.aload_n 0, 1) := dz_42 (k_L_law 3 63 rfl)
theorem dL_law_256 : decode cL_law 256 = .ok (.iload 4, 2) := dz_21 (k_L_law 4 0 rfl) (k_L_law 4 1 rfl)
theorem dL_law_258 : decode cL_law 258 = .ok (.iconst 4, 1) := dz_7 (k_L_law 4 2 rfl)
theorem dL_law_259 : decode cL_law 259 = .ok (.iadd, 1) := dz_96 (k_L_law 4 3 rfl)
theorem dL_law_260 : decode cL_law 260 = .ok (.iaload, 1) := dz_46 (k_L_law 4 4 rfl)
theorem dL_law_261 : decode cL_law 261 = .ok (.aload_n 0, 1) := dz_42 (k_L_law 4 5 rfl)
theorem dL_law_262 : decode cL_law 262 = .ok (.iload 4, 2) := dz_21 (k_L_law 4 6 rfl) (k_L_law 4 7 rfl)
theorem dL_law_264 : decode cL_law 264 = .ok (.iconst 5, 1) := dz_8 (k_L_law 4 8 rfl)
theorem dL_law_265 : decode cL_law 265 = .ok (.iadd, 1) := dz_96 (k_L_law 4 9 rfl)
theorem dL_law_266 : decode cL_law 266 = .ok (.iaload, 1) := dz_46 (k_L_law 4 10 rfl)
theorem dL_law_267 : decode cL_law 267 = .ok (.invokevirtual 146, 3) := dz_182 (k_L_law 4 11 rfl) (k_L_law 4 12 rfl) (k_L_law 4 13 rfl) rfl
theorem dL_law_270 : decode cL_law 270 = .ok (.aload_n 2, 1) := dz_44 (k_L_law 4 14 rfl)
theorem dL_law_271 : decode cL_law 271 = .ok (.aload_n 0, 1) := dz_42 (k_L_law 4 15 rfl)
theorem dL_law_272 : decode cL_law 272 = .ok (.iload 4, 2) := dz_21 (k_L_law 4 16 rfl) (k_L_law 4 17 rfl)
theorem dL_law_274 : decode cL_law 274 = .ok (.iconst 1, 1) := dz_4 (k_L_law 4 18 rfl)
theorem dL_law_275 : decode cL_law 275 = .ok (.iadd, 1) := dz_96 (k_L_law 4 19 rfl)
theorem dL_law_276 : decode cL_law 276 = .ok (.iaload, 1) := dz_46 (k_L_law 4 20 rfl)
theorem dL_law_277 : decode cL_law 277 = .ok (.aload_n 0, 1) := dz_42 (k_L_law 4 21 rfl)
theorem dL_law_278 : decode cL_law 278 = .ok (.iload 4, 2) := dz_21 (k_L_law 4 22 rfl) (k_L_law 4 23 rfl)
theorem dL_law_280 : decode cL_law 280 = .ok (.iconst 2, 1) := dz_5 (k_L_law 4 24 rfl)
theorem dL_law_281 : decode cL_law 281 = .ok (.iadd, 1) := dz_96 (k_L_law 4 25 rfl)
theorem dL_law_282 : decode cL_law 282 = .ok (.iaload, 1) := dz_46 (k_L_law 4 26 rfl)
theorem dL_law_283 : decode cL_law 283 = .ok (.aload_n 0, 1) := dz_42 (k_L_law 4 27 rfl)
theorem dL_law_284 : decode cL_law 284 = .ok (.iload 4, 2) := dz_21 (k_L_law 4 28 rfl) (k_L_law 4 29 rfl)
theorem dL_law_286 : decode cL_law 286 = .ok (.iconst 3, 1) := dz_6 (k_L_law 4 30 rfl)
theorem dL_law_287 : decode cL_law 287 = .ok (.iadd, 1) := dz_96 (k_L_law 4 31 rfl)
theorem dL_law_288 : decode cL_law 288 = .ok (.iaload, 1) := dz_46 (k_L_law 4 32 rfl)
theorem dL_law_289 : decode cL_law 289 = .ok (.aload_n 0, 1) := dz_42 (k_L_law 4 33 rfl)
theorem dL_law_290 : decode cL_law 290 = .ok (.iload 4, 2) := dz_21 (k_L_law 4 34 rfl) (k_L_law 4 35 rfl)
theorem dL_law_292 : decode cL_law 292 = .ok (.iconst 4, 1) := dz_7 (k_L_law 4 36 rfl)
theorem dL_law_293 : decode cL_law 293 = .ok (.iadd, 1) := dz_96 (k_L_law 4 37 rfl)
theorem dL_law_294 : decode cL_law 294 = .ok (.iaload, 1) := dz_46 (k_L_law 4 38 rfl)
theorem dL_law_295 : decode cL_law 295 = .ok (.aload_n 0, 1) := dz_42 (k_L_law 4 39 rfl)
theorem dL_law_296 : decode cL_law 296 = .ok (.iload 4, 2) := dz_21 (k_L_law 4 40 rfl) (k_L_law 4 41 rfl)
theorem dL_law_298 : decode cL_law 298 = .ok (.iconst 5, 1) := dz_8 (k_L_law 4 42 rfl)
theorem dL_law_299 : decode cL_law 299 = .ok (.iadd, 1) := dz_96 (k_L_law 4 43 rfl)
theorem dL_law_300 : decode cL_law 300 = .ok (.iaload, 1) := dz_46 (k_L_law 4 44 rfl)
theorem dL_law_301 : decode cL_law 301 = .ok (.invokevirtual 150, 3) := dz_182 (k_L_law 4 45 rfl) (k_L_law 4 46 rfl) (k_L_law 4 47 rfl) rfl
theorem dL_law_304 : decode cL_law 304 = .ok (.if_icmp .eq 2623, 3) := dz_159 (k_L_law 4 48 rfl) (k_L_law 4 49 rfl) (k_L_law 4 50 rfl) rfl
theorem dL_law_307 : decode cL_law 307 = .ok (.iconst 0, 1) := dz_3 (k_L_law 4 51 rfl)
theorem dL_law_308 : decode cL_law 308 = .ok (.ireturn, 1) := dz_172 (k_L_law 4 52 rfl)
theorem dL_law_309 : decode cL_law 309 = .ok (.aload_n 1, 1) := dz_43 (k_L_law 4 53 rfl)
theorem dL_law_310 : decode cL_law 310 = .ok (.aload_n 0, 1) := dz_42 (k_L_law 4 54 rfl)
theorem dL_law_311 : decode cL_law 311 = .ok (.iload 4, 2) := dz_21 (k_L_law 4 55 rfl) (k_L_law 4 56 rfl)
theorem dL_law_313 : decode cL_law 313 = .ok (.iconst 1, 1) := dz_4 (k_L_law 4 57 rfl)
theorem dL_law_314 : decode cL_law 314 = .ok (.iadd, 1) := dz_96 (k_L_law 4 58 rfl)
theorem dL_law_315 : decode cL_law 315 = .ok (.iaload, 1) := dz_46 (k_L_law 4 59 rfl)
theorem dL_law_316 : decode cL_law 316 = .ok (.invokevirtual 151, 3) := dz_182 (k_L_law 4 60 rfl) (k_L_law 4 61 rfl) (k_L_law 4 62 rfl) rfl
theorem dL_law_319 : decode cL_law 319 = .ok (.aload_n 2, 1) := dz_44 (k_L_law 4 63 rfl)
theorem dL_law_320 : decode cL_law 320 = .ok (.aload_n 0, 1) := dz_42 (k_L_law 5 0 rfl)
theorem dL_law_321 : decode cL_law 321 = .ok (.iload 4, 2) := dz_21 (k_L_law 5 1 rfl) (k_L_law 5 2 rfl)
theorem dL_law_323 : decode cL_law 323 = .ok (.iconst 1, 1) := dz_4 (k_L_law 5 3 rfl)
theorem dL_law_324 : decode cL_law 324 = .ok (.iadd, 1) := dz_96 (k_L_law 5 4 rfl)
theorem dL_law_325 : decode cL_law 325 = .ok (.iaload, 1) := dz_46 (k_L_law 5 5 rfl)
theorem dL_law_326 : decode cL_law 326 = .ok (.invokevirtual 154, 3) := dz_182 (k_L_law 5 6 rfl) (k_L_law 5 7 rfl) (k_L_law 5 8 rfl) rfl
theorem dL_law_329 : decode cL_law 329 = .ok (.if_icmp .eq 2598, 3) := dz_159 (k_L_law 5 9 rfl) (k_L_law 5 10 rfl) (k_L_law 5 11 rfl) rfl
theorem dL_law_332 : decode cL_law 332 = .ok (.iconst 0, 1) := dz_3 (k_L_law 5 12 rfl)
theorem dL_law_333 : decode cL_law 333 = .ok (.ireturn, 1) := dz_172 (k_L_law 5 13 rfl)
theorem dL_law_334 : decode cL_law 334 = .ok (.aload_n 1, 1) := dz_43 (k_L_law 5 14 rfl)
theorem dL_law_335 : decode cL_law 335 = .ok (.aload_n 3, 1) := dz_45 (k_L_law 5 15 rfl)
theorem dL_law_336 : decode cL_law 336 = .ok (.invokestatic 155, 3) := dz_184 (k_L_law 5 16 rfl) (k_L_law 5 17 rfl) (k_L_law 5 18 rfl) rfl
theorem dL_law_339 : decode cL_law 339 = .ok (.istore 5, 2) := dz_54 (k_L_law 5 19 rfl) (k_L_law 5 20 rfl)
theorem dL_law_341 : decode cL_law 341 = .ok (.aload_n 2, 1) := dz_44 (k_L_law 5 21 rfl)
theorem dL_law_342 : decode cL_law 342 = .ok (.invokevirtual 160, 3) := dz_182 (k_L_law 5 22 rfl) (k_L_law 5 23 rfl) (k_L_law 5 24 rfl) rfl
theorem dL_law_345 : decode cL_law 345 = .ok (.istore 6, 2) := dz_54 (k_L_law 5 25 rfl) (k_L_law 5 26 rfl)
theorem dL_law_347 : decode cL_law 347 = .ok (.aload_n 2, 1) := dz_44 (k_L_law 5 27 rfl)
theorem dL_law_348 : decode cL_law 348 = .ok (.invokevirtual 161, 3) := dz_182 (k_L_law 5 28 rfl) (k_L_law 5 29 rfl) (k_L_law 5 30 rfl) rfl
theorem dL_law_351 : decode cL_law 351 = .ok (.iload 5, 2) := dz_21 (k_L_law 5 31 rfl) (k_L_law 5 32 rfl)
theorem dL_law_353 : decode cL_law 353 = .ok (.if_icmp .eq 5, 3) := dz_159 (k_L_law 5 33 rfl) (k_L_law 5 34 rfl) (k_L_law 5 35 rfl) rfl
theorem dL_law_356 : decode cL_law 356 = .ok (.iconst 0, 1) := dz_3 (k_L_law 5 36 rfl)
theorem dL_law_357 : decode cL_law 357 = .ok (.ireturn, 1) := dz_172 (k_L_law 5 37 rfl)
theorem dL_law_358 : decode cL_law 358 = .ok (.iload 5, 2) := dz_21 (k_L_law 5 38 rfl) (k_L_law 5 39 rfl)
theorem dL_law_360 : decode cL_law 360 = .ok (.ifCond .ne 15, 3) := dz_154 (k_L_law 5 40 rfl) (k_L_law 5 41 rfl) (k_L_law 5 42 rfl) rfl
theorem dL_law_363 : decode cL_law 363 = .ok (.aload_n 3, 1) := dz_45 (k_L_law 5 43 rfl)
theorem dL_law_364 : decode cL_law 364 = .ok (.iconst 0, 1) := dz_3 (k_L_law 5 44 rfl)
theorem dL_law_365 : decode cL_law 365 = .ok (.laload, 1) := dz_47 (k_L_law 5 45 rfl)
theorem dL_law_366 : decode cL_law 366 = .ok (.iload 6, 2) := dz_21 (k_L_law 5 46 rfl) (k_L_law 5 47 rfl)
theorem dL_law_368 : decode cL_law 368 = .ok (.i2l, 1) := dz_133 (k_L_law 5 48 rfl)
theorem dL_law_369 : decode cL_law 369 = .ok (.lcmp, 1) := dz_148 (k_L_law 5 49 rfl)
theorem dL_law_370 : decode cL_law 370 = .ok (.ifCond .eq 5, 3) := dz_153 (k_L_law 5 50 rfl) (k_L_law 5 51 rfl) (k_L_law 5 52 rfl) rfl
theorem dL_law_373 : decode cL_law 373 = .ok (.iconst 0, 1) := dz_3 (k_L_law 5 53 rfl)
theorem dL_law_374 : decode cL_law 374 = .ok (.ireturn, 1) := dz_172 (k_L_law 5 54 rfl)
theorem dL_law_375 : decode cL_law 375 = .ok (.goto 2552, 3) := dz_167 (k_L_law 5 55 rfl) (k_L_law 5 56 rfl) (k_L_law 5 57 rfl) rfl
theorem dL_law_378 : decode cL_law 378 = .ok (.aload_n 1, 1) := dz_43 (k_L_law 5 58 rfl)
theorem dL_law_379 : decode cL_law 379 = .ok (.invokevirtual 164, 3) := dz_182 (k_L_law 5 59 rfl) (k_L_law 5 60 rfl) (k_L_law 5 61 rfl) rfl
theorem dL_law_382 : decode cL_law 382 = .ok (.aload_n 2, 1) := dz_44 (k_L_law 5 62 rfl)
theorem dL_law_383 : decode cL_law 383 = .ok (.invokevirtual 167, 3) := dz_182 (k_L_law 5 63 rfl) (k_L_law 6 0 rfl) (k_L_law 6 1 rfl) rfl
theorem dL_law_386 : decode cL_law 386 = .ok (.if_icmp .eq 2541, 3) := dz_159 (k_L_law 6 2 rfl) (k_L_law 6 3 rfl) (k_L_law 6 4 rfl) rfl
theorem dL_law_389 : decode cL_law 389 = .ok (.iconst 0, 1) := dz_3 (k_L_law 6 5 rfl)
theorem dL_law_390 : decode cL_law 390 = .ok (.ireturn, 1) := dz_172 (k_L_law 6 6 rfl)
theorem dL_law_391 : decode cL_law 391 = .ok (.aload_n 1, 1) := dz_43 (k_L_law 6 7 rfl)
theorem dL_law_392 : decode cL_law 392 = .ok (.aload_n 0, 1) := dz_42 (k_L_law 6 8 rfl)
theorem dL_law_393 : decode cL_law 393 = .ok (.iload 4, 2) := dz_21 (k_L_law 6 9 rfl) (k_L_law 6 10 rfl)
theorem dL_law_395 : decode cL_law 395 = .ok (.iconst 1, 1) := dz_4 (k_L_law 6 11 rfl)
theorem dL_law_396 : decode cL_law 396 = .ok (.iadd, 1) := dz_96 (k_L_law 6 12 rfl)
theorem dL_law_397 : decode cL_law 397 = .ok (.iaload, 1) := dz_46 (k_L_law 6 13 rfl)
theorem dL_law_398 : decode cL_law 398 = .ok (.invokestatic 168, 3) := dz_184 (k_L_law 6 14 rfl) (k_L_law 6 15 rfl) (k_L_law 6 16 rfl) rfl
theorem dL_law_401 : decode cL_law 401 = .ok (.istore 5, 2) := dz_54 (k_L_law 6 17 rfl) (k_L_law 6 18 rfl)
theorem dL_law_403 : decode cL_law 403 = .ok (.aload_n 2, 1) := dz_44 (k_L_law 6 19 rfl)
theorem dL_law_404 : decode cL_law 404 = .ok (.aload_n 0, 1) := dz_42 (k_L_law 6 20 rfl)
theorem dL_law_405 : decode cL_law 405 = .ok (.iload 4, 2) := dz_21 (k_L_law 6 21 rfl) (k_L_law 6 22 rfl)
theorem dL_law_407 : decode cL_law 407 = .ok (.iconst 1, 1) := dz_4 (k_L_law 6 23 rfl)
theorem dL_law_408 : decode cL_law 408 = .ok (.iadd, 1) := dz_96 (k_L_law 6 24 rfl)
theorem dL_law_409 : decode cL_law 409 = .ok (.iaload, 1) := dz_46 (k_L_law 6 25 rfl)
theorem dL_law_410 : decode cL_law 410 = .ok (.invokevirtual 171, 3) := dz_182 (k_L_law 6 26 rfl) (k_L_law 6 27 rfl) (k_L_law 6 28 rfl) rfl
theorem dL_law_413 : decode cL_law 413 = .ok (.aload_n 2, 1) := dz_44 (k_L_law 6 29 rfl)
theorem dL_law_414 : decode cL_law 414 = .ok (.invokevirtual 161, 3) := dz_182 (k_L_law 6 30 rfl) (k_L_law 6 31 rfl) (k_L_law 6 32 rfl) rfl
theorem dL_law_417 : decode cL_law 417 = .ok (.iload 5, 2) := dz_21 (k_L_law 6 33 rfl) (k_L_law 6 34 rfl)
theorem dL_law_419 : decode cL_law 419 = .ok (.if_icmp .eq 5, 3) := dz_159 (k_L_law 6 35 rfl) (k_L_law 6 36 rfl) (k_L_law 6 37 rfl) rfl
theorem dL_law_422 : decode cL_law 422 = .ok (.iconst 0, 1) := dz_3 (k_L_law 6 38 rfl)
theorem dL_law_423 : decode cL_law 423 = .ok (.ireturn, 1) := dz_172 (k_L_law 6 39 rfl)
theorem dL_law_424 : decode cL_law 424 = .ok (.goto 2503, 3) := dz_167 (k_L_law 6 40 rfl) (k_L_law 6 41 rfl) (k_L_law 6 42 rfl) rfl
theorem dL_law_427 : decode cL_law 427 = .ok (.aload_n 1, 1) := dz_43 (k_L_law 6 43 rfl)
theorem dL_law_428 : decode cL_law 428 = .ok (.aload_n 0, 1) := dz_42 (k_L_law 6 44 rfl)
theorem dL_law_429 : decode cL_law 429 = .ok (.iload 4, 2) := dz_21 (k_L_law 6 45 rfl) (k_L_law 6 46 rfl)
theorem dL_law_431 : decode cL_law 431 = .ok (.iconst 1, 1) := dz_4 (k_L_law 6 47 rfl)
theorem dL_law_432 : decode cL_law 432 = .ok (.iadd, 1) := dz_96 (k_L_law 6 48 rfl)
theorem dL_law_433 : decode cL_law 433 = .ok (.iaload, 1) := dz_46 (k_L_law 6 49 rfl)
theorem dL_law_434 : decode cL_law 434 = .ok (.aload_n 3, 1) := dz_45 (k_L_law 6 50 rfl)
theorem dL_law_435 : decode cL_law 435 = .ok (.invokestatic 172, 3) := dz_184 (k_L_law 6 51 rfl) (k_L_law 6 52 rfl) (k_L_law 6 53 rfl) rfl
theorem dL_law_438 : decode cL_law 438 = .ok (.istore 5, 2) := dz_54 (k_L_law 6 54 rfl) (k_L_law 6 55 rfl)
theorem dL_law_440 : decode cL_law 440 = .ok (.aload_n 2, 1) := dz_44 (k_L_law 6 56 rfl)
theorem dL_law_441 : decode cL_law 441 = .ok (.aload_n 0, 1) := dz_42 (k_L_law 6 57 rfl)
theorem dL_law_442 : decode cL_law 442 = .ok (.iload 4, 2) := dz_21 (k_L_law 6 58 rfl) (k_L_law 6 59 rfl)
theorem dL_law_444 : decode cL_law 444 = .ok (.iconst 1, 1) := dz_4 (k_L_law 6 60 rfl)
theorem dL_law_445 : decode cL_law 445 = .ok (.iadd, 1) := dz_96 (k_L_law 6 61 rfl)
theorem dL_law_446 : decode cL_law 446 = .ok (.iaload, 1) := dz_46 (k_L_law 6 62 rfl)
theorem dL_law_447 : decode cL_law 447 = .ok (.invokevirtual 175, 3) := dz_182 (k_L_law 6 63 rfl) (k_L_law 7 0 rfl) (k_L_law 7 1 rfl) rfl
theorem dL_law_450 : decode cL_law 450 = .ok (.istore 6, 2) := dz_54 (k_L_law 7 2 rfl) (k_L_law 7 3 rfl)
theorem dL_law_452 : decode cL_law 452 = .ok (.aload_n 2, 1) := dz_44 (k_L_law 7 4 rfl)
theorem dL_law_453 : decode cL_law 453 = .ok (.invokevirtual 161, 3) := dz_182 (k_L_law 7 5 rfl) (k_L_law 7 6 rfl) (k_L_law 7 7 rfl) rfl
theorem dL_law_456 : decode cL_law 456 = .ok (.iload 5, 2) := dz_21 (k_L_law 7 8 rfl) (k_L_law 7 9 rfl)
theorem dL_law_458 : decode cL_law 458 = .ok (.if_icmp .eq 5, 3) := dz_159 (k_L_law 7 10 rfl) (k_L_law 7 11 rfl) (k_L_law 7 12 rfl) rfl
theorem dL_law_461 : decode cL_law 461 = .ok (.iconst 0, 1) := dz_3 (k_L_law 7 13 rfl)
theorem dL_law_462 : decode cL_law 462 = .ok (.ireturn, 1) := dz_172 (k_L_law 7 14 rfl)
theorem dL_law_463 : decode cL_law 463 = .ok (.iload 5, 2) := dz_21 (k_L_law 7 15 rfl) (k_L_law 7 16 rfl)
theorem dL_law_465 : decode cL_law 465 = .ok (.ifCond .ne 15, 3) := dz_154 (k_L_law 7 17 rfl) (k_L_law 7 18 rfl) (k_L_law 7 19 rfl) rfl
theorem dL_law_468 : decode cL_law 468 = .ok (.aload_n 3, 1) := dz_45 (k_L_law 7 20 rfl)
theorem dL_law_469 : decode cL_law 469 = .ok (.iconst 0, 1) := dz_3 (k_L_law 7 21 rfl)
theorem dL_law_470 : decode cL_law 470 = .ok (.laload, 1) := dz_47 (k_L_law 7 22 rfl)
theorem dL_law_471 : decode cL_law 471 = .ok (.iload 6, 2) := dz_21 (k_L_law 7 23 rfl) (k_L_law 7 24 rfl)
theorem dL_law_473 : decode cL_law 473 = .ok (.i2l, 1) := dz_133 (k_L_law 7 25 rfl)
theorem dL_law_474 : decode cL_law 474 = .ok (.lcmp, 1) := dz_148 (k_L_law 7 26 rfl)
theorem dL_law_475 : decode cL_law 475 = .ok (.ifCond .eq 5, 3) := dz_153 (k_L_law 7 27 rfl) (k_L_law 7 28 rfl) (k_L_law 7 29 rfl) rfl
theorem dL_law_478 : decode cL_law 478 = .ok (.iconst 0, 1) := dz_3 (k_L_law 7 30 rfl)
theorem dL_law_479 : decode cL_law 479 = .ok (.ireturn, 1) := dz_172 (k_L_law 7 31 rfl)
theorem dL_law_480 : decode cL_law 480 = .ok (.goto 2447, 3) := dz_167 (k_L_law 7 32 rfl) (k_L_law 7 33 rfl) (k_L_law 7 34 rfl) rfl
theorem dL_law_483 : decode cL_law 483 = .ok (.aload_n 1, 1) := dz_43 (k_L_law 7 35 rfl)
theorem dL_law_484 : decode cL_law 484 = .ok (.aload_n 0, 1) := dz_42 (k_L_law 7 36 rfl)
theorem dL_law_485 : decode cL_law 485 = .ok (.iload 4, 2) := dz_21 (k_L_law 7 37 rfl) (k_L_law 7 38 rfl)
theorem dL_law_487 : decode cL_law 487 = .ok (.iconst 1, 1) := dz_4 (k_L_law 7 39 rfl)
theorem dL_law_488 : decode cL_law 488 = .ok (.iadd, 1) := dz_96 (k_L_law 7 40 rfl)
theorem dL_law_489 : decode cL_law 489 = .ok (.iaload, 1) := dz_46 (k_L_law 7 41 rfl)
theorem dL_law_490 : decode cL_law 490 = .ok (.aload_n 0, 1) := dz_42 (k_L_law 7 42 rfl)
theorem dL_law_491 : decode cL_law 491 = .ok (.iload 4, 2) := dz_21 (k_L_law 7 43 rfl) (k_L_law 7 44 rfl)
theorem dL_law_493 : decode cL_law 493 = .ok (.iconst 2, 1) := dz_5 (k_L_law 7 45 rfl)
theorem dL_law_494 : decode cL_law 494 = .ok (.iadd, 1) := dz_96 (k_L_law 7 46 rfl)
theorem dL_law_495 : decode cL_law 495 = .ok (.iaload, 1) := dz_46 (k_L_law 7 47 rfl)
theorem dL_law_496 : decode cL_law 496 = .ok (.aload_n 3, 1) := dz_45 (k_L_law 7 48 rfl)
theorem dL_law_497 : decode cL_law 497 = .ok (.invokestatic 176, 3) := dz_184 (k_L_law 7 49 rfl) (k_L_law 7 50 rfl) (k_L_law 7 51 rfl) rfl
theorem dL_law_500 : decode cL_law 500 = .ok (.istore 5, 2) := dz_54 (k_L_law 7 52 rfl) (k_L_law 7 53 rfl)
theorem dL_law_502 : decode cL_law 502 = .ok (.aload_n 2, 1) := dz_44 (k_L_law 7 54 rfl)
theorem dL_law_503 : decode cL_law 503 = .ok (.aload_n 0, 1) := dz_42 (k_L_law 7 55 rfl)
theorem dL_law_504 : decode cL_law 504 = .ok (.iload 4, 2) := dz_21 (k_L_law 7 56 rfl) (k_L_law 7 57 rfl)
theorem dL_law_506 : decode cL_law 506 = .ok (.iconst 1, 1) := dz_4 (k_L_law 7 58 rfl)
theorem dL_law_507 : decode cL_law 507 = .ok (.iadd, 1) := dz_96 (k_L_law 7 59 rfl)
theorem dL_law_508 : decode cL_law 508 = .ok (.iaload, 1) := dz_46 (k_L_law 7 60 rfl)
theorem dL_law_509 : decode cL_law 509 = .ok (.aload_n 0, 1) := dz_42 (k_L_law 7 61 rfl)
theorem dL_law_510 : decode cL_law 510 = .ok (.iload 4, 2) := dz_21 (k_L_law 7 62 rfl) (k_L_law 7 63 rfl)
theorem dL_law_512 : decode cL_law 512 = .ok (.iconst 2, 1) := dz_5 (k_L_law 8 0 rfl)
theorem dL_law_513 : decode cL_law 513 = .ok (.iadd, 1) := dz_96 (k_L_law 8 1 rfl)
theorem dL_law_514 : decode cL_law 514 = .ok (.iaload, 1) := dz_46 (k_L_law 8 2 rfl)
theorem dL_law_515 : decode cL_law 515 = .ok (.invokevirtual 179, 3) := dz_182 (k_L_law 8 3 rfl) (k_L_law 8 4 rfl) (k_L_law 8 5 rfl) rfl
theorem dL_law_518 : decode cL_law 518 = .ok (.istore 6, 2) := dz_54 (k_L_law 8 6 rfl) (k_L_law 8 7 rfl)
theorem dL_law_520 : decode cL_law 520 = .ok (.aload_n 2, 1) := dz_44 (k_L_law 8 8 rfl)
theorem dL_law_521 : decode cL_law 521 = .ok (.invokevirtual 161, 3) := dz_182 (k_L_law 8 9 rfl) (k_L_law 8 10 rfl) (k_L_law 8 11 rfl) rfl
theorem dL_law_524 : decode cL_law 524 = .ok (.iload 5, 2) := dz_21 (k_L_law 8 12 rfl) (k_L_law 8 13 rfl)
theorem dL_law_526 : decode cL_law 526 = .ok (.if_icmp .eq 5, 3) := dz_159 (k_L_law 8 14 rfl) (k_L_law 8 15 rfl) (k_L_law 8 16 rfl) rfl
theorem dL_law_529 : decode cL_law 529 = .ok (.iconst 0, 1) := dz_3 (k_L_law 8 17 rfl)
theorem dL_law_530 : decode cL_law 530 = .ok (.ireturn, 1) := dz_172 (k_L_law 8 18 rfl)
theorem dL_law_531 : decode cL_law 531 = .ok (.iload 5, 2) := dz_21 (k_L_law 8 19 rfl) (k_L_law 8 20 rfl)
theorem dL_law_533 : decode cL_law 533 = .ok (.ifCond .ne 22, 3) := dz_154 (k_L_law 8 21 rfl) (k_L_law 8 22 rfl) (k_L_law 8 23 rfl) rfl
theorem dL_law_536 : decode cL_law 536 = .ok (.aload_n 3, 1) := dz_45 (k_L_law 8 24 rfl)
theorem dL_law_537 : decode cL_law 537 = .ok (.iconst 0, 1) := dz_3 (k_L_law 8 25 rfl)
theorem dL_law_538 : decode cL_law 538 = .ok (.laload, 1) := dz_47 (k_L_law 8 26 rfl)
theorem dL_law_539 : decode cL_law 539 = .ok (.iload 6, 2) := dz_21 (k_L_law 8 27 rfl) (k_L_law 8 28 rfl)
theorem dL_law_541 : decode cL_law 541 = .ok (.ifCond .eq 7, 3) := dz_153 (k_L_law 8 29 rfl) (k_L_law 8 30 rfl) (k_L_law 8 31 rfl) rfl
theorem dL_law_544 : decode cL_law 544 = .ok (.lconst 1, 1) := dz_10 (k_L_law 8 32 rfl)
theorem dL_law_545 : decode cL_law 545 = .ok (.goto 4, 3) := dz_167 (k_L_law 8 33 rfl) (k_L_law 8 34 rfl) (k_L_law 8 35 rfl) rfl
theorem dL_law_548 : decode cL_law 548 = .ok (.lconst 0, 1) := dz_9 (k_L_law 8 36 rfl)
theorem dL_law_549 : decode cL_law 549 = .ok (.lcmp, 1) := dz_148 (k_L_law 8 37 rfl)
theorem dL_law_550 : decode cL_law 550 = .ok (.ifCond .eq 5, 3) := dz_153 (k_L_law 8 38 rfl) (k_L_law 8 39 rfl) (k_L_law 8 40 rfl) rfl
theorem dL_law_553 : decode cL_law 553 = .ok (.iconst 0, 1) := dz_3 (k_L_law 8 41 rfl)
theorem dL_law_554 : decode cL_law 554 = .ok (.ireturn, 1) := dz_172 (k_L_law 8 42 rfl)
theorem dL_law_555 : decode cL_law 555 = .ok (.goto 2372, 3) := dz_167 (k_L_law 8 43 rfl) (k_L_law 8 44 rfl) (k_L_law 8 45 rfl) rfl
theorem dL_law_558 : decode cL_law 558 = .ok (.aload_n 1, 1) := dz_43 (k_L_law 8 46 rfl)
theorem dL_law_559 : decode cL_law 559 = .ok (.aload_n 0, 1) := dz_42 (k_L_law 8 47 rfl)
theorem dL_law_560 : decode cL_law 560 = .ok (.iload 4, 2) := dz_21 (k_L_law 8 48 rfl) (k_L_law 8 49 rfl)
theorem dL_law_562 : decode cL_law 562 = .ok (.iconst 1, 1) := dz_4 (k_L_law 8 50 rfl)
theorem dL_law_563 : decode cL_law 563 = .ok (.iadd, 1) := dz_96 (k_L_law 8 51 rfl)
theorem dL_law_564 : decode cL_law 564 = .ok (.iaload, 1) := dz_46 (k_L_law 8 52 rfl)
theorem dL_law_565 : decode cL_law 565 = .ok (.aload_n 0, 1) := dz_42 (k_L_law 8 53 rfl)
theorem dL_law_566 : decode cL_law 566 = .ok (.iload 4, 2) := dz_21 (k_L_law 8 54 rfl) (k_L_law 8 55 rfl)
theorem dL_law_568 : decode cL_law 568 = .ok (.iconst 2, 1) := dz_5 (k_L_law 8 56 rfl)
theorem dL_law_569 : decode cL_law 569 = .ok (.iadd, 1) := dz_96 (k_L_law 8 57 rfl)
theorem dL_law_570 : decode cL_law 570 = .ok (.iaload, 1) := dz_46 (k_L_law 8 58 rfl)
theorem dL_law_571 : decode cL_law 571 = .ok (.aload_n 3, 1) := dz_45 (k_L_law 8 59 rfl)
theorem dL_law_572 : decode cL_law 572 = .ok (.invokestatic 180, 3) := dz_184 (k_L_law 8 60 rfl) (k_L_law 8 61 rfl) (k_L_law 8 62 rfl) rfl
theorem dL_law_575 : decode cL_law 575 = .ok (.istore 5, 2) := dz_54 (k_L_law 8 63 rfl) (k_L_law 9 0 rfl)
theorem dL_law_577 : decode cL_law 577 = .ok (.aload_n 2, 1) := dz_44 (k_L_law 9 1 rfl)
theorem dL_law_578 : decode cL_law 578 = .ok (.aload_n 0, 1) := dz_42 (k_L_law 9 2 rfl)
theorem dL_law_579 : decode cL_law 579 = .ok (.iload 4, 2) := dz_21 (k_L_law 9 3 rfl) (k_L_law 9 4 rfl)
theorem dL_law_581 : decode cL_law 581 = .ok (.iconst 1, 1) := dz_4 (k_L_law 9 5 rfl)
theorem dL_law_582 : decode cL_law 582 = .ok (.iadd, 1) := dz_96 (k_L_law 9 6 rfl)
theorem dL_law_583 : decode cL_law 583 = .ok (.iaload, 1) := dz_46 (k_L_law 9 7 rfl)
theorem dL_law_584 : decode cL_law 584 = .ok (.aload_n 0, 1) := dz_42 (k_L_law 9 8 rfl)
theorem dL_law_585 : decode cL_law 585 = .ok (.iload 4, 2) := dz_21 (k_L_law 9 9 rfl) (k_L_law 9 10 rfl)
theorem dL_law_587 : decode cL_law 587 = .ok (.iconst 2, 1) := dz_5 (k_L_law 9 11 rfl)
theorem dL_law_588 : decode cL_law 588 = .ok (.iadd, 1) := dz_96 (k_L_law 9 12 rfl)
theorem dL_law_589 : decode cL_law 589 = .ok (.iaload, 1) := dz_46 (k_L_law 9 13 rfl)
theorem dL_law_590 : decode cL_law 590 = .ok (.invokevirtual 182, 3) := dz_182 (k_L_law 9 14 rfl) (k_L_law 9 15 rfl) (k_L_law 9 16 rfl) rfl
theorem dL_law_593 : decode cL_law 593 = .ok (.istore 6, 2) := dz_54 (k_L_law 9 17 rfl) (k_L_law 9 18 rfl)
theorem dL_law_595 : decode cL_law 595 = .ok (.aload_n 2, 1) := dz_44 (k_L_law 9 19 rfl)
theorem dL_law_596 : decode cL_law 596 = .ok (.invokevirtual 161, 3) := dz_182 (k_L_law 9 20 rfl) (k_L_law 9 21 rfl) (k_L_law 9 22 rfl) rfl
theorem dL_law_599 : decode cL_law 599 = .ok (.iload 5, 2) := dz_21 (k_L_law 9 23 rfl) (k_L_law 9 24 rfl)
theorem dL_law_601 : decode cL_law 601 = .ok (.if_icmp .eq 5, 3) := dz_159 (k_L_law 9 25 rfl) (k_L_law 9 26 rfl) (k_L_law 9 27 rfl) rfl
theorem dL_law_604 : decode cL_law 604 = .ok (.iconst 0, 1) := dz_3 (k_L_law 9 28 rfl)
theorem dL_law_605 : decode cL_law 605 = .ok (.ireturn, 1) := dz_172 (k_L_law 9 29 rfl)
theorem dL_law_606 : decode cL_law 606 = .ok (.iload 5, 2) := dz_21 (k_L_law 9 30 rfl) (k_L_law 9 31 rfl)
theorem dL_law_608 : decode cL_law 608 = .ok (.ifCond .ne 22, 3) := dz_154 (k_L_law 9 32 rfl) (k_L_law 9 33 rfl) (k_L_law 9 34 rfl) rfl
theorem dL_law_611 : decode cL_law 611 = .ok (.aload_n 3, 1) := dz_45 (k_L_law 9 35 rfl)
theorem dL_law_612 : decode cL_law 612 = .ok (.iconst 0, 1) := dz_3 (k_L_law 9 36 rfl)
theorem dL_law_613 : decode cL_law 613 = .ok (.laload, 1) := dz_47 (k_L_law 9 37 rfl)
theorem dL_law_614 : decode cL_law 614 = .ok (.iload 6, 2) := dz_21 (k_L_law 9 38 rfl) (k_L_law 9 39 rfl)
theorem dL_law_616 : decode cL_law 616 = .ok (.ifCond .eq 7, 3) := dz_153 (k_L_law 9 40 rfl) (k_L_law 9 41 rfl) (k_L_law 9 42 rfl) rfl
theorem dL_law_619 : decode cL_law 619 = .ok (.lconst 1, 1) := dz_10 (k_L_law 9 43 rfl)
theorem dL_law_620 : decode cL_law 620 = .ok (.goto 4, 3) := dz_167 (k_L_law 9 44 rfl) (k_L_law 9 45 rfl) (k_L_law 9 46 rfl) rfl
theorem dL_law_623 : decode cL_law 623 = .ok (.lconst 0, 1) := dz_9 (k_L_law 9 47 rfl)
theorem dL_law_624 : decode cL_law 624 = .ok (.lcmp, 1) := dz_148 (k_L_law 9 48 rfl)
theorem dL_law_625 : decode cL_law 625 = .ok (.ifCond .eq 5, 3) := dz_153 (k_L_law 9 49 rfl) (k_L_law 9 50 rfl) (k_L_law 9 51 rfl) rfl
theorem dL_law_628 : decode cL_law 628 = .ok (.iconst 0, 1) := dz_3 (k_L_law 9 52 rfl)
theorem dL_law_629 : decode cL_law 629 = .ok (.ireturn, 1) := dz_172 (k_L_law 9 53 rfl)
theorem dL_law_630 : decode cL_law 630 = .ok (.goto 2297, 3) := dz_167 (k_L_law 9 54 rfl) (k_L_law 9 55 rfl) (k_L_law 9 56 rfl) rfl
theorem dL_law_633 : decode cL_law 633 = .ok (.aload_n 1, 1) := dz_43 (k_L_law 9 57 rfl)
theorem dL_law_634 : decode cL_law 634 = .ok (.aload_n 0, 1) := dz_42 (k_L_law 9 58 rfl)
theorem dL_law_635 : decode cL_law 635 = .ok (.iload 4, 2) := dz_21 (k_L_law 9 59 rfl) (k_L_law 9 60 rfl)
theorem dL_law_637 : decode cL_law 637 = .ok (.iconst 1, 1) := dz_4 (k_L_law 9 61 rfl)
theorem dL_law_638 : decode cL_law 638 = .ok (.iadd, 1) := dz_96 (k_L_law 9 62 rfl)
theorem dL_law_639 : decode cL_law 639 = .ok (.iaload, 1) := dz_46 (k_L_law 9 63 rfl)
theorem dL_law_640 : decode cL_law 640 = .ok (.aload_n 3, 1) := dz_45 (k_L_law 10 0 rfl)
theorem dL_law_641 : decode cL_law 641 = .ok (.invokestatic 183, 3) := dz_184 (k_L_law 10 1 rfl) (k_L_law 10 2 rfl) (k_L_law 10 3 rfl) rfl
theorem dL_law_644 : decode cL_law 644 = .ok (.istore 5, 2) := dz_54 (k_L_law 10 4 rfl) (k_L_law 10 5 rfl)
theorem dL_law_646 : decode cL_law 646 = .ok (.aload_n 2, 1) := dz_44 (k_L_law 10 6 rfl)
theorem dL_law_647 : decode cL_law 647 = .ok (.aload_n 0, 1) := dz_42 (k_L_law 10 7 rfl)
theorem dL_law_648 : decode cL_law 648 = .ok (.iload 4, 2) := dz_21 (k_L_law 10 8 rfl) (k_L_law 10 9 rfl)
theorem dL_law_650 : decode cL_law 650 = .ok (.iconst 1, 1) := dz_4 (k_L_law 10 10 rfl)
theorem dL_law_651 : decode cL_law 651 = .ok (.iadd, 1) := dz_96 (k_L_law 10 11 rfl)
theorem dL_law_652 : decode cL_law 652 = .ok (.iaload, 1) := dz_46 (k_L_law 10 12 rfl)
theorem dL_law_653 : decode cL_law 653 = .ok (.invokevirtual 185, 3) := dz_182 (k_L_law 10 13 rfl) (k_L_law 10 14 rfl) (k_L_law 10 15 rfl) rfl
theorem dL_law_656 : decode cL_law 656 = .ok (.istore 6, 2) := dz_54 (k_L_law 10 16 rfl) (k_L_law 10 17 rfl)
theorem dL_law_658 : decode cL_law 658 = .ok (.aload_n 2, 1) := dz_44 (k_L_law 10 18 rfl)
theorem dL_law_659 : decode cL_law 659 = .ok (.invokevirtual 161, 3) := dz_182 (k_L_law 10 19 rfl) (k_L_law 10 20 rfl) (k_L_law 10 21 rfl) rfl
theorem dL_law_662 : decode cL_law 662 = .ok (.iload 5, 2) := dz_21 (k_L_law 10 22 rfl) (k_L_law 10 23 rfl)
theorem dL_law_664 : decode cL_law 664 = .ok (.if_icmp .eq 5, 3) := dz_159 (k_L_law 10 24 rfl) (k_L_law 10 25 rfl) (k_L_law 10 26 rfl) rfl
theorem dL_law_667 : decode cL_law 667 = .ok (.iconst 0, 1) := dz_3 (k_L_law 10 27 rfl)
theorem dL_law_668 : decode cL_law 668 = .ok (.ireturn, 1) := dz_172 (k_L_law 10 28 rfl)
theorem dL_law_669 : decode cL_law 669 = .ok (.iload 5, 2) := dz_21 (k_L_law 10 29 rfl) (k_L_law 10 30 rfl)
theorem dL_law_671 : decode cL_law 671 = .ok (.ifCond .ne 15, 3) := dz_154 (k_L_law 10 31 rfl) (k_L_law 10 32 rfl) (k_L_law 10 33 rfl) rfl
theorem dL_law_674 : decode cL_law 674 = .ok (.aload_n 3, 1) := dz_45 (k_L_law 10 34 rfl)
theorem dL_law_675 : decode cL_law 675 = .ok (.iconst 0, 1) := dz_3 (k_L_law 10 35 rfl)
theorem dL_law_676 : decode cL_law 676 = .ok (.laload, 1) := dz_47 (k_L_law 10 36 rfl)
theorem dL_law_677 : decode cL_law 677 = .ok (.iload 6, 2) := dz_21 (k_L_law 10 37 rfl) (k_L_law 10 38 rfl)
theorem dL_law_679 : decode cL_law 679 = .ok (.i2l, 1) := dz_133 (k_L_law 10 39 rfl)
theorem dL_law_680 : decode cL_law 680 = .ok (.lcmp, 1) := dz_148 (k_L_law 10 40 rfl)
theorem dL_law_681 : decode cL_law 681 = .ok (.ifCond .eq 5, 3) := dz_153 (k_L_law 10 41 rfl) (k_L_law 10 42 rfl) (k_L_law 10 43 rfl) rfl
theorem dL_law_684 : decode cL_law 684 = .ok (.iconst 0, 1) := dz_3 (k_L_law 10 44 rfl)
theorem dL_law_685 : decode cL_law 685 = .ok (.ireturn, 1) := dz_172 (k_L_law 10 45 rfl)
theorem dL_law_686 : decode cL_law 686 = .ok (.goto 2241, 3) := dz_167 (k_L_law 10 46 rfl) (k_L_law 10 47 rfl) (k_L_law 10 48 rfl) rfl
theorem dL_law_689 : decode cL_law 689 = .ok (.aload_n 1, 1) := dz_43 (k_L_law 10 49 rfl)
theorem dL_law_690 : decode cL_law 690 = .ok (.aload_n 0, 1) := dz_42 (k_L_law 10 50 rfl)
theorem dL_law_691 : decode cL_law 691 = .ok (.iload 4, 2) := dz_21 (k_L_law 10 51 rfl) (k_L_law 10 52 rfl)
theorem dL_law_693 : decode cL_law 693 = .ok (.iconst 1, 1) := dz_4 (k_L_law 10 53 rfl)
theorem dL_law_694 : decode cL_law 694 = .ok (.iadd, 1) := dz_96 (k_L_law 10 54 rfl)
theorem dL_law_695 : decode cL_law 695 = .ok (.iaload, 1) := dz_46 (k_L_law 10 55 rfl)
theorem dL_law_696 : decode cL_law 696 = .ok (.aload_n 0, 1) := dz_42 (k_L_law 10 56 rfl)
theorem dL_law_697 : decode cL_law 697 = .ok (.iload 4, 2) := dz_21 (k_L_law 10 57 rfl) (k_L_law 10 58 rfl)
theorem dL_law_699 : decode cL_law 699 = .ok (.iconst 2, 1) := dz_5 (k_L_law 10 59 rfl)
theorem dL_law_700 : decode cL_law 700 = .ok (.iadd, 1) := dz_96 (k_L_law 10 60 rfl)
theorem dL_law_701 : decode cL_law 701 = .ok (.iaload, 1) := dz_46 (k_L_law 10 61 rfl)
theorem dL_law_702 : decode cL_law 702 = .ok (.aload_n 3, 1) := dz_45 (k_L_law 10 62 rfl)
theorem dL_law_703 : decode cL_law 703 = .ok (.invokestatic 186, 3) := dz_184 (k_L_law 10 63 rfl) (k_L_law 11 0 rfl) (k_L_law 11 1 rfl) rfl
theorem dL_law_706 : decode cL_law 706 = .ok (.istore 5, 2) := dz_54 (k_L_law 11 2 rfl) (k_L_law 11 3 rfl)
theorem dL_law_708 : decode cL_law 708 = .ok (.aload_n 2, 1) := dz_44 (k_L_law 11 4 rfl)
theorem dL_law_709 : decode cL_law 709 = .ok (.aload_n 0, 1) := dz_42 (k_L_law 11 5 rfl)
theorem dL_law_710 : decode cL_law 710 = .ok (.iload 4, 2) := dz_21 (k_L_law 11 6 rfl) (k_L_law 11 7 rfl)
theorem dL_law_712 : decode cL_law 712 = .ok (.iconst 1, 1) := dz_4 (k_L_law 11 8 rfl)
theorem dL_law_713 : decode cL_law 713 = .ok (.iadd, 1) := dz_96 (k_L_law 11 9 rfl)
theorem dL_law_714 : decode cL_law 714 = .ok (.iaload, 1) := dz_46 (k_L_law 11 10 rfl)
theorem dL_law_715 : decode cL_law 715 = .ok (.aload_n 0, 1) := dz_42 (k_L_law 11 11 rfl)
theorem dL_law_716 : decode cL_law 716 = .ok (.iload 4, 2) := dz_21 (k_L_law 11 12 rfl) (k_L_law 11 13 rfl)
theorem dL_law_718 : decode cL_law 718 = .ok (.iconst 2, 1) := dz_5 (k_L_law 11 14 rfl)
theorem dL_law_719 : decode cL_law 719 = .ok (.iadd, 1) := dz_96 (k_L_law 11 15 rfl)
theorem dL_law_720 : decode cL_law 720 = .ok (.iaload, 1) := dz_46 (k_L_law 11 16 rfl)
theorem dL_law_721 : decode cL_law 721 = .ok (.invokevirtual 188, 3) := dz_182 (k_L_law 11 17 rfl) (k_L_law 11 18 rfl) (k_L_law 11 19 rfl) rfl
theorem dL_law_724 : decode cL_law 724 = .ok (.istore 6, 2) := dz_54 (k_L_law 11 20 rfl) (k_L_law 11 21 rfl)
theorem dL_law_726 : decode cL_law 726 = .ok (.aload_n 2, 1) := dz_44 (k_L_law 11 22 rfl)
theorem dL_law_727 : decode cL_law 727 = .ok (.invokevirtual 161, 3) := dz_182 (k_L_law 11 23 rfl) (k_L_law 11 24 rfl) (k_L_law 11 25 rfl) rfl
theorem dL_law_730 : decode cL_law 730 = .ok (.iload 5, 2) := dz_21 (k_L_law 11 26 rfl) (k_L_law 11 27 rfl)
theorem dL_law_732 : decode cL_law 732 = .ok (.if_icmp .eq 5, 3) := dz_159 (k_L_law 11 28 rfl) (k_L_law 11 29 rfl) (k_L_law 11 30 rfl) rfl
theorem dL_law_735 : decode cL_law 735 = .ok (.iconst 0, 1) := dz_3 (k_L_law 11 31 rfl)
theorem dL_law_736 : decode cL_law 736 = .ok (.ireturn, 1) := dz_172 (k_L_law 11 32 rfl)
theorem dL_law_737 : decode cL_law 737 = .ok (.iload 5, 2) := dz_21 (k_L_law 11 33 rfl) (k_L_law 11 34 rfl)
theorem dL_law_739 : decode cL_law 739 = .ok (.ifCond .ne 15, 3) := dz_154 (k_L_law 11 35 rfl) (k_L_law 11 36 rfl) (k_L_law 11 37 rfl) rfl
theorem dL_law_742 : decode cL_law 742 = .ok (.aload_n 3, 1) := dz_45 (k_L_law 11 38 rfl)
theorem dL_law_743 : decode cL_law 743 = .ok (.iconst 0, 1) := dz_3 (k_L_law 11 39 rfl)
theorem dL_law_744 : decode cL_law 744 = .ok (.laload, 1) := dz_47 (k_L_law 11 40 rfl)
theorem dL_law_745 : decode cL_law 745 = .ok (.iload 6, 2) := dz_21 (k_L_law 11 41 rfl) (k_L_law 11 42 rfl)
theorem dL_law_747 : decode cL_law 747 = .ok (.i2l, 1) := dz_133 (k_L_law 11 43 rfl)
theorem dL_law_748 : decode cL_law 748 = .ok (.lcmp, 1) := dz_148 (k_L_law 11 44 rfl)
theorem dL_law_749 : decode cL_law 749 = .ok (.ifCond .eq 5, 3) := dz_153 (k_L_law 11 45 rfl) (k_L_law 11 46 rfl) (k_L_law 11 47 rfl) rfl
theorem dL_law_752 : decode cL_law 752 = .ok (.iconst 0, 1) := dz_3 (k_L_law 11 48 rfl)
theorem dL_law_753 : decode cL_law 753 = .ok (.ireturn, 1) := dz_172 (k_L_law 11 49 rfl)
theorem dL_law_754 : decode cL_law 754 = .ok (.goto 2173, 3) := dz_167 (k_L_law 11 50 rfl) (k_L_law 11 51 rfl) (k_L_law 11 52 rfl) rfl
theorem dL_law_757 : decode cL_law 757 = .ok (.aload_n 1, 1) := dz_43 (k_L_law 11 53 rfl)
theorem dL_law_758 : decode cL_law 758 = .ok (.aload_n 0, 1) := dz_42 (k_L_law 11 54 rfl)
theorem dL_law_759 : decode cL_law 759 = .ok (.iload 4, 2) := dz_21 (k_L_law 11 55 rfl) (k_L_law 11 56 rfl)
theorem dL_law_761 : decode cL_law 761 = .ok (.iconst 1, 1) := dz_4 (k_L_law 11 57 rfl)
theorem dL_law_762 : decode cL_law 762 = .ok (.iadd, 1) := dz_96 (k_L_law 11 58 rfl)
theorem dL_law_763 : decode cL_law 763 = .ok (.iaload, 1) := dz_46 (k_L_law 11 59 rfl)
theorem dL_law_764 : decode cL_law 764 = .ok (.aload_n 0, 1) := dz_42 (k_L_law 11 60 rfl)
theorem dL_law_765 : decode cL_law 765 = .ok (.iload 4, 2) := dz_21 (k_L_law 11 61 rfl) (k_L_law 11 62 rfl)
theorem dL_law_767 : decode cL_law 767 = .ok (.iconst 2, 1) := dz_5 (k_L_law 11 63 rfl)
theorem dL_law_768 : decode cL_law 768 = .ok (.iadd, 1) := dz_96 (k_L_law 12 0 rfl)
theorem dL_law_769 : decode cL_law 769 = .ok (.iaload, 1) := dz_46 (k_L_law 12 1 rfl)
theorem dL_law_770 : decode cL_law 770 = .ok (.aload_n 0, 1) := dz_42 (k_L_law 12 2 rfl)
theorem dL_law_771 : decode cL_law 771 = .ok (.iload 4, 2) := dz_21 (k_L_law 12 3 rfl) (k_L_law 12 4 rfl)
theorem dL_law_773 : decode cL_law 773 = .ok (.iconst 3, 1) := dz_6 (k_L_law 12 5 rfl)
theorem dL_law_774 : decode cL_law 774 = .ok (.iadd, 1) := dz_96 (k_L_law 12 6 rfl)
theorem dL_law_775 : decode cL_law 775 = .ok (.iaload, 1) := dz_46 (k_L_law 12 7 rfl)
theorem dL_law_776 : decode cL_law 776 = .ok (.aload_n 3, 1) := dz_45 (k_L_law 12 8 rfl)
theorem dL_law_777 : decode cL_law 777 = .ok (.invokestatic 189, 3) := dz_184 (k_L_law 12 9 rfl) (k_L_law 12 10 rfl) (k_L_law 12 11 rfl) rfl
theorem dL_law_780 : decode cL_law 780 = .ok (.istore 5, 2) := dz_54 (k_L_law 12 12 rfl) (k_L_law 12 13 rfl)
theorem dL_law_782 : decode cL_law 782 = .ok (.aload_n 2, 1) := dz_44 (k_L_law 12 14 rfl)
theorem dL_law_783 : decode cL_law 783 = .ok (.aload_n 0, 1) := dz_42 (k_L_law 12 15 rfl)
theorem dL_law_784 : decode cL_law 784 = .ok (.iload 4, 2) := dz_21 (k_L_law 12 16 rfl) (k_L_law 12 17 rfl)
theorem dL_law_786 : decode cL_law 786 = .ok (.iconst 1, 1) := dz_4 (k_L_law 12 18 rfl)
theorem dL_law_787 : decode cL_law 787 = .ok (.iadd, 1) := dz_96 (k_L_law 12 19 rfl)
theorem dL_law_788 : decode cL_law 788 = .ok (.iaload, 1) := dz_46 (k_L_law 12 20 rfl)
theorem dL_law_789 : decode cL_law 789 = .ok (.aload_n 0, 1) := dz_42 (k_L_law 12 21 rfl)
theorem dL_law_790 : decode cL_law 790 = .ok (.iload 4, 2) := dz_21 (k_L_law 12 22 rfl) (k_L_law 12 23 rfl)
theorem dL_law_792 : decode cL_law 792 = .ok (.iconst 2, 1) := dz_5 (k_L_law 12 24 rfl)
theorem dL_law_793 : decode cL_law 793 = .ok (.iadd, 1) := dz_96 (k_L_law 12 25 rfl)
theorem dL_law_794 : decode cL_law 794 = .ok (.iaload, 1) := dz_46 (k_L_law 12 26 rfl)
theorem dL_law_795 : decode cL_law 795 = .ok (.aload_n 0, 1) := dz_42 (k_L_law 12 27 rfl)
theorem dL_law_796 : decode cL_law 796 = .ok (.iload 4, 2) := dz_21 (k_L_law 12 28 rfl) (k_L_law 12 29 rfl)
theorem dL_law_798 : decode cL_law 798 = .ok (.iconst 3, 1) := dz_6 (k_L_law 12 30 rfl)
theorem dL_law_799 : decode cL_law 799 = .ok (.iadd, 1) := dz_96 (k_L_law 12 31 rfl)
theorem dL_law_800 : decode cL_law 800 = .ok (.iaload, 1) := dz_46 (k_L_law 12 32 rfl)
theorem dL_law_801 : decode cL_law 801 = .ok (.invokevirtual 192, 3) := dz_182 (k_L_law 12 33 rfl) (k_L_law 12 34 rfl) (k_L_law 12 35 rfl) rfl
theorem dL_law_804 : decode cL_law 804 = .ok (.istore 6, 2) := dz_54 (k_L_law 12 36 rfl) (k_L_law 12 37 rfl)
theorem dL_law_806 : decode cL_law 806 = .ok (.aload_n 2, 1) := dz_44 (k_L_law 12 38 rfl)
theorem dL_law_807 : decode cL_law 807 = .ok (.invokevirtual 161, 3) := dz_182 (k_L_law 12 39 rfl) (k_L_law 12 40 rfl) (k_L_law 12 41 rfl) rfl
theorem dL_law_810 : decode cL_law 810 = .ok (.iload 5, 2) := dz_21 (k_L_law 12 42 rfl) (k_L_law 12 43 rfl)
theorem dL_law_812 : decode cL_law 812 = .ok (.if_icmp .eq 5, 3) := dz_159 (k_L_law 12 44 rfl) (k_L_law 12 45 rfl) (k_L_law 12 46 rfl) rfl
theorem dL_law_815 : decode cL_law 815 = .ok (.iconst 0, 1) := dz_3 (k_L_law 12 47 rfl)
theorem dL_law_816 : decode cL_law 816 = .ok (.ireturn, 1) := dz_172 (k_L_law 12 48 rfl)
theorem dL_law_817 : decode cL_law 817 = .ok (.iload 5, 2) := dz_21 (k_L_law 12 49 rfl) (k_L_law 12 50 rfl)
theorem dL_law_819 : decode cL_law 819 = .ok (.ifCond .ne 15, 3) := dz_154 (k_L_law 12 51 rfl) (k_L_law 12 52 rfl) (k_L_law 12 53 rfl) rfl
theorem dL_law_822 : decode cL_law 822 = .ok (.aload_n 3, 1) := dz_45 (k_L_law 12 54 rfl)
theorem dL_law_823 : decode cL_law 823 = .ok (.iconst 0, 1) := dz_3 (k_L_law 12 55 rfl)
theorem dL_law_824 : decode cL_law 824 = .ok (.laload, 1) := dz_47 (k_L_law 12 56 rfl)
theorem dL_law_825 : decode cL_law 825 = .ok (.iload 6, 2) := dz_21 (k_L_law 12 57 rfl) (k_L_law 12 58 rfl)
theorem dL_law_827 : decode cL_law 827 = .ok (.i2l, 1) := dz_133 (k_L_law 12 59 rfl)
theorem dL_law_828 : decode cL_law 828 = .ok (.lcmp, 1) := dz_148 (k_L_law 12 60 rfl)
theorem dL_law_829 : decode cL_law 829 = .ok (.ifCond .eq 5, 3) := dz_153 (k_L_law 12 61 rfl) (k_L_law 12 62 rfl) (k_L_law 12 63 rfl) rfl
theorem dL_law_832 : decode cL_law 832 = .ok (.iconst 0, 1) := dz_3 (k_L_law 13 0 rfl)
theorem dL_law_833 : decode cL_law 833 = .ok (.ireturn, 1) := dz_172 (k_L_law 13 1 rfl)
theorem dL_law_834 : decode cL_law 834 = .ok (.goto 2093, 3) := dz_167 (k_L_law 13 2 rfl) (k_L_law 13 3 rfl) (k_L_law 13 4 rfl) rfl
theorem dL_law_837 : decode cL_law 837 = .ok (.aload_n 1, 1) := dz_43 (k_L_law 13 5 rfl)
theorem dL_law_838 : decode cL_law 838 = .ok (.aload_n 0, 1) := dz_42 (k_L_law 13 6 rfl)
theorem dL_law_839 : decode cL_law 839 = .ok (.iload 4, 2) := dz_21 (k_L_law 13 7 rfl) (k_L_law 13 8 rfl)
theorem dL_law_841 : decode cL_law 841 = .ok (.iconst 1, 1) := dz_4 (k_L_law 13 9 rfl)
theorem dL_law_842 : decode cL_law 842 = .ok (.iadd, 1) := dz_96 (k_L_law 13 10 rfl)
theorem dL_law_843 : decode cL_law 843 = .ok (.iaload, 1) := dz_46 (k_L_law 13 11 rfl)
theorem dL_law_844 : decode cL_law 844 = .ok (.aload_n 0, 1) := dz_42 (k_L_law 13 12 rfl)
theorem dL_law_845 : decode cL_law 845 = .ok (.iload 4, 2) := dz_21 (k_L_law 13 13 rfl) (k_L_law 13 14 rfl)
theorem dL_law_847 : decode cL_law 847 = .ok (.iconst 2, 1) := dz_5 (k_L_law 13 15 rfl)
theorem dL_law_848 : decode cL_law 848 = .ok (.iadd, 1) := dz_96 (k_L_law 13 16 rfl)
theorem dL_law_849 : decode cL_law 849 = .ok (.iaload, 1) := dz_46 (k_L_law 13 17 rfl)
theorem dL_law_850 : decode cL_law 850 = .ok (.aload_n 0, 1) := dz_42 (k_L_law 13 18 rfl)
theorem dL_law_851 : decode cL_law 851 = .ok (.iload 4, 2) := dz_21 (k_L_law 13 19 rfl) (k_L_law 13 20 rfl)
theorem dL_law_853 : decode cL_law 853 = .ok (.iconst 3, 1) := dz_6 (k_L_law 13 21 rfl)
theorem dL_law_854 : decode cL_law 854 = .ok (.iadd, 1) := dz_96 (k_L_law 13 22 rfl)
theorem dL_law_855 : decode cL_law 855 = .ok (.iaload, 1) := dz_46 (k_L_law 13 23 rfl)
theorem dL_law_856 : decode cL_law 856 = .ok (.ifCond .eq 7, 3) := dz_153 (k_L_law 13 24 rfl) (k_L_law 13 25 rfl) (k_L_law 13 26 rfl) rfl
theorem dL_law_859 : decode cL_law 859 = .ok (.iconst 1, 1) := dz_4 (k_L_law 13 27 rfl)
theorem dL_law_860 : decode cL_law 860 = .ok (.goto 4, 3) := dz_167 (k_L_law 13 28 rfl) (k_L_law 13 29 rfl) (k_L_law 13 30 rfl) rfl
theorem dL_law_863 : decode cL_law 863 = .ok (.iconst 0, 1) := dz_3 (k_L_law 13 31 rfl)
theorem dL_law_864 : decode cL_law 864 = .ok (.aload_n 3, 1) := dz_45 (k_L_law 13 32 rfl)
theorem dL_law_865 : decode cL_law 865 = .ok (.invokestatic 193, 3) := dz_184 (k_L_law 13 33 rfl) (k_L_law 13 34 rfl) (k_L_law 13 35 rfl) rfl
theorem dL_law_868 : decode cL_law 868 = .ok (.istore 5, 2) := dz_54 (k_L_law 13 36 rfl) (k_L_law 13 37 rfl)
theorem dL_law_870 : decode cL_law 870 = .ok (.aload_n 2, 1) := dz_44 (k_L_law 13 38 rfl)
theorem dL_law_871 : decode cL_law 871 = .ok (.aload_n 0, 1) := dz_42 (k_L_law 13 39 rfl)
theorem dL_law_872 : decode cL_law 872 = .ok (.iload 4, 2) := dz_21 (k_L_law 13 40 rfl) (k_L_law 13 41 rfl)
theorem dL_law_874 : decode cL_law 874 = .ok (.iconst 1, 1) := dz_4 (k_L_law 13 42 rfl)
theorem dL_law_875 : decode cL_law 875 = .ok (.iadd, 1) := dz_96 (k_L_law 13 43 rfl)
theorem dL_law_876 : decode cL_law 876 = .ok (.iaload, 1) := dz_46 (k_L_law 13 44 rfl)
theorem dL_law_877 : decode cL_law 877 = .ok (.aload_n 0, 1) := dz_42 (k_L_law 13 45 rfl)
theorem dL_law_878 : decode cL_law 878 = .ok (.iload 4, 2) := dz_21 (k_L_law 13 46 rfl) (k_L_law 13 47 rfl)
theorem dL_law_880 : decode cL_law 880 = .ok (.iconst 2, 1) := dz_5 (k_L_law 13 48 rfl)
theorem dL_law_881 : decode cL_law 881 = .ok (.iadd, 1) := dz_96 (k_L_law 13 49 rfl)
theorem dL_law_882 : decode cL_law 882 = .ok (.iaload, 1) := dz_46 (k_L_law 13 50 rfl)
theorem dL_law_883 : decode cL_law 883 = .ok (.aload_n 0, 1) := dz_42 (k_L_law 13 51 rfl)
theorem dL_law_884 : decode cL_law 884 = .ok (.iload 4, 2) := dz_21 (k_L_law 13 52 rfl) (k_L_law 13 53 rfl)
theorem dL_law_886 : decode cL_law 886 = .ok (.iconst 3, 1) := dz_6 (k_L_law 13 54 rfl)
theorem dL_law_887 : decode cL_law 887 = .ok (.iadd, 1) := dz_96 (k_L_law 13 55 rfl)
theorem dL_law_888 : decode cL_law 888 = .ok (.iaload, 1) := dz_46 (k_L_law 13 56 rfl)
theorem dL_law_889 : decode cL_law 889 = .ok (.ifCond .eq 7, 3) := dz_153 (k_L_law 13 57 rfl) (k_L_law 13 58 rfl) (k_L_law 13 59 rfl) rfl
theorem dL_law_892 : decode cL_law 892 = .ok (.iconst 1, 1) := dz_4 (k_L_law 13 60 rfl)
theorem dL_law_893 : decode cL_law 893 = .ok (.goto 4, 3) := dz_167 (k_L_law 13 61 rfl) (k_L_law 13 62 rfl) (k_L_law 13 63 rfl) rfl
theorem dL_law_896 : decode cL_law 896 = .ok (.iconst 0, 1) := dz_3 (k_L_law 14 0 rfl)
theorem dL_law_897 : decode cL_law 897 = .ok (.invokevirtual 196, 3) := dz_182 (k_L_law 14 1 rfl) (k_L_law 14 2 rfl) (k_L_law 14 3 rfl) rfl
theorem dL_law_900 : decode cL_law 900 = .ok (.istore 6, 2) := dz_54 (k_L_law 14 4 rfl) (k_L_law 14 5 rfl)
theorem dL_law_902 : decode cL_law 902 = .ok (.aload_n 2, 1) := dz_44 (k_L_law 14 6 rfl)
theorem dL_law_903 : decode cL_law 903 = .ok (.invokevirtual 161, 3) := dz_182 (k_L_law 14 7 rfl) (k_L_law 14 8 rfl) (k_L_law 14 9 rfl) rfl
theorem dL_law_906 : decode cL_law 906 = .ok (.iload 5, 2) := dz_21 (k_L_law 14 10 rfl) (k_L_law 14 11 rfl)
theorem dL_law_908 : decode cL_law 908 = .ok (.if_icmp .eq 5, 3) := dz_159 (k_L_law 14 12 rfl) (k_L_law 14 13 rfl) (k_L_law 14 14 rfl) rfl
theorem dL_law_911 : decode cL_law 911 = .ok (.iconst 0, 1) := dz_3 (k_L_law 14 15 rfl)
theorem dL_law_912 : decode cL_law 912 = .ok (.ireturn, 1) := dz_172 (k_L_law 14 16 rfl)
theorem dL_law_913 : decode cL_law 913 = .ok (.iload 5, 2) := dz_21 (k_L_law 14 17 rfl) (k_L_law 14 18 rfl)
theorem dL_law_915 : decode cL_law 915 = .ok (.ifCond .ne 22, 3) := dz_154 (k_L_law 14 19 rfl) (k_L_law 14 20 rfl) (k_L_law 14 21 rfl) rfl
theorem dL_law_918 : decode cL_law 918 = .ok (.aload_n 3, 1) := dz_45 (k_L_law 14 22 rfl)
theorem dL_law_919 : decode cL_law 919 = .ok (.iconst 0, 1) := dz_3 (k_L_law 14 23 rfl)
theorem dL_law_920 : decode cL_law 920 = .ok (.laload, 1) := dz_47 (k_L_law 14 24 rfl)
theorem dL_law_921 : decode cL_law 921 = .ok (.iload 6, 2) := dz_21 (k_L_law 14 25 rfl) (k_L_law 14 26 rfl)
theorem dL_law_923 : decode cL_law 923 = .ok (.ifCond .eq 7, 3) := dz_153 (k_L_law 14 27 rfl) (k_L_law 14 28 rfl) (k_L_law 14 29 rfl) rfl
theorem dL_law_926 : decode cL_law 926 = .ok (.lconst 1, 1) := dz_10 (k_L_law 14 30 rfl)
theorem dL_law_927 : decode cL_law 927 = .ok (.goto 4, 3) := dz_167 (k_L_law 14 31 rfl) (k_L_law 14 32 rfl) (k_L_law 14 33 rfl) rfl
theorem dL_law_930 : decode cL_law 930 = .ok (.lconst 0, 1) := dz_9 (k_L_law 14 34 rfl)
theorem dL_law_931 : decode cL_law 931 = .ok (.lcmp, 1) := dz_148 (k_L_law 14 35 rfl)
theorem dL_law_932 : decode cL_law 932 = .ok (.ifCond .eq 5, 3) := dz_153 (k_L_law 14 36 rfl) (k_L_law 14 37 rfl) (k_L_law 14 38 rfl) rfl
theorem dL_law_935 : decode cL_law 935 = .ok (.iconst 0, 1) := dz_3 (k_L_law 14 39 rfl)
theorem dL_law_936 : decode cL_law 936 = .ok (.ireturn, 1) := dz_172 (k_L_law 14 40 rfl)
theorem dL_law_937 : decode cL_law 937 = .ok (.goto 1990, 3) := dz_167 (k_L_law 14 41 rfl) (k_L_law 14 42 rfl) (k_L_law 14 43 rfl) rfl
theorem dL_law_940 : decode cL_law 940 = .ok (.aload_n 1, 1) := dz_43 (k_L_law 14 44 rfl)
theorem dL_law_941 : decode cL_law 941 = .ok (.aload_n 0, 1) := dz_42 (k_L_law 14 45 rfl)
theorem dL_law_942 : decode cL_law 942 = .ok (.iload 4, 2) := dz_21 (k_L_law 14 46 rfl) (k_L_law 14 47 rfl)
theorem dL_law_944 : decode cL_law 944 = .ok (.iconst 1, 1) := dz_4 (k_L_law 14 48 rfl)
theorem dL_law_945 : decode cL_law 945 = .ok (.iadd, 1) := dz_96 (k_L_law 14 49 rfl)
theorem dL_law_946 : decode cL_law 946 = .ok (.iaload, 1) := dz_46 (k_L_law 14 50 rfl)
theorem dL_law_947 : decode cL_law 947 = .ok (.aload_n 3, 1) := dz_45 (k_L_law 14 51 rfl)
theorem dL_law_948 : decode cL_law 948 = .ok (.invokestatic 197, 3) := dz_184 (k_L_law 14 52 rfl) (k_L_law 14 53 rfl) (k_L_law 14 54 rfl) rfl
theorem dL_law_951 : decode cL_law 951 = .ok (.istore 5, 2) := dz_54 (k_L_law 14 55 rfl) (k_L_law 14 56 rfl)
theorem dL_law_953 : decode cL_law 953 = .ok (.aload_n 2, 1) := dz_44 (k_L_law 14 57 rfl)
theorem dL_law_954 : decode cL_law 954 = .ok (.aload_n 0, 1) := dz_42 (k_L_law 14 58 rfl)
theorem dL_law_955 : decode cL_law 955 = .ok (.iload 4, 2) := dz_21 (k_L_law 14 59 rfl) (k_L_law 14 60 rfl)
theorem dL_law_957 : decode cL_law 957 = .ok (.iconst 1, 1) := dz_4 (k_L_law 14 61 rfl)
theorem dL_law_958 : decode cL_law 958 = .ok (.iadd, 1) := dz_96 (k_L_law 14 62 rfl)
theorem dL_law_959 : decode cL_law 959 = .ok (.iaload, 1) := dz_46 (k_L_law 14 63 rfl)
theorem dL_law_960 : decode cL_law 960 = .ok (.invokevirtual 199, 3) := dz_182 (k_L_law 15 0 rfl) (k_L_law 15 1 rfl) (k_L_law 15 2 rfl) rfl
theorem dL_law_963 : decode cL_law 963 = .ok (.istore 6, 2) := dz_54 (k_L_law 15 3 rfl) (k_L_law 15 4 rfl)
theorem dL_law_965 : decode cL_law 965 = .ok (.aload_n 2, 1) := dz_44 (k_L_law 15 5 rfl)
theorem dL_law_966 : decode cL_law 966 = .ok (.invokevirtual 161, 3) := dz_182 (k_L_law 15 6 rfl) (k_L_law 15 7 rfl) (k_L_law 15 8 rfl) rfl
theorem dL_law_969 : decode cL_law 969 = .ok (.iload 5, 2) := dz_21 (k_L_law 15 9 rfl) (k_L_law 15 10 rfl)
theorem dL_law_971 : decode cL_law 971 = .ok (.if_icmp .eq 5, 3) := dz_159 (k_L_law 15 11 rfl) (k_L_law 15 12 rfl) (k_L_law 15 13 rfl) rfl
theorem dL_law_974 : decode cL_law 974 = .ok (.iconst 0, 1) := dz_3 (k_L_law 15 14 rfl)
theorem dL_law_975 : decode cL_law 975 = .ok (.ireturn, 1) := dz_172 (k_L_law 15 15 rfl)
theorem dL_law_976 : decode cL_law 976 = .ok (.iload 5, 2) := dz_21 (k_L_law 15 16 rfl) (k_L_law 15 17 rfl)
theorem dL_law_978 : decode cL_law 978 = .ok (.ifCond .ne 15, 3) := dz_154 (k_L_law 15 18 rfl) (k_L_law 15 19 rfl) (k_L_law 15 20 rfl) rfl
theorem dL_law_981 : decode cL_law 981 = .ok (.aload_n 3, 1) := dz_45 (k_L_law 15 21 rfl)
theorem dL_law_982 : decode cL_law 982 = .ok (.iconst 0, 1) := dz_3 (k_L_law 15 22 rfl)
theorem dL_law_983 : decode cL_law 983 = .ok (.laload, 1) := dz_47 (k_L_law 15 23 rfl)
theorem dL_law_984 : decode cL_law 984 = .ok (.iload 6, 2) := dz_21 (k_L_law 15 24 rfl) (k_L_law 15 25 rfl)
theorem dL_law_986 : decode cL_law 986 = .ok (.i2l, 1) := dz_133 (k_L_law 15 26 rfl)
theorem dL_law_987 : decode cL_law 987 = .ok (.lcmp, 1) := dz_148 (k_L_law 15 27 rfl)
theorem dL_law_988 : decode cL_law 988 = .ok (.ifCond .eq 5, 3) := dz_153 (k_L_law 15 28 rfl) (k_L_law 15 29 rfl) (k_L_law 15 30 rfl) rfl
theorem dL_law_991 : decode cL_law 991 = .ok (.iconst 0, 1) := dz_3 (k_L_law 15 31 rfl)
theorem dL_law_992 : decode cL_law 992 = .ok (.ireturn, 1) := dz_172 (k_L_law 15 32 rfl)
theorem dL_law_993 : decode cL_law 993 = .ok (.goto 1934, 3) := dz_167 (k_L_law 15 33 rfl) (k_L_law 15 34 rfl) (k_L_law 15 35 rfl) rfl
theorem dL_law_996 : decode cL_law 996 = .ok (.aload_n 1, 1) := dz_43 (k_L_law 15 36 rfl)
theorem dL_law_997 : decode cL_law 997 = .ok (.aload_n 0, 1) := dz_42 (k_L_law 15 37 rfl)
theorem dL_law_998 : decode cL_law 998 = .ok (.iload 4, 2) := dz_21 (k_L_law 15 38 rfl) (k_L_law 15 39 rfl)
theorem dL_law_1000 : decode cL_law 1000 = .ok (.iconst 1, 1) := dz_4 (k_L_law 15 40 rfl)
theorem dL_law_1001 : decode cL_law 1001 = .ok (.iadd, 1) := dz_96 (k_L_law 15 41 rfl)
theorem dL_law_1002 : decode cL_law 1002 = .ok (.iaload, 1) := dz_46 (k_L_law 15 42 rfl)
theorem dL_law_1003 : decode cL_law 1003 = .ok (.aload_n 0, 1) := dz_42 (k_L_law 15 43 rfl)
theorem dL_law_1004 : decode cL_law 1004 = .ok (.iload 4, 2) := dz_21 (k_L_law 15 44 rfl) (k_L_law 15 45 rfl)
theorem dL_law_1006 : decode cL_law 1006 = .ok (.iconst 2, 1) := dz_5 (k_L_law 15 46 rfl)
theorem dL_law_1007 : decode cL_law 1007 = .ok (.iadd, 1) := dz_96 (k_L_law 15 47 rfl)
theorem dL_law_1008 : decode cL_law 1008 = .ok (.iaload, 1) := dz_46 (k_L_law 15 48 rfl)
theorem dL_law_1009 : decode cL_law 1009 = .ok (.aload_n 0, 1) := dz_42 (k_L_law 15 49 rfl)
theorem dL_law_1010 : decode cL_law 1010 = .ok (.iload 4, 2) := dz_21 (k_L_law 15 50 rfl) (k_L_law 15 51 rfl)
theorem dL_law_1012 : decode cL_law 1012 = .ok (.iconst 3, 1) := dz_6 (k_L_law 15 52 rfl)
theorem dL_law_1013 : decode cL_law 1013 = .ok (.iadd, 1) := dz_96 (k_L_law 15 53 rfl)
theorem dL_law_1014 : decode cL_law 1014 = .ok (.iaload, 1) := dz_46 (k_L_law 15 54 rfl)
theorem dL_law_1015 : decode cL_law 1015 = .ok (.aload_n 0, 1) := dz_42 (k_L_law 15 55 rfl)
theorem dL_law_1016 : decode cL_law 1016 = .ok (.iload 4, 2) := dz_21 (k_L_law 15 56 rfl) (k_L_law 15 57 rfl)
theorem dL_law_1018 : decode cL_law 1018 = .ok (.iconst 4, 1) := dz_7 (k_L_law 15 58 rfl)
theorem dL_law_1019 : decode cL_law 1019 = .ok (.iadd, 1) := dz_96 (k_L_law 15 59 rfl)
theorem dL_law_1020 : decode cL_law 1020 = .ok (.iaload, 1) := dz_46 (k_L_law 15 60 rfl)
theorem dL_law_1021 : decode cL_law 1021 = .ok (.aload_n 0, 1) := dz_42 (k_L_law 15 61 rfl)
theorem dL_law_1022 : decode cL_law 1022 = .ok (.iload 4, 2) := dz_21 (k_L_law 15 62 rfl) (k_L_law 15 63 rfl)
theorem dL_law_1024 : decode cL_law 1024 = .ok (.iconst 5, 1) := dz_8 (k_L_law 16 0 rfl)
theorem dL_law_1025 : decode cL_law 1025 = .ok (.iadd, 1) := dz_96 (k_L_law 16 1 rfl)
theorem dL_law_1026 : decode cL_law 1026 = .ok (.iaload, 1) := dz_46 (k_L_law 16 2 rfl)
theorem dL_law_1027 : decode cL_law 1027 = .ok (.aload_n 0, 1) := dz_42 (k_L_law 16 3 rfl)
theorem dL_law_1028 : decode cL_law 1028 = .ok (.iload 4, 2) := dz_21 (k_L_law 16 4 rfl) (k_L_law 16 5 rfl)
theorem dL_law_1030 : decode cL_law 1030 = .ok (.bipush 6, 2) := dz_16 (k_L_law 16 6 rfl) (k_L_law 16 7 rfl) rfl
theorem dL_law_1032 : decode cL_law 1032 = .ok (.iadd, 1) := dz_96 (k_L_law 16 8 rfl)
theorem dL_law_1033 : decode cL_law 1033 = .ok (.iaload, 1) := dz_46 (k_L_law 16 9 rfl)
theorem dL_law_1034 : decode cL_law 1034 = .ok (.aload_n 3, 1) := dz_45 (k_L_law 16 10 rfl)
theorem dL_law_1035 : decode cL_law 1035 = .ok (.invokestatic 200, 3) := dz_184 (k_L_law 16 11 rfl) (k_L_law 16 12 rfl) (k_L_law 16 13 rfl) rfl
theorem dL_law_1038 : decode cL_law 1038 = .ok (.istore 5, 2) := dz_54 (k_L_law 16 14 rfl) (k_L_law 16 15 rfl)
theorem dL_law_1040 : decode cL_law 1040 = .ok (.aload_n 2, 1) := dz_44 (k_L_law 16 16 rfl)
theorem dL_law_1041 : decode cL_law 1041 = .ok (.aload_n 0, 1) := dz_42 (k_L_law 16 17 rfl)
theorem dL_law_1042 : decode cL_law 1042 = .ok (.iload 4, 2) := dz_21 (k_L_law 16 18 rfl) (k_L_law 16 19 rfl)
theorem dL_law_1044 : decode cL_law 1044 = .ok (.iconst 1, 1) := dz_4 (k_L_law 16 20 rfl)
theorem dL_law_1045 : decode cL_law 1045 = .ok (.iadd, 1) := dz_96 (k_L_law 16 21 rfl)
theorem dL_law_1046 : decode cL_law 1046 = .ok (.iaload, 1) := dz_46 (k_L_law 16 22 rfl)
theorem dL_law_1047 : decode cL_law 1047 = .ok (.aload_n 0, 1) := dz_42 (k_L_law 16 23 rfl)
theorem dL_law_1048 : decode cL_law 1048 = .ok (.iload 4, 2) := dz_21 (k_L_law 16 24 rfl) (k_L_law 16 25 rfl)
theorem dL_law_1050 : decode cL_law 1050 = .ok (.iconst 2, 1) := dz_5 (k_L_law 16 26 rfl)
theorem dL_law_1051 : decode cL_law 1051 = .ok (.iadd, 1) := dz_96 (k_L_law 16 27 rfl)
theorem dL_law_1052 : decode cL_law 1052 = .ok (.iaload, 1) := dz_46 (k_L_law 16 28 rfl)
theorem dL_law_1053 : decode cL_law 1053 = .ok (.aload_n 0, 1) := dz_42 (k_L_law 16 29 rfl)
theorem dL_law_1054 : decode cL_law 1054 = .ok (.iload 4, 2) := dz_21 (k_L_law 16 30 rfl) (k_L_law 16 31 rfl)
theorem dL_law_1056 : decode cL_law 1056 = .ok (.iconst 3, 1) := dz_6 (k_L_law 16 32 rfl)
theorem dL_law_1057 : decode cL_law 1057 = .ok (.iadd, 1) := dz_96 (k_L_law 16 33 rfl)
theorem dL_law_1058 : decode cL_law 1058 = .ok (.iaload, 1) := dz_46 (k_L_law 16 34 rfl)
theorem dL_law_1059 : decode cL_law 1059 = .ok (.aload_n 0, 1) := dz_42 (k_L_law 16 35 rfl)
theorem dL_law_1060 : decode cL_law 1060 = .ok (.iload 4, 2) := dz_21 (k_L_law 16 36 rfl) (k_L_law 16 37 rfl)
theorem dL_law_1062 : decode cL_law 1062 = .ok (.iconst 4, 1) := dz_7 (k_L_law 16 38 rfl)
theorem dL_law_1063 : decode cL_law 1063 = .ok (.iadd, 1) := dz_96 (k_L_law 16 39 rfl)
theorem dL_law_1064 : decode cL_law 1064 = .ok (.iaload, 1) := dz_46 (k_L_law 16 40 rfl)
theorem dL_law_1065 : decode cL_law 1065 = .ok (.aload_n 0, 1) := dz_42 (k_L_law 16 41 rfl)
theorem dL_law_1066 : decode cL_law 1066 = .ok (.iload 4, 2) := dz_21 (k_L_law 16 42 rfl) (k_L_law 16 43 rfl)
theorem dL_law_1068 : decode cL_law 1068 = .ok (.iconst 5, 1) := dz_8 (k_L_law 16 44 rfl)
theorem dL_law_1069 : decode cL_law 1069 = .ok (.iadd, 1) := dz_96 (k_L_law 16 45 rfl)
theorem dL_law_1070 : decode cL_law 1070 = .ok (.iaload, 1) := dz_46 (k_L_law 16 46 rfl)
theorem dL_law_1071 : decode cL_law 1071 = .ok (.aload_n 0, 1) := dz_42 (k_L_law 16 47 rfl)
theorem dL_law_1072 : decode cL_law 1072 = .ok (.iload 4, 2) := dz_21 (k_L_law 16 48 rfl) (k_L_law 16 49 rfl)
theorem dL_law_1074 : decode cL_law 1074 = .ok (.bipush 6, 2) := dz_16 (k_L_law 16 50 rfl) (k_L_law 16 51 rfl) rfl
theorem dL_law_1076 : decode cL_law 1076 = .ok (.iadd, 1) := dz_96 (k_L_law 16 52 rfl)
theorem dL_law_1077 : decode cL_law 1077 = .ok (.iaload, 1) := dz_46 (k_L_law 16 53 rfl)
theorem dL_law_1078 : decode cL_law 1078 = .ok (.invokevirtual 203, 3) := dz_182 (k_L_law 16 54 rfl) (k_L_law 16 55 rfl) (k_L_law 16 56 rfl) rfl
theorem dL_law_1081 : decode cL_law 1081 = .ok (.istore 6, 2) := dz_54 (k_L_law 16 57 rfl) (k_L_law 16 58 rfl)
theorem dL_law_1083 : decode cL_law 1083 = .ok (.aload_n 2, 1) := dz_44 (k_L_law 16 59 rfl)
theorem dL_law_1084 : decode cL_law 1084 = .ok (.invokevirtual 161, 3) := dz_182 (k_L_law 16 60 rfl) (k_L_law 16 61 rfl) (k_L_law 16 62 rfl) rfl
theorem dL_law_1087 : decode cL_law 1087 = .ok (.iload 5, 2) := dz_21 (k_L_law 16 63 rfl) (k_L_law 17 0 rfl)
theorem dL_law_1089 : decode cL_law 1089 = .ok (.if_icmp .eq 5, 3) := dz_159 (k_L_law 17 1 rfl) (k_L_law 17 2 rfl) (k_L_law 17 3 rfl) rfl
theorem dL_law_1092 : decode cL_law 1092 = .ok (.iconst 0, 1) := dz_3 (k_L_law 17 4 rfl)
theorem dL_law_1093 : decode cL_law 1093 = .ok (.ireturn, 1) := dz_172 (k_L_law 17 5 rfl)
theorem dL_law_1094 : decode cL_law 1094 = .ok (.iload 5, 2) := dz_21 (k_L_law 17 6 rfl) (k_L_law 17 7 rfl)
theorem dL_law_1096 : decode cL_law 1096 = .ok (.ifCond .ne 15, 3) := dz_154 (k_L_law 17 8 rfl) (k_L_law 17 9 rfl) (k_L_law 17 10 rfl) rfl
theorem dL_law_1099 : decode cL_law 1099 = .ok (.aload_n 3, 1) := dz_45 (k_L_law 17 11 rfl)
theorem dL_law_1100 : decode cL_law 1100 = .ok (.iconst 0, 1) := dz_3 (k_L_law 17 12 rfl)
theorem dL_law_1101 : decode cL_law 1101 = .ok (.laload, 1) := dz_47 (k_L_law 17 13 rfl)
theorem dL_law_1102 : decode cL_law 1102 = .ok (.iload 6, 2) := dz_21 (k_L_law 17 14 rfl) (k_L_law 17 15 rfl)
theorem dL_law_1104 : decode cL_law 1104 = .ok (.i2l, 1) := dz_133 (k_L_law 17 16 rfl)
theorem dL_law_1105 : decode cL_law 1105 = .ok (.lcmp, 1) := dz_148 (k_L_law 17 17 rfl)
theorem dL_law_1106 : decode cL_law 1106 = .ok (.ifCond .eq 5, 3) := dz_153 (k_L_law 17 18 rfl) (k_L_law 17 19 rfl) (k_L_law 17 20 rfl) rfl
theorem dL_law_1109 : decode cL_law 1109 = .ok (.iconst 0, 1) := dz_3 (k_L_law 17 21 rfl)
theorem dL_law_1110 : decode cL_law 1110 = .ok (.ireturn, 1) := dz_172 (k_L_law 17 22 rfl)
theorem dL_law_1111 : decode cL_law 1111 = .ok (.goto 1816, 3) := dz_167 (k_L_law 17 23 rfl) (k_L_law 17 24 rfl) (k_L_law 17 25 rfl) rfl
theorem dL_law_1114 : decode cL_law 1114 = .ok (.aload_n 1, 1) := dz_43 (k_L_law 17 26 rfl)
theorem dL_law_1115 : decode cL_law 1115 = .ok (.aload_n 0, 1) := dz_42 (k_L_law 17 27 rfl)
theorem dL_law_1116 : decode cL_law 1116 = .ok (.iload 4, 2) := dz_21 (k_L_law 17 28 rfl) (k_L_law 17 29 rfl)
theorem dL_law_1118 : decode cL_law 1118 = .ok (.iconst 1, 1) := dz_4 (k_L_law 17 30 rfl)
theorem dL_law_1119 : decode cL_law 1119 = .ok (.iadd, 1) := dz_96 (k_L_law 17 31 rfl)
theorem dL_law_1120 : decode cL_law 1120 = .ok (.iaload, 1) := dz_46 (k_L_law 17 32 rfl)
theorem dL_law_1121 : decode cL_law 1121 = .ok (.aload_n 0, 1) := dz_42 (k_L_law 17 33 rfl)
theorem dL_law_1122 : decode cL_law 1122 = .ok (.iload 4, 2) := dz_21 (k_L_law 17 34 rfl) (k_L_law 17 35 rfl)
theorem dL_law_1124 : decode cL_law 1124 = .ok (.iconst 2, 1) := dz_5 (k_L_law 17 36 rfl)
theorem dL_law_1125 : decode cL_law 1125 = .ok (.iadd, 1) := dz_96 (k_L_law 17 37 rfl)
theorem dL_law_1126 : decode cL_law 1126 = .ok (.iaload, 1) := dz_46 (k_L_law 17 38 rfl)
theorem dL_law_1127 : decode cL_law 1127 = .ok (.aload_n 3, 1) := dz_45 (k_L_law 17 39 rfl)
theorem dL_law_1128 : decode cL_law 1128 = .ok (.invokestatic 204, 3) := dz_184 (k_L_law 17 40 rfl) (k_L_law 17 41 rfl) (k_L_law 17 42 rfl) rfl
theorem dL_law_1131 : decode cL_law 1131 = .ok (.istore 5, 2) := dz_54 (k_L_law 17 43 rfl) (k_L_law 17 44 rfl)
theorem dL_law_1133 : decode cL_law 1133 = .ok (.aload_n 2, 1) := dz_44 (k_L_law 17 45 rfl)
theorem dL_law_1134 : decode cL_law 1134 = .ok (.aload_n 0, 1) := dz_42 (k_L_law 17 46 rfl)
theorem dL_law_1135 : decode cL_law 1135 = .ok (.iload 4, 2) := dz_21 (k_L_law 17 47 rfl) (k_L_law 17 48 rfl)
theorem dL_law_1137 : decode cL_law 1137 = .ok (.iconst 1, 1) := dz_4 (k_L_law 17 49 rfl)
theorem dL_law_1138 : decode cL_law 1138 = .ok (.iadd, 1) := dz_96 (k_L_law 17 50 rfl)
theorem dL_law_1139 : decode cL_law 1139 = .ok (.iaload, 1) := dz_46 (k_L_law 17 51 rfl)
theorem dL_law_1140 : decode cL_law 1140 = .ok (.aload_n 0, 1) := dz_42 (k_L_law 17 52 rfl)
theorem dL_law_1141 : decode cL_law 1141 = .ok (.iload 4, 2) := dz_21 (k_L_law 17 53 rfl) (k_L_law 17 54 rfl)
theorem dL_law_1143 : decode cL_law 1143 = .ok (.iconst 2, 1) := dz_5 (k_L_law 17 55 rfl)
theorem dL_law_1144 : decode cL_law 1144 = .ok (.iadd, 1) := dz_96 (k_L_law 17 56 rfl)
theorem dL_law_1145 : decode cL_law 1145 = .ok (.iaload, 1) := dz_46 (k_L_law 17 57 rfl)
theorem dL_law_1146 : decode cL_law 1146 = .ok (.invokevirtual 206, 3) := dz_182 (k_L_law 17 58 rfl) (k_L_law 17 59 rfl) (k_L_law 17 60 rfl) rfl
theorem dL_law_1149 : decode cL_law 1149 = .ok (.istore 6, 2) := dz_54 (k_L_law 17 61 rfl) (k_L_law 17 62 rfl)
theorem dL_law_1151 : decode cL_law 1151 = .ok (.aload_n 2, 1) := dz_44 (k_L_law 17 63 rfl)
theorem dL_law_1152 : decode cL_law 1152 = .ok (.invokevirtual 161, 3) := dz_182 (k_L_law 18 0 rfl) (k_L_law 18 1 rfl) (k_L_law 18 2 rfl) rfl
theorem dL_law_1155 : decode cL_law 1155 = .ok (.iload 5, 2) := dz_21 (k_L_law 18 3 rfl) (k_L_law 18 4 rfl)
theorem dL_law_1157 : decode cL_law 1157 = .ok (.if_icmp .eq 5, 3) := dz_159 (k_L_law 18 5 rfl) (k_L_law 18 6 rfl) (k_L_law 18 7 rfl) rfl
theorem dL_law_1160 : decode cL_law 1160 = .ok (.iconst 0, 1) := dz_3 (k_L_law 18 8 rfl)
theorem dL_law_1161 : decode cL_law 1161 = .ok (.ireturn, 1) := dz_172 (k_L_law 18 9 rfl)
theorem dL_law_1162 : decode cL_law 1162 = .ok (.iload 5, 2) := dz_21 (k_L_law 18 10 rfl) (k_L_law 18 11 rfl)
theorem dL_law_1164 : decode cL_law 1164 = .ok (.ifCond .ne 15, 3) := dz_154 (k_L_law 18 12 rfl) (k_L_law 18 13 rfl) (k_L_law 18 14 rfl) rfl
theorem dL_law_1167 : decode cL_law 1167 = .ok (.aload_n 3, 1) := dz_45 (k_L_law 18 15 rfl)
theorem dL_law_1168 : decode cL_law 1168 = .ok (.iconst 0, 1) := dz_3 (k_L_law 18 16 rfl)
theorem dL_law_1169 : decode cL_law 1169 = .ok (.laload, 1) := dz_47 (k_L_law 18 17 rfl)
theorem dL_law_1170 : decode cL_law 1170 = .ok (.iload 6, 2) := dz_21 (k_L_law 18 18 rfl) (k_L_law 18 19 rfl)
theorem dL_law_1172 : decode cL_law 1172 = .ok (.i2l, 1) := dz_133 (k_L_law 18 20 rfl)
theorem dL_law_1173 : decode cL_law 1173 = .ok (.lcmp, 1) := dz_148 (k_L_law 18 21 rfl)
theorem dL_law_1174 : decode cL_law 1174 = .ok (.ifCond .eq 5, 3) := dz_153 (k_L_law 18 22 rfl) (k_L_law 18 23 rfl) (k_L_law 18 24 rfl) rfl
theorem dL_law_1177 : decode cL_law 1177 = .ok (.iconst 0, 1) := dz_3 (k_L_law 18 25 rfl)
theorem dL_law_1178 : decode cL_law 1178 = .ok (.ireturn, 1) := dz_172 (k_L_law 18 26 rfl)
theorem dL_law_1179 : decode cL_law 1179 = .ok (.goto 1748, 3) := dz_167 (k_L_law 18 27 rfl) (k_L_law 18 28 rfl) (k_L_law 18 29 rfl) rfl
theorem dL_law_1182 : decode cL_law 1182 = .ok (.aload_n 1, 1) := dz_43 (k_L_law 18 30 rfl)
theorem dL_law_1183 : decode cL_law 1183 = .ok (.aload_n 0, 1) := dz_42 (k_L_law 18 31 rfl)
theorem dL_law_1184 : decode cL_law 1184 = .ok (.iload 4, 2) := dz_21 (k_L_law 18 32 rfl) (k_L_law 18 33 rfl)
theorem dL_law_1186 : decode cL_law 1186 = .ok (.iconst 1, 1) := dz_4 (k_L_law 18 34 rfl)
theorem dL_law_1187 : decode cL_law 1187 = .ok (.iadd, 1) := dz_96 (k_L_law 18 35 rfl)
theorem dL_law_1188 : decode cL_law 1188 = .ok (.iaload, 1) := dz_46 (k_L_law 18 36 rfl)
theorem dL_law_1189 : decode cL_law 1189 = .ok (.aload_n 0, 1) := dz_42 (k_L_law 18 37 rfl)
theorem dL_law_1190 : decode cL_law 1190 = .ok (.iload 4, 2) := dz_21 (k_L_law 18 38 rfl) (k_L_law 18 39 rfl)
theorem dL_law_1192 : decode cL_law 1192 = .ok (.iconst 2, 1) := dz_5 (k_L_law 18 40 rfl)
theorem dL_law_1193 : decode cL_law 1193 = .ok (.iadd, 1) := dz_96 (k_L_law 18 41 rfl)
theorem dL_law_1194 : decode cL_law 1194 = .ok (.iaload, 1) := dz_46 (k_L_law 18 42 rfl)
theorem dL_law_1195 : decode cL_law 1195 = .ok (.aload_n 3, 1) := dz_45 (k_L_law 18 43 rfl)
theorem dL_law_1196 : decode cL_law 1196 = .ok (.invokestatic 207, 3) := dz_184 (k_L_law 18 44 rfl) (k_L_law 18 45 rfl) (k_L_law 18 46 rfl) rfl
theorem dL_law_1199 : decode cL_law 1199 = .ok (.istore 5, 2) := dz_54 (k_L_law 18 47 rfl) (k_L_law 18 48 rfl)
theorem dL_law_1201 : decode cL_law 1201 = .ok (.aload_n 2, 1) := dz_44 (k_L_law 18 49 rfl)
theorem dL_law_1202 : decode cL_law 1202 = .ok (.aload_n 0, 1) := dz_42 (k_L_law 18 50 rfl)
theorem dL_law_1203 : decode cL_law 1203 = .ok (.iload 4, 2) := dz_21 (k_L_law 18 51 rfl) (k_L_law 18 52 rfl)
theorem dL_law_1205 : decode cL_law 1205 = .ok (.iconst 1, 1) := dz_4 (k_L_law 18 53 rfl)
theorem dL_law_1206 : decode cL_law 1206 = .ok (.iadd, 1) := dz_96 (k_L_law 18 54 rfl)
theorem dL_law_1207 : decode cL_law 1207 = .ok (.iaload, 1) := dz_46 (k_L_law 18 55 rfl)
theorem dL_law_1208 : decode cL_law 1208 = .ok (.aload_n 0, 1) := dz_42 (k_L_law 18 56 rfl)
theorem dL_law_1209 : decode cL_law 1209 = .ok (.iload 4, 2) := dz_21 (k_L_law 18 57 rfl) (k_L_law 18 58 rfl)
theorem dL_law_1211 : decode cL_law 1211 = .ok (.iconst 2, 1) := dz_5 (k_L_law 18 59 rfl)
theorem dL_law_1212 : decode cL_law 1212 = .ok (.iadd, 1) := dz_96 (k_L_law 18 60 rfl)
theorem dL_law_1213 : decode cL_law 1213 = .ok (.iaload, 1) := dz_46 (k_L_law 18 61 rfl)
theorem dL_law_1214 : decode cL_law 1214 = .ok (.invokevirtual 209, 3) := dz_182 (k_L_law 18 62 rfl) (k_L_law 18 63 rfl) (k_L_law 19 0 rfl) rfl
theorem dL_law_1217 : decode cL_law 1217 = .ok (.istore 6, 2) := dz_54 (k_L_law 19 1 rfl) (k_L_law 19 2 rfl)
theorem dL_law_1219 : decode cL_law 1219 = .ok (.aload_n 2, 1) := dz_44 (k_L_law 19 3 rfl)
theorem dL_law_1220 : decode cL_law 1220 = .ok (.invokevirtual 161, 3) := dz_182 (k_L_law 19 4 rfl) (k_L_law 19 5 rfl) (k_L_law 19 6 rfl) rfl
theorem dL_law_1223 : decode cL_law 1223 = .ok (.iload 5, 2) := dz_21 (k_L_law 19 7 rfl) (k_L_law 19 8 rfl)
theorem dL_law_1225 : decode cL_law 1225 = .ok (.if_icmp .eq 5, 3) := dz_159 (k_L_law 19 9 rfl) (k_L_law 19 10 rfl) (k_L_law 19 11 rfl) rfl
theorem dL_law_1228 : decode cL_law 1228 = .ok (.iconst 0, 1) := dz_3 (k_L_law 19 12 rfl)
theorem dL_law_1229 : decode cL_law 1229 = .ok (.ireturn, 1) := dz_172 (k_L_law 19 13 rfl)
theorem dL_law_1230 : decode cL_law 1230 = .ok (.iload 5, 2) := dz_21 (k_L_law 19 14 rfl) (k_L_law 19 15 rfl)
theorem dL_law_1232 : decode cL_law 1232 = .ok (.ifCond .ne 22, 3) := dz_154 (k_L_law 19 16 rfl) (k_L_law 19 17 rfl) (k_L_law 19 18 rfl) rfl
theorem dL_law_1235 : decode cL_law 1235 = .ok (.aload_n 3, 1) := dz_45 (k_L_law 19 19 rfl)
theorem dL_law_1236 : decode cL_law 1236 = .ok (.iconst 0, 1) := dz_3 (k_L_law 19 20 rfl)
theorem dL_law_1237 : decode cL_law 1237 = .ok (.laload, 1) := dz_47 (k_L_law 19 21 rfl)
theorem dL_law_1238 : decode cL_law 1238 = .ok (.iload 6, 2) := dz_21 (k_L_law 19 22 rfl) (k_L_law 19 23 rfl)
theorem dL_law_1240 : decode cL_law 1240 = .ok (.ifCond .eq 7, 3) := dz_153 (k_L_law 19 24 rfl) (k_L_law 19 25 rfl) (k_L_law 19 26 rfl) rfl
theorem dL_law_1243 : decode cL_law 1243 = .ok (.lconst 1, 1) := dz_10 (k_L_law 19 27 rfl)
theorem dL_law_1244 : decode cL_law 1244 = .ok (.goto 4, 3) := dz_167 (k_L_law 19 28 rfl) (k_L_law 19 29 rfl) (k_L_law 19 30 rfl) rfl
theorem dL_law_1247 : decode cL_law 1247 = .ok (.lconst 0, 1) := dz_9 (k_L_law 19 31 rfl)
theorem dL_law_1248 : decode cL_law 1248 = .ok (.lcmp, 1) := dz_148 (k_L_law 19 32 rfl)
theorem dL_law_1249 : decode cL_law 1249 = .ok (.ifCond .eq 5, 3) := dz_153 (k_L_law 19 33 rfl) (k_L_law 19 34 rfl) (k_L_law 19 35 rfl) rfl
theorem dL_law_1252 : decode cL_law 1252 = .ok (.iconst 0, 1) := dz_3 (k_L_law 19 36 rfl)
theorem dL_law_1253 : decode cL_law 1253 = .ok (.ireturn, 1) := dz_172 (k_L_law 19 37 rfl)
theorem dL_law_1254 : decode cL_law 1254 = .ok (.goto 1673, 3) := dz_167 (k_L_law 19 38 rfl) (k_L_law 19 39 rfl) (k_L_law 19 40 rfl) rfl
theorem dL_law_1257 : decode cL_law 1257 = .ok (.aload_n 1, 1) := dz_43 (k_L_law 19 41 rfl)
theorem dL_law_1258 : decode cL_law 1258 = .ok (.invokevirtual 210, 3) := dz_182 (k_L_law 19 42 rfl) (k_L_law 19 43 rfl) (k_L_law 19 44 rfl) rfl
theorem dL_law_1261 : decode cL_law 1261 = .ok (.aload_n 2, 1) := dz_44 (k_L_law 19 45 rfl)
theorem dL_law_1262 : decode cL_law 1262 = .ok (.invokevirtual 213, 3) := dz_182 (k_L_law 19 46 rfl) (k_L_law 19 47 rfl) (k_L_law 19 48 rfl) rfl
theorem dL_law_1265 : decode cL_law 1265 = .ok (.if_icmp .eq 1662, 3) := dz_159 (k_L_law 19 49 rfl) (k_L_law 19 50 rfl) (k_L_law 19 51 rfl) rfl
theorem dL_law_1268 : decode cL_law 1268 = .ok (.iconst 0, 1) := dz_3 (k_L_law 19 52 rfl)
theorem dL_law_1269 : decode cL_law 1269 = .ok (.ireturn, 1) := dz_172 (k_L_law 19 53 rfl)
theorem dL_law_1270 : decode cL_law 1270 = .ok (.aload_n 1, 1) := dz_43 (k_L_law 19 54 rfl)
theorem dL_law_1271 : decode cL_law 1271 = .ok (.aload_n 0, 1) := dz_42 (k_L_law 19 55 rfl)
theorem dL_law_1272 : decode cL_law 1272 = .ok (.iload 4, 2) := dz_21 (k_L_law 19 56 rfl) (k_L_law 19 57 rfl)
theorem dL_law_1274 : decode cL_law 1274 = .ok (.iconst 1, 1) := dz_4 (k_L_law 19 58 rfl)
theorem dL_law_1275 : decode cL_law 1275 = .ok (.iadd, 1) := dz_96 (k_L_law 19 59 rfl)
theorem dL_law_1276 : decode cL_law 1276 = .ok (.iaload, 1) := dz_46 (k_L_law 19 60 rfl)
theorem dL_law_1277 : decode cL_law 1277 = .ok (.aload_n 3, 1) := dz_45 (k_L_law 19 61 rfl)
theorem dL_law_1278 : decode cL_law 1278 = .ok (.invokestatic 214, 3) := dz_184 (k_L_law 19 62 rfl) (k_L_law 19 63 rfl) (k_L_law 20 0 rfl) rfl
theorem dL_law_1281 : decode cL_law 1281 = .ok (.istore 5, 2) := dz_54 (k_L_law 20 1 rfl) (k_L_law 20 2 rfl)
theorem dL_law_1283 : decode cL_law 1283 = .ok (.aload_n 2, 1) := dz_44 (k_L_law 20 3 rfl)
theorem dL_law_1284 : decode cL_law 1284 = .ok (.aload_n 0, 1) := dz_42 (k_L_law 20 4 rfl)
theorem dL_law_1285 : decode cL_law 1285 = .ok (.iload 4, 2) := dz_21 (k_L_law 20 5 rfl) (k_L_law 20 6 rfl)
theorem dL_law_1287 : decode cL_law 1287 = .ok (.iconst 1, 1) := dz_4 (k_L_law 20 7 rfl)
theorem dL_law_1288 : decode cL_law 1288 = .ok (.iadd, 1) := dz_96 (k_L_law 20 8 rfl)
theorem dL_law_1289 : decode cL_law 1289 = .ok (.iaload, 1) := dz_46 (k_L_law 20 9 rfl)
theorem dL_law_1290 : decode cL_law 1290 = .ok (.invokevirtual 216, 3) := dz_182 (k_L_law 20 10 rfl) (k_L_law 20 11 rfl) (k_L_law 20 12 rfl) rfl
theorem dL_law_1293 : decode cL_law 1293 = .ok (.lstore 6, 2) := dz_55 (k_L_law 20 13 rfl) (k_L_law 20 14 rfl)
theorem dL_law_1295 : decode cL_law 1295 = .ok (.aload_n 2, 1) := dz_44 (k_L_law 20 15 rfl)
theorem dL_law_1296 : decode cL_law 1296 = .ok (.invokevirtual 161, 3) := dz_182 (k_L_law 20 16 rfl) (k_L_law 20 17 rfl) (k_L_law 20 18 rfl) rfl
theorem dL_law_1299 : decode cL_law 1299 = .ok (.iload 5, 2) := dz_21 (k_L_law 20 19 rfl) (k_L_law 20 20 rfl)
theorem dL_law_1301 : decode cL_law 1301 = .ok (.if_icmp .eq 5, 3) := dz_159 (k_L_law 20 21 rfl) (k_L_law 20 22 rfl) (k_L_law 20 23 rfl) rfl
theorem dL_law_1304 : decode cL_law 1304 = .ok (.iconst 0, 1) := dz_3 (k_L_law 20 24 rfl)
theorem dL_law_1305 : decode cL_law 1305 = .ok (.ireturn, 1) := dz_172 (k_L_law 20 25 rfl)
theorem dL_law_1306 : decode cL_law 1306 = .ok (.iload 5, 2) := dz_21 (k_L_law 20 26 rfl) (k_L_law 20 27 rfl)
theorem dL_law_1308 : decode cL_law 1308 = .ok (.ifCond .ne 14, 3) := dz_154 (k_L_law 20 28 rfl) (k_L_law 20 29 rfl) (k_L_law 20 30 rfl) rfl
theorem dL_law_1311 : decode cL_law 1311 = .ok (.aload_n 3, 1) := dz_45 (k_L_law 20 31 rfl)
theorem dL_law_1312 : decode cL_law 1312 = .ok (.iconst 0, 1) := dz_3 (k_L_law 20 32 rfl)
theorem dL_law_1313 : decode cL_law 1313 = .ok (.laload, 1) := dz_47 (k_L_law 20 33 rfl)
theorem dL_law_1314 : decode cL_law 1314 = .ok (.lload 6, 2) := dz_22 (k_L_law 20 34 rfl) (k_L_law 20 35 rfl)
theorem dL_law_1316 : decode cL_law 1316 = .ok (.lcmp, 1) := dz_148 (k_L_law 20 36 rfl)
theorem dL_law_1317 : decode cL_law 1317 = .ok (.ifCond .eq 5, 3) := dz_153 (k_L_law 20 37 rfl) (k_L_law 20 38 rfl) (k_L_law 20 39 rfl) rfl
theorem dL_law_1320 : decode cL_law 1320 = .ok (.iconst 0, 1) := dz_3 (k_L_law 20 40 rfl)
theorem dL_law_1321 : decode cL_law 1321 = .ok (.ireturn, 1) := dz_172 (k_L_law 20 41 rfl)
theorem dL_law_1322 : decode cL_law 1322 = .ok (.goto 1605, 3) := dz_167 (k_L_law 20 42 rfl) (k_L_law 20 43 rfl) (k_L_law 20 44 rfl) rfl
theorem dL_law_1325 : decode cL_law 1325 = .ok (.aload_n 1, 1) := dz_43 (k_L_law 20 45 rfl)
theorem dL_law_1326 : decode cL_law 1326 = .ok (.aload_n 0, 1) := dz_42 (k_L_law 20 46 rfl)
theorem dL_law_1327 : decode cL_law 1327 = .ok (.iload 4, 2) := dz_21 (k_L_law 20 47 rfl) (k_L_law 20 48 rfl)
theorem dL_law_1329 : decode cL_law 1329 = .ok (.iconst 1, 1) := dz_4 (k_L_law 20 49 rfl)
theorem dL_law_1330 : decode cL_law 1330 = .ok (.iadd, 1) := dz_96 (k_L_law 20 50 rfl)
theorem dL_law_1331 : decode cL_law 1331 = .ok (.iaload, 1) := dz_46 (k_L_law 20 51 rfl)
theorem dL_law_1332 : decode cL_law 1332 = .ok (.aload_n 3, 1) := dz_45 (k_L_law 20 52 rfl)
theorem dL_law_1333 : decode cL_law 1333 = .ok (.invokestatic 217, 3) := dz_184 (k_L_law 20 53 rfl) (k_L_law 20 54 rfl) (k_L_law 20 55 rfl) rfl
theorem dL_law_1336 : decode cL_law 1336 = .ok (.istore 5, 2) := dz_54 (k_L_law 20 56 rfl) (k_L_law 20 57 rfl)
theorem dL_law_1338 : decode cL_law 1338 = .ok (.aload_n 2, 1) := dz_44 (k_L_law 20 58 rfl)
theorem dL_law_1339 : decode cL_law 1339 = .ok (.aload_n 0, 1) := dz_42 (k_L_law 20 59 rfl)
theorem dL_law_1340 : decode cL_law 1340 = .ok (.iload 4, 2) := dz_21 (k_L_law 20 60 rfl) (k_L_law 20 61 rfl)
theorem dL_law_1342 : decode cL_law 1342 = .ok (.iconst 1, 1) := dz_4 (k_L_law 20 62 rfl)
theorem dL_law_1343 : decode cL_law 1343 = .ok (.iadd, 1) := dz_96 (k_L_law 20 63 rfl)
theorem dL_law_1344 : decode cL_law 1344 = .ok (.iaload, 1) := dz_46 (k_L_law 21 0 rfl)
theorem dL_law_1345 : decode cL_law 1345 = .ok (.invokevirtual 219, 3) := dz_182 (k_L_law 21 1 rfl) (k_L_law 21 2 rfl) (k_L_law 21 3 rfl) rfl
theorem dL_law_1348 : decode cL_law 1348 = .ok (.lstore 6, 2) := dz_55 (k_L_law 21 4 rfl) (k_L_law 21 5 rfl)
theorem dL_law_1350 : decode cL_law 1350 = .ok (.aload_n 2, 1) := dz_44 (k_L_law 21 6 rfl)
theorem dL_law_1351 : decode cL_law 1351 = .ok (.invokevirtual 161, 3) := dz_182 (k_L_law 21 7 rfl) (k_L_law 21 8 rfl) (k_L_law 21 9 rfl) rfl
theorem dL_law_1354 : decode cL_law 1354 = .ok (.iload 5, 2) := dz_21 (k_L_law 21 10 rfl) (k_L_law 21 11 rfl)
theorem dL_law_1356 : decode cL_law 1356 = .ok (.if_icmp .eq 5, 3) := dz_159 (k_L_law 21 12 rfl) (k_L_law 21 13 rfl) (k_L_law 21 14 rfl) rfl
theorem dL_law_1359 : decode cL_law 1359 = .ok (.iconst 0, 1) := dz_3 (k_L_law 21 15 rfl)
theorem dL_law_1360 : decode cL_law 1360 = .ok (.ireturn, 1) := dz_172 (k_L_law 21 16 rfl)
theorem dL_law_1361 : decode cL_law 1361 = .ok (.iload 5, 2) := dz_21 (k_L_law 21 17 rfl) (k_L_law 21 18 rfl)
theorem dL_law_1363 : decode cL_law 1363 = .ok (.ifCond .ne 14, 3) := dz_154 (k_L_law 21 19 rfl) (k_L_law 21 20 rfl) (k_L_law 21 21 rfl) rfl
theorem dL_law_1366 : decode cL_law 1366 = .ok (.aload_n 3, 1) := dz_45 (k_L_law 21 22 rfl)
theorem dL_law_1367 : decode cL_law 1367 = .ok (.iconst 0, 1) := dz_3 (k_L_law 21 23 rfl)
theorem dL_law_1368 : decode cL_law 1368 = .ok (.laload, 1) := dz_47 (k_L_law 21 24 rfl)
theorem dL_law_1369 : decode cL_law 1369 = .ok (.lload 6, 2) := dz_22 (k_L_law 21 25 rfl) (k_L_law 21 26 rfl)
theorem dL_law_1371 : decode cL_law 1371 = .ok (.lcmp, 1) := dz_148 (k_L_law 21 27 rfl)
theorem dL_law_1372 : decode cL_law 1372 = .ok (.ifCond .eq 5, 3) := dz_153 (k_L_law 21 28 rfl) (k_L_law 21 29 rfl) (k_L_law 21 30 rfl) rfl
theorem dL_law_1375 : decode cL_law 1375 = .ok (.iconst 0, 1) := dz_3 (k_L_law 21 31 rfl)
theorem dL_law_1376 : decode cL_law 1376 = .ok (.ireturn, 1) := dz_172 (k_L_law 21 32 rfl)
theorem dL_law_1377 : decode cL_law 1377 = .ok (.goto 1550, 3) := dz_167 (k_L_law 21 33 rfl) (k_L_law 21 34 rfl) (k_L_law 21 35 rfl) rfl
theorem dL_law_1380 : decode cL_law 1380 = .ok (.aload_n 1, 1) := dz_43 (k_L_law 21 36 rfl)
theorem dL_law_1381 : decode cL_law 1381 = .ok (.aload_n 0, 1) := dz_42 (k_L_law 21 37 rfl)
theorem dL_law_1382 : decode cL_law 1382 = .ok (.iload 4, 2) := dz_21 (k_L_law 21 38 rfl) (k_L_law 21 39 rfl)
theorem dL_law_1384 : decode cL_law 1384 = .ok (.iconst 1, 1) := dz_4 (k_L_law 21 40 rfl)
theorem dL_law_1385 : decode cL_law 1385 = .ok (.iadd, 1) := dz_96 (k_L_law 21 41 rfl)
theorem dL_law_1386 : decode cL_law 1386 = .ok (.iaload, 1) := dz_46 (k_L_law 21 42 rfl)
theorem dL_law_1387 : decode cL_law 1387 = .ok (.aload_n 3, 1) := dz_45 (k_L_law 21 43 rfl)
theorem dL_law_1388 : decode cL_law 1388 = .ok (.invokestatic 220, 3) := dz_184 (k_L_law 21 44 rfl) (k_L_law 21 45 rfl) (k_L_law 21 46 rfl) rfl
theorem dL_law_1391 : decode cL_law 1391 = .ok (.istore 5, 2) := dz_54 (k_L_law 21 47 rfl) (k_L_law 21 48 rfl)
theorem dL_law_1393 : decode cL_law 1393 = .ok (.aload_n 2, 1) := dz_44 (k_L_law 21 49 rfl)
theorem dL_law_1394 : decode cL_law 1394 = .ok (.aload_n 0, 1) := dz_42 (k_L_law 21 50 rfl)
theorem dL_law_1395 : decode cL_law 1395 = .ok (.iload 4, 2) := dz_21 (k_L_law 21 51 rfl) (k_L_law 21 52 rfl)
theorem dL_law_1397 : decode cL_law 1397 = .ok (.iconst 1, 1) := dz_4 (k_L_law 21 53 rfl)
theorem dL_law_1398 : decode cL_law 1398 = .ok (.iadd, 1) := dz_96 (k_L_law 21 54 rfl)
theorem dL_law_1399 : decode cL_law 1399 = .ok (.iaload, 1) := dz_46 (k_L_law 21 55 rfl)
theorem dL_law_1400 : decode cL_law 1400 = .ok (.invokevirtual 222, 3) := dz_182 (k_L_law 21 56 rfl) (k_L_law 21 57 rfl) (k_L_law 21 58 rfl) rfl
theorem dL_law_1403 : decode cL_law 1403 = .ok (.istore 6, 2) := dz_54 (k_L_law 21 59 rfl) (k_L_law 21 60 rfl)
theorem dL_law_1405 : decode cL_law 1405 = .ok (.aload_n 2, 1) := dz_44 (k_L_law 21 61 rfl)
theorem dL_law_1406 : decode cL_law 1406 = .ok (.invokevirtual 161, 3) := dz_182 (k_L_law 21 62 rfl) (k_L_law 21 63 rfl) (k_L_law 22 0 rfl) rfl
theorem dL_law_1409 : decode cL_law 1409 = .ok (.iload 5, 2) := dz_21 (k_L_law 22 1 rfl) (k_L_law 22 2 rfl)
theorem dL_law_1411 : decode cL_law 1411 = .ok (.if_icmp .eq 5, 3) := dz_159 (k_L_law 22 3 rfl) (k_L_law 22 4 rfl) (k_L_law 22 5 rfl) rfl
theorem dL_law_1414 : decode cL_law 1414 = .ok (.iconst 0, 1) := dz_3 (k_L_law 22 6 rfl)
theorem dL_law_1415 : decode cL_law 1415 = .ok (.ireturn, 1) := dz_172 (k_L_law 22 7 rfl)
theorem dL_law_1416 : decode cL_law 1416 = .ok (.iload 5, 2) := dz_21 (k_L_law 22 8 rfl) (k_L_law 22 9 rfl)
theorem dL_law_1418 : decode cL_law 1418 = .ok (.ifCond .ne 15, 3) := dz_154 (k_L_law 22 10 rfl) (k_L_law 22 11 rfl) (k_L_law 22 12 rfl) rfl
theorem dL_law_1421 : decode cL_law 1421 = .ok (.aload_n 3, 1) := dz_45 (k_L_law 22 13 rfl)
theorem dL_law_1422 : decode cL_law 1422 = .ok (.iconst 0, 1) := dz_3 (k_L_law 22 14 rfl)
theorem dL_law_1423 : decode cL_law 1423 = .ok (.laload, 1) := dz_47 (k_L_law 22 15 rfl)
theorem dL_law_1424 : decode cL_law 1424 = .ok (.iload 6, 2) := dz_21 (k_L_law 22 16 rfl) (k_L_law 22 17 rfl)
theorem dL_law_1426 : decode cL_law 1426 = .ok (.i2l, 1) := dz_133 (k_L_law 22 18 rfl)
theorem dL_law_1427 : decode cL_law 1427 = .ok (.lcmp, 1) := dz_148 (k_L_law 22 19 rfl)
theorem dL_law_1428 : decode cL_law 1428 = .ok (.ifCond .eq 5, 3) := dz_153 (k_L_law 22 20 rfl) (k_L_law 22 21 rfl) (k_L_law 22 22 rfl) rfl
theorem dL_law_1431 : decode cL_law 1431 = .ok (.iconst 0, 1) := dz_3 (k_L_law 22 23 rfl)
theorem dL_law_1432 : decode cL_law 1432 = .ok (.ireturn, 1) := dz_172 (k_L_law 22 24 rfl)
theorem dL_law_1433 : decode cL_law 1433 = .ok (.goto 1494, 3) := dz_167 (k_L_law 22 25 rfl) (k_L_law 22 26 rfl) (k_L_law 22 27 rfl) rfl
theorem dL_law_1436 : decode cL_law 1436 = .ok (.aload_n 1, 1) := dz_43 (k_L_law 22 28 rfl)
theorem dL_law_1437 : decode cL_law 1437 = .ok (.aload_n 0, 1) := dz_42 (k_L_law 22 29 rfl)
theorem dL_law_1438 : decode cL_law 1438 = .ok (.iload 4, 2) := dz_21 (k_L_law 22 30 rfl) (k_L_law 22 31 rfl)
theorem dL_law_1440 : decode cL_law 1440 = .ok (.iconst 1, 1) := dz_4 (k_L_law 22 32 rfl)
theorem dL_law_1441 : decode cL_law 1441 = .ok (.iadd, 1) := dz_96 (k_L_law 22 33 rfl)
theorem dL_law_1442 : decode cL_law 1442 = .ok (.iaload, 1) := dz_46 (k_L_law 22 34 rfl)
theorem dL_law_1443 : decode cL_law 1443 = .ok (.aload_n 0, 1) := dz_42 (k_L_law 22 35 rfl)
theorem dL_law_1444 : decode cL_law 1444 = .ok (.iload 4, 2) := dz_21 (k_L_law 22 36 rfl) (k_L_law 22 37 rfl)
theorem dL_law_1446 : decode cL_law 1446 = .ok (.iconst 2, 1) := dz_5 (k_L_law 22 38 rfl)
theorem dL_law_1447 : decode cL_law 1447 = .ok (.iadd, 1) := dz_96 (k_L_law 22 39 rfl)
theorem dL_law_1448 : decode cL_law 1448 = .ok (.iaload, 1) := dz_46 (k_L_law 22 40 rfl)
theorem dL_law_1449 : decode cL_law 1449 = .ok (.aload_n 3, 1) := dz_45 (k_L_law 22 41 rfl)
theorem dL_law_1450 : decode cL_law 1450 = .ok (.invokestatic 223, 3) := dz_184 (k_L_law 22 42 rfl) (k_L_law 22 43 rfl) (k_L_law 22 44 rfl) rfl
theorem dL_law_1453 : decode cL_law 1453 = .ok (.istore 5, 2) := dz_54 (k_L_law 22 45 rfl) (k_L_law 22 46 rfl)
theorem dL_law_1455 : decode cL_law 1455 = .ok (.aload_n 2, 1) := dz_44 (k_L_law 22 47 rfl)
theorem dL_law_1456 : decode cL_law 1456 = .ok (.aload_n 0, 1) := dz_42 (k_L_law 22 48 rfl)
theorem dL_law_1457 : decode cL_law 1457 = .ok (.iload 4, 2) := dz_21 (k_L_law 22 49 rfl) (k_L_law 22 50 rfl)
theorem dL_law_1459 : decode cL_law 1459 = .ok (.iconst 1, 1) := dz_4 (k_L_law 22 51 rfl)
theorem dL_law_1460 : decode cL_law 1460 = .ok (.iadd, 1) := dz_96 (k_L_law 22 52 rfl)
theorem dL_law_1461 : decode cL_law 1461 = .ok (.iaload, 1) := dz_46 (k_L_law 22 53 rfl)
theorem dL_law_1462 : decode cL_law 1462 = .ok (.aload_n 0, 1) := dz_42 (k_L_law 22 54 rfl)
theorem dL_law_1463 : decode cL_law 1463 = .ok (.iload 4, 2) := dz_21 (k_L_law 22 55 rfl) (k_L_law 22 56 rfl)
theorem dL_law_1465 : decode cL_law 1465 = .ok (.iconst 2, 1) := dz_5 (k_L_law 22 57 rfl)
theorem dL_law_1466 : decode cL_law 1466 = .ok (.iadd, 1) := dz_96 (k_L_law 22 58 rfl)
theorem dL_law_1467 : decode cL_law 1467 = .ok (.iaload, 1) := dz_46 (k_L_law 22 59 rfl)
theorem dL_law_1468 : decode cL_law 1468 = .ok (.invokevirtual 225, 3) := dz_182 (k_L_law 22 60 rfl) (k_L_law 22 61 rfl) (k_L_law 22 62 rfl) rfl
theorem dL_law_1471 : decode cL_law 1471 = .ok (.lstore 6, 2) := dz_55 (k_L_law 22 63 rfl) (k_L_law 23 0 rfl)
theorem dL_law_1473 : decode cL_law 1473 = .ok (.aload_n 2, 1) := dz_44 (k_L_law 23 1 rfl)
theorem dL_law_1474 : decode cL_law 1474 = .ok (.invokevirtual 161, 3) := dz_182 (k_L_law 23 2 rfl) (k_L_law 23 3 rfl) (k_L_law 23 4 rfl) rfl
theorem dL_law_1477 : decode cL_law 1477 = .ok (.iload 5, 2) := dz_21 (k_L_law 23 5 rfl) (k_L_law 23 6 rfl)
theorem dL_law_1479 : decode cL_law 1479 = .ok (.if_icmp .eq 5, 3) := dz_159 (k_L_law 23 7 rfl) (k_L_law 23 8 rfl) (k_L_law 23 9 rfl) rfl
theorem dL_law_1482 : decode cL_law 1482 = .ok (.iconst 0, 1) := dz_3 (k_L_law 23 10 rfl)
theorem dL_law_1483 : decode cL_law 1483 = .ok (.ireturn, 1) := dz_172 (k_L_law 23 11 rfl)
theorem dL_law_1484 : decode cL_law 1484 = .ok (.iload 5, 2) := dz_21 (k_L_law 23 12 rfl) (k_L_law 23 13 rfl)
theorem dL_law_1486 : decode cL_law 1486 = .ok (.ifCond .ne 14, 3) := dz_154 (k_L_law 23 14 rfl) (k_L_law 23 15 rfl) (k_L_law 23 16 rfl) rfl
theorem dL_law_1489 : decode cL_law 1489 = .ok (.aload_n 3, 1) := dz_45 (k_L_law 23 17 rfl)
theorem dL_law_1490 : decode cL_law 1490 = .ok (.iconst 0, 1) := dz_3 (k_L_law 23 18 rfl)
theorem dL_law_1491 : decode cL_law 1491 = .ok (.laload, 1) := dz_47 (k_L_law 23 19 rfl)
theorem dL_law_1492 : decode cL_law 1492 = .ok (.lload 6, 2) := dz_22 (k_L_law 23 20 rfl) (k_L_law 23 21 rfl)
theorem dL_law_1494 : decode cL_law 1494 = .ok (.lcmp, 1) := dz_148 (k_L_law 23 22 rfl)
theorem dL_law_1495 : decode cL_law 1495 = .ok (.ifCond .eq 5, 3) := dz_153 (k_L_law 23 23 rfl) (k_L_law 23 24 rfl) (k_L_law 23 25 rfl) rfl
theorem dL_law_1498 : decode cL_law 1498 = .ok (.iconst 0, 1) := dz_3 (k_L_law 23 26 rfl)
theorem dL_law_1499 : decode cL_law 1499 = .ok (.ireturn, 1) := dz_172 (k_L_law 23 27 rfl)
theorem dL_law_1500 : decode cL_law 1500 = .ok (.goto 1427, 3) := dz_167 (k_L_law 23 28 rfl) (k_L_law 23 29 rfl) (k_L_law 23 30 rfl) rfl
theorem dL_law_1503 : decode cL_law 1503 = .ok (.aload_n 1, 1) := dz_43 (k_L_law 23 31 rfl)
theorem dL_law_1504 : decode cL_law 1504 = .ok (.aload_n 0, 1) := dz_42 (k_L_law 23 32 rfl)
theorem dL_law_1505 : decode cL_law 1505 = .ok (.iload 4, 2) := dz_21 (k_L_law 23 33 rfl) (k_L_law 23 34 rfl)
theorem dL_law_1507 : decode cL_law 1507 = .ok (.iconst 1, 1) := dz_4 (k_L_law 23 35 rfl)
theorem dL_law_1508 : decode cL_law 1508 = .ok (.iadd, 1) := dz_96 (k_L_law 23 36 rfl)
theorem dL_law_1509 : decode cL_law 1509 = .ok (.iaload, 1) := dz_46 (k_L_law 23 37 rfl)
theorem dL_law_1510 : decode cL_law 1510 = .ok (.aload_n 0, 1) := dz_42 (k_L_law 23 38 rfl)
theorem dL_law_1511 : decode cL_law 1511 = .ok (.iload 4, 2) := dz_21 (k_L_law 23 39 rfl) (k_L_law 23 40 rfl)
theorem dL_law_1513 : decode cL_law 1513 = .ok (.iconst 2, 1) := dz_5 (k_L_law 23 41 rfl)
theorem dL_law_1514 : decode cL_law 1514 = .ok (.iadd, 1) := dz_96 (k_L_law 23 42 rfl)
theorem dL_law_1515 : decode cL_law 1515 = .ok (.iaload, 1) := dz_46 (k_L_law 23 43 rfl)
theorem dL_law_1516 : decode cL_law 1516 = .ok (.aload_n 3, 1) := dz_45 (k_L_law 23 44 rfl)
theorem dL_law_1517 : decode cL_law 1517 = .ok (.invokestatic 226, 3) := dz_184 (k_L_law 23 45 rfl) (k_L_law 23 46 rfl) (k_L_law 23 47 rfl) rfl
theorem dL_law_1520 : decode cL_law 1520 = .ok (.istore 5, 2) := dz_54 (k_L_law 23 48 rfl) (k_L_law 23 49 rfl)
theorem dL_law_1522 : decode cL_law 1522 = .ok (.aload_n 2, 1) := dz_44 (k_L_law 23 50 rfl)
theorem dL_law_1523 : decode cL_law 1523 = .ok (.aload_n 0, 1) := dz_42 (k_L_law 23 51 rfl)
theorem dL_law_1524 : decode cL_law 1524 = .ok (.iload 4, 2) := dz_21 (k_L_law 23 52 rfl) (k_L_law 23 53 rfl)
theorem dL_law_1526 : decode cL_law 1526 = .ok (.iconst 1, 1) := dz_4 (k_L_law 23 54 rfl)
theorem dL_law_1527 : decode cL_law 1527 = .ok (.iadd, 1) := dz_96 (k_L_law 23 55 rfl)
theorem dL_law_1528 : decode cL_law 1528 = .ok (.iaload, 1) := dz_46 (k_L_law 23 56 rfl)
theorem dL_law_1529 : decode cL_law 1529 = .ok (.aload_n 0, 1) := dz_42 (k_L_law 23 57 rfl)
theorem dL_law_1530 : decode cL_law 1530 = .ok (.iload 4, 2) := dz_21 (k_L_law 23 58 rfl) (k_L_law 23 59 rfl)
theorem dL_law_1532 : decode cL_law 1532 = .ok (.iconst 2, 1) := dz_5 (k_L_law 23 60 rfl)
theorem dL_law_1533 : decode cL_law 1533 = .ok (.iadd, 1) := dz_96 (k_L_law 23 61 rfl)
theorem dL_law_1534 : decode cL_law 1534 = .ok (.iaload, 1) := dz_46 (k_L_law 23 62 rfl)
theorem dL_law_1535 : decode cL_law 1535 = .ok (.invokevirtual 228, 3) := dz_182 (k_L_law 23 63 rfl) (k_L_law 24 0 rfl) (k_L_law 24 1 rfl) rfl
theorem dL_law_1538 : decode cL_law 1538 = .ok (.istore 6, 2) := dz_54 (k_L_law 24 2 rfl) (k_L_law 24 3 rfl)
theorem dL_law_1540 : decode cL_law 1540 = .ok (.aload_n 2, 1) := dz_44 (k_L_law 24 4 rfl)
theorem dL_law_1541 : decode cL_law 1541 = .ok (.invokevirtual 161, 3) := dz_182 (k_L_law 24 5 rfl) (k_L_law 24 6 rfl) (k_L_law 24 7 rfl) rfl
theorem dL_law_1544 : decode cL_law 1544 = .ok (.iload 5, 2) := dz_21 (k_L_law 24 8 rfl) (k_L_law 24 9 rfl)
theorem dL_law_1546 : decode cL_law 1546 = .ok (.if_icmp .eq 5, 3) := dz_159 (k_L_law 24 10 rfl) (k_L_law 24 11 rfl) (k_L_law 24 12 rfl) rfl
theorem dL_law_1549 : decode cL_law 1549 = .ok (.iconst 0, 1) := dz_3 (k_L_law 24 13 rfl)
theorem dL_law_1550 : decode cL_law 1550 = .ok (.ireturn, 1) := dz_172 (k_L_law 24 14 rfl)
theorem dL_law_1551 : decode cL_law 1551 = .ok (.iload 5, 2) := dz_21 (k_L_law 24 15 rfl) (k_L_law 24 16 rfl)
theorem dL_law_1553 : decode cL_law 1553 = .ok (.ifCond .ne 22, 3) := dz_154 (k_L_law 24 17 rfl) (k_L_law 24 18 rfl) (k_L_law 24 19 rfl) rfl
theorem dL_law_1556 : decode cL_law 1556 = .ok (.aload_n 3, 1) := dz_45 (k_L_law 24 20 rfl)
theorem dL_law_1557 : decode cL_law 1557 = .ok (.iconst 0, 1) := dz_3 (k_L_law 24 21 rfl)
theorem dL_law_1558 : decode cL_law 1558 = .ok (.laload, 1) := dz_47 (k_L_law 24 22 rfl)
theorem dL_law_1559 : decode cL_law 1559 = .ok (.iload 6, 2) := dz_21 (k_L_law 24 23 rfl) (k_L_law 24 24 rfl)
theorem dL_law_1561 : decode cL_law 1561 = .ok (.ifCond .eq 7, 3) := dz_153 (k_L_law 24 25 rfl) (k_L_law 24 26 rfl) (k_L_law 24 27 rfl) rfl
theorem dL_law_1564 : decode cL_law 1564 = .ok (.lconst 1, 1) := dz_10 (k_L_law 24 28 rfl)
theorem dL_law_1565 : decode cL_law 1565 = .ok (.goto 4, 3) := dz_167 (k_L_law 24 29 rfl) (k_L_law 24 30 rfl) (k_L_law 24 31 rfl) rfl
theorem dL_law_1568 : decode cL_law 1568 = .ok (.lconst 0, 1) := dz_9 (k_L_law 24 32 rfl)
theorem dL_law_1569 : decode cL_law 1569 = .ok (.lcmp, 1) := dz_148 (k_L_law 24 33 rfl)
theorem dL_law_1570 : decode cL_law 1570 = .ok (.ifCond .eq 5, 3) := dz_153 (k_L_law 24 34 rfl) (k_L_law 24 35 rfl) (k_L_law 24 36 rfl) rfl
theorem dL_law_1573 : decode cL_law 1573 = .ok (.iconst 0, 1) := dz_3 (k_L_law 24 37 rfl)
theorem dL_law_1574 : decode cL_law 1574 = .ok (.ireturn, 1) := dz_172 (k_L_law 24 38 rfl)
theorem dL_law_1575 : decode cL_law 1575 = .ok (.goto 1352, 3) := dz_167 (k_L_law 24 39 rfl) (k_L_law 24 40 rfl) (k_L_law 24 41 rfl) rfl
theorem dL_law_1578 : decode cL_law 1578 = .ok (.aload_n 1, 1) := dz_43 (k_L_law 24 42 rfl)
theorem dL_law_1579 : decode cL_law 1579 = .ok (.aload_n 0, 1) := dz_42 (k_L_law 24 43 rfl)
theorem dL_law_1580 : decode cL_law 1580 = .ok (.iload 4, 2) := dz_21 (k_L_law 24 44 rfl) (k_L_law 24 45 rfl)
theorem dL_law_1582 : decode cL_law 1582 = .ok (.iconst 1, 1) := dz_4 (k_L_law 24 46 rfl)
theorem dL_law_1583 : decode cL_law 1583 = .ok (.iadd, 1) := dz_96 (k_L_law 24 47 rfl)
theorem dL_law_1584 : decode cL_law 1584 = .ok (.iaload, 1) := dz_46 (k_L_law 24 48 rfl)
theorem dL_law_1585 : decode cL_law 1585 = .ok (.aload_n 0, 1) := dz_42 (k_L_law 24 49 rfl)
theorem dL_law_1586 : decode cL_law 1586 = .ok (.iload 4, 2) := dz_21 (k_L_law 24 50 rfl) (k_L_law 24 51 rfl)
theorem dL_law_1588 : decode cL_law 1588 = .ok (.iconst 2, 1) := dz_5 (k_L_law 24 52 rfl)
theorem dL_law_1589 : decode cL_law 1589 = .ok (.iadd, 1) := dz_96 (k_L_law 24 53 rfl)
theorem dL_law_1590 : decode cL_law 1590 = .ok (.iaload, 1) := dz_46 (k_L_law 24 54 rfl)
theorem dL_law_1591 : decode cL_law 1591 = .ok (.aload_n 3, 1) := dz_45 (k_L_law 24 55 rfl)
theorem dL_law_1592 : decode cL_law 1592 = .ok (.invokestatic 229, 3) := dz_184 (k_L_law 24 56 rfl) (k_L_law 24 57 rfl) (k_L_law 24 58 rfl) rfl
theorem dL_law_1595 : decode cL_law 1595 = .ok (.istore 5, 2) := dz_54 (k_L_law 24 59 rfl) (k_L_law 24 60 rfl)
theorem dL_law_1597 : decode cL_law 1597 = .ok (.aload_n 2, 1) := dz_44 (k_L_law 24 61 rfl)
theorem dL_law_1598 : decode cL_law 1598 = .ok (.aload_n 0, 1) := dz_42 (k_L_law 24 62 rfl)
theorem dL_law_1599 : decode cL_law 1599 = .ok (.iload 4, 2) := dz_21 (k_L_law 24 63 rfl) (k_L_law 25 0 rfl)
theorem dL_law_1601 : decode cL_law 1601 = .ok (.iconst 1, 1) := dz_4 (k_L_law 25 1 rfl)
theorem dL_law_1602 : decode cL_law 1602 = .ok (.iadd, 1) := dz_96 (k_L_law 25 2 rfl)
theorem dL_law_1603 : decode cL_law 1603 = .ok (.iaload, 1) := dz_46 (k_L_law 25 3 rfl)
theorem dL_law_1604 : decode cL_law 1604 = .ok (.aload_n 0, 1) := dz_42 (k_L_law 25 4 rfl)
theorem dL_law_1605 : decode cL_law 1605 = .ok (.iload 4, 2) := dz_21 (k_L_law 25 5 rfl) (k_L_law 25 6 rfl)
theorem dL_law_1607 : decode cL_law 1607 = .ok (.iconst 2, 1) := dz_5 (k_L_law 25 7 rfl)
theorem dL_law_1608 : decode cL_law 1608 = .ok (.iadd, 1) := dz_96 (k_L_law 25 8 rfl)
theorem dL_law_1609 : decode cL_law 1609 = .ok (.iaload, 1) := dz_46 (k_L_law 25 9 rfl)
theorem dL_law_1610 : decode cL_law 1610 = .ok (.invokevirtual 231, 3) := dz_182 (k_L_law 25 10 rfl) (k_L_law 25 11 rfl) (k_L_law 25 12 rfl) rfl
theorem dL_law_1613 : decode cL_law 1613 = .ok (.istore 6, 2) := dz_54 (k_L_law 25 13 rfl) (k_L_law 25 14 rfl)
theorem dL_law_1615 : decode cL_law 1615 = .ok (.aload_n 2, 1) := dz_44 (k_L_law 25 15 rfl)
theorem dL_law_1616 : decode cL_law 1616 = .ok (.invokevirtual 161, 3) := dz_182 (k_L_law 25 16 rfl) (k_L_law 25 17 rfl) (k_L_law 25 18 rfl) rfl
theorem dL_law_1619 : decode cL_law 1619 = .ok (.iload 5, 2) := dz_21 (k_L_law 25 19 rfl) (k_L_law 25 20 rfl)
theorem dL_law_1621 : decode cL_law 1621 = .ok (.if_icmp .eq 5, 3) := dz_159 (k_L_law 25 21 rfl) (k_L_law 25 22 rfl) (k_L_law 25 23 rfl) rfl
theorem dL_law_1624 : decode cL_law 1624 = .ok (.iconst 0, 1) := dz_3 (k_L_law 25 24 rfl)
theorem dL_law_1625 : decode cL_law 1625 = .ok (.ireturn, 1) := dz_172 (k_L_law 25 25 rfl)
theorem dL_law_1626 : decode cL_law 1626 = .ok (.iload 5, 2) := dz_21 (k_L_law 25 26 rfl) (k_L_law 25 27 rfl)
theorem dL_law_1628 : decode cL_law 1628 = .ok (.ifCond .ne 15, 3) := dz_154 (k_L_law 25 28 rfl) (k_L_law 25 29 rfl) (k_L_law 25 30 rfl) rfl
theorem dL_law_1631 : decode cL_law 1631 = .ok (.aload_n 3, 1) := dz_45 (k_L_law 25 31 rfl)
theorem dL_law_1632 : decode cL_law 1632 = .ok (.iconst 0, 1) := dz_3 (k_L_law 25 32 rfl)
theorem dL_law_1633 : decode cL_law 1633 = .ok (.laload, 1) := dz_47 (k_L_law 25 33 rfl)
theorem dL_law_1634 : decode cL_law 1634 = .ok (.iload 6, 2) := dz_21 (k_L_law 25 34 rfl) (k_L_law 25 35 rfl)
theorem dL_law_1636 : decode cL_law 1636 = .ok (.i2l, 1) := dz_133 (k_L_law 25 36 rfl)
theorem dL_law_1637 : decode cL_law 1637 = .ok (.lcmp, 1) := dz_148 (k_L_law 25 37 rfl)
theorem dL_law_1638 : decode cL_law 1638 = .ok (.ifCond .eq 5, 3) := dz_153 (k_L_law 25 38 rfl) (k_L_law 25 39 rfl) (k_L_law 25 40 rfl) rfl
theorem dL_law_1641 : decode cL_law 1641 = .ok (.iconst 0, 1) := dz_3 (k_L_law 25 41 rfl)
theorem dL_law_1642 : decode cL_law 1642 = .ok (.ireturn, 1) := dz_172 (k_L_law 25 42 rfl)
theorem dL_law_1643 : decode cL_law 1643 = .ok (.goto 1284, 3) := dz_167 (k_L_law 25 43 rfl) (k_L_law 25 44 rfl) (k_L_law 25 45 rfl) rfl
theorem dL_law_1646 : decode cL_law 1646 = .ok (.aload_n 1, 1) := dz_43 (k_L_law 25 46 rfl)
theorem dL_law_1647 : decode cL_law 1647 = .ok (.aload_n 0, 1) := dz_42 (k_L_law 25 47 rfl)
theorem dL_law_1648 : decode cL_law 1648 = .ok (.iload 4, 2) := dz_21 (k_L_law 25 48 rfl) (k_L_law 25 49 rfl)
theorem dL_law_1650 : decode cL_law 1650 = .ok (.iconst 1, 1) := dz_4 (k_L_law 25 50 rfl)
theorem dL_law_1651 : decode cL_law 1651 = .ok (.iadd, 1) := dz_96 (k_L_law 25 51 rfl)
theorem dL_law_1652 : decode cL_law 1652 = .ok (.iaload, 1) := dz_46 (k_L_law 25 52 rfl)
theorem dL_law_1653 : decode cL_law 1653 = .ok (.aload_n 0, 1) := dz_42 (k_L_law 25 53 rfl)
theorem dL_law_1654 : decode cL_law 1654 = .ok (.iload 4, 2) := dz_21 (k_L_law 25 54 rfl) (k_L_law 25 55 rfl)
theorem dL_law_1656 : decode cL_law 1656 = .ok (.iconst 2, 1) := dz_5 (k_L_law 25 56 rfl)
theorem dL_law_1657 : decode cL_law 1657 = .ok (.iadd, 1) := dz_96 (k_L_law 25 57 rfl)
theorem dL_law_1658 : decode cL_law 1658 = .ok (.iaload, 1) := dz_46 (k_L_law 25 58 rfl)
theorem dL_law_1659 : decode cL_law 1659 = .ok (.aload_n 0, 1) := dz_42 (k_L_law 25 59 rfl)
theorem dL_law_1660 : decode cL_law 1660 = .ok (.iload 4, 2) := dz_21 (k_L_law 25 60 rfl) (k_L_law 25 61 rfl)
theorem dL_law_1662 : decode cL_law 1662 = .ok (.iconst 3, 1) := dz_6 (k_L_law 25 62 rfl)
theorem dL_law_1663 : decode cL_law 1663 = .ok (.iadd, 1) := dz_96 (k_L_law 25 63 rfl)
theorem dL_law_1664 : decode cL_law 1664 = .ok (.iaload, 1) := dz_46 (k_L_law 26 0 rfl)
theorem dL_law_1665 : decode cL_law 1665 = .ok (.aload_n 3, 1) := dz_45 (k_L_law 26 1 rfl)
theorem dL_law_1666 : decode cL_law 1666 = .ok (.invokestatic 232, 3) := dz_184 (k_L_law 26 2 rfl) (k_L_law 26 3 rfl) (k_L_law 26 4 rfl) rfl
theorem dL_law_1669 : decode cL_law 1669 = .ok (.istore 5, 2) := dz_54 (k_L_law 26 5 rfl) (k_L_law 26 6 rfl)
theorem dL_law_1671 : decode cL_law 1671 = .ok (.aload_n 2, 1) := dz_44 (k_L_law 26 7 rfl)
theorem dL_law_1672 : decode cL_law 1672 = .ok (.aload_n 0, 1) := dz_42 (k_L_law 26 8 rfl)
theorem dL_law_1673 : decode cL_law 1673 = .ok (.iload 4, 2) := dz_21 (k_L_law 26 9 rfl) (k_L_law 26 10 rfl)
theorem dL_law_1675 : decode cL_law 1675 = .ok (.iconst 1, 1) := dz_4 (k_L_law 26 11 rfl)
theorem dL_law_1676 : decode cL_law 1676 = .ok (.iadd, 1) := dz_96 (k_L_law 26 12 rfl)
theorem dL_law_1677 : decode cL_law 1677 = .ok (.iaload, 1) := dz_46 (k_L_law 26 13 rfl)
theorem dL_law_1678 : decode cL_law 1678 = .ok (.aload_n 0, 1) := dz_42 (k_L_law 26 14 rfl)
theorem dL_law_1679 : decode cL_law 1679 = .ok (.iload 4, 2) := dz_21 (k_L_law 26 15 rfl) (k_L_law 26 16 rfl)
theorem dL_law_1681 : decode cL_law 1681 = .ok (.iconst 2, 1) := dz_5 (k_L_law 26 17 rfl)
theorem dL_law_1682 : decode cL_law 1682 = .ok (.iadd, 1) := dz_96 (k_L_law 26 18 rfl)
theorem dL_law_1683 : decode cL_law 1683 = .ok (.iaload, 1) := dz_46 (k_L_law 26 19 rfl)
theorem dL_law_1684 : decode cL_law 1684 = .ok (.aload_n 0, 1) := dz_42 (k_L_law 26 20 rfl)
theorem dL_law_1685 : decode cL_law 1685 = .ok (.iload 4, 2) := dz_21 (k_L_law 26 21 rfl) (k_L_law 26 22 rfl)
theorem dL_law_1687 : decode cL_law 1687 = .ok (.iconst 3, 1) := dz_6 (k_L_law 26 23 rfl)
theorem dL_law_1688 : decode cL_law 1688 = .ok (.iadd, 1) := dz_96 (k_L_law 26 24 rfl)
theorem dL_law_1689 : decode cL_law 1689 = .ok (.iaload, 1) := dz_46 (k_L_law 26 25 rfl)
theorem dL_law_1690 : decode cL_law 1690 = .ok (.invokevirtual 234, 3) := dz_182 (k_L_law 26 26 rfl) (k_L_law 26 27 rfl) (k_L_law 26 28 rfl) rfl
theorem dL_law_1693 : decode cL_law 1693 = .ok (.istore 6, 2) := dz_54 (k_L_law 26 29 rfl) (k_L_law 26 30 rfl)
theorem dL_law_1695 : decode cL_law 1695 = .ok (.aload_n 2, 1) := dz_44 (k_L_law 26 31 rfl)
theorem dL_law_1696 : decode cL_law 1696 = .ok (.invokevirtual 161, 3) := dz_182 (k_L_law 26 32 rfl) (k_L_law 26 33 rfl) (k_L_law 26 34 rfl) rfl
theorem dL_law_1699 : decode cL_law 1699 = .ok (.iload 5, 2) := dz_21 (k_L_law 26 35 rfl) (k_L_law 26 36 rfl)
theorem dL_law_1701 : decode cL_law 1701 = .ok (.if_icmp .eq 5, 3) := dz_159 (k_L_law 26 37 rfl) (k_L_law 26 38 rfl) (k_L_law 26 39 rfl) rfl
theorem dL_law_1704 : decode cL_law 1704 = .ok (.iconst 0, 1) := dz_3 (k_L_law 26 40 rfl)
theorem dL_law_1705 : decode cL_law 1705 = .ok (.ireturn, 1) := dz_172 (k_L_law 26 41 rfl)
theorem dL_law_1706 : decode cL_law 1706 = .ok (.iload 5, 2) := dz_21 (k_L_law 26 42 rfl) (k_L_law 26 43 rfl)
theorem dL_law_1708 : decode cL_law 1708 = .ok (.ifCond .ne 15, 3) := dz_154 (k_L_law 26 44 rfl) (k_L_law 26 45 rfl) (k_L_law 26 46 rfl) rfl
theorem dL_law_1711 : decode cL_law 1711 = .ok (.aload_n 3, 1) := dz_45 (k_L_law 26 47 rfl)
theorem dL_law_1712 : decode cL_law 1712 = .ok (.iconst 0, 1) := dz_3 (k_L_law 26 48 rfl)
theorem dL_law_1713 : decode cL_law 1713 = .ok (.laload, 1) := dz_47 (k_L_law 26 49 rfl)
theorem dL_law_1714 : decode cL_law 1714 = .ok (.iload 6, 2) := dz_21 (k_L_law 26 50 rfl) (k_L_law 26 51 rfl)
theorem dL_law_1716 : decode cL_law 1716 = .ok (.i2l, 1) := dz_133 (k_L_law 26 52 rfl)
theorem dL_law_1717 : decode cL_law 1717 = .ok (.lcmp, 1) := dz_148 (k_L_law 26 53 rfl)
theorem dL_law_1718 : decode cL_law 1718 = .ok (.ifCond .eq 5, 3) := dz_153 (k_L_law 26 54 rfl) (k_L_law 26 55 rfl) (k_L_law 26 56 rfl) rfl
theorem dL_law_1721 : decode cL_law 1721 = .ok (.iconst 0, 1) := dz_3 (k_L_law 26 57 rfl)
theorem dL_law_1722 : decode cL_law 1722 = .ok (.ireturn, 1) := dz_172 (k_L_law 26 58 rfl)
theorem dL_law_1723 : decode cL_law 1723 = .ok (.goto 1204, 3) := dz_167 (k_L_law 26 59 rfl) (k_L_law 26 60 rfl) (k_L_law 26 61 rfl) rfl
theorem dL_law_1726 : decode cL_law 1726 = .ok (.aload_n 1, 1) := dz_43 (k_L_law 26 62 rfl)
theorem dL_law_1727 : decode cL_law 1727 = .ok (.aload_n 0, 1) := dz_42 (k_L_law 26 63 rfl)
theorem dL_law_1728 : decode cL_law 1728 = .ok (.iload 4, 2) := dz_21 (k_L_law 27 0 rfl) (k_L_law 27 1 rfl)
theorem dL_law_1730 : decode cL_law 1730 = .ok (.iconst 1, 1) := dz_4 (k_L_law 27 2 rfl)
theorem dL_law_1731 : decode cL_law 1731 = .ok (.iadd, 1) := dz_96 (k_L_law 27 3 rfl)
theorem dL_law_1732 : decode cL_law 1732 = .ok (.iaload, 1) := dz_46 (k_L_law 27 4 rfl)
theorem dL_law_1733 : decode cL_law 1733 = .ok (.aload_n 0, 1) := dz_42 (k_L_law 27 5 rfl)
theorem dL_law_1734 : decode cL_law 1734 = .ok (.iload 4, 2) := dz_21 (k_L_law 27 6 rfl) (k_L_law 27 7 rfl)
theorem dL_law_1736 : decode cL_law 1736 = .ok (.iconst 2, 1) := dz_5 (k_L_law 27 8 rfl)
theorem dL_law_1737 : decode cL_law 1737 = .ok (.iadd, 1) := dz_96 (k_L_law 27 9 rfl)
theorem dL_law_1738 : decode cL_law 1738 = .ok (.iaload, 1) := dz_46 (k_L_law 27 10 rfl)
theorem dL_law_1739 : decode cL_law 1739 = .ok (.aload_n 0, 1) := dz_42 (k_L_law 27 11 rfl)
theorem dL_law_1740 : decode cL_law 1740 = .ok (.iload 4, 2) := dz_21 (k_L_law 27 12 rfl) (k_L_law 27 13 rfl)
theorem dL_law_1742 : decode cL_law 1742 = .ok (.iconst 3, 1) := dz_6 (k_L_law 27 14 rfl)
theorem dL_law_1743 : decode cL_law 1743 = .ok (.iadd, 1) := dz_96 (k_L_law 27 15 rfl)
theorem dL_law_1744 : decode cL_law 1744 = .ok (.iaload, 1) := dz_46 (k_L_law 27 16 rfl)
theorem dL_law_1745 : decode cL_law 1745 = .ok (.aload_n 3, 1) := dz_45 (k_L_law 27 17 rfl)
theorem dL_law_1746 : decode cL_law 1746 = .ok (.invokestatic 235, 3) := dz_184 (k_L_law 27 18 rfl) (k_L_law 27 19 rfl) (k_L_law 27 20 rfl) rfl
theorem dL_law_1749 : decode cL_law 1749 = .ok (.istore 5, 2) := dz_54 (k_L_law 27 21 rfl) (k_L_law 27 22 rfl)
theorem dL_law_1751 : decode cL_law 1751 = .ok (.aload_n 2, 1) := dz_44 (k_L_law 27 23 rfl)
theorem dL_law_1752 : decode cL_law 1752 = .ok (.aload_n 0, 1) := dz_42 (k_L_law 27 24 rfl)
theorem dL_law_1753 : decode cL_law 1753 = .ok (.iload 4, 2) := dz_21 (k_L_law 27 25 rfl) (k_L_law 27 26 rfl)
theorem dL_law_1755 : decode cL_law 1755 = .ok (.iconst 1, 1) := dz_4 (k_L_law 27 27 rfl)
theorem dL_law_1756 : decode cL_law 1756 = .ok (.iadd, 1) := dz_96 (k_L_law 27 28 rfl)
theorem dL_law_1757 : decode cL_law 1757 = .ok (.iaload, 1) := dz_46 (k_L_law 27 29 rfl)
theorem dL_law_1758 : decode cL_law 1758 = .ok (.aload_n 0, 1) := dz_42 (k_L_law 27 30 rfl)
theorem dL_law_1759 : decode cL_law 1759 = .ok (.iload 4, 2) := dz_21 (k_L_law 27 31 rfl) (k_L_law 27 32 rfl)
theorem dL_law_1761 : decode cL_law 1761 = .ok (.iconst 2, 1) := dz_5 (k_L_law 27 33 rfl)
theorem dL_law_1762 : decode cL_law 1762 = .ok (.iadd, 1) := dz_96 (k_L_law 27 34 rfl)
theorem dL_law_1763 : decode cL_law 1763 = .ok (.iaload, 1) := dz_46 (k_L_law 27 35 rfl)
theorem dL_law_1764 : decode cL_law 1764 = .ok (.aload_n 0, 1) := dz_42 (k_L_law 27 36 rfl)
theorem dL_law_1765 : decode cL_law 1765 = .ok (.iload 4, 2) := dz_21 (k_L_law 27 37 rfl) (k_L_law 27 38 rfl)
theorem dL_law_1767 : decode cL_law 1767 = .ok (.iconst 3, 1) := dz_6 (k_L_law 27 39 rfl)
theorem dL_law_1768 : decode cL_law 1768 = .ok (.iadd, 1) := dz_96 (k_L_law 27 40 rfl)
theorem dL_law_1769 : decode cL_law 1769 = .ok (.iaload, 1) := dz_46 (k_L_law 27 41 rfl)
theorem dL_law_1770 : decode cL_law 1770 = .ok (.invokevirtual 237, 3) := dz_182 (k_L_law 27 42 rfl) (k_L_law 27 43 rfl) (k_L_law 27 44 rfl) rfl
theorem dL_law_1773 : decode cL_law 1773 = .ok (.istore 6, 2) := dz_54 (k_L_law 27 45 rfl) (k_L_law 27 46 rfl)
theorem dL_law_1775 : decode cL_law 1775 = .ok (.aload_n 2, 1) := dz_44 (k_L_law 27 47 rfl)
theorem dL_law_1776 : decode cL_law 1776 = .ok (.invokevirtual 161, 3) := dz_182 (k_L_law 27 48 rfl) (k_L_law 27 49 rfl) (k_L_law 27 50 rfl) rfl
theorem dL_law_1779 : decode cL_law 1779 = .ok (.iload 5, 2) := dz_21 (k_L_law 27 51 rfl) (k_L_law 27 52 rfl)
theorem dL_law_1781 : decode cL_law 1781 = .ok (.if_icmp .eq 5, 3) := dz_159 (k_L_law 27 53 rfl) (k_L_law 27 54 rfl) (k_L_law 27 55 rfl) rfl
theorem dL_law_1784 : decode cL_law 1784 = .ok (.iconst 0, 1) := dz_3 (k_L_law 27 56 rfl)
theorem dL_law_1785 : decode cL_law 1785 = .ok (.ireturn, 1) := dz_172 (k_L_law 27 57 rfl)
theorem dL_law_1786 : decode cL_law 1786 = .ok (.iload 5, 2) := dz_21 (k_L_law 27 58 rfl) (k_L_law 27 59 rfl)
theorem dL_law_1788 : decode cL_law 1788 = .ok (.ifCond .ne 15, 3) := dz_154 (k_L_law 27 60 rfl) (k_L_law 27 61 rfl) (k_L_law 27 62 rfl) rfl
theorem dL_law_1791 : decode cL_law 1791 = .ok (.aload_n 3, 1) := dz_45 (k_L_law 27 63 rfl)
theorem dL_law_1792 : decode cL_law 1792 = .ok (.iconst 0, 1) := dz_3 (k_L_law 28 0 rfl)
theorem dL_law_1793 : decode cL_law 1793 = .ok (.laload, 1) := dz_47 (k_L_law 28 1 rfl)
theorem dL_law_1794 : decode cL_law 1794 = .ok (.iload 6, 2) := dz_21 (k_L_law 28 2 rfl) (k_L_law 28 3 rfl)
theorem dL_law_1796 : decode cL_law 1796 = .ok (.i2l, 1) := dz_133 (k_L_law 28 4 rfl)
theorem dL_law_1797 : decode cL_law 1797 = .ok (.lcmp, 1) := dz_148 (k_L_law 28 5 rfl)
theorem dL_law_1798 : decode cL_law 1798 = .ok (.ifCond .eq 5, 3) := dz_153 (k_L_law 28 6 rfl) (k_L_law 28 7 rfl) (k_L_law 28 8 rfl) rfl
theorem dL_law_1801 : decode cL_law 1801 = .ok (.iconst 0, 1) := dz_3 (k_L_law 28 9 rfl)
theorem dL_law_1802 : decode cL_law 1802 = .ok (.ireturn, 1) := dz_172 (k_L_law 28 10 rfl)
theorem dL_law_1803 : decode cL_law 1803 = .ok (.goto 1124, 3) := dz_167 (k_L_law 28 11 rfl) (k_L_law 28 12 rfl) (k_L_law 28 13 rfl) rfl
theorem dL_law_1806 : decode cL_law 1806 = .ok (.aload_n 1, 1) := dz_43 (k_L_law 28 14 rfl)
theorem dL_law_1807 : decode cL_law 1807 = .ok (.aload_n 0, 1) := dz_42 (k_L_law 28 15 rfl)
theorem dL_law_1808 : decode cL_law 1808 = .ok (.iload 4, 2) := dz_21 (k_L_law 28 16 rfl) (k_L_law 28 17 rfl)
theorem dL_law_1810 : decode cL_law 1810 = .ok (.iconst 1, 1) := dz_4 (k_L_law 28 18 rfl)
theorem dL_law_1811 : decode cL_law 1811 = .ok (.iadd, 1) := dz_96 (k_L_law 28 19 rfl)
theorem dL_law_1812 : decode cL_law 1812 = .ok (.iaload, 1) := dz_46 (k_L_law 28 20 rfl)
theorem dL_law_1813 : decode cL_law 1813 = .ok (.aload_n 0, 1) := dz_42 (k_L_law 28 21 rfl)
theorem dL_law_1814 : decode cL_law 1814 = .ok (.iload 4, 2) := dz_21 (k_L_law 28 22 rfl) (k_L_law 28 23 rfl)
theorem dL_law_1816 : decode cL_law 1816 = .ok (.iconst 2, 1) := dz_5 (k_L_law 28 24 rfl)
theorem dL_law_1817 : decode cL_law 1817 = .ok (.iadd, 1) := dz_96 (k_L_law 28 25 rfl)
theorem dL_law_1818 : decode cL_law 1818 = .ok (.iaload, 1) := dz_46 (k_L_law 28 26 rfl)
theorem dL_law_1819 : decode cL_law 1819 = .ok (.aload_n 3, 1) := dz_45 (k_L_law 28 27 rfl)
theorem dL_law_1820 : decode cL_law 1820 = .ok (.invokestatic 238, 3) := dz_184 (k_L_law 28 28 rfl) (k_L_law 28 29 rfl) (k_L_law 28 30 rfl) rfl
theorem dL_law_1823 : decode cL_law 1823 = .ok (.istore 5, 2) := dz_54 (k_L_law 28 31 rfl) (k_L_law 28 32 rfl)
theorem dL_law_1825 : decode cL_law 1825 = .ok (.aload_n 2, 1) := dz_44 (k_L_law 28 33 rfl)
theorem dL_law_1826 : decode cL_law 1826 = .ok (.aload_n 0, 1) := dz_42 (k_L_law 28 34 rfl)
theorem dL_law_1827 : decode cL_law 1827 = .ok (.iload 4, 2) := dz_21 (k_L_law 28 35 rfl) (k_L_law 28 36 rfl)
theorem dL_law_1829 : decode cL_law 1829 = .ok (.iconst 1, 1) := dz_4 (k_L_law 28 37 rfl)
theorem dL_law_1830 : decode cL_law 1830 = .ok (.iadd, 1) := dz_96 (k_L_law 28 38 rfl)
theorem dL_law_1831 : decode cL_law 1831 = .ok (.iaload, 1) := dz_46 (k_L_law 28 39 rfl)
theorem dL_law_1832 : decode cL_law 1832 = .ok (.aload_n 0, 1) := dz_42 (k_L_law 28 40 rfl)
theorem dL_law_1833 : decode cL_law 1833 = .ok (.iload 4, 2) := dz_21 (k_L_law 28 41 rfl) (k_L_law 28 42 rfl)
theorem dL_law_1835 : decode cL_law 1835 = .ok (.iconst 2, 1) := dz_5 (k_L_law 28 43 rfl)
theorem dL_law_1836 : decode cL_law 1836 = .ok (.iadd, 1) := dz_96 (k_L_law 28 44 rfl)
theorem dL_law_1837 : decode cL_law 1837 = .ok (.iaload, 1) := dz_46 (k_L_law 28 45 rfl)
theorem dL_law_1838 : decode cL_law 1838 = .ok (.invokevirtual 240, 3) := dz_182 (k_L_law 28 46 rfl) (k_L_law 28 47 rfl) (k_L_law 28 48 rfl) rfl
theorem dL_law_1841 : decode cL_law 1841 = .ok (.istore 6, 2) := dz_54 (k_L_law 28 49 rfl) (k_L_law 28 50 rfl)
theorem dL_law_1843 : decode cL_law 1843 = .ok (.aload_n 2, 1) := dz_44 (k_L_law 28 51 rfl)
theorem dL_law_1844 : decode cL_law 1844 = .ok (.invokevirtual 161, 3) := dz_182 (k_L_law 28 52 rfl) (k_L_law 28 53 rfl) (k_L_law 28 54 rfl) rfl
theorem dL_law_1847 : decode cL_law 1847 = .ok (.iload 5, 2) := dz_21 (k_L_law 28 55 rfl) (k_L_law 28 56 rfl)
theorem dL_law_1849 : decode cL_law 1849 = .ok (.if_icmp .eq 5, 3) := dz_159 (k_L_law 28 57 rfl) (k_L_law 28 58 rfl) (k_L_law 28 59 rfl) rfl
theorem dL_law_1852 : decode cL_law 1852 = .ok (.iconst 0, 1) := dz_3 (k_L_law 28 60 rfl)
theorem dL_law_1853 : decode cL_law 1853 = .ok (.ireturn, 1) := dz_172 (k_L_law 28 61 rfl)
theorem dL_law_1854 : decode cL_law 1854 = .ok (.iload 5, 2) := dz_21 (k_L_law 28 62 rfl) (k_L_law 28 63 rfl)
theorem dL_law_1856 : decode cL_law 1856 = .ok (.ifCond .ne 15, 3) := dz_154 (k_L_law 29 0 rfl) (k_L_law 29 1 rfl) (k_L_law 29 2 rfl) rfl
theorem dL_law_1859 : decode cL_law 1859 = .ok (.aload_n 3, 1) := dz_45 (k_L_law 29 3 rfl)
theorem dL_law_1860 : decode cL_law 1860 = .ok (.iconst 0, 1) := dz_3 (k_L_law 29 4 rfl)
theorem dL_law_1861 : decode cL_law 1861 = .ok (.laload, 1) := dz_47 (k_L_law 29 5 rfl)
theorem dL_law_1862 : decode cL_law 1862 = .ok (.iload 6, 2) := dz_21 (k_L_law 29 6 rfl) (k_L_law 29 7 rfl)
theorem dL_law_1864 : decode cL_law 1864 = .ok (.i2l, 1) := dz_133 (k_L_law 29 8 rfl)
theorem dL_law_1865 : decode cL_law 1865 = .ok (.lcmp, 1) := dz_148 (k_L_law 29 9 rfl)
theorem dL_law_1866 : decode cL_law 1866 = .ok (.ifCond .eq 5, 3) := dz_153 (k_L_law 29 10 rfl) (k_L_law 29 11 rfl) (k_L_law 29 12 rfl) rfl
theorem dL_law_1869 : decode cL_law 1869 = .ok (.iconst 0, 1) := dz_3 (k_L_law 29 13 rfl)
theorem dL_law_1870 : decode cL_law 1870 = .ok (.ireturn, 1) := dz_172 (k_L_law 29 14 rfl)
theorem dL_law_1871 : decode cL_law 1871 = .ok (.goto 1056, 3) := dz_167 (k_L_law 29 15 rfl) (k_L_law 29 16 rfl) (k_L_law 29 17 rfl) rfl
theorem dL_law_1874 : decode cL_law 1874 = .ok (.aload_n 1, 1) := dz_43 (k_L_law 29 18 rfl)
theorem dL_law_1875 : decode cL_law 1875 = .ok (.aload_n 0, 1) := dz_42 (k_L_law 29 19 rfl)
theorem dL_law_1876 : decode cL_law 1876 = .ok (.iload 4, 2) := dz_21 (k_L_law 29 20 rfl) (k_L_law 29 21 rfl)
theorem dL_law_1878 : decode cL_law 1878 = .ok (.iconst 1, 1) := dz_4 (k_L_law 29 22 rfl)
theorem dL_law_1879 : decode cL_law 1879 = .ok (.iadd, 1) := dz_96 (k_L_law 29 23 rfl)
theorem dL_law_1880 : decode cL_law 1880 = .ok (.iaload, 1) := dz_46 (k_L_law 29 24 rfl)
theorem dL_law_1881 : decode cL_law 1881 = .ok (.aload_n 0, 1) := dz_42 (k_L_law 29 25 rfl)
theorem dL_law_1882 : decode cL_law 1882 = .ok (.iload 4, 2) := dz_21 (k_L_law 29 26 rfl) (k_L_law 29 27 rfl)
theorem dL_law_1884 : decode cL_law 1884 = .ok (.iconst 2, 1) := dz_5 (k_L_law 29 28 rfl)
theorem dL_law_1885 : decode cL_law 1885 = .ok (.iadd, 1) := dz_96 (k_L_law 29 29 rfl)
theorem dL_law_1886 : decode cL_law 1886 = .ok (.iaload, 1) := dz_46 (k_L_law 29 30 rfl)
theorem dL_law_1887 : decode cL_law 1887 = .ok (.aload_n 0, 1) := dz_42 (k_L_law 29 31 rfl)
theorem dL_law_1888 : decode cL_law 1888 = .ok (.iload 4, 2) := dz_21 (k_L_law 29 32 rfl) (k_L_law 29 33 rfl)
theorem dL_law_1890 : decode cL_law 1890 = .ok (.iconst 3, 1) := dz_6 (k_L_law 29 34 rfl)
theorem dL_law_1891 : decode cL_law 1891 = .ok (.iadd, 1) := dz_96 (k_L_law 29 35 rfl)
theorem dL_law_1892 : decode cL_law 1892 = .ok (.iaload, 1) := dz_46 (k_L_law 29 36 rfl)
theorem dL_law_1893 : decode cL_law 1893 = .ok (.aload_n 3, 1) := dz_45 (k_L_law 29 37 rfl)
theorem dL_law_1894 : decode cL_law 1894 = .ok (.invokestatic 241, 3) := dz_184 (k_L_law 29 38 rfl) (k_L_law 29 39 rfl) (k_L_law 29 40 rfl) rfl
theorem dL_law_1897 : decode cL_law 1897 = .ok (.istore 5, 2) := dz_54 (k_L_law 29 41 rfl) (k_L_law 29 42 rfl)
theorem dL_law_1899 : decode cL_law 1899 = .ok (.aload_n 2, 1) := dz_44 (k_L_law 29 43 rfl)
theorem dL_law_1900 : decode cL_law 1900 = .ok (.aload_n 0, 1) := dz_42 (k_L_law 29 44 rfl)
theorem dL_law_1901 : decode cL_law 1901 = .ok (.iload 4, 2) := dz_21 (k_L_law 29 45 rfl) (k_L_law 29 46 rfl)
theorem dL_law_1903 : decode cL_law 1903 = .ok (.iconst 1, 1) := dz_4 (k_L_law 29 47 rfl)
theorem dL_law_1904 : decode cL_law 1904 = .ok (.iadd, 1) := dz_96 (k_L_law 29 48 rfl)
theorem dL_law_1905 : decode cL_law 1905 = .ok (.iaload, 1) := dz_46 (k_L_law 29 49 rfl)
theorem dL_law_1906 : decode cL_law 1906 = .ok (.aload_n 0, 1) := dz_42 (k_L_law 29 50 rfl)
theorem dL_law_1907 : decode cL_law 1907 = .ok (.iload 4, 2) := dz_21 (k_L_law 29 51 rfl) (k_L_law 29 52 rfl)
theorem dL_law_1909 : decode cL_law 1909 = .ok (.iconst 2, 1) := dz_5 (k_L_law 29 53 rfl)
theorem dL_law_1910 : decode cL_law 1910 = .ok (.iadd, 1) := dz_96 (k_L_law 29 54 rfl)
theorem dL_law_1911 : decode cL_law 1911 = .ok (.iaload, 1) := dz_46 (k_L_law 29 55 rfl)
theorem dL_law_1912 : decode cL_law 1912 = .ok (.aload_n 0, 1) := dz_42 (k_L_law 29 56 rfl)
theorem dL_law_1913 : decode cL_law 1913 = .ok (.iload 4, 2) := dz_21 (k_L_law 29 57 rfl) (k_L_law 29 58 rfl)
theorem dL_law_1915 : decode cL_law 1915 = .ok (.iconst 3, 1) := dz_6 (k_L_law 29 59 rfl)
theorem dL_law_1916 : decode cL_law 1916 = .ok (.iadd, 1) := dz_96 (k_L_law 29 60 rfl)
theorem dL_law_1917 : decode cL_law 1917 = .ok (.iaload, 1) := dz_46 (k_L_law 29 61 rfl)
theorem dL_law_1918 : decode cL_law 1918 = .ok (.invokevirtual 243, 3) := dz_182 (k_L_law 29 62 rfl) (k_L_law 29 63 rfl) (k_L_law 30 0 rfl) rfl
theorem dL_law_1921 : decode cL_law 1921 = .ok (.istore 6, 2) := dz_54 (k_L_law 30 1 rfl) (k_L_law 30 2 rfl)
theorem dL_law_1923 : decode cL_law 1923 = .ok (.aload_n 2, 1) := dz_44 (k_L_law 30 3 rfl)
theorem dL_law_1924 : decode cL_law 1924 = .ok (.invokevirtual 161, 3) := dz_182 (k_L_law 30 4 rfl) (k_L_law 30 5 rfl) (k_L_law 30 6 rfl) rfl
theorem dL_law_1927 : decode cL_law 1927 = .ok (.iload 5, 2) := dz_21 (k_L_law 30 7 rfl) (k_L_law 30 8 rfl)
theorem dL_law_1929 : decode cL_law 1929 = .ok (.if_icmp .eq 5, 3) := dz_159 (k_L_law 30 9 rfl) (k_L_law 30 10 rfl) (k_L_law 30 11 rfl) rfl
theorem dL_law_1932 : decode cL_law 1932 = .ok (.iconst 0, 1) := dz_3 (k_L_law 30 12 rfl)
theorem dL_law_1933 : decode cL_law 1933 = .ok (.ireturn, 1) := dz_172 (k_L_law 30 13 rfl)
theorem dL_law_1934 : decode cL_law 1934 = .ok (.iload 5, 2) := dz_21 (k_L_law 30 14 rfl) (k_L_law 30 15 rfl)
theorem dL_law_1936 : decode cL_law 1936 = .ok (.ifCond .ne 15, 3) := dz_154 (k_L_law 30 16 rfl) (k_L_law 30 17 rfl) (k_L_law 30 18 rfl) rfl
theorem dL_law_1939 : decode cL_law 1939 = .ok (.aload_n 3, 1) := dz_45 (k_L_law 30 19 rfl)
theorem dL_law_1940 : decode cL_law 1940 = .ok (.iconst 0, 1) := dz_3 (k_L_law 30 20 rfl)
theorem dL_law_1941 : decode cL_law 1941 = .ok (.laload, 1) := dz_47 (k_L_law 30 21 rfl)
theorem dL_law_1942 : decode cL_law 1942 = .ok (.iload 6, 2) := dz_21 (k_L_law 30 22 rfl) (k_L_law 30 23 rfl)
theorem dL_law_1944 : decode cL_law 1944 = .ok (.i2l, 1) := dz_133 (k_L_law 30 24 rfl)
theorem dL_law_1945 : decode cL_law 1945 = .ok (.lcmp, 1) := dz_148 (k_L_law 30 25 rfl)
theorem dL_law_1946 : decode cL_law 1946 = .ok (.ifCond .eq 5, 3) := dz_153 (k_L_law 30 26 rfl) (k_L_law 30 27 rfl) (k_L_law 30 28 rfl) rfl
theorem dL_law_1949 : decode cL_law 1949 = .ok (.iconst 0, 1) := dz_3 (k_L_law 30 29 rfl)
theorem dL_law_1950 : decode cL_law 1950 = .ok (.ireturn, 1) := dz_172 (k_L_law 30 30 rfl)
theorem dL_law_1951 : decode cL_law 1951 = .ok (.goto 976, 3) := dz_167 (k_L_law 30 31 rfl) (k_L_law 30 32 rfl) (k_L_law 30 33 rfl) rfl
theorem dL_law_1954 : decode cL_law 1954 = .ok (.aload_n 1, 1) := dz_43 (k_L_law 30 34 rfl)
theorem dL_law_1955 : decode cL_law 1955 = .ok (.aload_n 0, 1) := dz_42 (k_L_law 30 35 rfl)
theorem dL_law_1956 : decode cL_law 1956 = .ok (.iload 4, 2) := dz_21 (k_L_law 30 36 rfl) (k_L_law 30 37 rfl)
theorem dL_law_1958 : decode cL_law 1958 = .ok (.iconst 1, 1) := dz_4 (k_L_law 30 38 rfl)
theorem dL_law_1959 : decode cL_law 1959 = .ok (.iadd, 1) := dz_96 (k_L_law 30 39 rfl)
theorem dL_law_1960 : decode cL_law 1960 = .ok (.iaload, 1) := dz_46 (k_L_law 30 40 rfl)
theorem dL_law_1961 : decode cL_law 1961 = .ok (.aload_n 0, 1) := dz_42 (k_L_law 30 41 rfl)
theorem dL_law_1962 : decode cL_law 1962 = .ok (.iload 4, 2) := dz_21 (k_L_law 30 42 rfl) (k_L_law 30 43 rfl)
theorem dL_law_1964 : decode cL_law 1964 = .ok (.iconst 2, 1) := dz_5 (k_L_law 30 44 rfl)
theorem dL_law_1965 : decode cL_law 1965 = .ok (.iadd, 1) := dz_96 (k_L_law 30 45 rfl)
theorem dL_law_1966 : decode cL_law 1966 = .ok (.iaload, 1) := dz_46 (k_L_law 30 46 rfl)
theorem dL_law_1967 : decode cL_law 1967 = .ok (.aload_n 0, 1) := dz_42 (k_L_law 30 47 rfl)
theorem dL_law_1968 : decode cL_law 1968 = .ok (.iload 4, 2) := dz_21 (k_L_law 30 48 rfl) (k_L_law 30 49 rfl)
theorem dL_law_1970 : decode cL_law 1970 = .ok (.iconst 3, 1) := dz_6 (k_L_law 30 50 rfl)
theorem dL_law_1971 : decode cL_law 1971 = .ok (.iadd, 1) := dz_96 (k_L_law 30 51 rfl)
theorem dL_law_1972 : decode cL_law 1972 = .ok (.iaload, 1) := dz_46 (k_L_law 30 52 rfl)
theorem dL_law_1973 : decode cL_law 1973 = .ok (.aload_n 3, 1) := dz_45 (k_L_law 30 53 rfl)
theorem dL_law_1974 : decode cL_law 1974 = .ok (.invokestatic 244, 3) := dz_184 (k_L_law 30 54 rfl) (k_L_law 30 55 rfl) (k_L_law 30 56 rfl) rfl
theorem dL_law_1977 : decode cL_law 1977 = .ok (.istore 5, 2) := dz_54 (k_L_law 30 57 rfl) (k_L_law 30 58 rfl)
theorem dL_law_1979 : decode cL_law 1979 = .ok (.aload_n 2, 1) := dz_44 (k_L_law 30 59 rfl)
theorem dL_law_1980 : decode cL_law 1980 = .ok (.aload_n 0, 1) := dz_42 (k_L_law 30 60 rfl)
theorem dL_law_1981 : decode cL_law 1981 = .ok (.iload 4, 2) := dz_21 (k_L_law 30 61 rfl) (k_L_law 30 62 rfl)
theorem dL_law_1983 : decode cL_law 1983 = .ok (.iconst 1, 1) := dz_4 (k_L_law 30 63 rfl)
theorem dL_law_1984 : decode cL_law 1984 = .ok (.iadd, 1) := dz_96 (k_L_law 31 0 rfl)
theorem dL_law_1985 : decode cL_law 1985 = .ok (.iaload, 1) := dz_46 (k_L_law 31 1 rfl)
theorem dL_law_1986 : decode cL_law 1986 = .ok (.aload_n 0, 1) := dz_42 (k_L_law 31 2 rfl)
theorem dL_law_1987 : decode cL_law 1987 = .ok (.iload 4, 2) := dz_21 (k_L_law 31 3 rfl) (k_L_law 31 4 rfl)
theorem dL_law_1989 : decode cL_law 1989 = .ok (.iconst 2, 1) := dz_5 (k_L_law 31 5 rfl)
theorem dL_law_1990 : decode cL_law 1990 = .ok (.iadd, 1) := dz_96 (k_L_law 31 6 rfl)
theorem dL_law_1991 : decode cL_law 1991 = .ok (.iaload, 1) := dz_46 (k_L_law 31 7 rfl)
theorem dL_law_1992 : decode cL_law 1992 = .ok (.aload_n 0, 1) := dz_42 (k_L_law 31 8 rfl)
theorem dL_law_1993 : decode cL_law 1993 = .ok (.iload 4, 2) := dz_21 (k_L_law 31 9 rfl) (k_L_law 31 10 rfl)
theorem dL_law_1995 : decode cL_law 1995 = .ok (.iconst 3, 1) := dz_6 (k_L_law 31 11 rfl)
theorem dL_law_1996 : decode cL_law 1996 = .ok (.iadd, 1) := dz_96 (k_L_law 31 12 rfl)
theorem dL_law_1997 : decode cL_law 1997 = .ok (.iaload, 1) := dz_46 (k_L_law 31 13 rfl)
theorem dL_law_1998 : decode cL_law 1998 = .ok (.invokevirtual 246, 3) := dz_182 (k_L_law 31 14 rfl) (k_L_law 31 15 rfl) (k_L_law 31 16 rfl) rfl
theorem dL_law_2001 : decode cL_law 2001 = .ok (.istore 6, 2) := dz_54 (k_L_law 31 17 rfl) (k_L_law 31 18 rfl)
theorem dL_law_2003 : decode cL_law 2003 = .ok (.aload_n 2, 1) := dz_44 (k_L_law 31 19 rfl)
theorem dL_law_2004 : decode cL_law 2004 = .ok (.invokevirtual 161, 3) := dz_182 (k_L_law 31 20 rfl) (k_L_law 31 21 rfl) (k_L_law 31 22 rfl) rfl
theorem dL_law_2007 : decode cL_law 2007 = .ok (.iload 5, 2) := dz_21 (k_L_law 31 23 rfl) (k_L_law 31 24 rfl)
theorem dL_law_2009 : decode cL_law 2009 = .ok (.if_icmp .eq 5, 3) := dz_159 (k_L_law 31 25 rfl) (k_L_law 31 26 rfl) (k_L_law 31 27 rfl) rfl
theorem dL_law_2012 : decode cL_law 2012 = .ok (.iconst 0, 1) := dz_3 (k_L_law 31 28 rfl)
theorem dL_law_2013 : decode cL_law 2013 = .ok (.ireturn, 1) := dz_172 (k_L_law 31 29 rfl)
theorem dL_law_2014 : decode cL_law 2014 = .ok (.iload 5, 2) := dz_21 (k_L_law 31 30 rfl) (k_L_law 31 31 rfl)
theorem dL_law_2016 : decode cL_law 2016 = .ok (.ifCond .ne 15, 3) := dz_154 (k_L_law 31 32 rfl) (k_L_law 31 33 rfl) (k_L_law 31 34 rfl) rfl
theorem dL_law_2019 : decode cL_law 2019 = .ok (.aload_n 3, 1) := dz_45 (k_L_law 31 35 rfl)
theorem dL_law_2020 : decode cL_law 2020 = .ok (.iconst 0, 1) := dz_3 (k_L_law 31 36 rfl)
theorem dL_law_2021 : decode cL_law 2021 = .ok (.laload, 1) := dz_47 (k_L_law 31 37 rfl)
theorem dL_law_2022 : decode cL_law 2022 = .ok (.iload 6, 2) := dz_21 (k_L_law 31 38 rfl) (k_L_law 31 39 rfl)
theorem dL_law_2024 : decode cL_law 2024 = .ok (.i2l, 1) := dz_133 (k_L_law 31 40 rfl)
theorem dL_law_2025 : decode cL_law 2025 = .ok (.lcmp, 1) := dz_148 (k_L_law 31 41 rfl)
theorem dL_law_2026 : decode cL_law 2026 = .ok (.ifCond .eq 5, 3) := dz_153 (k_L_law 31 42 rfl) (k_L_law 31 43 rfl) (k_L_law 31 44 rfl) rfl
theorem dL_law_2029 : decode cL_law 2029 = .ok (.iconst 0, 1) := dz_3 (k_L_law 31 45 rfl)
theorem dL_law_2030 : decode cL_law 2030 = .ok (.ireturn, 1) := dz_172 (k_L_law 31 46 rfl)
theorem dL_law_2031 : decode cL_law 2031 = .ok (.goto 896, 3) := dz_167 (k_L_law 31 47 rfl) (k_L_law 31 48 rfl) (k_L_law 31 49 rfl) rfl
theorem dL_law_2034 : decode cL_law 2034 = .ok (.aload_n 1, 1) := dz_43 (k_L_law 31 50 rfl)
theorem dL_law_2035 : decode cL_law 2035 = .ok (.aload_n 0, 1) := dz_42 (k_L_law 31 51 rfl)
theorem dL_law_2036 : decode cL_law 2036 = .ok (.iload 4, 2) := dz_21 (k_L_law 31 52 rfl) (k_L_law 31 53 rfl)
theorem dL_law_2038 : decode cL_law 2038 = .ok (.iconst 1, 1) := dz_4 (k_L_law 31 54 rfl)
theorem dL_law_2039 : decode cL_law 2039 = .ok (.iadd, 1) := dz_96 (k_L_law 31 55 rfl)
theorem dL_law_2040 : decode cL_law 2040 = .ok (.iaload, 1) := dz_46 (k_L_law 31 56 rfl)
theorem dL_law_2041 : decode cL_law 2041 = .ok (.aload_n 3, 1) := dz_45 (k_L_law 31 57 rfl)
theorem dL_law_2042 : decode cL_law 2042 = .ok (.invokestatic 247, 3) := dz_184 (k_L_law 31 58 rfl) (k_L_law 31 59 rfl) (k_L_law 31 60 rfl) rfl
theorem dL_law_2045 : decode cL_law 2045 = .ok (.istore 5, 2) := dz_54 (k_L_law 31 61 rfl) (k_L_law 31 62 rfl)
theorem dL_law_2047 : decode cL_law 2047 = .ok (.aload_n 2, 1) := dz_44 (k_L_law 31 63 rfl)
theorem dL_law_2048 : decode cL_law 2048 = .ok (.aload_n 0, 1) := dz_42 (k_L_law 32 0 rfl)
theorem dL_law_2049 : decode cL_law 2049 = .ok (.iload 4, 2) := dz_21 (k_L_law 32 1 rfl) (k_L_law 32 2 rfl)
theorem dL_law_2051 : decode cL_law 2051 = .ok (.iconst 1, 1) := dz_4 (k_L_law 32 3 rfl)
theorem dL_law_2052 : decode cL_law 2052 = .ok (.iadd, 1) := dz_96 (k_L_law 32 4 rfl)
theorem dL_law_2053 : decode cL_law 2053 = .ok (.iaload, 1) := dz_46 (k_L_law 32 5 rfl)
theorem dL_law_2054 : decode cL_law 2054 = .ok (.invokevirtual 249, 3) := dz_182 (k_L_law 32 6 rfl) (k_L_law 32 7 rfl) (k_L_law 32 8 rfl) rfl
theorem dL_law_2057 : decode cL_law 2057 = .ok (.istore 6, 2) := dz_54 (k_L_law 32 9 rfl) (k_L_law 32 10 rfl)
theorem dL_law_2059 : decode cL_law 2059 = .ok (.aload_n 2, 1) := dz_44 (k_L_law 32 11 rfl)
theorem dL_law_2060 : decode cL_law 2060 = .ok (.invokevirtual 161, 3) := dz_182 (k_L_law 32 12 rfl) (k_L_law 32 13 rfl) (k_L_law 32 14 rfl) rfl
theorem dL_law_2063 : decode cL_law 2063 = .ok (.iload 5, 2) := dz_21 (k_L_law 32 15 rfl) (k_L_law 32 16 rfl)
theorem dL_law_2065 : decode cL_law 2065 = .ok (.if_icmp .eq 5, 3) := dz_159 (k_L_law 32 17 rfl) (k_L_law 32 18 rfl) (k_L_law 32 19 rfl) rfl
theorem dL_law_2068 : decode cL_law 2068 = .ok (.iconst 0, 1) := dz_3 (k_L_law 32 20 rfl)
theorem dL_law_2069 : decode cL_law 2069 = .ok (.ireturn, 1) := dz_172 (k_L_law 32 21 rfl)
theorem dL_law_2070 : decode cL_law 2070 = .ok (.iload 5, 2) := dz_21 (k_L_law 32 22 rfl) (k_L_law 32 23 rfl)
theorem dL_law_2072 : decode cL_law 2072 = .ok (.ifCond .ne 15, 3) := dz_154 (k_L_law 32 24 rfl) (k_L_law 32 25 rfl) (k_L_law 32 26 rfl) rfl
theorem dL_law_2075 : decode cL_law 2075 = .ok (.aload_n 3, 1) := dz_45 (k_L_law 32 27 rfl)
theorem dL_law_2076 : decode cL_law 2076 = .ok (.iconst 0, 1) := dz_3 (k_L_law 32 28 rfl)
theorem dL_law_2077 : decode cL_law 2077 = .ok (.laload, 1) := dz_47 (k_L_law 32 29 rfl)
theorem dL_law_2078 : decode cL_law 2078 = .ok (.iload 6, 2) := dz_21 (k_L_law 32 30 rfl) (k_L_law 32 31 rfl)
theorem dL_law_2080 : decode cL_law 2080 = .ok (.i2l, 1) := dz_133 (k_L_law 32 32 rfl)
theorem dL_law_2081 : decode cL_law 2081 = .ok (.lcmp, 1) := dz_148 (k_L_law 32 33 rfl)
theorem dL_law_2082 : decode cL_law 2082 = .ok (.ifCond .eq 5, 3) := dz_153 (k_L_law 32 34 rfl) (k_L_law 32 35 rfl) (k_L_law 32 36 rfl) rfl
theorem dL_law_2085 : decode cL_law 2085 = .ok (.iconst 0, 1) := dz_3 (k_L_law 32 37 rfl)
theorem dL_law_2086 : decode cL_law 2086 = .ok (.ireturn, 1) := dz_172 (k_L_law 32 38 rfl)
theorem dL_law_2087 : decode cL_law 2087 = .ok (.goto 840, 3) := dz_167 (k_L_law 32 39 rfl) (k_L_law 32 40 rfl) (k_L_law 32 41 rfl) rfl
theorem dL_law_2090 : decode cL_law 2090 = .ok (.aload_n 1, 1) := dz_43 (k_L_law 32 42 rfl)
theorem dL_law_2091 : decode cL_law 2091 = .ok (.aload_n 0, 1) := dz_42 (k_L_law 32 43 rfl)
theorem dL_law_2092 : decode cL_law 2092 = .ok (.iload 4, 2) := dz_21 (k_L_law 32 44 rfl) (k_L_law 32 45 rfl)
theorem dL_law_2094 : decode cL_law 2094 = .ok (.iconst 1, 1) := dz_4 (k_L_law 32 46 rfl)
theorem dL_law_2095 : decode cL_law 2095 = .ok (.iadd, 1) := dz_96 (k_L_law 32 47 rfl)
theorem dL_law_2096 : decode cL_law 2096 = .ok (.iaload, 1) := dz_46 (k_L_law 32 48 rfl)
theorem dL_law_2097 : decode cL_law 2097 = .ok (.aload_n 0, 1) := dz_42 (k_L_law 32 49 rfl)
theorem dL_law_2098 : decode cL_law 2098 = .ok (.iload 4, 2) := dz_21 (k_L_law 32 50 rfl) (k_L_law 32 51 rfl)
theorem dL_law_2100 : decode cL_law 2100 = .ok (.iconst 2, 1) := dz_5 (k_L_law 32 52 rfl)
theorem dL_law_2101 : decode cL_law 2101 = .ok (.iadd, 1) := dz_96 (k_L_law 32 53 rfl)
theorem dL_law_2102 : decode cL_law 2102 = .ok (.iaload, 1) := dz_46 (k_L_law 32 54 rfl)
theorem dL_law_2103 : decode cL_law 2103 = .ok (.aload_n 3, 1) := dz_45 (k_L_law 32 55 rfl)
theorem dL_law_2104 : decode cL_law 2104 = .ok (.invokestatic 250, 3) := dz_184 (k_L_law 32 56 rfl) (k_L_law 32 57 rfl) (k_L_law 32 58 rfl) rfl
theorem dL_law_2107 : decode cL_law 2107 = .ok (.istore 5, 2) := dz_54 (k_L_law 32 59 rfl) (k_L_law 32 60 rfl)
theorem dL_law_2109 : decode cL_law 2109 = .ok (.aload_n 2, 1) := dz_44 (k_L_law 32 61 rfl)
theorem dL_law_2110 : decode cL_law 2110 = .ok (.aload_n 0, 1) := dz_42 (k_L_law 32 62 rfl)
theorem dL_law_2111 : decode cL_law 2111 = .ok (.iload 4, 2) := dz_21 (k_L_law 32 63 rfl) (k_L_law 33 0 rfl)
theorem dL_law_2113 : decode cL_law 2113 = .ok (.iconst 1, 1) := dz_4 (k_L_law 33 1 rfl)
theorem dL_law_2114 : decode cL_law 2114 = .ok (.iadd, 1) := dz_96 (k_L_law 33 2 rfl)
theorem dL_law_2115 : decode cL_law 2115 = .ok (.iaload, 1) := dz_46 (k_L_law 33 3 rfl)
theorem dL_law_2116 : decode cL_law 2116 = .ok (.aload_n 0, 1) := dz_42 (k_L_law 33 4 rfl)
theorem dL_law_2117 : decode cL_law 2117 = .ok (.iload 4, 2) := dz_21 (k_L_law 33 5 rfl) (k_L_law 33 6 rfl)
theorem dL_law_2119 : decode cL_law 2119 = .ok (.iconst 2, 1) := dz_5 (k_L_law 33 7 rfl)
theorem dL_law_2120 : decode cL_law 2120 = .ok (.iadd, 1) := dz_96 (k_L_law 33 8 rfl)
theorem dL_law_2121 : decode cL_law 2121 = .ok (.iaload, 1) := dz_46 (k_L_law 33 9 rfl)
theorem dL_law_2122 : decode cL_law 2122 = .ok (.invokevirtual 252, 3) := dz_182 (k_L_law 33 10 rfl) (k_L_law 33 11 rfl) (k_L_law 33 12 rfl) rfl
theorem dL_law_2125 : decode cL_law 2125 = .ok (.istore 6, 2) := dz_54 (k_L_law 33 13 rfl) (k_L_law 33 14 rfl)
theorem dL_law_2127 : decode cL_law 2127 = .ok (.aload_n 2, 1) := dz_44 (k_L_law 33 15 rfl)
theorem dL_law_2128 : decode cL_law 2128 = .ok (.invokevirtual 161, 3) := dz_182 (k_L_law 33 16 rfl) (k_L_law 33 17 rfl) (k_L_law 33 18 rfl) rfl
theorem dL_law_2131 : decode cL_law 2131 = .ok (.iload 5, 2) := dz_21 (k_L_law 33 19 rfl) (k_L_law 33 20 rfl)
theorem dL_law_2133 : decode cL_law 2133 = .ok (.if_icmp .eq 5, 3) := dz_159 (k_L_law 33 21 rfl) (k_L_law 33 22 rfl) (k_L_law 33 23 rfl) rfl
theorem dL_law_2136 : decode cL_law 2136 = .ok (.iconst 0, 1) := dz_3 (k_L_law 33 24 rfl)
theorem dL_law_2137 : decode cL_law 2137 = .ok (.ireturn, 1) := dz_172 (k_L_law 33 25 rfl)
theorem dL_law_2138 : decode cL_law 2138 = .ok (.iload 5, 2) := dz_21 (k_L_law 33 26 rfl) (k_L_law 33 27 rfl)
theorem dL_law_2140 : decode cL_law 2140 = .ok (.ifCond .ne 15, 3) := dz_154 (k_L_law 33 28 rfl) (k_L_law 33 29 rfl) (k_L_law 33 30 rfl) rfl
theorem dL_law_2143 : decode cL_law 2143 = .ok (.aload_n 3, 1) := dz_45 (k_L_law 33 31 rfl)
theorem dL_law_2144 : decode cL_law 2144 = .ok (.iconst 0, 1) := dz_3 (k_L_law 33 32 rfl)
theorem dL_law_2145 : decode cL_law 2145 = .ok (.laload, 1) := dz_47 (k_L_law 33 33 rfl)
theorem dL_law_2146 : decode cL_law 2146 = .ok (.iload 6, 2) := dz_21 (k_L_law 33 34 rfl) (k_L_law 33 35 rfl)
theorem dL_law_2148 : decode cL_law 2148 = .ok (.i2l, 1) := dz_133 (k_L_law 33 36 rfl)
theorem dL_law_2149 : decode cL_law 2149 = .ok (.lcmp, 1) := dz_148 (k_L_law 33 37 rfl)
theorem dL_law_2150 : decode cL_law 2150 = .ok (.ifCond .eq 5, 3) := dz_153 (k_L_law 33 38 rfl) (k_L_law 33 39 rfl) (k_L_law 33 40 rfl) rfl
theorem dL_law_2153 : decode cL_law 2153 = .ok (.iconst 0, 1) := dz_3 (k_L_law 33 41 rfl)
theorem dL_law_2154 : decode cL_law 2154 = .ok (.ireturn, 1) := dz_172 (k_L_law 33 42 rfl)
theorem dL_law_2155 : decode cL_law 2155 = .ok (.goto 772, 3) := dz_167 (k_L_law 33 43 rfl) (k_L_law 33 44 rfl) (k_L_law 33 45 rfl) rfl
theorem dL_law_2158 : decode cL_law 2158 = .ok (.aload_n 1, 1) := dz_43 (k_L_law 33 46 rfl)
theorem dL_law_2159 : decode cL_law 2159 = .ok (.aload_n 0, 1) := dz_42 (k_L_law 33 47 rfl)
theorem dL_law_2160 : decode cL_law 2160 = .ok (.iload 4, 2) := dz_21 (k_L_law 33 48 rfl) (k_L_law 33 49 rfl)
theorem dL_law_2162 : decode cL_law 2162 = .ok (.iconst 1, 1) := dz_4 (k_L_law 33 50 rfl)
theorem dL_law_2163 : decode cL_law 2163 = .ok (.iadd, 1) := dz_96 (k_L_law 33 51 rfl)
theorem dL_law_2164 : decode cL_law 2164 = .ok (.iaload, 1) := dz_46 (k_L_law 33 52 rfl)
theorem dL_law_2165 : decode cL_law 2165 = .ok (.aload_n 3, 1) := dz_45 (k_L_law 33 53 rfl)
theorem dL_law_2166 : decode cL_law 2166 = .ok (.invokestatic 253, 3) := dz_184 (k_L_law 33 54 rfl) (k_L_law 33 55 rfl) (k_L_law 33 56 rfl) rfl
theorem dL_law_2169 : decode cL_law 2169 = .ok (.istore 5, 2) := dz_54 (k_L_law 33 57 rfl) (k_L_law 33 58 rfl)
theorem dL_law_2171 : decode cL_law 2171 = .ok (.aload_n 2, 1) := dz_44 (k_L_law 33 59 rfl)
theorem dL_law_2172 : decode cL_law 2172 = .ok (.aload_n 0, 1) := dz_42 (k_L_law 33 60 rfl)
theorem dL_law_2173 : decode cL_law 2173 = .ok (.iload 4, 2) := dz_21 (k_L_law 33 61 rfl) (k_L_law 33 62 rfl)
theorem dL_law_2175 : decode cL_law 2175 = .ok (.iconst 1, 1) := dz_4 (k_L_law 33 63 rfl)
theorem dL_law_2176 : decode cL_law 2176 = .ok (.iadd, 1) := dz_96 (k_L_law 34 0 rfl)
theorem dL_law_2177 : decode cL_law 2177 = .ok (.iaload, 1) := dz_46 (k_L_law 34 1 rfl)
theorem dL_law_2178 : decode cL_law 2178 = .ok (.invokevirtual 255, 3) := dz_182 (k_L_law 34 2 rfl) (k_L_law 34 3 rfl) (k_L_law 34 4 rfl) rfl
theorem dL_law_2181 : decode cL_law 2181 = .ok (.istore 6, 2) := dz_54 (k_L_law 34 5 rfl) (k_L_law 34 6 rfl)
theorem dL_law_2183 : decode cL_law 2183 = .ok (.aload_n 2, 1) := dz_44 (k_L_law 34 7 rfl)
theorem dL_law_2184 : decode cL_law 2184 = .ok (.invokevirtual 161, 3) := dz_182 (k_L_law 34 8 rfl) (k_L_law 34 9 rfl) (k_L_law 34 10 rfl) rfl
theorem dL_law_2187 : decode cL_law 2187 = .ok (.iload 5, 2) := dz_21 (k_L_law 34 11 rfl) (k_L_law 34 12 rfl)
theorem dL_law_2189 : decode cL_law 2189 = .ok (.if_icmp .eq 5, 3) := dz_159 (k_L_law 34 13 rfl) (k_L_law 34 14 rfl) (k_L_law 34 15 rfl) rfl
theorem dL_law_2192 : decode cL_law 2192 = .ok (.iconst 0, 1) := dz_3 (k_L_law 34 16 rfl)
theorem dL_law_2193 : decode cL_law 2193 = .ok (.ireturn, 1) := dz_172 (k_L_law 34 17 rfl)
theorem dL_law_2194 : decode cL_law 2194 = .ok (.iload 5, 2) := dz_21 (k_L_law 34 18 rfl) (k_L_law 34 19 rfl)
theorem dL_law_2196 : decode cL_law 2196 = .ok (.ifCond .ne 15, 3) := dz_154 (k_L_law 34 20 rfl) (k_L_law 34 21 rfl) (k_L_law 34 22 rfl) rfl
theorem dL_law_2199 : decode cL_law 2199 = .ok (.aload_n 3, 1) := dz_45 (k_L_law 34 23 rfl)
theorem dL_law_2200 : decode cL_law 2200 = .ok (.iconst 0, 1) := dz_3 (k_L_law 34 24 rfl)
theorem dL_law_2201 : decode cL_law 2201 = .ok (.laload, 1) := dz_47 (k_L_law 34 25 rfl)
theorem dL_law_2202 : decode cL_law 2202 = .ok (.iload 6, 2) := dz_21 (k_L_law 34 26 rfl) (k_L_law 34 27 rfl)
theorem dL_law_2204 : decode cL_law 2204 = .ok (.i2l, 1) := dz_133 (k_L_law 34 28 rfl)
theorem dL_law_2205 : decode cL_law 2205 = .ok (.lcmp, 1) := dz_148 (k_L_law 34 29 rfl)
theorem dL_law_2206 : decode cL_law 2206 = .ok (.ifCond .eq 5, 3) := dz_153 (k_L_law 34 30 rfl) (k_L_law 34 31 rfl) (k_L_law 34 32 rfl) rfl
theorem dL_law_2209 : decode cL_law 2209 = .ok (.iconst 0, 1) := dz_3 (k_L_law 34 33 rfl)
theorem dL_law_2210 : decode cL_law 2210 = .ok (.ireturn, 1) := dz_172 (k_L_law 34 34 rfl)
theorem dL_law_2211 : decode cL_law 2211 = .ok (.goto 716, 3) := dz_167 (k_L_law 34 35 rfl) (k_L_law 34 36 rfl) (k_L_law 34 37 rfl) rfl
theorem dL_law_2214 : decode cL_law 2214 = .ok (.aload_n 1, 1) := dz_43 (k_L_law 34 38 rfl)
theorem dL_law_2215 : decode cL_law 2215 = .ok (.aload_n 0, 1) := dz_42 (k_L_law 34 39 rfl)
theorem dL_law_2216 : decode cL_law 2216 = .ok (.iload 4, 2) := dz_21 (k_L_law 34 40 rfl) (k_L_law 34 41 rfl)
theorem dL_law_2218 : decode cL_law 2218 = .ok (.iconst 1, 1) := dz_4 (k_L_law 34 42 rfl)
theorem dL_law_2219 : decode cL_law 2219 = .ok (.iadd, 1) := dz_96 (k_L_law 34 43 rfl)
theorem dL_law_2220 : decode cL_law 2220 = .ok (.iaload, 1) := dz_46 (k_L_law 34 44 rfl)
theorem dL_law_2221 : decode cL_law 2221 = .ok (.aload_n 3, 1) := dz_45 (k_L_law 34 45 rfl)
theorem dL_law_2222 : decode cL_law 2222 = .ok (.invokestatic 256, 3) := dz_184 (k_L_law 34 46 rfl) (k_L_law 34 47 rfl) (k_L_law 34 48 rfl) rfl
theorem dL_law_2225 : decode cL_law 2225 = .ok (.istore 5, 2) := dz_54 (k_L_law 34 49 rfl) (k_L_law 34 50 rfl)
theorem dL_law_2227 : decode cL_law 2227 = .ok (.aload_n 2, 1) := dz_44 (k_L_law 34 51 rfl)
theorem dL_law_2228 : decode cL_law 2228 = .ok (.aload_n 0, 1) := dz_42 (k_L_law 34 52 rfl)
theorem dL_law_2229 : decode cL_law 2229 = .ok (.iload 4, 2) := dz_21 (k_L_law 34 53 rfl) (k_L_law 34 54 rfl)
theorem dL_law_2231 : decode cL_law 2231 = .ok (.iconst 1, 1) := dz_4 (k_L_law 34 55 rfl)
theorem dL_law_2232 : decode cL_law 2232 = .ok (.iadd, 1) := dz_96 (k_L_law 34 56 rfl)
theorem dL_law_2233 : decode cL_law 2233 = .ok (.iaload, 1) := dz_46 (k_L_law 34 57 rfl)
theorem dL_law_2234 : decode cL_law 2234 = .ok (.invokevirtual 258, 3) := dz_182 (k_L_law 34 58 rfl) (k_L_law 34 59 rfl) (k_L_law 34 60 rfl) rfl
theorem dL_law_2237 : decode cL_law 2237 = .ok (.istore 6, 2) := dz_54 (k_L_law 34 61 rfl) (k_L_law 34 62 rfl)
theorem dL_law_2239 : decode cL_law 2239 = .ok (.aload_n 2, 1) := dz_44 (k_L_law 34 63 rfl)
theorem dL_law_2240 : decode cL_law 2240 = .ok (.invokevirtual 161, 3) := dz_182 (k_L_law 35 0 rfl) (k_L_law 35 1 rfl) (k_L_law 35 2 rfl) rfl
theorem dL_law_2243 : decode cL_law 2243 = .ok (.iload 5, 2) := dz_21 (k_L_law 35 3 rfl) (k_L_law 35 4 rfl)
theorem dL_law_2245 : decode cL_law 2245 = .ok (.if_icmp .eq 5, 3) := dz_159 (k_L_law 35 5 rfl) (k_L_law 35 6 rfl) (k_L_law 35 7 rfl) rfl
theorem dL_law_2248 : decode cL_law 2248 = .ok (.iconst 0, 1) := dz_3 (k_L_law 35 8 rfl)
theorem dL_law_2249 : decode cL_law 2249 = .ok (.ireturn, 1) := dz_172 (k_L_law 35 9 rfl)
theorem dL_law_2250 : decode cL_law 2250 = .ok (.iload 5, 2) := dz_21 (k_L_law 35 10 rfl) (k_L_law 35 11 rfl)
theorem dL_law_2252 : decode cL_law 2252 = .ok (.ifCond .ne 15, 3) := dz_154 (k_L_law 35 12 rfl) (k_L_law 35 13 rfl) (k_L_law 35 14 rfl) rfl
theorem dL_law_2255 : decode cL_law 2255 = .ok (.aload_n 3, 1) := dz_45 (k_L_law 35 15 rfl)
theorem dL_law_2256 : decode cL_law 2256 = .ok (.iconst 0, 1) := dz_3 (k_L_law 35 16 rfl)
theorem dL_law_2257 : decode cL_law 2257 = .ok (.laload, 1) := dz_47 (k_L_law 35 17 rfl)
theorem dL_law_2258 : decode cL_law 2258 = .ok (.iload 6, 2) := dz_21 (k_L_law 35 18 rfl) (k_L_law 35 19 rfl)
theorem dL_law_2260 : decode cL_law 2260 = .ok (.i2l, 1) := dz_133 (k_L_law 35 20 rfl)
theorem dL_law_2261 : decode cL_law 2261 = .ok (.lcmp, 1) := dz_148 (k_L_law 35 21 rfl)
theorem dL_law_2262 : decode cL_law 2262 = .ok (.ifCond .eq 5, 3) := dz_153 (k_L_law 35 22 rfl) (k_L_law 35 23 rfl) (k_L_law 35 24 rfl) rfl
theorem dL_law_2265 : decode cL_law 2265 = .ok (.iconst 0, 1) := dz_3 (k_L_law 35 25 rfl)
theorem dL_law_2266 : decode cL_law 2266 = .ok (.ireturn, 1) := dz_172 (k_L_law 35 26 rfl)
theorem dL_law_2267 : decode cL_law 2267 = .ok (.goto 660, 3) := dz_167 (k_L_law 35 27 rfl) (k_L_law 35 28 rfl) (k_L_law 35 29 rfl) rfl
theorem dL_law_2270 : decode cL_law 2270 = .ok (.aload_n 1, 1) := dz_43 (k_L_law 35 30 rfl)
theorem dL_law_2271 : decode cL_law 2271 = .ok (.aload_n 0, 1) := dz_42 (k_L_law 35 31 rfl)
theorem dL_law_2272 : decode cL_law 2272 = .ok (.iload 4, 2) := dz_21 (k_L_law 35 32 rfl) (k_L_law 35 33 rfl)
theorem dL_law_2274 : decode cL_law 2274 = .ok (.iconst 1, 1) := dz_4 (k_L_law 35 34 rfl)
theorem dL_law_2275 : decode cL_law 2275 = .ok (.iadd, 1) := dz_96 (k_L_law 35 35 rfl)
theorem dL_law_2276 : decode cL_law 2276 = .ok (.iaload, 1) := dz_46 (k_L_law 35 36 rfl)
theorem dL_law_2277 : decode cL_law 2277 = .ok (.aload_n 3, 1) := dz_45 (k_L_law 35 37 rfl)
theorem dL_law_2278 : decode cL_law 2278 = .ok (.invokestatic 259, 3) := dz_184 (k_L_law 35 38 rfl) (k_L_law 35 39 rfl) (k_L_law 35 40 rfl) rfl
theorem dL_law_2281 : decode cL_law 2281 = .ok (.istore 5, 2) := dz_54 (k_L_law 35 41 rfl) (k_L_law 35 42 rfl)
theorem dL_law_2283 : decode cL_law 2283 = .ok (.aload_n 2, 1) := dz_44 (k_L_law 35 43 rfl)
theorem dL_law_2284 : decode cL_law 2284 = .ok (.aload_n 0, 1) := dz_42 (k_L_law 35 44 rfl)
theorem dL_law_2285 : decode cL_law 2285 = .ok (.iload 4, 2) := dz_21 (k_L_law 35 45 rfl) (k_L_law 35 46 rfl)
theorem dL_law_2287 : decode cL_law 2287 = .ok (.iconst 1, 1) := dz_4 (k_L_law 35 47 rfl)
theorem dL_law_2288 : decode cL_law 2288 = .ok (.iadd, 1) := dz_96 (k_L_law 35 48 rfl)
theorem dL_law_2289 : decode cL_law 2289 = .ok (.iaload, 1) := dz_46 (k_L_law 35 49 rfl)
theorem dL_law_2290 : decode cL_law 2290 = .ok (.invokevirtual 261, 3) := dz_182 (k_L_law 35 50 rfl) (k_L_law 35 51 rfl) (k_L_law 35 52 rfl) rfl
theorem dL_law_2293 : decode cL_law 2293 = .ok (.istore 6, 2) := dz_54 (k_L_law 35 53 rfl) (k_L_law 35 54 rfl)
theorem dL_law_2295 : decode cL_law 2295 = .ok (.aload_n 2, 1) := dz_44 (k_L_law 35 55 rfl)
theorem dL_law_2296 : decode cL_law 2296 = .ok (.invokevirtual 161, 3) := dz_182 (k_L_law 35 56 rfl) (k_L_law 35 57 rfl) (k_L_law 35 58 rfl) rfl
theorem dL_law_2299 : decode cL_law 2299 = .ok (.iload 5, 2) := dz_21 (k_L_law 35 59 rfl) (k_L_law 35 60 rfl)
theorem dL_law_2301 : decode cL_law 2301 = .ok (.if_icmp .eq 5, 3) := dz_159 (k_L_law 35 61 rfl) (k_L_law 35 62 rfl) (k_L_law 35 63 rfl) rfl
theorem dL_law_2304 : decode cL_law 2304 = .ok (.iconst 0, 1) := dz_3 (k_L_law 36 0 rfl)
theorem dL_law_2305 : decode cL_law 2305 = .ok (.ireturn, 1) := dz_172 (k_L_law 36 1 rfl)
theorem dL_law_2306 : decode cL_law 2306 = .ok (.iload 5, 2) := dz_21 (k_L_law 36 2 rfl) (k_L_law 36 3 rfl)
theorem dL_law_2308 : decode cL_law 2308 = .ok (.ifCond .ne 15, 3) := dz_154 (k_L_law 36 4 rfl) (k_L_law 36 5 rfl) (k_L_law 36 6 rfl) rfl
theorem dL_law_2311 : decode cL_law 2311 = .ok (.aload_n 3, 1) := dz_45 (k_L_law 36 7 rfl)
theorem dL_law_2312 : decode cL_law 2312 = .ok (.iconst 0, 1) := dz_3 (k_L_law 36 8 rfl)
theorem dL_law_2313 : decode cL_law 2313 = .ok (.laload, 1) := dz_47 (k_L_law 36 9 rfl)
theorem dL_law_2314 : decode cL_law 2314 = .ok (.iload 6, 2) := dz_21 (k_L_law 36 10 rfl) (k_L_law 36 11 rfl)
theorem dL_law_2316 : decode cL_law 2316 = .ok (.i2l, 1) := dz_133 (k_L_law 36 12 rfl)
theorem dL_law_2317 : decode cL_law 2317 = .ok (.lcmp, 1) := dz_148 (k_L_law 36 13 rfl)
theorem dL_law_2318 : decode cL_law 2318 = .ok (.ifCond .eq 5, 3) := dz_153 (k_L_law 36 14 rfl) (k_L_law 36 15 rfl) (k_L_law 36 16 rfl) rfl
theorem dL_law_2321 : decode cL_law 2321 = .ok (.iconst 0, 1) := dz_3 (k_L_law 36 17 rfl)
theorem dL_law_2322 : decode cL_law 2322 = .ok (.ireturn, 1) := dz_172 (k_L_law 36 18 rfl)
theorem dL_law_2323 : decode cL_law 2323 = .ok (.goto 604, 3) := dz_167 (k_L_law 36 19 rfl) (k_L_law 36 20 rfl) (k_L_law 36 21 rfl) rfl
theorem dL_law_2326 : decode cL_law 2326 = .ok (.aload_n 1, 1) := dz_43 (k_L_law 36 22 rfl)
theorem dL_law_2327 : decode cL_law 2327 = .ok (.aload_n 0, 1) := dz_42 (k_L_law 36 23 rfl)
theorem dL_law_2328 : decode cL_law 2328 = .ok (.iload 4, 2) := dz_21 (k_L_law 36 24 rfl) (k_L_law 36 25 rfl)
theorem dL_law_2330 : decode cL_law 2330 = .ok (.iconst 1, 1) := dz_4 (k_L_law 36 26 rfl)
theorem dL_law_2331 : decode cL_law 2331 = .ok (.iadd, 1) := dz_96 (k_L_law 36 27 rfl)
theorem dL_law_2332 : decode cL_law 2332 = .ok (.iaload, 1) := dz_46 (k_L_law 36 28 rfl)
theorem dL_law_2333 : decode cL_law 2333 = .ok (.aload_n 3, 1) := dz_45 (k_L_law 36 29 rfl)
theorem dL_law_2334 : decode cL_law 2334 = .ok (.invokestatic 262, 3) := dz_184 (k_L_law 36 30 rfl) (k_L_law 36 31 rfl) (k_L_law 36 32 rfl) rfl
theorem dL_law_2337 : decode cL_law 2337 = .ok (.istore 5, 2) := dz_54 (k_L_law 36 33 rfl) (k_L_law 36 34 rfl)
theorem dL_law_2339 : decode cL_law 2339 = .ok (.aload_n 2, 1) := dz_44 (k_L_law 36 35 rfl)
theorem dL_law_2340 : decode cL_law 2340 = .ok (.aload_n 0, 1) := dz_42 (k_L_law 36 36 rfl)
theorem dL_law_2341 : decode cL_law 2341 = .ok (.iload 4, 2) := dz_21 (k_L_law 36 37 rfl) (k_L_law 36 38 rfl)
theorem dL_law_2343 : decode cL_law 2343 = .ok (.iconst 1, 1) := dz_4 (k_L_law 36 39 rfl)
theorem dL_law_2344 : decode cL_law 2344 = .ok (.iadd, 1) := dz_96 (k_L_law 36 40 rfl)
theorem dL_law_2345 : decode cL_law 2345 = .ok (.iaload, 1) := dz_46 (k_L_law 36 41 rfl)
theorem dL_law_2346 : decode cL_law 2346 = .ok (.invokevirtual 264, 3) := dz_182 (k_L_law 36 42 rfl) (k_L_law 36 43 rfl) (k_L_law 36 44 rfl) rfl
theorem dL_law_2349 : decode cL_law 2349 = .ok (.istore 6, 2) := dz_54 (k_L_law 36 45 rfl) (k_L_law 36 46 rfl)
theorem dL_law_2351 : decode cL_law 2351 = .ok (.aload_n 2, 1) := dz_44 (k_L_law 36 47 rfl)
theorem dL_law_2352 : decode cL_law 2352 = .ok (.invokevirtual 161, 3) := dz_182 (k_L_law 36 48 rfl) (k_L_law 36 49 rfl) (k_L_law 36 50 rfl) rfl
theorem dL_law_2355 : decode cL_law 2355 = .ok (.iload 5, 2) := dz_21 (k_L_law 36 51 rfl) (k_L_law 36 52 rfl)
theorem dL_law_2357 : decode cL_law 2357 = .ok (.if_icmp .eq 5, 3) := dz_159 (k_L_law 36 53 rfl) (k_L_law 36 54 rfl) (k_L_law 36 55 rfl) rfl
theorem dL_law_2360 : decode cL_law 2360 = .ok (.iconst 0, 1) := dz_3 (k_L_law 36 56 rfl)
theorem dL_law_2361 : decode cL_law 2361 = .ok (.ireturn, 1) := dz_172 (k_L_law 36 57 rfl)
theorem dL_law_2362 : decode cL_law 2362 = .ok (.iload 5, 2) := dz_21 (k_L_law 36 58 rfl) (k_L_law 36 59 rfl)
theorem dL_law_2364 : decode cL_law 2364 = .ok (.ifCond .ne 15, 3) := dz_154 (k_L_law 36 60 rfl) (k_L_law 36 61 rfl) (k_L_law 36 62 rfl) rfl
theorem dL_law_2367 : decode cL_law 2367 = .ok (.aload_n 3, 1) := dz_45 (k_L_law 36 63 rfl)
theorem dL_law_2368 : decode cL_law 2368 = .ok (.iconst 0, 1) := dz_3 (k_L_law 37 0 rfl)
theorem dL_law_2369 : decode cL_law 2369 = .ok (.laload, 1) := dz_47 (k_L_law 37 1 rfl)
theorem dL_law_2370 : decode cL_law 2370 = .ok (.iload 6, 2) := dz_21 (k_L_law 37 2 rfl) (k_L_law 37 3 rfl)
theorem dL_law_2372 : decode cL_law 2372 = .ok (.i2l, 1) := dz_133 (k_L_law 37 4 rfl)
theorem dL_law_2373 : decode cL_law 2373 = .ok (.lcmp, 1) := dz_148 (k_L_law 37 5 rfl)
theorem dL_law_2374 : decode cL_law 2374 = .ok (.ifCond .eq 5, 3) := dz_153 (k_L_law 37 6 rfl) (k_L_law 37 7 rfl) (k_L_law 37 8 rfl) rfl
theorem dL_law_2377 : decode cL_law 2377 = .ok (.iconst 0, 1) := dz_3 (k_L_law 37 9 rfl)
theorem dL_law_2378 : decode cL_law 2378 = .ok (.ireturn, 1) := dz_172 (k_L_law 37 10 rfl)
theorem dL_law_2379 : decode cL_law 2379 = .ok (.goto 548, 3) := dz_167 (k_L_law 37 11 rfl) (k_L_law 37 12 rfl) (k_L_law 37 13 rfl) rfl
theorem dL_law_2382 : decode cL_law 2382 = .ok (.aload_n 1, 1) := dz_43 (k_L_law 37 14 rfl)
theorem dL_law_2383 : decode cL_law 2383 = .ok (.aload_n 0, 1) := dz_42 (k_L_law 37 15 rfl)
theorem dL_law_2384 : decode cL_law 2384 = .ok (.iload 4, 2) := dz_21 (k_L_law 37 16 rfl) (k_L_law 37 17 rfl)
theorem dL_law_2386 : decode cL_law 2386 = .ok (.iconst 1, 1) := dz_4 (k_L_law 37 18 rfl)
theorem dL_law_2387 : decode cL_law 2387 = .ok (.iadd, 1) := dz_96 (k_L_law 37 19 rfl)
theorem dL_law_2388 : decode cL_law 2388 = .ok (.iaload, 1) := dz_46 (k_L_law 37 20 rfl)
theorem dL_law_2389 : decode cL_law 2389 = .ok (.aload_n 0, 1) := dz_42 (k_L_law 37 21 rfl)
theorem dL_law_2390 : decode cL_law 2390 = .ok (.iload 4, 2) := dz_21 (k_L_law 37 22 rfl) (k_L_law 37 23 rfl)
theorem dL_law_2392 : decode cL_law 2392 = .ok (.iconst 2, 1) := dz_5 (k_L_law 37 24 rfl)
theorem dL_law_2393 : decode cL_law 2393 = .ok (.iadd, 1) := dz_96 (k_L_law 37 25 rfl)
theorem dL_law_2394 : decode cL_law 2394 = .ok (.iaload, 1) := dz_46 (k_L_law 37 26 rfl)
theorem dL_law_2395 : decode cL_law 2395 = .ok (.aload_n 3, 1) := dz_45 (k_L_law 37 27 rfl)
theorem dL_law_2396 : decode cL_law 2396 = .ok (.invokestatic 265, 3) := dz_184 (k_L_law 37 28 rfl) (k_L_law 37 29 rfl) (k_L_law 37 30 rfl) rfl
theorem dL_law_2399 : decode cL_law 2399 = .ok (.istore 5, 2) := dz_54 (k_L_law 37 31 rfl) (k_L_law 37 32 rfl)
theorem dL_law_2401 : decode cL_law 2401 = .ok (.aload_n 2, 1) := dz_44 (k_L_law 37 33 rfl)
theorem dL_law_2402 : decode cL_law 2402 = .ok (.aload_n 0, 1) := dz_42 (k_L_law 37 34 rfl)
theorem dL_law_2403 : decode cL_law 2403 = .ok (.iload 4, 2) := dz_21 (k_L_law 37 35 rfl) (k_L_law 37 36 rfl)
theorem dL_law_2405 : decode cL_law 2405 = .ok (.iconst 1, 1) := dz_4 (k_L_law 37 37 rfl)
theorem dL_law_2406 : decode cL_law 2406 = .ok (.iadd, 1) := dz_96 (k_L_law 37 38 rfl)
theorem dL_law_2407 : decode cL_law 2407 = .ok (.iaload, 1) := dz_46 (k_L_law 37 39 rfl)
theorem dL_law_2408 : decode cL_law 2408 = .ok (.aload_n 0, 1) := dz_42 (k_L_law 37 40 rfl)
theorem dL_law_2409 : decode cL_law 2409 = .ok (.iload 4, 2) := dz_21 (k_L_law 37 41 rfl) (k_L_law 37 42 rfl)
theorem dL_law_2411 : decode cL_law 2411 = .ok (.iconst 2, 1) := dz_5 (k_L_law 37 43 rfl)
theorem dL_law_2412 : decode cL_law 2412 = .ok (.iadd, 1) := dz_96 (k_L_law 37 44 rfl)
theorem dL_law_2413 : decode cL_law 2413 = .ok (.iaload, 1) := dz_46 (k_L_law 37 45 rfl)
theorem dL_law_2414 : decode cL_law 2414 = .ok (.invokevirtual 267, 3) := dz_182 (k_L_law 37 46 rfl) (k_L_law 37 47 rfl) (k_L_law 37 48 rfl) rfl
theorem dL_law_2417 : decode cL_law 2417 = .ok (.istore 6, 2) := dz_54 (k_L_law 37 49 rfl) (k_L_law 37 50 rfl)
theorem dL_law_2419 : decode cL_law 2419 = .ok (.aload_n 2, 1) := dz_44 (k_L_law 37 51 rfl)
theorem dL_law_2420 : decode cL_law 2420 = .ok (.invokevirtual 161, 3) := dz_182 (k_L_law 37 52 rfl) (k_L_law 37 53 rfl) (k_L_law 37 54 rfl) rfl
theorem dL_law_2423 : decode cL_law 2423 = .ok (.iload 5, 2) := dz_21 (k_L_law 37 55 rfl) (k_L_law 37 56 rfl)
theorem dL_law_2425 : decode cL_law 2425 = .ok (.if_icmp .eq 5, 3) := dz_159 (k_L_law 37 57 rfl) (k_L_law 37 58 rfl) (k_L_law 37 59 rfl) rfl
theorem dL_law_2428 : decode cL_law 2428 = .ok (.iconst 0, 1) := dz_3 (k_L_law 37 60 rfl)
theorem dL_law_2429 : decode cL_law 2429 = .ok (.ireturn, 1) := dz_172 (k_L_law 37 61 rfl)
theorem dL_law_2430 : decode cL_law 2430 = .ok (.iload 5, 2) := dz_21 (k_L_law 37 62 rfl) (k_L_law 37 63 rfl)
theorem dL_law_2432 : decode cL_law 2432 = .ok (.ifCond .ne 15, 3) := dz_154 (k_L_law 38 0 rfl) (k_L_law 38 1 rfl) (k_L_law 38 2 rfl) rfl
theorem dL_law_2435 : decode cL_law 2435 = .ok (.aload_n 3, 1) := dz_45 (k_L_law 38 3 rfl)
theorem dL_law_2436 : decode cL_law 2436 = .ok (.iconst 0, 1) := dz_3 (k_L_law 38 4 rfl)
theorem dL_law_2437 : decode cL_law 2437 = .ok (.laload, 1) := dz_47 (k_L_law 38 5 rfl)
theorem dL_law_2438 : decode cL_law 2438 = .ok (.iload 6, 2) := dz_21 (k_L_law 38 6 rfl) (k_L_law 38 7 rfl)
theorem dL_law_2440 : decode cL_law 2440 = .ok (.i2l, 1) := dz_133 (k_L_law 38 8 rfl)
theorem dL_law_2441 : decode cL_law 2441 = .ok (.lcmp, 1) := dz_148 (k_L_law 38 9 rfl)
theorem dL_law_2442 : decode cL_law 2442 = .ok (.ifCond .eq 5, 3) := dz_153 (k_L_law 38 10 rfl) (k_L_law 38 11 rfl) (k_L_law 38 12 rfl) rfl
theorem dL_law_2445 : decode cL_law 2445 = .ok (.iconst 0, 1) := dz_3 (k_L_law 38 13 rfl)
theorem dL_law_2446 : decode cL_law 2446 = .ok (.ireturn, 1) := dz_172 (k_L_law 38 14 rfl)
theorem dL_law_2447 : decode cL_law 2447 = .ok (.goto 480, 3) := dz_167 (k_L_law 38 15 rfl) (k_L_law 38 16 rfl) (k_L_law 38 17 rfl) rfl
theorem dL_law_2450 : decode cL_law 2450 = .ok (.aload_n 1, 1) := dz_43 (k_L_law 38 18 rfl)
theorem dL_law_2451 : decode cL_law 2451 = .ok (.aload_n 0, 1) := dz_42 (k_L_law 38 19 rfl)
theorem dL_law_2452 : decode cL_law 2452 = .ok (.iload 4, 2) := dz_21 (k_L_law 38 20 rfl) (k_L_law 38 21 rfl)
theorem dL_law_2454 : decode cL_law 2454 = .ok (.iconst 1, 1) := dz_4 (k_L_law 38 22 rfl)
theorem dL_law_2455 : decode cL_law 2455 = .ok (.iadd, 1) := dz_96 (k_L_law 38 23 rfl)
theorem dL_law_2456 : decode cL_law 2456 = .ok (.iaload, 1) := dz_46 (k_L_law 38 24 rfl)
theorem dL_law_2457 : decode cL_law 2457 = .ok (.aload_n 0, 1) := dz_42 (k_L_law 38 25 rfl)
theorem dL_law_2458 : decode cL_law 2458 = .ok (.iload 4, 2) := dz_21 (k_L_law 38 26 rfl) (k_L_law 38 27 rfl)
theorem dL_law_2460 : decode cL_law 2460 = .ok (.iconst 2, 1) := dz_5 (k_L_law 38 28 rfl)
theorem dL_law_2461 : decode cL_law 2461 = .ok (.iadd, 1) := dz_96 (k_L_law 38 29 rfl)
theorem dL_law_2462 : decode cL_law 2462 = .ok (.iaload, 1) := dz_46 (k_L_law 38 30 rfl)
theorem dL_law_2463 : decode cL_law 2463 = .ok (.aload_n 3, 1) := dz_45 (k_L_law 38 31 rfl)
theorem dL_law_2464 : decode cL_law 2464 = .ok (.invokestatic 268, 3) := dz_184 (k_L_law 38 32 rfl) (k_L_law 38 33 rfl) (k_L_law 38 34 rfl) rfl
theorem dL_law_2467 : decode cL_law 2467 = .ok (.istore 5, 2) := dz_54 (k_L_law 38 35 rfl) (k_L_law 38 36 rfl)
theorem dL_law_2469 : decode cL_law 2469 = .ok (.aload_n 2, 1) := dz_44 (k_L_law 38 37 rfl)
theorem dL_law_2470 : decode cL_law 2470 = .ok (.aload_n 0, 1) := dz_42 (k_L_law 38 38 rfl)
theorem dL_law_2471 : decode cL_law 2471 = .ok (.iload 4, 2) := dz_21 (k_L_law 38 39 rfl) (k_L_law 38 40 rfl)
theorem dL_law_2473 : decode cL_law 2473 = .ok (.iconst 1, 1) := dz_4 (k_L_law 38 41 rfl)
theorem dL_law_2474 : decode cL_law 2474 = .ok (.iadd, 1) := dz_96 (k_L_law 38 42 rfl)
theorem dL_law_2475 : decode cL_law 2475 = .ok (.iaload, 1) := dz_46 (k_L_law 38 43 rfl)
theorem dL_law_2476 : decode cL_law 2476 = .ok (.aload_n 0, 1) := dz_42 (k_L_law 38 44 rfl)
theorem dL_law_2477 : decode cL_law 2477 = .ok (.iload 4, 2) := dz_21 (k_L_law 38 45 rfl) (k_L_law 38 46 rfl)
theorem dL_law_2479 : decode cL_law 2479 = .ok (.iconst 2, 1) := dz_5 (k_L_law 38 47 rfl)
theorem dL_law_2480 : decode cL_law 2480 = .ok (.iadd, 1) := dz_96 (k_L_law 38 48 rfl)
theorem dL_law_2481 : decode cL_law 2481 = .ok (.iaload, 1) := dz_46 (k_L_law 38 49 rfl)
theorem dL_law_2482 : decode cL_law 2482 = .ok (.invokevirtual 270, 3) := dz_182 (k_L_law 38 50 rfl) (k_L_law 38 51 rfl) (k_L_law 38 52 rfl) rfl
theorem dL_law_2485 : decode cL_law 2485 = .ok (.istore 6, 2) := dz_54 (k_L_law 38 53 rfl) (k_L_law 38 54 rfl)
theorem dL_law_2487 : decode cL_law 2487 = .ok (.aload_n 2, 1) := dz_44 (k_L_law 38 55 rfl)
theorem dL_law_2488 : decode cL_law 2488 = .ok (.invokevirtual 161, 3) := dz_182 (k_L_law 38 56 rfl) (k_L_law 38 57 rfl) (k_L_law 38 58 rfl) rfl
theorem dL_law_2491 : decode cL_law 2491 = .ok (.iload 5, 2) := dz_21 (k_L_law 38 59 rfl) (k_L_law 38 60 rfl)
theorem dL_law_2493 : decode cL_law 2493 = .ok (.if_icmp .eq 5, 3) := dz_159 (k_L_law 38 61 rfl) (k_L_law 38 62 rfl) (k_L_law 38 63 rfl) rfl
theorem dL_law_2496 : decode cL_law 2496 = .ok (.iconst 0, 1) := dz_3 (k_L_law 39 0 rfl)
theorem dL_law_2497 : decode cL_law 2497 = .ok (.ireturn, 1) := dz_172 (k_L_law 39 1 rfl)
theorem dL_law_2498 : decode cL_law 2498 = .ok (.iload 5, 2) := dz_21 (k_L_law 39 2 rfl) (k_L_law 39 3 rfl)
theorem dL_law_2500 : decode cL_law 2500 = .ok (.ifCond .ne 15, 3) := dz_154 (k_L_law 39 4 rfl) (k_L_law 39 5 rfl) (k_L_law 39 6 rfl) rfl
theorem dL_law_2503 : decode cL_law 2503 = .ok (.aload_n 3, 1) := dz_45 (k_L_law 39 7 rfl)
theorem dL_law_2504 : decode cL_law 2504 = .ok (.iconst 0, 1) := dz_3 (k_L_law 39 8 rfl)
theorem dL_law_2505 : decode cL_law 2505 = .ok (.laload, 1) := dz_47 (k_L_law 39 9 rfl)
theorem dL_law_2506 : decode cL_law 2506 = .ok (.iload 6, 2) := dz_21 (k_L_law 39 10 rfl) (k_L_law 39 11 rfl)
theorem dL_law_2508 : decode cL_law 2508 = .ok (.i2l, 1) := dz_133 (k_L_law 39 12 rfl)
theorem dL_law_2509 : decode cL_law 2509 = .ok (.lcmp, 1) := dz_148 (k_L_law 39 13 rfl)
theorem dL_law_2510 : decode cL_law 2510 = .ok (.ifCond .eq 5, 3) := dz_153 (k_L_law 39 14 rfl) (k_L_law 39 15 rfl) (k_L_law 39 16 rfl) rfl
theorem dL_law_2513 : decode cL_law 2513 = .ok (.iconst 0, 1) := dz_3 (k_L_law 39 17 rfl)
theorem dL_law_2514 : decode cL_law 2514 = .ok (.ireturn, 1) := dz_172 (k_L_law 39 18 rfl)
theorem dL_law_2515 : decode cL_law 2515 = .ok (.goto 412, 3) := dz_167 (k_L_law 39 19 rfl) (k_L_law 39 20 rfl) (k_L_law 39 21 rfl) rfl
theorem dL_law_2518 : decode cL_law 2518 = .ok (.aload_n 1, 1) := dz_43 (k_L_law 39 22 rfl)
theorem dL_law_2519 : decode cL_law 2519 = .ok (.aload_n 0, 1) := dz_42 (k_L_law 39 23 rfl)
theorem dL_law_2520 : decode cL_law 2520 = .ok (.iload 4, 2) := dz_21 (k_L_law 39 24 rfl) (k_L_law 39 25 rfl)
theorem dL_law_2522 : decode cL_law 2522 = .ok (.iconst 1, 1) := dz_4 (k_L_law 39 26 rfl)
theorem dL_law_2523 : decode cL_law 2523 = .ok (.iadd, 1) := dz_96 (k_L_law 39 27 rfl)
theorem dL_law_2524 : decode cL_law 2524 = .ok (.iaload, 1) := dz_46 (k_L_law 39 28 rfl)
theorem dL_law_2525 : decode cL_law 2525 = .ok (.aload_n 0, 1) := dz_42 (k_L_law 39 29 rfl)
theorem dL_law_2526 : decode cL_law 2526 = .ok (.iload 4, 2) := dz_21 (k_L_law 39 30 rfl) (k_L_law 39 31 rfl)
theorem dL_law_2528 : decode cL_law 2528 = .ok (.iconst 2, 1) := dz_5 (k_L_law 39 32 rfl)
theorem dL_law_2529 : decode cL_law 2529 = .ok (.iadd, 1) := dz_96 (k_L_law 39 33 rfl)
theorem dL_law_2530 : decode cL_law 2530 = .ok (.iaload, 1) := dz_46 (k_L_law 39 34 rfl)
theorem dL_law_2531 : decode cL_law 2531 = .ok (.aload_n 0, 1) := dz_42 (k_L_law 39 35 rfl)
theorem dL_law_2532 : decode cL_law 2532 = .ok (.iload 4, 2) := dz_21 (k_L_law 39 36 rfl) (k_L_law 39 37 rfl)
theorem dL_law_2534 : decode cL_law 2534 = .ok (.iconst 3, 1) := dz_6 (k_L_law 39 38 rfl)
theorem dL_law_2535 : decode cL_law 2535 = .ok (.iadd, 1) := dz_96 (k_L_law 39 39 rfl)
theorem dL_law_2536 : decode cL_law 2536 = .ok (.iaload, 1) := dz_46 (k_L_law 39 40 rfl)
theorem dL_law_2537 : decode cL_law 2537 = .ok (.aload_n 0, 1) := dz_42 (k_L_law 39 41 rfl)
theorem dL_law_2538 : decode cL_law 2538 = .ok (.iload 4, 2) := dz_21 (k_L_law 39 42 rfl) (k_L_law 39 43 rfl)
theorem dL_law_2540 : decode cL_law 2540 = .ok (.iconst 4, 1) := dz_7 (k_L_law 39 44 rfl)
theorem dL_law_2541 : decode cL_law 2541 = .ok (.iadd, 1) := dz_96 (k_L_law 39 45 rfl)
theorem dL_law_2542 : decode cL_law 2542 = .ok (.iaload, 1) := dz_46 (k_L_law 39 46 rfl)
theorem dL_law_2543 : decode cL_law 2543 = .ok (.aload_n 3, 1) := dz_45 (k_L_law 39 47 rfl)
theorem dL_law_2544 : decode cL_law 2544 = .ok (.invokestatic 271, 3) := dz_184 (k_L_law 39 48 rfl) (k_L_law 39 49 rfl) (k_L_law 39 50 rfl) rfl
theorem dL_law_2547 : decode cL_law 2547 = .ok (.istore 5, 2) := dz_54 (k_L_law 39 51 rfl) (k_L_law 39 52 rfl)
theorem dL_law_2549 : decode cL_law 2549 = .ok (.aload_n 2, 1) := dz_44 (k_L_law 39 53 rfl)
theorem dL_law_2550 : decode cL_law 2550 = .ok (.aload_n 0, 1) := dz_42 (k_L_law 39 54 rfl)
theorem dL_law_2551 : decode cL_law 2551 = .ok (.iload 4, 2) := dz_21 (k_L_law 39 55 rfl) (k_L_law 39 56 rfl)
theorem dL_law_2553 : decode cL_law 2553 = .ok (.iconst 1, 1) := dz_4 (k_L_law 39 57 rfl)
theorem dL_law_2554 : decode cL_law 2554 = .ok (.iadd, 1) := dz_96 (k_L_law 39 58 rfl)
theorem dL_law_2555 : decode cL_law 2555 = .ok (.iaload, 1) := dz_46 (k_L_law 39 59 rfl)
theorem dL_law_2556 : decode cL_law 2556 = .ok (.aload_n 0, 1) := dz_42 (k_L_law 39 60 rfl)
theorem dL_law_2557 : decode cL_law 2557 = .ok (.iload 4, 2) := dz_21 (k_L_law 39 61 rfl) (k_L_law 39 62 rfl)
theorem dL_law_2559 : decode cL_law 2559 = .ok (.iconst 2, 1) := dz_5 (k_L_law 39 63 rfl)
theorem dL_law_2560 : decode cL_law 2560 = .ok (.iadd, 1) := dz_96 (k_L_law 40 0 rfl)
theorem dL_law_2561 : decode cL_law 2561 = .ok (.iaload, 1) := dz_46 (k_L_law 40 1 rfl)
theorem dL_law_2562 : decode cL_law 2562 = .ok (.aload_n 0, 1) := dz_42 (k_L_law 40 2 rfl)
theorem dL_law_2563 : decode cL_law 2563 = .ok (.iload 4, 2) := dz_21 (k_L_law 40 3 rfl) (k_L_law 40 4 rfl)
theorem dL_law_2565 : decode cL_law 2565 = .ok (.iconst 3, 1) := dz_6 (k_L_law 40 5 rfl)
theorem dL_law_2566 : decode cL_law 2566 = .ok (.iadd, 1) := dz_96 (k_L_law 40 6 rfl)
theorem dL_law_2567 : decode cL_law 2567 = .ok (.iaload, 1) := dz_46 (k_L_law 40 7 rfl)
theorem dL_law_2568 : decode cL_law 2568 = .ok (.aload_n 0, 1) := dz_42 (k_L_law 40 8 rfl)
theorem dL_law_2569 : decode cL_law 2569 = .ok (.iload 4, 2) := dz_21 (k_L_law 40 9 rfl) (k_L_law 40 10 rfl)
theorem dL_law_2571 : decode cL_law 2571 = .ok (.iconst 4, 1) := dz_7 (k_L_law 40 11 rfl)
theorem dL_law_2572 : decode cL_law 2572 = .ok (.iadd, 1) := dz_96 (k_L_law 40 12 rfl)
theorem dL_law_2573 : decode cL_law 2573 = .ok (.iaload, 1) := dz_46 (k_L_law 40 13 rfl)
theorem dL_law_2574 : decode cL_law 2574 = .ok (.invokevirtual 274, 3) := dz_182 (k_L_law 40 14 rfl) (k_L_law 40 15 rfl) (k_L_law 40 16 rfl) rfl
theorem dL_law_2577 : decode cL_law 2577 = .ok (.istore 6, 2) := dz_54 (k_L_law 40 17 rfl) (k_L_law 40 18 rfl)
theorem dL_law_2579 : decode cL_law 2579 = .ok (.aload_n 2, 1) := dz_44 (k_L_law 40 19 rfl)
theorem dL_law_2580 : decode cL_law 2580 = .ok (.invokevirtual 161, 3) := dz_182 (k_L_law 40 20 rfl) (k_L_law 40 21 rfl) (k_L_law 40 22 rfl) rfl
theorem dL_law_2583 : decode cL_law 2583 = .ok (.iload 5, 2) := dz_21 (k_L_law 40 23 rfl) (k_L_law 40 24 rfl)
theorem dL_law_2585 : decode cL_law 2585 = .ok (.if_icmp .eq 5, 3) := dz_159 (k_L_law 40 25 rfl) (k_L_law 40 26 rfl) (k_L_law 40 27 rfl) rfl
theorem dL_law_2588 : decode cL_law 2588 = .ok (.iconst 0, 1) := dz_3 (k_L_law 40 28 rfl)
theorem dL_law_2589 : decode cL_law 2589 = .ok (.ireturn, 1) := dz_172 (k_L_law 40 29 rfl)
theorem dL_law_2590 : decode cL_law 2590 = .ok (.iload 5, 2) := dz_21 (k_L_law 40 30 rfl) (k_L_law 40 31 rfl)
theorem dL_law_2592 : decode cL_law 2592 = .ok (.ifCond .ne 15, 3) := dz_154 (k_L_law 40 32 rfl) (k_L_law 40 33 rfl) (k_L_law 40 34 rfl) rfl
theorem dL_law_2595 : decode cL_law 2595 = .ok (.aload_n 3, 1) := dz_45 (k_L_law 40 35 rfl)
theorem dL_law_2596 : decode cL_law 2596 = .ok (.iconst 0, 1) := dz_3 (k_L_law 40 36 rfl)
theorem dL_law_2597 : decode cL_law 2597 = .ok (.laload, 1) := dz_47 (k_L_law 40 37 rfl)
theorem dL_law_2598 : decode cL_law 2598 = .ok (.iload 6, 2) := dz_21 (k_L_law 40 38 rfl) (k_L_law 40 39 rfl)
theorem dL_law_2600 : decode cL_law 2600 = .ok (.i2l, 1) := dz_133 (k_L_law 40 40 rfl)
theorem dL_law_2601 : decode cL_law 2601 = .ok (.lcmp, 1) := dz_148 (k_L_law 40 41 rfl)
theorem dL_law_2602 : decode cL_law 2602 = .ok (.ifCond .eq 5, 3) := dz_153 (k_L_law 40 42 rfl) (k_L_law 40 43 rfl) (k_L_law 40 44 rfl) rfl
theorem dL_law_2605 : decode cL_law 2605 = .ok (.iconst 0, 1) := dz_3 (k_L_law 40 45 rfl)
theorem dL_law_2606 : decode cL_law 2606 = .ok (.ireturn, 1) := dz_172 (k_L_law 40 46 rfl)
theorem dL_law_2607 : decode cL_law 2607 = .ok (.goto 320, 3) := dz_167 (k_L_law 40 47 rfl) (k_L_law 40 48 rfl) (k_L_law 40 49 rfl) rfl
theorem dL_law_2610 : decode cL_law 2610 = .ok (.aload_n 1, 1) := dz_43 (k_L_law 40 50 rfl)
theorem dL_law_2611 : decode cL_law 2611 = .ok (.aload_n 0, 1) := dz_42 (k_L_law 40 51 rfl)
theorem dL_law_2612 : decode cL_law 2612 = .ok (.iload 4, 2) := dz_21 (k_L_law 40 52 rfl) (k_L_law 40 53 rfl)
theorem dL_law_2614 : decode cL_law 2614 = .ok (.iconst 1, 1) := dz_4 (k_L_law 40 54 rfl)
theorem dL_law_2615 : decode cL_law 2615 = .ok (.iadd, 1) := dz_96 (k_L_law 40 55 rfl)
theorem dL_law_2616 : decode cL_law 2616 = .ok (.iaload, 1) := dz_46 (k_L_law 40 56 rfl)
theorem dL_law_2617 : decode cL_law 2617 = .ok (.aload_n 3, 1) := dz_45 (k_L_law 40 57 rfl)
theorem dL_law_2618 : decode cL_law 2618 = .ok (.invokestatic 275, 3) := dz_184 (k_L_law 40 58 rfl) (k_L_law 40 59 rfl) (k_L_law 40 60 rfl) rfl
theorem dL_law_2621 : decode cL_law 2621 = .ok (.istore 5, 2) := dz_54 (k_L_law 40 61 rfl) (k_L_law 40 62 rfl)
theorem dL_law_2623 : decode cL_law 2623 = .ok (.aload_n 2, 1) := dz_44 (k_L_law 40 63 rfl)
theorem dL_law_2624 : decode cL_law 2624 = .ok (.aload_n 0, 1) := dz_42 (k_L_law 41 0 rfl)
theorem dL_law_2625 : decode cL_law 2625 = .ok (.iload 4, 2) := dz_21 (k_L_law 41 1 rfl) (k_L_law 41 2 rfl)
theorem dL_law_2627 : decode cL_law 2627 = .ok (.iconst 1, 1) := dz_4 (k_L_law 41 3 rfl)
theorem dL_law_2628 : decode cL_law 2628 = .ok (.iadd, 1) := dz_96 (k_L_law 41 4 rfl)
theorem dL_law_2629 : decode cL_law 2629 = .ok (.iaload, 1) := dz_46 (k_L_law 41 5 rfl)
theorem dL_law_2630 : decode cL_law 2630 = .ok (.invokevirtual 277, 3) := dz_182 (k_L_law 41 6 rfl) (k_L_law 41 7 rfl) (k_L_law 41 8 rfl) rfl
theorem dL_law_2633 : decode cL_law 2633 = .ok (.istore 6, 2) := dz_54 (k_L_law 41 9 rfl) (k_L_law 41 10 rfl)
theorem dL_law_2635 : decode cL_law 2635 = .ok (.aload_n 2, 1) := dz_44 (k_L_law 41 11 rfl)
theorem dL_law_2636 : decode cL_law 2636 = .ok (.invokevirtual 161, 3) := dz_182 (k_L_law 41 12 rfl) (k_L_law 41 13 rfl) (k_L_law 41 14 rfl) rfl
theorem dL_law_2639 : decode cL_law 2639 = .ok (.iload 5, 2) := dz_21 (k_L_law 41 15 rfl) (k_L_law 41 16 rfl)
theorem dL_law_2641 : decode cL_law 2641 = .ok (.if_icmp .eq 5, 3) := dz_159 (k_L_law 41 17 rfl) (k_L_law 41 18 rfl) (k_L_law 41 19 rfl) rfl
theorem dL_law_2644 : decode cL_law 2644 = .ok (.iconst 0, 1) := dz_3 (k_L_law 41 20 rfl)
theorem dL_law_2645 : decode cL_law 2645 = .ok (.ireturn, 1) := dz_172 (k_L_law 41 21 rfl)
theorem dL_law_2646 : decode cL_law 2646 = .ok (.iload 5, 2) := dz_21 (k_L_law 41 22 rfl) (k_L_law 41 23 rfl)
theorem dL_law_2648 : decode cL_law 2648 = .ok (.ifCond .ne 22, 3) := dz_154 (k_L_law 41 24 rfl) (k_L_law 41 25 rfl) (k_L_law 41 26 rfl) rfl
theorem dL_law_2651 : decode cL_law 2651 = .ok (.aload_n 3, 1) := dz_45 (k_L_law 41 27 rfl)
theorem dL_law_2652 : decode cL_law 2652 = .ok (.iconst 0, 1) := dz_3 (k_L_law 41 28 rfl)
theorem dL_law_2653 : decode cL_law 2653 = .ok (.laload, 1) := dz_47 (k_L_law 41 29 rfl)
theorem dL_law_2654 : decode cL_law 2654 = .ok (.iload 6, 2) := dz_21 (k_L_law 41 30 rfl) (k_L_law 41 31 rfl)
theorem dL_law_2656 : decode cL_law 2656 = .ok (.ifCond .eq 7, 3) := dz_153 (k_L_law 41 32 rfl) (k_L_law 41 33 rfl) (k_L_law 41 34 rfl) rfl
theorem dL_law_2659 : decode cL_law 2659 = .ok (.lconst 1, 1) := dz_10 (k_L_law 41 35 rfl)
theorem dL_law_2660 : decode cL_law 2660 = .ok (.goto 4, 3) := dz_167 (k_L_law 41 36 rfl) (k_L_law 41 37 rfl) (k_L_law 41 38 rfl) rfl
theorem dL_law_2663 : decode cL_law 2663 = .ok (.lconst 0, 1) := dz_9 (k_L_law 41 39 rfl)
theorem dL_law_2664 : decode cL_law 2664 = .ok (.lcmp, 1) := dz_148 (k_L_law 41 40 rfl)
theorem dL_law_2665 : decode cL_law 2665 = .ok (.ifCond .eq 5, 3) := dz_153 (k_L_law 41 41 rfl) (k_L_law 41 42 rfl) (k_L_law 41 43 rfl) rfl
theorem dL_law_2668 : decode cL_law 2668 = .ok (.iconst 0, 1) := dz_3 (k_L_law 41 44 rfl)
theorem dL_law_2669 : decode cL_law 2669 = .ok (.ireturn, 1) := dz_172 (k_L_law 41 45 rfl)
theorem dL_law_2670 : decode cL_law 2670 = .ok (.goto 257, 3) := dz_167 (k_L_law 41 46 rfl) (k_L_law 41 47 rfl) (k_L_law 41 48 rfl) rfl
theorem dL_law_2673 : decode cL_law 2673 = .ok (.aload_n 1, 1) := dz_43 (k_L_law 41 49 rfl)
theorem dL_law_2674 : decode cL_law 2674 = .ok (.aload_n 0, 1) := dz_42 (k_L_law 41 50 rfl)
theorem dL_law_2675 : decode cL_law 2675 = .ok (.iload 4, 2) := dz_21 (k_L_law 41 51 rfl) (k_L_law 41 52 rfl)
theorem dL_law_2677 : decode cL_law 2677 = .ok (.iconst 1, 1) := dz_4 (k_L_law 41 53 rfl)
theorem dL_law_2678 : decode cL_law 2678 = .ok (.iadd, 1) := dz_96 (k_L_law 41 54 rfl)
theorem dL_law_2679 : decode cL_law 2679 = .ok (.iaload, 1) := dz_46 (k_L_law 41 55 rfl)
theorem dL_law_2680 : decode cL_law 2680 = .ok (.aload_n 0, 1) := dz_42 (k_L_law 41 56 rfl)
theorem dL_law_2681 : decode cL_law 2681 = .ok (.iload 4, 2) := dz_21 (k_L_law 41 57 rfl) (k_L_law 41 58 rfl)
theorem dL_law_2683 : decode cL_law 2683 = .ok (.iconst 2, 1) := dz_5 (k_L_law 41 59 rfl)
theorem dL_law_2684 : decode cL_law 2684 = .ok (.iadd, 1) := dz_96 (k_L_law 41 60 rfl)
theorem dL_law_2685 : decode cL_law 2685 = .ok (.iaload, 1) := dz_46 (k_L_law 41 61 rfl)
theorem dL_law_2686 : decode cL_law 2686 = .ok (.aload_n 0, 1) := dz_42 (k_L_law 41 62 rfl)
theorem dL_law_2687 : decode cL_law 2687 = .ok (.iload 4, 2) := dz_21 (k_L_law 41 63 rfl) (k_L_law 42 0 rfl)
theorem dL_law_2689 : decode cL_law 2689 = .ok (.iconst 3, 1) := dz_6 (k_L_law 42 1 rfl)
theorem dL_law_2690 : decode cL_law 2690 = .ok (.iadd, 1) := dz_96 (k_L_law 42 2 rfl)
theorem dL_law_2691 : decode cL_law 2691 = .ok (.iaload, 1) := dz_46 (k_L_law 42 3 rfl)
theorem dL_law_2692 : decode cL_law 2692 = .ok (.aload_n 3, 1) := dz_45 (k_L_law 42 4 rfl)
theorem dL_law_2693 : decode cL_law 2693 = .ok (.invokestatic 278, 3) := dz_184 (k_L_law 42 5 rfl) (k_L_law 42 6 rfl) (k_L_law 42 7 rfl) rfl
theorem dL_law_2696 : decode cL_law 2696 = .ok (.istore 5, 2) := dz_54 (k_L_law 42 8 rfl) (k_L_law 42 9 rfl)
theorem dL_law_2698 : decode cL_law 2698 = .ok (.aload_n 2, 1) := dz_44 (k_L_law 42 10 rfl)
theorem dL_law_2699 : decode cL_law 2699 = .ok (.aload_n 0, 1) := dz_42 (k_L_law 42 11 rfl)
theorem dL_law_2700 : decode cL_law 2700 = .ok (.iload 4, 2) := dz_21 (k_L_law 42 12 rfl) (k_L_law 42 13 rfl)
theorem dL_law_2702 : decode cL_law 2702 = .ok (.iconst 1, 1) := dz_4 (k_L_law 42 14 rfl)
theorem dL_law_2703 : decode cL_law 2703 = .ok (.iadd, 1) := dz_96 (k_L_law 42 15 rfl)
theorem dL_law_2704 : decode cL_law 2704 = .ok (.iaload, 1) := dz_46 (k_L_law 42 16 rfl)
theorem dL_law_2705 : decode cL_law 2705 = .ok (.aload_n 0, 1) := dz_42 (k_L_law 42 17 rfl)
theorem dL_law_2706 : decode cL_law 2706 = .ok (.iload 4, 2) := dz_21 (k_L_law 42 18 rfl) (k_L_law 42 19 rfl)
theorem dL_law_2708 : decode cL_law 2708 = .ok (.iconst 2, 1) := dz_5 (k_L_law 42 20 rfl)
theorem dL_law_2709 : decode cL_law 2709 = .ok (.iadd, 1) := dz_96 (k_L_law 42 21 rfl)
theorem dL_law_2710 : decode cL_law 2710 = .ok (.iaload, 1) := dz_46 (k_L_law 42 22 rfl)
theorem dL_law_2711 : decode cL_law 2711 = .ok (.aload_n 0, 1) := dz_42 (k_L_law 42 23 rfl)
theorem dL_law_2712 : decode cL_law 2712 = .ok (.iload 4, 2) := dz_21 (k_L_law 42 24 rfl) (k_L_law 42 25 rfl)
theorem dL_law_2714 : decode cL_law 2714 = .ok (.iconst 3, 1) := dz_6 (k_L_law 42 26 rfl)
theorem dL_law_2715 : decode cL_law 2715 = .ok (.iadd, 1) := dz_96 (k_L_law 42 27 rfl)
theorem dL_law_2716 : decode cL_law 2716 = .ok (.iaload, 1) := dz_46 (k_L_law 42 28 rfl)
theorem dL_law_2717 : decode cL_law 2717 = .ok (.invokevirtual 280, 3) := dz_182 (k_L_law 42 29 rfl) (k_L_law 42 30 rfl) (k_L_law 42 31 rfl) rfl
theorem dL_law_2720 : decode cL_law 2720 = .ok (.istore 6, 2) := dz_54 (k_L_law 42 32 rfl) (k_L_law 42 33 rfl)
theorem dL_law_2722 : decode cL_law 2722 = .ok (.aload_n 2, 1) := dz_44 (k_L_law 42 34 rfl)
theorem dL_law_2723 : decode cL_law 2723 = .ok (.invokevirtual 161, 3) := dz_182 (k_L_law 42 35 rfl) (k_L_law 42 36 rfl) (k_L_law 42 37 rfl) rfl
theorem dL_law_2726 : decode cL_law 2726 = .ok (.iload 5, 2) := dz_21 (k_L_law 42 38 rfl) (k_L_law 42 39 rfl)
theorem dL_law_2728 : decode cL_law 2728 = .ok (.if_icmp .eq 5, 3) := dz_159 (k_L_law 42 40 rfl) (k_L_law 42 41 rfl) (k_L_law 42 42 rfl) rfl
theorem dL_law_2731 : decode cL_law 2731 = .ok (.iconst 0, 1) := dz_3 (k_L_law 42 43 rfl)
theorem dL_law_2732 : decode cL_law 2732 = .ok (.ireturn, 1) := dz_172 (k_L_law 42 44 rfl)
theorem dL_law_2733 : decode cL_law 2733 = .ok (.iload 5, 2) := dz_21 (k_L_law 42 45 rfl) (k_L_law 42 46 rfl)
theorem dL_law_2735 : decode cL_law 2735 = .ok (.ifCond .ne 15, 3) := dz_154 (k_L_law 42 47 rfl) (k_L_law 42 48 rfl) (k_L_law 42 49 rfl) rfl
theorem dL_law_2738 : decode cL_law 2738 = .ok (.aload_n 3, 1) := dz_45 (k_L_law 42 50 rfl)
theorem dL_law_2739 : decode cL_law 2739 = .ok (.iconst 0, 1) := dz_3 (k_L_law 42 51 rfl)
theorem dL_law_2740 : decode cL_law 2740 = .ok (.laload, 1) := dz_47 (k_L_law 42 52 rfl)
theorem dL_law_2741 : decode cL_law 2741 = .ok (.iload 6, 2) := dz_21 (k_L_law 42 53 rfl) (k_L_law 42 54 rfl)
theorem dL_law_2743 : decode cL_law 2743 = .ok (.i2l, 1) := dz_133 (k_L_law 42 55 rfl)
theorem dL_law_2744 : decode cL_law 2744 = .ok (.lcmp, 1) := dz_148 (k_L_law 42 56 rfl)
theorem dL_law_2745 : decode cL_law 2745 = .ok (.ifCond .eq 5, 3) := dz_153 (k_L_law 42 57 rfl) (k_L_law 42 58 rfl) (k_L_law 42 59 rfl) rfl
theorem dL_law_2748 : decode cL_law 2748 = .ok (.iconst 0, 1) := dz_3 (k_L_law 42 60 rfl)
theorem dL_law_2749 : decode cL_law 2749 = .ok (.ireturn, 1) := dz_172 (k_L_law 42 61 rfl)
theorem dL_law_2750 : decode cL_law 2750 = .ok (.goto 177, 3) := dz_167 (k_L_law 42 62 rfl) (k_L_law 42 63 rfl) (k_L_law 43 0 rfl) rfl
theorem dL_law_2753 : decode cL_law 2753 = .ok (.aload_n 1, 1) := dz_43 (k_L_law 43 1 rfl)
theorem dL_law_2754 : decode cL_law 2754 = .ok (.aload_n 0, 1) := dz_42 (k_L_law 43 2 rfl)
theorem dL_law_2755 : decode cL_law 2755 = .ok (.iload 4, 2) := dz_21 (k_L_law 43 3 rfl) (k_L_law 43 4 rfl)
theorem dL_law_2757 : decode cL_law 2757 = .ok (.iconst 1, 1) := dz_4 (k_L_law 43 5 rfl)
theorem dL_law_2758 : decode cL_law 2758 = .ok (.iadd, 1) := dz_96 (k_L_law 43 6 rfl)
theorem dL_law_2759 : decode cL_law 2759 = .ok (.iaload, 1) := dz_46 (k_L_law 43 7 rfl)
theorem dL_law_2760 : decode cL_law 2760 = .ok (.aload_n 3, 1) := dz_45 (k_L_law 43 8 rfl)
theorem dL_law_2761 : decode cL_law 2761 = .ok (.invokestatic 281, 3) := dz_184 (k_L_law 43 9 rfl) (k_L_law 43 10 rfl) (k_L_law 43 11 rfl) rfl
theorem dL_law_2764 : decode cL_law 2764 = .ok (.istore 5, 2) := dz_54 (k_L_law 43 12 rfl) (k_L_law 43 13 rfl)
theorem dL_law_2766 : decode cL_law 2766 = .ok (.aload_n 2, 1) := dz_44 (k_L_law 43 14 rfl)
theorem dL_law_2767 : decode cL_law 2767 = .ok (.aload_n 0, 1) := dz_42 (k_L_law 43 15 rfl)
theorem dL_law_2768 : decode cL_law 2768 = .ok (.iload 4, 2) := dz_21 (k_L_law 43 16 rfl) (k_L_law 43 17 rfl)
theorem dL_law_2770 : decode cL_law 2770 = .ok (.iconst 1, 1) := dz_4 (k_L_law 43 18 rfl)
theorem dL_law_2771 : decode cL_law 2771 = .ok (.iadd, 1) := dz_96 (k_L_law 43 19 rfl)
theorem dL_law_2772 : decode cL_law 2772 = .ok (.iaload, 1) := dz_46 (k_L_law 43 20 rfl)
theorem dL_law_2773 : decode cL_law 2773 = .ok (.invokevirtual 283, 3) := dz_182 (k_L_law 43 21 rfl) (k_L_law 43 22 rfl) (k_L_law 43 23 rfl) rfl
theorem dL_law_2776 : decode cL_law 2776 = .ok (.istore 6, 2) := dz_54 (k_L_law 43 24 rfl) (k_L_law 43 25 rfl)
theorem dL_law_2778 : decode cL_law 2778 = .ok (.aload_n 2, 1) := dz_44 (k_L_law 43 26 rfl)
theorem dL_law_2779 : decode cL_law 2779 = .ok (.invokevirtual 161, 3) := dz_182 (k_L_law 43 27 rfl) (k_L_law 43 28 rfl) (k_L_law 43 29 rfl) rfl
theorem dL_law_2782 : decode cL_law 2782 = .ok (.iload 5, 2) := dz_21 (k_L_law 43 30 rfl) (k_L_law 43 31 rfl)
theorem dL_law_2784 : decode cL_law 2784 = .ok (.if_icmp .eq 5, 3) := dz_159 (k_L_law 43 32 rfl) (k_L_law 43 33 rfl) (k_L_law 43 34 rfl) rfl
theorem dL_law_2787 : decode cL_law 2787 = .ok (.iconst 0, 1) := dz_3 (k_L_law 43 35 rfl)
theorem dL_law_2788 : decode cL_law 2788 = .ok (.ireturn, 1) := dz_172 (k_L_law 43 36 rfl)
theorem dL_law_2789 : decode cL_law 2789 = .ok (.iload 5, 2) := dz_21 (k_L_law 43 37 rfl) (k_L_law 43 38 rfl)
theorem dL_law_2791 : decode cL_law 2791 = .ok (.ifCond .ne 15, 3) := dz_154 (k_L_law 43 39 rfl) (k_L_law 43 40 rfl) (k_L_law 43 41 rfl) rfl
theorem dL_law_2794 : decode cL_law 2794 = .ok (.aload_n 3, 1) := dz_45 (k_L_law 43 42 rfl)
theorem dL_law_2795 : decode cL_law 2795 = .ok (.iconst 0, 1) := dz_3 (k_L_law 43 43 rfl)
theorem dL_law_2796 : decode cL_law 2796 = .ok (.laload, 1) := dz_47 (k_L_law 43 44 rfl)
theorem dL_law_2797 : decode cL_law 2797 = .ok (.iload 6, 2) := dz_21 (k_L_law 43 45 rfl) (k_L_law 43 46 rfl)
theorem dL_law_2799 : decode cL_law 2799 = .ok (.i2l, 1) := dz_133 (k_L_law 43 47 rfl)
theorem dL_law_2800 : decode cL_law 2800 = .ok (.lcmp, 1) := dz_148 (k_L_law 43 48 rfl)
theorem dL_law_2801 : decode cL_law 2801 = .ok (.ifCond .eq 5, 3) := dz_153 (k_L_law 43 49 rfl) (k_L_law 43 50 rfl) (k_L_law 43 51 rfl) rfl
theorem dL_law_2804 : decode cL_law 2804 = .ok (.iconst 0, 1) := dz_3 (k_L_law 43 52 rfl)
theorem dL_law_2805 : decode cL_law 2805 = .ok (.ireturn, 1) := dz_172 (k_L_law 43 53 rfl)
theorem dL_law_2806 : decode cL_law 2806 = .ok (.goto 121, 3) := dz_167 (k_L_law 43 54 rfl) (k_L_law 43 55 rfl) (k_L_law 43 56 rfl) rfl
theorem dL_law_2809 : decode cL_law 2809 = .ok (.aload_n 1, 1) := dz_43 (k_L_law 43 57 rfl)
theorem dL_law_2810 : decode cL_law 2810 = .ok (.invokevirtual 284, 3) := dz_182 (k_L_law 43 58 rfl) (k_L_law 43 59 rfl) (k_L_law 43 60 rfl) rfl
theorem dL_law_2813 : decode cL_law 2813 = .ok (.aload_n 2, 1) := dz_44 (k_L_law 43 61 rfl)
theorem dL_law_2814 : decode cL_law 2814 = .ok (.invokevirtual 287, 3) := dz_182 (k_L_law 43 62 rfl) (k_L_law 43 63 rfl) (k_L_law 44 0 rfl) rfl
theorem dL_law_2817 : decode cL_law 2817 = .ok (.if_icmp .eq 110, 3) := dz_159 (k_L_law 44 1 rfl) (k_L_law 44 2 rfl) (k_L_law 44 3 rfl) rfl
theorem dL_law_2820 : decode cL_law 2820 = .ok (.iconst 0, 1) := dz_3 (k_L_law 44 4 rfl)
theorem dL_law_2821 : decode cL_law 2821 = .ok (.ireturn, 1) := dz_172 (k_L_law 44 5 rfl)
theorem dL_law_2822 : decode cL_law 2822 = .ok (.aload_n 1, 1) := dz_43 (k_L_law 44 6 rfl)
theorem dL_law_2823 : decode cL_law 2823 = .ok (.aload_n 0, 1) := dz_42 (k_L_law 44 7 rfl)
theorem dL_law_2824 : decode cL_law 2824 = .ok (.iload 4, 2) := dz_21 (k_L_law 44 8 rfl) (k_L_law 44 9 rfl)
theorem dL_law_2826 : decode cL_law 2826 = .ok (.iconst 1, 1) := dz_4 (k_L_law 44 10 rfl)
theorem dL_law_2827 : decode cL_law 2827 = .ok (.iadd, 1) := dz_96 (k_L_law 44 11 rfl)
theorem dL_law_2828 : decode cL_law 2828 = .ok (.iaload, 1) := dz_46 (k_L_law 44 12 rfl)
theorem dL_law_2829 : decode cL_law 2829 = .ok (.aload_n 3, 1) := dz_45 (k_L_law 44 13 rfl)
theorem dL_law_2830 : decode cL_law 2830 = .ok (.invokestatic 288, 3) := dz_184 (k_L_law 44 14 rfl) (k_L_law 44 15 rfl) (k_L_law 44 16 rfl) rfl
theorem dL_law_2833 : decode cL_law 2833 = .ok (.istore 5, 2) := dz_54 (k_L_law 44 17 rfl) (k_L_law 44 18 rfl)
theorem dL_law_2835 : decode cL_law 2835 = .ok (.aload_n 2, 1) := dz_44 (k_L_law 44 19 rfl)
theorem dL_law_2836 : decode cL_law 2836 = .ok (.aload_n 0, 1) := dz_42 (k_L_law 44 20 rfl)
theorem dL_law_2837 : decode cL_law 2837 = .ok (.iload 4, 2) := dz_21 (k_L_law 44 21 rfl) (k_L_law 44 22 rfl)
theorem dL_law_2839 : decode cL_law 2839 = .ok (.iconst 1, 1) := dz_4 (k_L_law 44 23 rfl)
theorem dL_law_2840 : decode cL_law 2840 = .ok (.iadd, 1) := dz_96 (k_L_law 44 24 rfl)
theorem dL_law_2841 : decode cL_law 2841 = .ok (.iaload, 1) := dz_46 (k_L_law 44 25 rfl)
theorem dL_law_2842 : decode cL_law 2842 = .ok (.invokevirtual 290, 3) := dz_182 (k_L_law 44 26 rfl) (k_L_law 44 27 rfl) (k_L_law 44 28 rfl) rfl
theorem dL_law_2845 : decode cL_law 2845 = .ok (.istore 6, 2) := dz_54 (k_L_law 44 29 rfl) (k_L_law 44 30 rfl)
theorem dL_law_2847 : decode cL_law 2847 = .ok (.aload_n 2, 1) := dz_44 (k_L_law 44 31 rfl)
theorem dL_law_2848 : decode cL_law 2848 = .ok (.invokevirtual 161, 3) := dz_182 (k_L_law 44 32 rfl) (k_L_law 44 33 rfl) (k_L_law 44 34 rfl) rfl
theorem dL_law_2851 : decode cL_law 2851 = .ok (.iload 5, 2) := dz_21 (k_L_law 44 35 rfl) (k_L_law 44 36 rfl)
theorem dL_law_2853 : decode cL_law 2853 = .ok (.if_icmp .eq 5, 3) := dz_159 (k_L_law 44 37 rfl) (k_L_law 44 38 rfl) (k_L_law 44 39 rfl) rfl
theorem dL_law_2856 : decode cL_law 2856 = .ok (.iconst 0, 1) := dz_3 (k_L_law 44 40 rfl)
theorem dL_law_2857 : decode cL_law 2857 = .ok (.ireturn, 1) := dz_172 (k_L_law 44 41 rfl)
theorem dL_law_2858 : decode cL_law 2858 = .ok (.iload 5, 2) := dz_21 (k_L_law 44 42 rfl) (k_L_law 44 43 rfl)
theorem dL_law_2860 : decode cL_law 2860 = .ok (.ifCond .ne 15, 3) := dz_154 (k_L_law 44 44 rfl) (k_L_law 44 45 rfl) (k_L_law 44 46 rfl) rfl
theorem dL_law_2863 : decode cL_law 2863 = .ok (.aload_n 3, 1) := dz_45 (k_L_law 44 47 rfl)
theorem dL_law_2864 : decode cL_law 2864 = .ok (.iconst 0, 1) := dz_3 (k_L_law 44 48 rfl)
theorem dL_law_2865 : decode cL_law 2865 = .ok (.laload, 1) := dz_47 (k_L_law 44 49 rfl)
theorem dL_law_2866 : decode cL_law 2866 = .ok (.iload 6, 2) := dz_21 (k_L_law 44 50 rfl) (k_L_law 44 51 rfl)
theorem dL_law_2868 : decode cL_law 2868 = .ok (.i2l, 1) := dz_133 (k_L_law 44 52 rfl)
theorem dL_law_2869 : decode cL_law 2869 = .ok (.lcmp, 1) := dz_148 (k_L_law 44 53 rfl)
theorem dL_law_2870 : decode cL_law 2870 = .ok (.ifCond .eq 5, 3) := dz_153 (k_L_law 44 54 rfl) (k_L_law 44 55 rfl) (k_L_law 44 56 rfl) rfl
theorem dL_law_2873 : decode cL_law 2873 = .ok (.iconst 0, 1) := dz_3 (k_L_law 44 57 rfl)
theorem dL_law_2874 : decode cL_law 2874 = .ok (.ireturn, 1) := dz_172 (k_L_law 44 58 rfl)
theorem dL_law_2875 : decode cL_law 2875 = .ok (.goto 52, 3) := dz_167 (k_L_law 44 59 rfl) (k_L_law 44 60 rfl) (k_L_law 44 61 rfl) rfl
theorem dL_law_2878 : decode cL_law 2878 = .ok (.aload_n 1, 1) := dz_43 (k_L_law 44 62 rfl)
theorem dL_law_2879 : decode cL_law 2879 = .ok (.invokevirtual 291, 3) := dz_182 (k_L_law 44 63 rfl) (k_L_law 45 0 rfl) (k_L_law 45 1 rfl) rfl
theorem dL_law_2882 : decode cL_law 2882 = .ok (.aload_n 2, 1) := dz_44 (k_L_law 45 2 rfl)
theorem dL_law_2883 : decode cL_law 2883 = .ok (.invokevirtual 294, 3) := dz_182 (k_L_law 45 3 rfl) (k_L_law 45 4 rfl) (k_L_law 45 5 rfl) rfl
theorem dL_law_2886 : decode cL_law 2886 = .ok (.goto 41, 3) := dz_167 (k_L_law 45 6 rfl) (k_L_law 45 7 rfl) (k_L_law 45 8 rfl) rfl
theorem dL_law_2889 : decode cL_law 2889 = .ok (.aload_n 1, 1) := dz_43 (k_L_law 45 9 rfl)
theorem dL_law_2890 : decode cL_law 2890 = .ok (.invokevirtual 295, 3) := dz_182 (k_L_law 45 10 rfl) (k_L_law 45 11 rfl) (k_L_law 45 12 rfl) rfl
theorem dL_law_2893 : decode cL_law 2893 = .ok (.aload_n 2, 1) := dz_44 (k_L_law 45 13 rfl)
theorem dL_law_2894 : decode cL_law 2894 = .ok (.invokevirtual 299, 3) := dz_182 (k_L_law 45 14 rfl) (k_L_law 45 15 rfl) (k_L_law 45 16 rfl) rfl
theorem dL_law_2897 : decode cL_law 2897 = .ok (.if_icmp .eq 30, 3) := dz_159 (k_L_law 45 17 rfl) (k_L_law 45 18 rfl) (k_L_law 45 19 rfl) rfl
theorem dL_law_2900 : decode cL_law 2900 = .ok (.iconst 0, 1) := dz_3 (k_L_law 45 20 rfl)
theorem dL_law_2901 : decode cL_law 2901 = .ok (.ireturn, 1) := dz_172 (k_L_law 45 21 rfl)
theorem dL_law_2902 : decode cL_law 2902 = .ok (.aload_n 1, 1) := dz_43 (k_L_law 45 22 rfl)
theorem dL_law_2903 : decode cL_law 2903 = .ok (.aload_n 0, 1) := dz_42 (k_L_law 45 23 rfl)
theorem dL_law_2904 : decode cL_law 2904 = .ok (.iload 4, 2) := dz_21 (k_L_law 45 24 rfl) (k_L_law 45 25 rfl)
theorem dL_law_2906 : decode cL_law 2906 = .ok (.iconst 1, 1) := dz_4 (k_L_law 45 26 rfl)
theorem dL_law_2907 : decode cL_law 2907 = .ok (.iadd, 1) := dz_96 (k_L_law 45 27 rfl)
theorem dL_law_2908 : decode cL_law 2908 = .ok (.iaload, 1) := dz_46 (k_L_law 45 28 rfl)
theorem dL_law_2909 : decode cL_law 2909 = .ok (.invokevirtual 300, 3) := dz_182 (k_L_law 45 29 rfl) (k_L_law 45 30 rfl) (k_L_law 45 31 rfl) rfl
theorem dL_law_2912 : decode cL_law 2912 = .ok (.aload_n 2, 1) := dz_44 (k_L_law 45 32 rfl)
theorem dL_law_2913 : decode cL_law 2913 = .ok (.aload_n 0, 1) := dz_42 (k_L_law 45 33 rfl)
theorem dL_law_2914 : decode cL_law 2914 = .ok (.iload 4, 2) := dz_21 (k_L_law 45 34 rfl) (k_L_law 45 35 rfl)
theorem dL_law_2916 : decode cL_law 2916 = .ok (.iconst 1, 1) := dz_4 (k_L_law 45 36 rfl)
theorem dL_law_2917 : decode cL_law 2917 = .ok (.iadd, 1) := dz_96 (k_L_law 45 37 rfl)
theorem dL_law_2918 : decode cL_law 2918 = .ok (.iaload, 1) := dz_46 (k_L_law 45 38 rfl)
theorem dL_law_2919 : decode cL_law 2919 = .ok (.invokevirtual 303, 3) := dz_182 (k_L_law 45 39 rfl) (k_L_law 45 40 rfl) (k_L_law 45 41 rfl) rfl
theorem dL_law_2922 : decode cL_law 2922 = .ok (.if_icmp .eq 5, 3) := dz_159 (k_L_law 45 42 rfl) (k_L_law 45 43 rfl) (k_L_law 45 44 rfl) rfl
theorem dL_law_2925 : decode cL_law 2925 = .ok (.iconst 0, 1) := dz_3 (k_L_law 45 45 rfl)
theorem dL_law_2926 : decode cL_law 2926 = .ok (.ireturn, 1) := dz_172 (k_L_law 45 46 rfl)
theorem dL_law_2927 : decode cL_law 2927 = .ok (.iinc 4 7, 3) := dz_132 (k_L_law 45 47 rfl) (k_L_law 45 48 rfl) (k_L_law 45 49 rfl) rfl
theorem dL_law_2930 : decode cL_law 2930 = .ok (.goto (-2907), 3) := dz_167 (k_L_law 45 50 rfl) (k_L_law 45 51 rfl) (k_L_law 45 52 rfl) rfl
theorem dL_law_2933 : decode cL_law 2933 = .ok (.iconst 1, 1) := dz_4 (k_L_law 45 53 rfl)
theorem dL_law_2934 : decode cL_law 2934 = .ok (.ireturn, 1) := dz_172 (k_L_law 45 54 rfl)
