def B_X1_isAmong : List (List Nat) := [[3, 62, 29, 42, 180, 0, 48, 162, 0, 29, 27, 29, 122, 4, 126, 153, 0, 15, 42, 180, 0, 32, 29, 46, 28, 160, 0, 5, 4, 172, 132, 3, 1, 167, 255, 225, 3, 172]]
theorem k_X1_isAmong (j i : Nat) {b : Nat} (h : (B_X1_isAmong[j]?.bind fun c => c[i]?) = some b) : s_by cX1_isAmong (64 * j + i) b := s_byC (L := B_X1_isAmong) (by decide +kernel) (by decide +kernel) j i h
theorem dX1_isAmong_0 : decode cX1_isAmong 0 = .ok (.iconst 0, 1) := dz_3 (k_X1_isAmong 0 0 rfl)
theorem dX1_isAmong_1 : decode cX1_isAmong 1 = .ok (.istore_n 3, 1) := dz_62 (k_X1_isAmong 0 1 rfl)
theorem dX1_isAmong_2 : decode cX1_isAmong 2 = .ok (.iload_n 3, 1) := dz_29 (k_X1_isAmong 0 2 rfl)
theorem dX1_isAmong_3 : decode cX1_isAmong 3 = .ok (.aload_n 0, 1) := dz_42 (k_X1_isAmong 0 3 rfl)
theorem dX1_isAmong_4 : decode cX1_isAmong 4 = .ok (.getfield 48, 3) := dz_180 (k_X1_isAmong 0 4 rfl) (k_X1_isAmong 0 5 rfl) (k_X1_isAmong 0 6 rfl) rfl
theorem dX1_isAmong_7 : decode cX1_isAmong 7 = .ok (.if_icmp .ge 29, 3) := dz_162 (k_X1_isAmong 0 7 rfl) (k_X1_isAmong 0 8 rfl) (k_X1_isAmong 0 9 rfl) rfl
theorem dX1_isAmong_10 : decode cX1_isAmong 10 = .ok (.iload_n 1, 1) := dz_27 (k_X1_isAmong 0 10 rfl)
theorem dX1_isAmong_11 : decode cX1_isAmong 11 = .ok (.iload_n 3, 1) := dz_29 (k_X1_isAmong 0 11 rfl)
theorem dX1_isAmong_12 : decode cX1_isAmong 12 = .ok (.ishr, 1) := dz_122 (k_X1_isAmong 0 12 rfl)
theorem dX1_isAmong_13 : decode cX1_isAmong 13 = .ok (.iconst 1, 1) := dz_4 (k_X1_isAmong 0 13 rfl)
theorem dX1_isAmong_14 : decode cX1_isAmong 14 = .ok (.iand, 1) := dz_126 (k_X1_isAmong 0 14 rfl)
theorem dX1_isAmong_15 : decode cX1_isAmong 15 = .ok (.ifCond .eq 15, 3) := dz_153 (k_X1_isAmong 0 15 rfl) (k_X1_isAmong 0 16 rfl) (k_X1_isAmong 0 17 rfl) rfl
theorem dX1_isAmong_18 : decode cX1_isAmong 18 = .ok (.aload_n 0, 1) := dz_42 (k_X1_isAmong 0 18 rfl)
theorem dX1_isAmong_19 : decode cX1_isAmong 19 = .ok (.getfield 32, 3) := dz_180 (k_X1_isAmong 0 19 rfl) (k_X1_isAmong 0 20 rfl) (k_X1_isAmong 0 21 rfl) rfl
theorem dX1_isAmong_22 : decode cX1_isAmong 22 = .ok (.iload_n 3, 1) := dz_29 (k_X1_isAmong 0 22 rfl)
theorem dX1_isAmong_23 : decode cX1_isAmong 23 = .ok (.iaload, 1) := dz_46 (k_X1_isAmong 0 23 rfl)
theorem dX1_isAmong_24 : decode cX1_isAmong 24 = .ok (.iload_n 2, 1) := dz_28 (k_X1_isAmong 0 24 rfl)
theorem dX1_isAmong_25 : decode cX1_isAmong 25 = .ok (.if_icmp .ne 5, 3) := dz_160 (k_X1_isAmong 0 25 rfl) (k_X1_isAmong 0 26 rfl) (k_X1_isAmong 0 27 rfl) rfl
theorem dX1_isAmong_28 : decode cX1_isAmong 28 = .ok (.iconst 1, 1) := dz_4 (k_X1_isAmong 0 28 rfl)
theorem dX1_isAmong_29 : decode cX1_isAmong 29 = .ok (.ireturn, 1) := dz_172 (k_X1_isAmong 0 29 rfl)
theorem dX1_isAmong_30 : decode cX1_isAmong 30 = .ok (.iinc 3 1, 3) := dz_132 (k_X1_isAmong 0 30 rfl) (k_X1_isAmong 0 31 rfl) (k_X1_isAmong 0 32 rfl) rfl
theorem dX1_isAmong_33 : decode cX1_isAmong 33 = .ok (.goto (-31), 3) := dz_167 (k_X1_isAmong 0 33 rfl) (k_X1_isAmong 0 34 rfl) (k_X1_isAmong 0 35 rfl) rfl
theorem dX1_isAmong_36 : decode cX1_isAmong 36 = .ok (.iconst 0, 1) := dz_3 (k_X1_isAmong 0 36 rfl)
theorem dX1_isAmong_37 : decode cX1_isAmong 37 = .ok (.ireturn, 1) := dz_172 (k_X1_isAmong 0 37 rfl)
def B_X1_isTrue : List (List Nat) := [[42, 27, 28, 16, 6, 122, 182, 0, 78, 28, 16, 63, 126, 125, 10, 127, 9, 148, 153, 0, 7, 4, 167, 0, 4, 3, 172]]
theorem k_X1_isTrue (j i : Nat) {b : Nat} (h : (B_X1_isTrue[j]?.bind fun c => c[i]?) = some b) : s_by cX1_isTrue (64 * j + i) b := s_byC (L := B_X1_isTrue) (by decide +kernel) (by decide +kernel) j i h
theorem dX1_isTrue_0 : decode cX1_isTrue 0 = .ok (.aload_n 0, 1) := dz_42 (k_X1_isTrue 0 0 rfl)
theorem dX1_isTrue_1 : decode cX1_isTrue 1 = .ok (.iload_n 1, 1) := dz_27 (k_X1_isTrue 0 1 rfl)
theorem dX1_isTrue_2 : decode cX1_isTrue 2 = .ok (.iload_n 2, 1) := dz_28 (k_X1_isTrue 0 2 rfl)
theorem dX1_isTrue_3 : decode cX1_isTrue 3 = .ok (.bipush 6, 2) := dz_16 (k_X1_isTrue 0 3 rfl) (k_X1_isTrue 0 4 rfl) rfl
theorem dX1_isTrue_5 : decode cX1_isTrue 5 = .ok (.ishr, 1) := dz_122 (k_X1_isTrue 0 5 rfl)
theorem dX1_isTrue_6 : decode cX1_isTrue 6 = .ok (.invokevirtual 78, 3) := dz_182 (k_X1_isTrue 0 6 rfl) (k_X1_isTrue 0 7 rfl) (k_X1_isTrue 0 8 rfl) rfl
theorem dX1_isTrue_9 : decode cX1_isTrue 9 = .ok (.iload_n 2, 1) := dz_28 (k_X1_isTrue 0 9 rfl)
theorem dX1_isTrue_10 : decode cX1_isTrue 10 = .ok (.bipush 63, 2) := dz_16 (k_X1_isTrue 0 10 rfl) (k_X1_isTrue 0 11 rfl) rfl
theorem dX1_isTrue_12 : decode cX1_isTrue 12 = .ok (.iand, 1) := dz_126 (k_X1_isTrue 0 12 rfl)
theorem dX1_isTrue_13 : decode cX1_isTrue 13 = .ok (.lushr, 1) := dz_125 (k_X1_isTrue 0 13 rfl)
theorem dX1_isTrue_14 : decode cX1_isTrue 14 = .ok (.lconst 1, 1) := dz_10 (k_X1_isTrue 0 14 rfl)
theorem dX1_isTrue_15 : decode cX1_isTrue 15 = .ok (.land, 1) := dz_127 (k_X1_isTrue 0 15 rfl)
theorem dX1_isTrue_16 : decode cX1_isTrue 16 = .ok (.lconst 0, 1) := dz_9 (k_X1_isTrue 0 16 rfl)
theorem dX1_isTrue_17 : decode cX1_isTrue 17 = .ok (.lcmp, 1) := dz_148 (k_X1_isTrue 0 17 rfl)
theorem dX1_isTrue_18 : decode cX1_isTrue 18 = .ok (.ifCond .eq 7, 3) := dz_153 (k_X1_isTrue 0 18 rfl) (k_X1_isTrue 0 19 rfl) (k_X1_isTrue 0 20 rfl) rfl
theorem dX1_isTrue_21 : decode cX1_isTrue 21 = .ok (.iconst 1, 1) := dz_4 (k_X1_isTrue 0 21 rfl)
theorem dX1_isTrue_22 : decode cX1_isTrue 22 = .ok (.goto 4, 3) := dz_167 (k_X1_isTrue 0 22 rfl) (k_X1_isTrue 0 23 rfl) (k_X1_isTrue 0 24 rfl) rfl
theorem dX1_isTrue_25 : decode cX1_isTrue 25 = .ok (.iconst 0, 1) := dz_3 (k_X1_isTrue 0 25 rfl)
theorem dX1_isTrue_26 : decode cX1_isTrue 26 = .ok (.ireturn, 1) := dz_172 (k_X1_isTrue 0 26 rfl)
def B_X1_isVoid : List (List Nat) := [[42, 180, 0, 57, 27, 122, 4, 126, 153, 0, 7, 4, 167, 0, 4, 3, 172]]
theorem k_X1_isVoid (j i : Nat) {b : Nat} (h : (B_X1_isVoid[j]?.bind fun c => c[i]?) = some b) : s_by cX1_isVoid (64 * j + i) b := s_byC (L := B_X1_isVoid) (by decide +kernel) (by decide +kernel) j i h
theorem dX1_isVoid_0 : decode cX1_isVoid 0 = .ok (.aload_n 0, 1) := dz_42 (k_X1_isVoid 0 0 rfl)
theorem dX1_isVoid_1 : decode cX1_isVoid 1 = .ok (.getfield 57, 3) := dz_180 (k_X1_isVoid 0 1 rfl) (k_X1_isVoid 0 2 rfl) (k_X1_isVoid 0 3 rfl) rfl
theorem dX1_isVoid_4 : decode cX1_isVoid 4 = .ok (.iload_n 1, 1) := dz_27 (k_X1_isVoid 0 4 rfl)
theorem dX1_isVoid_5 : decode cX1_isVoid 5 = .ok (.ishr, 1) := dz_122 (k_X1_isVoid 0 5 rfl)
theorem dX1_isVoid_6 : decode cX1_isVoid 6 = .ok (.iconst 1, 1) := dz_4 (k_X1_isVoid 0 6 rfl)
theorem dX1_isVoid_7 : decode cX1_isVoid 7 = .ok (.iand, 1) := dz_126 (k_X1_isVoid 0 7 rfl)
theorem dX1_isVoid_8 : decode cX1_isVoid 8 = .ok (.ifCond .eq 7, 3) := dz_153 (k_X1_isVoid 0 8 rfl) (k_X1_isVoid 0 9 rfl) (k_X1_isVoid 0 10 rfl) rfl
theorem dX1_isVoid_11 : decode cX1_isVoid 11 = .ok (.iconst 1, 1) := dz_4 (k_X1_isVoid 0 11 rfl)
theorem dX1_isVoid_12 : decode cX1_isVoid 12 = .ok (.goto 4, 3) := dz_167 (k_X1_isVoid 0 12 rfl) (k_X1_isVoid 0 13 rfl) (k_X1_isVoid 0 14 rfl) rfl
theorem dX1_isVoid_15 : decode cX1_isVoid 15 = .ok (.iconst 0, 1) := dz_3 (k_X1_isVoid 0 15 rfl)
theorem dX1_isVoid_16 : decode cX1_isVoid 16 = .ok (.ireturn, 1) := dz_172 (k_X1_isVoid 0 16 rfl)
def B_X1_nodeOf : List (List Nat) := [[27, 155, 0, 20, 27, 42, 180, 0, 48, 162, 0, 12, 42, 180, 0, 32, 27, 46, 167, 0, 4, 2, 172]]
theorem k_X1_nodeOf (j i : Nat) {b : Nat} (h : (B_X1_nodeOf[j]?.bind fun c => c[i]?) = some b) : s_by cX1_nodeOf (64 * j + i) b := s_byC (L := B_X1_nodeOf) (by decide +kernel) (by decide +kernel) j i h
theorem dX1_nodeOf_0 : decode cX1_nodeOf 0 = .ok (.iload_n 1, 1) := dz_27 (k_X1_nodeOf 0 0 rfl)
theorem dX1_nodeOf_1 : decode cX1_nodeOf 1 = .ok (.ifCond .lt 20, 3) := dz_155 (k_X1_nodeOf 0 1 rfl) (k_X1_nodeOf 0 2 rfl) (k_X1_nodeOf 0 3 rfl) rfl
theorem dX1_nodeOf_4 : decode cX1_nodeOf 4 = .ok (.iload_n 1, 1) := dz_27 (k_X1_nodeOf 0 4 rfl)
theorem dX1_nodeOf_5 : decode cX1_nodeOf 5 = .ok (.aload_n 0, 1) := dz_42 (k_X1_nodeOf 0 5 rfl)
theorem dX1_nodeOf_6 : decode cX1_nodeOf 6 = .ok (.getfield 48, 3) := dz_180 (k_X1_nodeOf 0 6 rfl) (k_X1_nodeOf 0 7 rfl) (k_X1_nodeOf 0 8 rfl) rfl
theorem dX1_nodeOf_9 : decode cX1_nodeOf 9 = .ok (.if_icmp .ge 12, 3) := dz_162 (k_X1_nodeOf 0 9 rfl) (k_X1_nodeOf 0 10 rfl) (k_X1_nodeOf 0 11 rfl) rfl
theorem dX1_nodeOf_12 : decode cX1_nodeOf 12 = .ok (.aload_n 0, 1) := dz_42 (k_X1_nodeOf 0 12 rfl)
theorem dX1_nodeOf_13 : decode cX1_nodeOf 13 = .ok (.getfield 32, 3) := dz_180 (k_X1_nodeOf 0 13 rfl) (k_X1_nodeOf 0 14 rfl) (k_X1_nodeOf 0 15 rfl) rfl
theorem dX1_nodeOf_16 : decode cX1_nodeOf 16 = .ok (.iload_n 1, 1) := dz_27 (k_X1_nodeOf 0 16 rfl)
theorem dX1_nodeOf_17 : decode cX1_nodeOf 17 = .ok (.iaload, 1) := dz_46 (k_X1_nodeOf 0 17 rfl)
theorem dX1_nodeOf_18 : decode cX1_nodeOf 18 = .ok (.goto 4, 3) := dz_167 (k_X1_nodeOf 0 18 rfl) (k_X1_nodeOf 0 19 rfl) (k_X1_nodeOf 0 20 rfl) rfl
theorem dX1_nodeOf_21 : decode cX1_nodeOf 21 = .ok (.iconst (-1), 1) := dz_2 (k_X1_nodeOf 0 21 rfl)
theorem dX1_nodeOf_22 : decode cX1_nodeOf 22 = .ok (.ireturn, 1) := dz_172 (k_X1_nodeOf 0 22 rfl)
def B_X1_nodeOfLine : List (List Nat) := [[42, 42, 27, 4, 182, 0, 93, 182, 0, 98, 172]]
theorem k_X1_nodeOfLine (j i : Nat) {b : Nat} (h : (B_X1_nodeOfLine[j]?.bind fun c => c[i]?) = some b) : s_by cX1_nodeOfLine (64 * j + i) b := s_byC (L := B_X1_nodeOfLine) (by decide +kernel) (by decide +kernel) j i h
theorem dX1_nodeOfLine_0 : decode cX1_nodeOfLine 0 = .ok (.aload_n 0, 1) := dz_42 (k_X1_nodeOfLine 0 0 rfl)
theorem dX1_nodeOfLine_1 : decode cX1_nodeOfLine 1 = .ok (.aload_n 0, 1) := dz_42 (k_X1_nodeOfLine 0 1 rfl)
theorem dX1_nodeOfLine_2 : decode cX1_nodeOfLine 2 = .ok (.iload_n 1, 1) := dz_27 (k_X1_nodeOfLine 0 2 rfl)
theorem dX1_nodeOfLine_3 : decode cX1_nodeOfLine 3 = .ok (.iconst 1, 1) := dz_4 (k_X1_nodeOfLine 0 3 rfl)
theorem dX1_nodeOfLine_4 : decode cX1_nodeOfLine 4 = .ok (.invokevirtual 93, 3) := dz_182 (k_X1_nodeOfLine 0 4 rfl) (k_X1_nodeOfLine 0 5 rfl) (k_X1_nodeOfLine 0 6 rfl) rfl
theorem dX1_nodeOfLine_7 : decode cX1_nodeOfLine 7 = .ok (.invokevirtual 98, 3) := dz_182 (k_X1_nodeOfLine 0 7 rfl) (k_X1_nodeOfLine 0 8 rfl) (k_X1_nodeOfLine 0 9 rfl) rfl
theorem dX1_nodeOfLine_10 : decode cX1_nodeOfLine 10 = .ok (.ireturn, 1) := dz_172 (k_X1_nodeOfLine 0 10 rfl)
def B_X1_ofLine : List (List Nat) := [[27, 155, 0, 25, 27, 42, 180, 0, 51, 162, 0, 17, 28, 155, 0, 13, 28, 16, 6, 162, 0, 7, 4, 167, 0, 4, 3, 62, 29, 153, 0, 17, 42, 180, 0, 38, 27, 16, 6, 104, 28, 96, 46, 167, 0, 4, 2, 172]]
theorem k_X1_ofLine (j i : Nat) {b : Nat} (h : (B_X1_ofLine[j]?.bind fun c => c[i]?) = some b) : s_by cX1_ofLine (64 * j + i) b := s_byC (L := B_X1_ofLine) (by decide +kernel) (by decide +kernel) j i h
theorem dX1_ofLine_0 : decode cX1_ofLine 0 = .ok (.iload_n 1, 1) := dz_27 (k_X1_ofLine 0 0 rfl)
theorem dX1_ofLine_1 : decode cX1_ofLine 1 = .ok (.ifCond .lt 25, 3) := dz_155 (k_X1_ofLine 0 1 rfl) (k_X1_ofLine 0 2 rfl) (k_X1_ofLine 0 3 rfl) rfl
theorem dX1_ofLine_4 : decode cX1_ofLine 4 = .ok (.iload_n 1, 1) := dz_27 (k_X1_ofLine 0 4 rfl)
theorem dX1_ofLine_5 : decode cX1_ofLine 5 = .ok (.aload_n 0, 1) := dz_42 (k_X1_ofLine 0 5 rfl)
theorem dX1_ofLine_6 : decode cX1_ofLine 6 = .ok (.getfield 51, 3) := dz_180 (k_X1_ofLine 0 6 rfl) (k_X1_ofLine 0 7 rfl) (k_X1_ofLine 0 8 rfl) rfl
theorem dX1_ofLine_9 : decode cX1_ofLine 9 = .ok (.if_icmp .ge 17, 3) := dz_162 (k_X1_ofLine 0 9 rfl) (k_X1_ofLine 0 10 rfl) (k_X1_ofLine 0 11 rfl) rfl
theorem dX1_ofLine_12 : decode cX1_ofLine 12 = .ok (.iload_n 2, 1) := dz_28 (k_X1_ofLine 0 12 rfl)
theorem dX1_ofLine_13 : decode cX1_ofLine 13 = .ok (.ifCond .lt 13, 3) := dz_155 (k_X1_ofLine 0 13 rfl) (k_X1_ofLine 0 14 rfl) (k_X1_ofLine 0 15 rfl) rfl
theorem dX1_ofLine_16 : decode cX1_ofLine 16 = .ok (.iload_n 2, 1) := dz_28 (k_X1_ofLine 0 16 rfl)
theorem dX1_ofLine_17 : decode cX1_ofLine 17 = .ok (.bipush 6, 2) := dz_16 (k_X1_ofLine 0 17 rfl) (k_X1_ofLine 0 18 rfl) rfl
theorem dX1_ofLine_19 : decode cX1_ofLine 19 = .ok (.if_icmp .ge 7, 3) := dz_162 (k_X1_ofLine 0 19 rfl) (k_X1_ofLine 0 20 rfl) (k_X1_ofLine 0 21 rfl) rfl
theorem dX1_ofLine_22 : decode cX1_ofLine 22 = .ok (.iconst 1, 1) := dz_4 (k_X1_ofLine 0 22 rfl)
theorem dX1_ofLine_23 : decode cX1_ofLine 23 = .ok (.goto 4, 3) := dz_167 (k_X1_ofLine 0 23 rfl) (k_X1_ofLine 0 24 rfl) (k_X1_ofLine 0 25 rfl) rfl
theorem dX1_ofLine_26 : decode cX1_ofLine 26 = .ok (.iconst 0, 1) := dz_3 (k_X1_ofLine 0 26 rfl)
theorem dX1_ofLine_27 : decode cX1_ofLine 27 = .ok (.istore_n 3, 1) := dz_62 (k_X1_ofLine 0 27 rfl)
theorem dX1_ofLine_28 : decode cX1_ofLine 28 = .ok (.iload_n 3, 1) := dz_29 (k_X1_ofLine 0 28 rfl)
theorem dX1_ofLine_29 : decode cX1_ofLine 29 = .ok (.ifCond .eq 17, 3) := dz_153 (k_X1_ofLine 0 29 rfl) (k_X1_ofLine 0 30 rfl) (k_X1_ofLine 0 31 rfl) rfl
theorem dX1_ofLine_32 : decode cX1_ofLine 32 = .ok (.aload_n 0, 1) := dz_42 (k_X1_ofLine 0 32 rfl)
theorem dX1_ofLine_33 : decode cX1_ofLine 33 = .ok (.getfield 38, 3) := dz_180 (k_X1_ofLine 0 33 rfl) (k_X1_ofLine 0 34 rfl) (k_X1_ofLine 0 35 rfl) rfl
theorem dX1_ofLine_36 : decode cX1_ofLine 36 = .ok (.iload_n 1, 1) := dz_27 (k_X1_ofLine 0 36 rfl)
theorem dX1_ofLine_37 : decode cX1_ofLine 37 = .ok (.bipush 6, 2) := dz_16 (k_X1_ofLine 0 37 rfl) (k_X1_ofLine 0 38 rfl) rfl
theorem dX1_ofLine_39 : decode cX1_ofLine 39 = .ok (.imul, 1) := dz_104 (k_X1_ofLine 0 39 rfl)
theorem dX1_ofLine_40 : decode cX1_ofLine 40 = .ok (.iload_n 2, 1) := dz_28 (k_X1_ofLine 0 40 rfl)
theorem dX1_ofLine_41 : decode cX1_ofLine 41 = .ok (.iadd, 1) := dz_96 (k_X1_ofLine 0 41 rfl)
theorem dX1_ofLine_42 : decode cX1_ofLine 42 = .ok (.iaload, 1) := dz_46 (k_X1_ofLine 0 42 rfl)
theorem dX1_ofLine_43 : decode cX1_ofLine 43 = .ok (.goto 4, 3) := dz_167 (k_X1_ofLine 0 43 rfl) (k_X1_ofLine 0 44 rfl) (k_X1_ofLine 0 45 rfl) rfl
theorem dX1_ofLine_46 : decode cX1_ofLine 46 = .ok (.iconst (-1), 1) := dz_2 (k_X1_ofLine 0 46 rfl)
theorem dX1_ofLine_47 : decode cX1_ofLine 47 = .ok (.ireturn, 1) := dz_172 (k_X1_ofLine 0 47 rfl)
def B_X1_ofReceipt : List (List Nat) := [[27, 155, 0, 24, 27, 42, 180, 0, 54, 162, 0, 16, 28, 155, 0, 12, 28, 7, 162, 0, 7, 4, 167, 0, 4, 3, 62, 29, 153, 0, 16, 42, 180, 0, 41, 27, 7, 104, 28, 96, 46, 167, 0, 4, 2, 172]]
theorem k_X1_ofReceipt (j i : Nat) {b : Nat} (h : (B_X1_ofReceipt[j]?.bind fun c => c[i]?) = some b) : s_by cX1_ofReceipt (64 * j + i) b := s_byC (L := B_X1_ofReceipt) (by decide +kernel) (by decide +kernel) j i h
theorem dX1_ofReceipt_0 : decode cX1_ofReceipt 0 = .ok (.iload_n 1, 1) := dz_27 (k_X1_ofReceipt 0 0 rfl)
theorem dX1_ofReceipt_1 : decode cX1_ofReceipt 1 = .ok (.ifCond .lt 24, 3) := dz_155 (k_X1_ofReceipt 0 1 rfl) (k_X1_ofReceipt 0 2 rfl) (k_X1_ofReceipt 0 3 rfl) rfl
theorem dX1_ofReceipt_4 : decode cX1_ofReceipt 4 = .ok (.iload_n 1, 1) := dz_27 (k_X1_ofReceipt 0 4 rfl)
theorem dX1_ofReceipt_5 : decode cX1_ofReceipt 5 = .ok (.aload_n 0, 1) := dz_42 (k_X1_ofReceipt 0 5 rfl)
theorem dX1_ofReceipt_6 : decode cX1_ofReceipt 6 = .ok (.getfield 54, 3) := dz_180 (k_X1_ofReceipt 0 6 rfl) (k_X1_ofReceipt 0 7 rfl) (k_X1_ofReceipt 0 8 rfl) rfl
theorem dX1_ofReceipt_9 : decode cX1_ofReceipt 9 = .ok (.if_icmp .ge 16, 3) := dz_162 (k_X1_ofReceipt 0 9 rfl) (k_X1_ofReceipt 0 10 rfl) (k_X1_ofReceipt 0 11 rfl) rfl
theorem dX1_ofReceipt_12 : decode cX1_ofReceipt 12 = .ok (.iload_n 2, 1) := dz_28 (k_X1_ofReceipt 0 12 rfl)
theorem dX1_ofReceipt_13 : decode cX1_ofReceipt 13 = .ok (.ifCond .lt 12, 3) := dz_155 (k_X1_ofReceipt 0 13 rfl) (k_X1_ofReceipt 0 14 rfl) (k_X1_ofReceipt 0 15 rfl) rfl
theorem dX1_ofReceipt_16 : decode cX1_ofReceipt 16 = .ok (.iload_n 2, 1) := dz_28 (k_X1_ofReceipt 0 16 rfl)
theorem dX1_ofReceipt_17 : decode cX1_ofReceipt 17 = .ok (.iconst 4, 1) := dz_7 (k_X1_ofReceipt 0 17 rfl)
theorem dX1_ofReceipt_18 : decode cX1_ofReceipt 18 = .ok (.if_icmp .ge 7, 3) := dz_162 (k_X1_ofReceipt 0 18 rfl) (k_X1_ofReceipt 0 19 rfl) (k_X1_ofReceipt 0 20 rfl) rfl
theorem dX1_ofReceipt_21 : decode cX1_ofReceipt 21 = .ok (.iconst 1, 1) := dz_4 (k_X1_ofReceipt 0 21 rfl)
theorem dX1_ofReceipt_22 : decode cX1_ofReceipt 22 = .ok (.goto 4, 3) := dz_167 (k_X1_ofReceipt 0 22 rfl) (k_X1_ofReceipt 0 23 rfl) (k_X1_ofReceipt 0 24 rfl) rfl
theorem dX1_ofReceipt_25 : decode cX1_ofReceipt 25 = .ok (.iconst 0, 1) := dz_3 (k_X1_ofReceipt 0 25 rfl)
theorem dX1_ofReceipt_26 : decode cX1_ofReceipt 26 = .ok (.istore_n 3, 1) := dz_62 (k_X1_ofReceipt 0 26 rfl)
theorem dX1_ofReceipt_27 : decode cX1_ofReceipt 27 = .ok (.iload_n 3, 1) := dz_29 (k_X1_ofReceipt 0 27 rfl)
theorem dX1_ofReceipt_28 : decode cX1_ofReceipt 28 = .ok (.ifCond .eq 16, 3) := dz_153 (k_X1_ofReceipt 0 28 rfl) (k_X1_ofReceipt 0 29 rfl) (k_X1_ofReceipt 0 30 rfl) rfl
theorem dX1_ofReceipt_31 : decode cX1_ofReceipt 31 = .ok (.aload_n 0, 1) := dz_42 (k_X1_ofReceipt 0 31 rfl)
theorem dX1_ofReceipt_32 : decode cX1_ofReceipt 32 = .ok (.getfield 41, 3) := dz_180 (k_X1_ofReceipt 0 32 rfl) (k_X1_ofReceipt 0 33 rfl) (k_X1_ofReceipt 0 34 rfl) rfl
theorem dX1_ofReceipt_35 : decode cX1_ofReceipt 35 = .ok (.iload_n 1, 1) := dz_27 (k_X1_ofReceipt 0 35 rfl)
theorem dX1_ofReceipt_36 : decode cX1_ofReceipt 36 = .ok (.iconst 4, 1) := dz_7 (k_X1_ofReceipt 0 36 rfl)
theorem dX1_ofReceipt_37 : decode cX1_ofReceipt 37 = .ok (.imul, 1) := dz_104 (k_X1_ofReceipt 0 37 rfl)
theorem dX1_ofReceipt_38 : decode cX1_ofReceipt 38 = .ok (.iload_n 2, 1) := dz_28 (k_X1_ofReceipt 0 38 rfl)
theorem dX1_ofReceipt_39 : decode cX1_ofReceipt 39 = .ok (.iadd, 1) := dz_96 (k_X1_ofReceipt 0 39 rfl)
theorem dX1_ofReceipt_40 : decode cX1_ofReceipt 40 = .ok (.iaload, 1) := dz_46 (k_X1_ofReceipt 0 40 rfl)
theorem dX1_ofReceipt_41 : decode cX1_ofReceipt 41 = .ok (.goto 4, 3) := dz_167 (k_X1_ofReceipt 0 41 rfl) (k_X1_ofReceipt 0 42 rfl) (k_X1_ofReceipt 0 43 rfl) rfl
theorem dX1_ofReceipt_44 : decode cX1_ofReceipt 44 = .ok (.iconst (-1), 1) := dz_2 (k_X1_ofReceipt 0 44 rfl)
theorem dX1_ofReceipt_45 : decode cX1_ofReceipt 45 = .ok (.ireturn, 1) := dz_172 (k_X1_ofReceipt 0 45 rfl)
def B_X1_premiseOf : List (List Nat) := [[42, 27, 5, 182, 0, 93, 154, 0, 7, 2, 167, 0, 11, 42, 27, 6, 28, 96, 182, 0, 93, 172]]
theorem k_X1_premiseOf (j i : Nat) {b : Nat} (h : (B_X1_premiseOf[j]?.bind fun c => c[i]?) = some b) : s_by cX1_premiseOf (64 * j + i) b := s_byC (L := B_X1_premiseOf) (by decide +kernel) (by decide +kernel) j i h
theorem dX1_premiseOf_0 : decode cX1_premiseOf 0 = .ok (.aload_n 0, 1) := dz_42 (k_X1_premiseOf 0 0 rfl)
theorem dX1_premiseOf_1 : decode cX1_premiseOf 1 = .ok (.iload_n 1, 1) := dz_27 (k_X1_premiseOf 0 1 rfl)
theorem dX1_premiseOf_2 : decode cX1_premiseOf 2 = .ok (.iconst 2, 1) := dz_5 (k_X1_premiseOf 0 2 rfl)
theorem dX1_premiseOf_3 : decode cX1_premiseOf 3 = .ok (.invokevirtual 93, 3) := dz_182 (k_X1_premiseOf 0 3 rfl) (k_X1_premiseOf 0 4 rfl) (k_X1_premiseOf 0 5 rfl) rfl
theorem dX1_premiseOf_6 : decode cX1_premiseOf 6 = .ok (.ifCond .ne 7, 3) := dz_154 (k_X1_premiseOf 0 6 rfl) (k_X1_premiseOf 0 7 rfl) (k_X1_premiseOf 0 8 rfl) rfl
theorem dX1_premiseOf_9 : decode cX1_premiseOf 9 = .ok (.iconst (-1), 1) := dz_2 (k_X1_premiseOf 0 9 rfl)
theorem dX1_premiseOf_10 : decode cX1_premiseOf 10 = .ok (.goto 11, 3) := dz_167 (k_X1_premiseOf 0 10 rfl) (k_X1_premiseOf 0 11 rfl) (k_X1_premiseOf 0 12 rfl) rfl
theorem dX1_premiseOf_13 : decode cX1_premiseOf 13 = .ok (.aload_n 0, 1) := dz_42 (k_X1_premiseOf 0 13 rfl)
theorem dX1_premiseOf_14 : decode cX1_premiseOf 14 = .ok (.iload_n 1, 1) := dz_27 (k_X1_premiseOf 0 14 rfl)
theorem dX1_premiseOf_15 : decode cX1_premiseOf 15 = .ok (.iconst 3, 1) := dz_6 (k_X1_premiseOf 0 15 rfl)
theorem dX1_premiseOf_16 : decode cX1_premiseOf 16 = .ok (.iload_n 2, 1) := dz_28 (k_X1_premiseOf 0 16 rfl)
theorem dX1_premiseOf_17 : decode cX1_premiseOf 17 = .ok (.iadd, 1) := dz_96 (k_X1_premiseOf 0 17 rfl)
theorem dX1_premiseOf_18 : decode cX1_premiseOf 18 = .ok (.invokevirtual 93, 3) := dz_182 (k_X1_premiseOf 0 18 rfl) (k_X1_premiseOf 0 19 rfl) (k_X1_premiseOf 0 20 rfl) rfl
theorem dX1_premiseOf_21 : decode cX1_premiseOf 21 = .ok (.ireturn, 1) := dz_172 (k_X1_premiseOf 0 21 rfl)
def B_X1_priceOf : List (List Nat) := [[27, 155, 0, 22, 27, 6, 162, 0, 17, 28, 155, 0, 13, 28, 16, 17, 162, 0, 7, 4, 167, 0, 4, 3, 62, 29, 153, 0, 17, 42, 180, 0, 35, 27, 16, 17, 104, 28, 96, 46, 167, 0, 4, 3, 172]]
theorem k_X1_priceOf (j i : Nat) {b : Nat} (h : (B_X1_priceOf[j]?.bind fun c => c[i]?) = some b) : s_by cX1_priceOf (64 * j + i) b := s_byC (L := B_X1_priceOf) (by decide +kernel) (by decide +kernel) j i h
theorem dX1_priceOf_0 : decode cX1_priceOf 0 = .ok (.iload_n 1, 1) := dz_27 (k_X1_priceOf 0 0 rfl)
theorem dX1_priceOf_1 : decode cX1_priceOf 1 = .ok (.ifCond .lt 22, 3) := dz_155 (k_X1_priceOf 0 1 rfl) (k_X1_priceOf 0 2 rfl) (k_X1_priceOf 0 3 rfl) rfl
theorem dX1_priceOf_4 : decode cX1_priceOf 4 = .ok (.iload_n 1, 1) := dz_27 (k_X1_priceOf 0 4 rfl)
theorem dX1_priceOf_5 : decode cX1_priceOf 5 = .ok (.iconst 3, 1) := dz_6 (k_X1_priceOf 0 5 rfl)
theorem dX1_priceOf_6 : decode cX1_priceOf 6 = .ok (.if_icmp .ge 17, 3) := dz_162 (k_X1_priceOf 0 6 rfl) (k_X1_priceOf 0 7 rfl) (k_X1_priceOf 0 8 rfl) rfl
theorem dX1_priceOf_9 : decode cX1_priceOf 9 = .ok (.iload_n 2, 1) := dz_28 (k_X1_priceOf 0 9 rfl)
theorem dX1_priceOf_10 : decode cX1_priceOf 10 = .ok (.ifCond .lt 13, 3) := dz_155 (k_X1_priceOf 0 10 rfl) (k_X1_priceOf 0 11 rfl) (k_X1_priceOf 0 12 rfl) rfl
theorem dX1_priceOf_13 : decode cX1_priceOf 13 = .ok (.iload_n 2, 1) := dz_28 (k_X1_priceOf 0 13 rfl)
theorem dX1_priceOf_14 : decode cX1_priceOf 14 = .ok (.bipush 17, 2) := dz_16 (k_X1_priceOf 0 14 rfl) (k_X1_priceOf 0 15 rfl) rfl
theorem dX1_priceOf_16 : decode cX1_priceOf 16 = .ok (.if_icmp .ge 7, 3) := dz_162 (k_X1_priceOf 0 16 rfl) (k_X1_priceOf 0 17 rfl) (k_X1_priceOf 0 18 rfl) rfl
theorem dX1_priceOf_19 : decode cX1_priceOf 19 = .ok (.iconst 1, 1) := dz_4 (k_X1_priceOf 0 19 rfl)
theorem dX1_priceOf_20 : decode cX1_priceOf 20 = .ok (.goto 4, 3) := dz_167 (k_X1_priceOf 0 20 rfl) (k_X1_priceOf 0 21 rfl) (k_X1_priceOf 0 22 rfl) rfl
theorem dX1_priceOf_23 : decode cX1_priceOf 23 = .ok (.iconst 0, 1) := dz_3 (k_X1_priceOf 0 23 rfl)
theorem dX1_priceOf_24 : decode cX1_priceOf 24 = .ok (.istore_n 3, 1) := dz_62 (k_X1_priceOf 0 24 rfl)
theorem dX1_priceOf_25 : decode cX1_priceOf 25 = .ok (.iload_n 3, 1) := dz_29 (k_X1_priceOf 0 25 rfl)
theorem dX1_priceOf_26 : decode cX1_priceOf 26 = .ok (.ifCond .eq 17, 3) := dz_153 (k_X1_priceOf 0 26 rfl) (k_X1_priceOf 0 27 rfl) (k_X1_priceOf 0 28 rfl) rfl
theorem dX1_priceOf_29 : decode cX1_priceOf 29 = .ok (.aload_n 0, 1) := dz_42 (k_X1_priceOf 0 29 rfl)
theorem dX1_priceOf_30 : decode cX1_priceOf 30 = .ok (.getfield 35, 3) := dz_180 (k_X1_priceOf 0 30 rfl) (k_X1_priceOf 0 31 rfl) (k_X1_priceOf 0 32 rfl) rfl
theorem dX1_priceOf_33 : decode cX1_priceOf 33 = .ok (.iload_n 1, 1) := dz_27 (k_X1_priceOf 0 33 rfl)
theorem dX1_priceOf_34 : decode cX1_priceOf 34 = .ok (.bipush 17, 2) := dz_16 (k_X1_priceOf 0 34 rfl) (k_X1_priceOf 0 35 rfl) rfl
theorem dX1_priceOf_36 : decode cX1_priceOf 36 = .ok (.imul, 1) := dz_104 (k_X1_priceOf 0 36 rfl)
theorem dX1_priceOf_37 : decode cX1_priceOf 37 = .ok (.iload_n 2, 1) := dz_28 (k_X1_priceOf 0 37 rfl)
theorem dX1_priceOf_38 : decode cX1_priceOf 38 = .ok (.iadd, 1) := dz_96 (k_X1_priceOf 0 38 rfl)
theorem dX1_priceOf_39 : decode cX1_priceOf 39 = .ok (.iaload, 1) := dz_46 (k_X1_priceOf 0 39 rfl)
theorem dX1_priceOf_40 : decode cX1_priceOf 40 = .ok (.goto 4, 3) := dz_167 (k_X1_priceOf 0 40 rfl) (k_X1_priceOf 0 41 rfl) (k_X1_priceOf 0 42 rfl) rfl
theorem dX1_priceOf_43 : decode cX1_priceOf 43 = .ok (.iconst 0, 1) := dz_3 (k_X1_priceOf 0 43 rfl)
theorem dX1_priceOf_44 : decode cX1_priceOf 44 = .ok (.ireturn, 1) := dz_172 (k_X1_priceOf 0 44 rfl)
def B_X1_setPrice : List (List Nat) := [[27, 155, 0, 30, 27, 6, 162, 0, 25, 28, 155, 0, 21, 28, 16, 17, 162, 0, 15, 42, 180, 0, 35, 27, 16, 17, 104, 28, 96, 29, 79, 177]]
theorem k_X1_setPrice (j i : Nat) {b : Nat} (h : (B_X1_setPrice[j]?.bind fun c => c[i]?) = some b) : s_by cX1_setPrice (64 * j + i) b := s_byC (L := B_X1_setPrice) (by decide +kernel) (by decide +kernel) j i h
theorem dX1_setPrice_0 : decode cX1_setPrice 0 = .ok (.iload_n 1, 1) := dz_27 (k_X1_setPrice 0 0 rfl)
theorem dX1_setPrice_1 : decode cX1_setPrice 1 = .ok (.ifCond .lt 30, 3) := dz_155 (k_X1_setPrice 0 1 rfl) (k_X1_setPrice 0 2 rfl) (k_X1_setPrice 0 3 rfl) rfl
theorem dX1_setPrice_4 : decode cX1_setPrice 4 = .ok (.iload_n 1, 1) := dz_27 (k_X1_setPrice 0 4 rfl)
theorem dX1_setPrice_5 : decode cX1_setPrice 5 = .ok (.iconst 3, 1) := dz_6 (k_X1_setPrice 0 5 rfl)
theorem dX1_setPrice_6 : decode cX1_setPrice 6 = .ok (.if_icmp .ge 25, 3) := dz_162 (k_X1_setPrice 0 6 rfl) (k_X1_setPrice 0 7 rfl) (k_X1_setPrice 0 8 rfl) rfl
theorem dX1_setPrice_9 : decode cX1_setPrice 9 = .ok (.iload_n 2, 1) := dz_28 (k_X1_setPrice 0 9 rfl)
theorem dX1_setPrice_10 : decode cX1_setPrice 10 = .ok (.ifCond .lt 21, 3) := dz_155 (k_X1_setPrice 0 10 rfl) (k_X1_setPrice 0 11 rfl) (k_X1_setPrice 0 12 rfl) rfl
theorem dX1_setPrice_13 : decode cX1_setPrice 13 = .ok (.iload_n 2, 1) := dz_28 (k_X1_setPrice 0 13 rfl)
theorem dX1_setPrice_14 : decode cX1_setPrice 14 = .ok (.bipush 17, 2) := dz_16 (k_X1_setPrice 0 14 rfl) (k_X1_setPrice 0 15 rfl) rfl
theorem dX1_setPrice_16 : decode cX1_setPrice 16 = .ok (.if_icmp .ge 15, 3) := dz_162 (k_X1_setPrice 0 16 rfl) (k_X1_setPrice 0 17 rfl) (k_X1_setPrice 0 18 rfl) rfl
theorem dX1_setPrice_19 : decode cX1_setPrice 19 = .ok (.aload_n 0, 1) := dz_42 (k_X1_setPrice 0 19 rfl)
theorem dX1_setPrice_20 : decode cX1_setPrice 20 = .ok (.getfield 35, 3) := dz_180 (k_X1_setPrice 0 20 rfl) (k_X1_setPrice 0 21 rfl) (k_X1_setPrice 0 22 rfl) rfl
theorem dX1_setPrice_23 : decode cX1_setPrice 23 = .ok (.iload_n 1, 1) := dz_27 (k_X1_setPrice 0 23 rfl)
theorem dX1_setPrice_24 : decode cX1_setPrice 24 = .ok (.bipush 17, 2) := dz_16 (k_X1_setPrice 0 24 rfl) (k_X1_setPrice 0 25 rfl) rfl
theorem dX1_setPrice_26 : decode cX1_setPrice 26 = .ok (.imul, 1) := dz_104 (k_X1_setPrice 0 26 rfl)
theorem dX1_setPrice_27 : decode cX1_setPrice 27 = .ok (.iload_n 2, 1) := dz_28 (k_X1_setPrice 0 27 rfl)
theorem dX1_setPrice_28 : decode cX1_setPrice 28 = .ok (.iadd, 1) := dz_96 (k_X1_setPrice 0 28 rfl)
theorem dX1_setPrice_29 : decode cX1_setPrice 29 = .ok (.iload_n 3, 1) := dz_29 (k_X1_setPrice 0 29 rfl)
theorem dX1_setPrice_30 : decode cX1_setPrice 30 = .ok (.iastore, 1) := dz_79 (k_X1_setPrice 0 30 rfl)
theorem dX1_setPrice_31 : decode cX1_setPrice 31 = .ok (.return_, 1) := dz_177 (k_X1_setPrice 0 31 rfl)
def B_X1_standOn : List (List Nat) := [[10, 27, 121, 65, 9, 55, 4, 32, 55, 6, 3, 54, 8, 21, 8, 6, 162, 0, 53, 42, 27, 21, 8, 182, 0, 90, 54, 9, 21, 9, 155, 0, 33, 21, 9, 27, 162, 0, 27, 22, 4, 42, 180, 0, 26, 21, 9, 47, 129, 55, 4, 22, 6, 42, 180, 0, 29, 21, 9, 47, 129, 55, 6, 132], [8, 1, 167, 255, 203, 42, 27, 5, 182, 0, 93, 54, 8, 42, 27, 3, 182, 0, 90, 54, 9, 21, 8, 16, 10, 160, 0, 32, 21, 9, 155, 0, 27, 42, 21, 9, 5, 182, 0, 93, 4, 160, 0, 16, 22, 4, 10, 21, 9, 121, 20, 0, 96, 131, 127, 55, 4, 42, 180, 0, 26, 27, 21, 8], [153, 0, 9, 21, 8, 4, 160, 0, 7, 32, 167, 0, 5, 22, 4, 80, 42, 180, 0, 29, 27, 22, 6, 80, 177]]
theorem k_X1_standOn (j i : Nat) {b : Nat} (h : (B_X1_standOn[j]?.bind fun c => c[i]?) = some b) : s_by cX1_standOn (64 * j + i) b := s_byC (L := B_X1_standOn) (by decide +kernel) (by decide +kernel) j i h
theorem dX1_standOn_0 : decode cX1_standOn 0 = .ok (.lconst 1, 1) := dz_10 (k_X1_standOn 0 0 rfl)
theorem dX1_standOn_1 : decode cX1_standOn 1 = .ok (.iload_n 1, 1) := dz_27 (k_X1_standOn 0 1 rfl)
theorem dX1_standOn_2 : decode cX1_standOn 2 = .ok (.lshl, 1) := dz_121 (k_X1_standOn 0 2 rfl)
theorem dX1_standOn_3 : decode cX1_standOn 3 = .ok (.lstore_n 2, 1) := dz_65 (k_X1_standOn 0 3 rfl)
theorem dX1_standOn_4 : decode cX1_standOn 4 = .ok (.lconst 0, 1) := dz_9 (k_X1_standOn 0 4 rfl)
theorem dX1_standOn_5 : decode cX1_standOn 5 = .ok (.lstore 4, 2) := dz_55 (k_X1_standOn 0 5 rfl) (k_X1_standOn 0 6 rfl)
theorem dX1_standOn_7 : decode cX1_standOn 7 = .ok (.lload_n 2, 1) := dz_32 (k_X1_standOn 0 7 rfl)
theorem dX1_standOn_8 : decode cX1_standOn 8 = .ok (.lstore 6, 2) := dz_55 (k_X1_standOn 0 8 rfl) (k_X1_standOn 0 9 rfl)
theorem dX1_standOn_10 : decode cX1_standOn 10 = .ok (.iconst 0, 1) := dz_3 (k_X1_standOn 0 10 rfl)
theorem dX1_standOn_11 : decode cX1_standOn 11 = .ok (.istore 8, 2) := dz_54 (k_X1_standOn 0 11 rfl) (k_X1_standOn 0 12 rfl)
theorem dX1_standOn_13 : decode cX1_standOn 13 = .ok (.iload 8, 2) := dz_21 (k_X1_standOn 0 13 rfl) (k_X1_standOn 0 14 rfl)
theorem dX1_standOn_15 : decode cX1_standOn 15 = .ok (.iconst 3, 1) := dz_6 (k_X1_standOn 0 15 rfl)
theorem dX1_standOn_16 : decode cX1_standOn 16 = .ok (.if_icmp .ge 53, 3) := dz_162 (k_X1_standOn 0 16 rfl) (k_X1_standOn 0 17 rfl) (k_X1_standOn 0 18 rfl) rfl
theorem dX1_standOn_19 : decode cX1_standOn 19 = .ok (.aload_n 0, 1) := dz_42 (k_X1_standOn 0 19 rfl)
theorem dX1_standOn_20 : decode cX1_standOn 20 = .ok (.iload_n 1, 1) := dz_27 (k_X1_standOn 0 20 rfl)
theorem dX1_standOn_21 : decode cX1_standOn 21 = .ok (.iload 8, 2) := dz_21 (k_X1_standOn 0 21 rfl) (k_X1_standOn 0 22 rfl)
theorem dX1_standOn_23 : decode cX1_standOn 23 = .ok (.invokevirtual 90, 3) := dz_182 (k_X1_standOn 0 23 rfl) (k_X1_standOn 0 24 rfl) (k_X1_standOn 0 25 rfl) rfl
theorem dX1_standOn_26 : decode cX1_standOn 26 = .ok (.istore 9, 2) := dz_54 (k_X1_standOn 0 26 rfl) (k_X1_standOn 0 27 rfl)
theorem dX1_standOn_28 : decode cX1_standOn 28 = .ok (.iload 9, 2) := dz_21 (k_X1_standOn 0 28 rfl) (k_X1_standOn 0 29 rfl)
theorem dX1_standOn_30 : decode cX1_standOn 30 = .ok (.ifCond .lt 33, 3) := dz_155 (k_X1_standOn 0 30 rfl) (k_X1_standOn 0 31 rfl) (k_X1_standOn 0 32 rfl) rfl
theorem dX1_standOn_33 : decode cX1_standOn 33 = .ok (.iload 9, 2) := dz_21 (k_X1_standOn 0 33 rfl) (k_X1_standOn 0 34 rfl)
theorem dX1_standOn_35 : decode cX1_standOn 35 = .ok (.iload_n 1, 1) := dz_27 (k_X1_standOn 0 35 rfl)
theorem dX1_standOn_36 : decode cX1_standOn 36 = .ok (.if_icmp .ge 27, 3) := dz_162 (k_X1_standOn 0 36 rfl) (k_X1_standOn 0 37 rfl) (k_X1_standOn 0 38 rfl) rfl
theorem dX1_standOn_39 : decode cX1_standOn 39 = .ok (.lload 4, 2) := dz_22 (k_X1_standOn 0 39 rfl) (k_X1_standOn 0 40 rfl)
theorem dX1_standOn_41 : decode cX1_standOn 41 = .ok (.aload_n 0, 1) := dz_42 (k_X1_standOn 0 41 rfl)
theorem dX1_standOn_42 : decode cX1_standOn 42 = .ok (.getfield 26, 3) := dz_180 (k_X1_standOn 0 42 rfl) (k_X1_standOn 0 43 rfl) (k_X1_standOn 0 44 rfl) rfl
theorem dX1_standOn_45 : decode cX1_standOn 45 = .ok (.iload 9, 2) := dz_21 (k_X1_standOn 0 45 rfl) (k_X1_standOn 0 46 rfl)
theorem dX1_standOn_47 : decode cX1_standOn 47 = .ok (.laload, 1) := dz_47 (k_X1_standOn 0 47 rfl)
theorem dX1_standOn_48 : decode cX1_standOn 48 = .ok (.lor, 1) := dz_129 (k_X1_standOn 0 48 rfl)
theorem dX1_standOn_49 : decode cX1_standOn 49 = .ok (.lstore 4, 2) := dz_55 (k_X1_standOn 0 49 rfl) (k_X1_standOn 0 50 rfl)
theorem dX1_standOn_51 : decode cX1_standOn 51 = .ok (.lload 6, 2) := dz_22 (k_X1_standOn 0 51 rfl) (k_X1_standOn 0 52 rfl)
theorem dX1_standOn_53 : decode cX1_standOn 53 = .ok (.aload_n 0, 1) := dz_42 (k_X1_standOn 0 53 rfl)
theorem dX1_standOn_54 : decode cX1_standOn 54 = .ok (.getfield 29, 3) := dz_180 (k_X1_standOn 0 54 rfl) (k_X1_standOn 0 55 rfl) (k_X1_standOn 0 56 rfl) rfl
theorem dX1_standOn_57 : decode cX1_standOn 57 = .ok (.iload 9, 2) := dz_21 (k_X1_standOn 0 57 rfl) (k_X1_standOn 0 58 rfl)
theorem dX1_standOn_59 : decode cX1_standOn 59 = .ok (.laload, 1) := dz_47 (k_X1_standOn 0 59 rfl)
theorem dX1_standOn_60 : decode cX1_standOn 60 = .ok (.lor, 1) := dz_129 (k_X1_standOn 0 60 rfl)
theorem dX1_standOn_61 : decode cX1_standOn 61 = .ok (.lstore 6, 2) := dz_55 (k_X1_standOn 0 61 rfl) (k_X1_standOn 0 62 rfl)
theorem dX1_standOn_63 : decode cX1_standOn 63 = .ok (.iinc 8 1, 3) := dz_132 (k_X1_standOn 0 63 rfl) (k_X1_standOn 1 0 rfl) (k_X1_standOn 1 1 rfl) rfl
theorem dX1_standOn_66 : decode cX1_standOn 66 = .ok (.goto (-53), 3) := dz_167 (k_X1_standOn 1 2 rfl) (k_X1_standOn 1 3 rfl) (k_X1_standOn 1 4 rfl) rfl
theorem dX1_standOn_69 : decode cX1_standOn 69 = .ok (.aload_n 0, 1) := dz_42 (k_X1_standOn 1 5 rfl)
theorem dX1_standOn_70 : decode cX1_standOn 70 = .ok (.iload_n 1, 1) := dz_27 (k_X1_standOn 1 6 rfl)
theorem dX1_standOn_71 : decode cX1_standOn 71 = .ok (.iconst 2, 1) := dz_5 (k_X1_standOn 1 7 rfl)
theorem dX1_standOn_72 : decode cX1_standOn 72 = .ok (.invokevirtual 93, 3) := dz_182 (k_X1_standOn 1 8 rfl) (k_X1_standOn 1 9 rfl) (k_X1_standOn 1 10 rfl) rfl
theorem dX1_standOn_75 : decode cX1_standOn 75 = .ok (.istore 8, 2) := dz_54 (k_X1_standOn 1 11 rfl) (k_X1_standOn 1 12 rfl)
theorem dX1_standOn_77 : decode cX1_standOn 77 = .ok (.aload_n 0, 1) := dz_42 (k_X1_standOn 1 13 rfl)
theorem dX1_standOn_78 : decode cX1_standOn 78 = .ok (.iload_n 1, 1) := dz_27 (k_X1_standOn 1 14 rfl)
theorem dX1_standOn_79 : decode cX1_standOn 79 = .ok (.iconst 0, 1) := dz_3 (k_X1_standOn 1 15 rfl)
theorem dX1_standOn_80 : decode cX1_standOn 80 = .ok (.invokevirtual 90, 3) := dz_182 (k_X1_standOn 1 16 rfl) (k_X1_standOn 1 17 rfl) (k_X1_standOn 1 18 rfl) rfl
theorem dX1_standOn_83 : decode cX1_standOn 83 = .ok (.istore 9, 2) := dz_54 (k_X1_standOn 1 19 rfl) (k_X1_standOn 1 20 rfl)
theorem dX1_standOn_85 : decode cX1_standOn 85 = .ok (.iload 8, 2) := dz_21 (k_X1_standOn 1 21 rfl) (k_X1_standOn 1 22 rfl)
theorem dX1_standOn_87 : decode cX1_standOn 87 = .ok (.bipush 10, 2) := dz_16 (k_X1_standOn 1 23 rfl) (k_X1_standOn 1 24 rfl) rfl
theorem dX1_standOn_89 : decode cX1_standOn 89 = .ok (.if_icmp .ne 32, 3) := dz_160 (k_X1_standOn 1 25 rfl) (k_X1_standOn 1 26 rfl) (k_X1_standOn 1 27 rfl) rfl
theorem dX1_standOn_92 : decode cX1_standOn 92 = .ok (.iload 9, 2) := dz_21 (k_X1_standOn 1 28 rfl) (k_X1_standOn 1 29 rfl)
theorem dX1_standOn_94 : decode cX1_standOn 94 = .ok (.ifCond .lt 27, 3) := dz_155 (k_X1_standOn 1 30 rfl) (k_X1_standOn 1 31 rfl) (k_X1_standOn 1 32 rfl) rfl
theorem dX1_standOn_97 : decode cX1_standOn 97 = .ok (.aload_n 0, 1) := dz_42 (k_X1_standOn 1 33 rfl)
theorem dX1_standOn_98 : decode cX1_standOn 98 = .ok (.iload 9, 2) := dz_21 (k_X1_standOn 1 34 rfl) (k_X1_standOn 1 35 rfl)
theorem dX1_standOn_100 : decode cX1_standOn 100 = .ok (.iconst 2, 1) := dz_5 (k_X1_standOn 1 36 rfl)
theorem dX1_standOn_101 : decode cX1_standOn 101 = .ok (.invokevirtual 93, 3) := dz_182 (k_X1_standOn 1 37 rfl) (k_X1_standOn 1 38 rfl) (k_X1_standOn 1 39 rfl) rfl
theorem dX1_standOn_104 : decode cX1_standOn 104 = .ok (.iconst 1, 1) := dz_4 (k_X1_standOn 1 40 rfl)
theorem dX1_standOn_105 : decode cX1_standOn 105 = .ok (.if_icmp .ne 16, 3) := dz_160 (k_X1_standOn 1 41 rfl) (k_X1_standOn 1 42 rfl) (k_X1_standOn 1 43 rfl) rfl
theorem dX1_standOn_108 : decode cX1_standOn 108 = .ok (.lload 4, 2) := dz_22 (k_X1_standOn 1 44 rfl) (k_X1_standOn 1 45 rfl)
theorem dX1_standOn_110 : decode cX1_standOn 110 = .ok (.lconst 1, 1) := dz_10 (k_X1_standOn 1 46 rfl)
theorem dX1_standOn_111 : decode cX1_standOn 111 = .ok (.iload 9, 2) := dz_21 (k_X1_standOn 1 47 rfl) (k_X1_standOn 1 48 rfl)
theorem dX1_standOn_113 : decode cX1_standOn 113 = .ok (.lshl, 1) := dz_121 (k_X1_standOn 1 49 rfl)
theorem dX1_standOn_114 : decode cX1_standOn 114 = .ok (.ldc2_w 96, 3) := dz_20 (k_X1_standOn 1 50 rfl) (k_X1_standOn 1 51 rfl) (k_X1_standOn 1 52 rfl) rfl
theorem dX1_standOn_117 : decode cX1_standOn 117 = .ok (.lxor, 1) := dz_131 (k_X1_standOn 1 53 rfl)
theorem dX1_standOn_118 : decode cX1_standOn 118 = .ok (.land, 1) := dz_127 (k_X1_standOn 1 54 rfl)
theorem dX1_standOn_119 : decode cX1_standOn 119 = .ok (.lstore 4, 2) := dz_55 (k_X1_standOn 1 55 rfl) (k_X1_standOn 1 56 rfl)
theorem dX1_standOn_121 : decode cX1_standOn 121 = .ok (.aload_n 0, 1) := dz_42 (k_X1_standOn 1 57 rfl)
theorem dX1_standOn_122 : decode cX1_standOn 122 = .ok (.getfield 26, 3) := dz_180 (k_X1_standOn 1 58 rfl) (k_X1_standOn 1 59 rfl) (k_X1_standOn 1 60 rfl) rfl
theorem dX1_standOn_125 : decode cX1_standOn 125 = .ok (.iload_n 1, 1) := dz_27 (k_X1_standOn 1 61 rfl)
theorem dX1_standOn_126 : decode cX1_standOn 126 = .ok (.iload 8, 2) := dz_21 (k_X1_standOn 1 62 rfl) (k_X1_standOn 1 63 rfl)
theorem dX1_standOn_128 : decode cX1_standOn 128 = .ok (.ifCond .eq 9, 3) := dz_153 (k_X1_standOn 2 0 rfl) (k_X1_standOn 2 1 rfl) (k_X1_standOn 2 2 rfl) rfl
theorem dX1_standOn_131 : decode cX1_standOn 131 = .ok (.iload 8, 2) := dz_21 (k_X1_standOn 2 3 rfl) (k_X1_standOn 2 4 rfl)
theorem dX1_standOn_133 : decode cX1_standOn 133 = .ok (.iconst 1, 1) := dz_4 (k_X1_standOn 2 5 rfl)
theorem dX1_standOn_134 : decode cX1_standOn 134 = .ok (.if_icmp .ne 7, 3) := dz_160 (k_X1_standOn 2 6 rfl) (k_X1_standOn 2 7 rfl) (k_X1_standOn 2 8 rfl) rfl
theorem dX1_standOn_137 : decode cX1_standOn 137 = .ok (.lload_n 2, 1) := dz_32 (k_X1_standOn 2 9 rfl)
theorem dX1_standOn_138 : decode cX1_standOn 138 = .ok (.goto 5, 3) := dz_167 (k_X1_standOn 2 10 rfl) (k_X1_standOn 2 11 rfl) (k_X1_standOn 2 12 rfl) rfl
theorem dX1_standOn_141 : decode cX1_standOn 141 = .ok (.lload 4, 2) := dz_22 (k_X1_standOn 2 13 rfl) (k_X1_standOn 2 14 rfl)
theorem dX1_standOn_143 : decode cX1_standOn 143 = .ok (.lastore, 1) := dz_80 (k_X1_standOn 2 15 rfl)
theorem dX1_standOn_144 : decode cX1_standOn 144 = .ok (.aload_n 0, 1) := dz_42 (k_X1_standOn 2 16 rfl)
theorem dX1_standOn_145 : decode cX1_standOn 145 = .ok (.getfield 29, 3) := dz_180 (k_X1_standOn 2 17 rfl) (k_X1_standOn 2 18 rfl) (k_X1_standOn 2 19 rfl) rfl
theorem dX1_standOn_148 : decode cX1_standOn 148 = .ok (.iload_n 1, 1) := dz_27 (k_X1_standOn 2 20 rfl)
theorem dX1_standOn_149 : decode cX1_standOn 149 = .ok (.lload 6, 2) := dz_22 (k_X1_standOn 2 21 rfl) (k_X1_standOn 2 22 rfl)
theorem dX1_standOn_151 : decode cX1_standOn 151 = .ok (.lastore, 1) := dz_80 (k_X1_standOn 2 23 rfl)
theorem dX1_standOn_152 : decode cX1_standOn 152 = .ok (.return_, 1) := dz_177 (k_X1_standOn 2 24 rfl)
def B_X1_take : List (List Nat) := [[42, 43, 180, 0, 9, 181, 0, 9, 42, 43, 180, 0, 45, 181, 0, 45, 42, 43, 180, 0, 48, 181, 0, 48, 42, 43, 180, 0, 51, 181, 0, 51, 42, 43, 180, 0, 54, 181, 0, 54, 42, 43, 180, 0, 57, 181, 0, 57, 43, 180, 0, 15, 3, 42, 180, 0, 15, 3, 42, 180, 0, 15, 190, 184], [0, 60, 43, 180, 0, 19, 3, 42, 180, 0, 19, 3, 42, 180, 0, 19, 190, 184, 0, 60, 43, 180, 0, 23, 3, 42, 180, 0, 23, 3, 42, 180, 0, 23, 190, 184, 0, 60, 43, 180, 0, 26, 3, 42, 180, 0, 26, 3, 42, 180, 0, 26, 190, 184, 0, 60, 43, 180, 0, 29, 3, 42, 180, 0], [29, 3, 42, 180, 0, 29, 190, 184, 0, 60, 43, 180, 0, 32, 3, 42, 180, 0, 32, 3, 42, 180, 0, 32, 190, 184, 0, 60, 43, 180, 0, 35, 3, 42, 180, 0, 35, 3, 42, 180, 0, 35, 190, 184, 0, 60, 43, 180, 0, 38, 3, 42, 180, 0, 38, 3, 42, 180, 0, 38, 190, 184, 0, 60], [43, 180, 0, 41, 3, 42, 180, 0, 41, 3, 42, 180, 0, 41, 190, 184, 0, 60, 177]]
theorem k_X1_take (j i : Nat) {b : Nat} (h : (B_X1_take[j]?.bind fun c => c[i]?) = some b) : s_by cX1_take (64 * j + i) b := s_byC (L := B_X1_take) (by decide +kernel) (by decide +kernel) j i h
theorem dX1_take_0 : decode cX1_take 0 = .ok (.aload_n 0, 1) := dz_42 (k_X1_take 0 0 rfl)
theorem dX1_take_1 : decode cX1_take 1 = .ok (.aload_n 1, 1) := dz_43 (k_X1_take 0 1 rfl)
theorem dX1_take_2 : decode cX1_take 2 = .ok (.getfield 9, 3) := dz_180 (k_X1_take 0 2 rfl) (k_X1_take 0 3 rfl) (k_X1_take 0 4 rfl) rfl
theorem dX1_take_5 : decode cX1_take 5 = .ok (.putfield 9, 3) := dz_181 (k_X1_take 0 5 rfl) (k_X1_take 0 6 rfl) (k_X1_take 0 7 rfl) rfl
theorem dX1_take_8 : decode cX1_take 8 = .ok (.aload_n 0, 1) := dz_42 (k_X1_take 0 8 rfl)
theorem dX1_take_9 : decode cX1_take 9 = .ok (.aload_n 1, 1) := dz_43 (k_X1_take 0 9 rfl)
theorem dX1_take_10 : decode cX1_take 10 = .ok (.getfield 45, 3) := dz_180 (k_X1_take 0 10 rfl) (k_X1_take 0 11 rfl) (k_X1_take 0 12 rfl) rfl
theorem dX1_take_13 : decode cX1_take 13 = .ok (.putfield 45, 3) := dz_181 (k_X1_take 0 13 rfl) (k_X1_take 0 14 rfl) (k_X1_take 0 15 rfl) rfl
theorem dX1_take_16 : decode cX1_take 16 = .ok (.aload_n 0, 1) := dz_42 (k_X1_take 0 16 rfl)
theorem dX1_take_17 : decode cX1_take 17 = .ok (.aload_n 1, 1) := dz_43 (k_X1_take 0 17 rfl)
theorem dX1_take_18 : decode cX1_take 18 = .ok (.getfield 48, 3) := dz_180 (k_X1_take 0 18 rfl) (k_X1_take 0 19 rfl) (k_X1_take 0 20 rfl) rfl
theorem dX1_take_21 : decode cX1_take 21 = .ok (.putfield 48, 3) := dz_181 (k_X1_take 0 21 rfl) (k_X1_take 0 22 rfl) (k_X1_take 0 23 rfl) rfl
theorem dX1_take_24 : decode cX1_take 24 = .ok (.aload_n 0, 1) := dz_42 (k_X1_take 0 24 rfl)
theorem dX1_take_25 : decode cX1_take 25 = .ok (.aload_n 1, 1) := dz_43 (k_X1_take 0 25 rfl)
theorem dX1_take_26 : decode cX1_take 26 = .ok (.getfield 51, 3) := dz_180 (k_X1_take 0 26 rfl) (k_X1_take 0 27 rfl) (k_X1_take 0 28 rfl) rfl
theorem dX1_take_29 : decode cX1_take 29 = .ok (.putfield 51, 3) := dz_181 (k_X1_take 0 29 rfl) (k_X1_take 0 30 rfl) (k_X1_take 0 31 rfl) rfl
theorem dX1_take_32 : decode cX1_take 32 = .ok (.aload_n 0, 1) := dz_42 (k_X1_take 0 32 rfl)
theorem dX1_take_33 : decode cX1_take 33 = .ok (.aload_n 1, 1) := dz_43 (k_X1_take 0 33 rfl)
theorem dX1_take_34 : decode cX1_take 34 = .ok (.getfield 54, 3) := dz_180 (k_X1_take 0 34 rfl) (k_X1_take 0 35 rfl) (k_X1_take 0 36 rfl) rfl
theorem dX1_take_37 : decode cX1_take 37 = .ok (.putfield 54, 3) := dz_181 (k_X1_take 0 37 rfl) (k_X1_take 0 38 rfl) (k_X1_take 0 39 rfl) rfl
theorem dX1_take_40 : decode cX1_take 40 = .ok (.aload_n 0, 1) := dz_42 (k_X1_take 0 40 rfl)
theorem dX1_take_41 : decode cX1_take 41 = .ok (.aload_n 1, 1) := dz_43 (k_X1_take 0 41 rfl)
theorem dX1_take_42 : decode cX1_take 42 = .ok (.getfield 57, 3) := dz_180 (k_X1_take 0 42 rfl) (k_X1_take 0 43 rfl) (k_X1_take 0 44 rfl) rfl
theorem dX1_take_45 : decode cX1_take 45 = .ok (.putfield 57, 3) := dz_181 (k_X1_take 0 45 rfl) (k_X1_take 0 46 rfl) (k_X1_take 0 47 rfl) rfl
theorem dX1_take_48 : decode cX1_take 48 = .ok (.aload_n 1, 1) := dz_43 (k_X1_take 0 48 rfl)
theorem dX1_take_49 : decode cX1_take 49 = .ok (.getfield 15, 3) := dz_180 (k_X1_take 0 49 rfl) (k_X1_take 0 50 rfl) (k_X1_take 0 51 rfl) rfl
theorem dX1_take_52 : decode cX1_take 52 = .ok (.iconst 0, 1) := dz_3 (k_X1_take 0 52 rfl)
theorem dX1_take_53 : decode cX1_take 53 = .ok (.aload_n 0, 1) := dz_42 (k_X1_take 0 53 rfl)
theorem dX1_take_54 : decode cX1_take 54 = .ok (.getfield 15, 3) := dz_180 (k_X1_take 0 54 rfl) (k_X1_take 0 55 rfl) (k_X1_take 0 56 rfl) rfl
theorem dX1_take_57 : decode cX1_take 57 = .ok (.iconst 0, 1) := dz_3 (k_X1_take 0 57 rfl)
theorem dX1_take_58 : decode cX1_take 58 = .ok (.aload_n 0, 1) := dz_42 (k_X1_take 0 58 rfl)
theorem dX1_take_59 : decode cX1_take 59 = .ok (.getfield 15, 3) := dz_180 (k_X1_take 0 59 rfl) (k_X1_take 0 60 rfl) (k_X1_take 0 61 rfl) rfl
theorem dX1_take_62 : decode cX1_take 62 = .ok (.arraylength, 1) := dz_190 (k_X1_take 0 62 rfl)
theorem dX1_take_63 : decode cX1_take 63 = .ok (.invokestatic 60, 3) := dz_184 (k_X1_take 0 63 rfl) (k_X1_take 1 0 rfl) (k_X1_take 1 1 rfl) rfl
theorem dX1_take_66 : decode cX1_take 66 = .ok (.aload_n 1, 1) := dz_43 (k_X1_take 1 2 rfl)
theorem dX1_take_67 : decode cX1_take 67 = .ok (.getfield 19, 3) := dz_180 (k_X1_take 1 3 rfl) (k_X1_take 1 4 rfl) (k_X1_take 1 5 rfl) rfl
theorem dX1_take_70 : decode cX1_take 70 = .ok (.iconst 0, 1) := dz_3 (k_X1_take 1 6 rfl)
theorem dX1_take_71 : decode cX1_take 71 = .ok (.aload_n 0, 1) := dz_42 (k_X1_take 1 7 rfl)
theorem dX1_take_72 : decode cX1_take 72 = .ok (.getfield 19, 3) := dz_180 (k_X1_take 1 8 rfl) (k_X1_take 1 9 rfl) (k_X1_take 1 10 rfl) rfl
theorem dX1_take_75 : decode cX1_take 75 = .ok (.iconst 0, 1) := dz_3 (k_X1_take 1 11 rfl)
theorem dX1_take_76 : decode cX1_take 76 = .ok (.aload_n 0, 1) := dz_42 (k_X1_take 1 12 rfl)
theorem dX1_take_77 : decode cX1_take 77 = .ok (.getfield 19, 3) := dz_180 (k_X1_take 1 13 rfl) (k_X1_take 1 14 rfl) (k_X1_take 1 15 rfl) rfl
theorem dX1_take_80 : decode cX1_take 80 = .ok (.arraylength, 1) := dz_190 (k_X1_take 1 16 rfl)
theorem dX1_take_81 : decode cX1_take 81 = .ok (.invokestatic 60, 3) := dz_184 (k_X1_take 1 17 rfl) (k_X1_take 1 18 rfl) (k_X1_take 1 19 rfl) rfl
theorem dX1_take_84 : decode cX1_take 84 = .ok (.aload_n 1, 1) := dz_43 (k_X1_take 1 20 rfl)
theorem dX1_take_85 : decode cX1_take 85 = .ok (.getfield 23, 3) := dz_180 (k_X1_take 1 21 rfl) (k_X1_take 1 22 rfl) (k_X1_take 1 23 rfl) rfl
theorem dX1_take_88 : decode cX1_take 88 = .ok (.iconst 0, 1) := dz_3 (k_X1_take 1 24 rfl)
theorem dX1_take_89 : decode cX1_take 89 = .ok (.aload_n 0, 1) := dz_42 (k_X1_take 1 25 rfl)
theorem dX1_take_90 : decode cX1_take 90 = .ok (.getfield 23, 3) := dz_180 (k_X1_take 1 26 rfl) (k_X1_take 1 27 rfl) (k_X1_take 1 28 rfl) rfl
theorem dX1_take_93 : decode cX1_take 93 = .ok (.iconst 0, 1) := dz_3 (k_X1_take 1 29 rfl)
theorem dX1_take_94 : decode cX1_take 94 = .ok (.aload_n 0, 1) := dz_42 (k_X1_take 1 30 rfl)
theorem dX1_take_95 : decode cX1_take 95 = .ok (.getfield 23, 3) := dz_180 (k_X1_take 1 31 rfl) (k_X1_take 1 32 rfl) (k_X1_take 1 33 rfl) rfl
theorem dX1_take_98 : decode cX1_take 98 = .ok (.arraylength, 1) := dz_190 (k_X1_take 1 34 rfl)
theorem dX1_take_99 : decode cX1_take 99 = .ok (.invokestatic 60, 3) := dz_184 (k_X1_take 1 35 rfl) (k_X1_take 1 36 rfl) (k_X1_take 1 37 rfl) rfl
theorem dX1_take_102 : decode cX1_take 102 = .ok (.aload_n 1, 1) := dz_43 (k_X1_take 1 38 rfl)
theorem dX1_take_103 : decode cX1_take 103 = .ok (.getfield 26, 3) := dz_180 (k_X1_take 1 39 rfl) (k_X1_take 1 40 rfl) (k_X1_take 1 41 rfl) rfl
theorem dX1_take_106 : decode cX1_take 106 = .ok (.iconst 0, 1) := dz_3 (k_X1_take 1 42 rfl)
theorem dX1_take_107 : decode cX1_take 107 = .ok (.aload_n 0, 1) := dz_42 (k_X1_take 1 43 rfl)
theorem dX1_take_108 : decode cX1_take 108 = .ok (.getfield 26, 3) := dz_180 (k_X1_take 1 44 rfl) (k_X1_take 1 45 rfl) (k_X1_take 1 46 rfl) rfl
theorem dX1_take_111 : decode cX1_take 111 = .ok (.iconst 0, 1) := dz_3 (k_X1_take 1 47 rfl)
theorem dX1_take_112 : decode cX1_take 112 = .ok (.aload_n 0, 1) := dz_42 (k_X1_take 1 48 rfl)
theorem dX1_take_113 : decode cX1_take 113 = .ok (.getfield 26, 3) := dz_180 (k_X1_take 1 49 rfl) (k_X1_take 1 50 rfl) (k_X1_take 1 51 rfl) rfl
theorem dX1_take_116 : decode cX1_take 116 = .ok (.arraylength, 1) := dz_190 (k_X1_take 1 52 rfl)
theorem dX1_take_117 : decode cX1_take 117 = .ok (.invokestatic 60, 3) := dz_184 (k_X1_take 1 53 rfl) (k_X1_take 1 54 rfl) (k_X1_take 1 55 rfl) rfl
theorem dX1_take_120 : decode cX1_take 120 = .ok (.aload_n 1, 1) := dz_43 (k_X1_take 1 56 rfl)
theorem dX1_take_121 : decode cX1_take 121 = .ok (.getfield 29, 3) := dz_180 (k_X1_take 1 57 rfl) (k_X1_take 1 58 rfl) (k_X1_take 1 59 rfl) rfl
theorem dX1_take_124 : decode cX1_take 124 = .ok (.iconst 0, 1) := dz_3 (k_X1_take 1 60 rfl)
theorem dX1_take_125 : decode cX1_take 125 = .ok (.aload_n 0, 1) := dz_42 (k_X1_take 1 61 rfl)
theorem dX1_take_126 : decode cX1_take 126 = .ok (.getfield 29, 3) := dz_180 (k_X1_take 1 62 rfl) (k_X1_take 1 63 rfl) (k_X1_take 2 0 rfl) rfl
theorem dX1_take_129 : decode cX1_take 129 = .ok (.iconst 0, 1) := dz_3 (k_X1_take 2 1 rfl)
theorem dX1_take_130 : decode cX1_take 130 = .ok (.aload_n 0, 1) := dz_42 (k_X1_take 2 2 rfl)
theorem dX1_take_131 : decode cX1_take 131 = .ok (.getfield 29, 3) := dz_180 (k_X1_take 2 3 rfl) (k_X1_take 2 4 rfl) (k_X1_take 2 5 rfl) rfl
theorem dX1_take_134 : decode cX1_take 134 = .ok (.arraylength, 1) := dz_190 (k_X1_take 2 6 rfl)
theorem dX1_take_135 : decode cX1_take 135 = .ok (.invokestatic 60, 3) := dz_184 (k_X1_take 2 7 rfl) (k_X1_take 2 8 rfl) (k_X1_take 2 9 rfl) rfl
theorem dX1_take_138 : decode cX1_take 138 = .ok (.aload_n 1, 1) := dz_43 (k_X1_take 2 10 rfl)
theorem dX1_take_139 : decode cX1_take 139 = .ok (.getfield 32, 3) := dz_180 (k_X1_take 2 11 rfl) (k_X1_take 2 12 rfl) (k_X1_take 2 13 rfl) rfl
theorem dX1_take_142 : decode cX1_take 142 = .ok (.iconst 0, 1) := dz_3 (k_X1_take 2 14 rfl)
theorem dX1_take_143 : decode cX1_take 143 = .ok (.aload_n 0, 1) := dz_42 (k_X1_take 2 15 rfl)
theorem dX1_take_144 : decode cX1_take 144 = .ok (.getfield 32, 3) := dz_180 (k_X1_take 2 16 rfl) (k_X1_take 2 17 rfl) (k_X1_take 2 18 rfl) rfl
theorem dX1_take_147 : decode cX1_take 147 = .ok (.iconst 0, 1) := dz_3 (k_X1_take 2 19 rfl)
theorem dX1_take_148 : decode cX1_take 148 = .ok (.aload_n 0, 1) := dz_42 (k_X1_take 2 20 rfl)
theorem dX1_take_149 : decode cX1_take 149 = .ok (.getfield 32, 3) := dz_180 (k_X1_take 2 21 rfl) (k_X1_take 2 22 rfl) (k_X1_take 2 23 rfl) rfl
theorem dX1_take_152 : decode cX1_take 152 = .ok (.arraylength, 1) := dz_190 (k_X1_take 2 24 rfl)
theorem dX1_take_153 : decode cX1_take 153 = .ok (.invokestatic 60, 3) := dz_184 (k_X1_take 2 25 rfl) (k_X1_take 2 26 rfl) (k_X1_take 2 27 rfl) rfl
theorem dX1_take_156 : decode cX1_take 156 = .ok (.aload_n 1, 1) := dz_43 (k_X1_take 2 28 rfl)
theorem dX1_take_157 : decode cX1_take 157 = .ok (.getfield 35, 3) := dz_180 (k_X1_take 2 29 rfl) (k_X1_take 2 30 rfl) (k_X1_take 2 31 rfl) rfl
theorem dX1_take_160 : decode cX1_take 160 = .ok (.iconst 0, 1) := dz_3 (k_X1_take 2 32 rfl)
theorem dX1_take_161 : decode cX1_take 161 = .ok (.aload_n 0, 1) := dz_42 (k_X1_take 2 33 rfl)
theorem dX1_take_162 : decode cX1_take 162 = .ok (.getfield 35, 3) := dz_180 (k_X1_take 2 34 rfl) (k_X1_take 2 35 rfl) (k_X1_take 2 36 rfl) rfl
theorem dX1_take_165 : decode cX1_take 165 = .ok (.iconst 0, 1) := dz_3 (k_X1_take 2 37 rfl)
theorem dX1_take_166 : decode cX1_take 166 = .ok (.aload_n 0, 1) := dz_42 (k_X1_take 2 38 rfl)
theorem dX1_take_167 : decode cX1_take 167 = .ok (.getfield 35, 3) := dz_180 (k_X1_take 2 39 rfl) (k_X1_take 2 40 rfl) (k_X1_take 2 41 rfl) rfl
theorem dX1_take_170 : decode cX1_take 170 = .ok (.arraylength, 1) := dz_190 (k_X1_take 2 42 rfl)
theorem dX1_take_171 : decode cX1_take 171 = .ok (.invokestatic 60, 3) := dz_184 (k_X1_take 2 43 rfl) (k_X1_take 2 44 rfl) (k_X1_take 2 45 rfl) rfl
theorem dX1_take_174 : decode cX1_take 174 = .ok (.aload_n 1, 1) := dz_43 (k_X1_take 2 46 rfl)
theorem dX1_take_175 : decode cX1_take 175 = .ok (.getfield 38, 3) := dz_180 (k_X1_take 2 47 rfl) (k_X1_take 2 48 rfl) (k_X1_take 2 49 rfl) rfl
theorem dX1_take_178 : decode cX1_take 178 = .ok (.iconst 0, 1) := dz_3 (k_X1_take 2 50 rfl)
theorem dX1_take_179 : decode cX1_take 179 = .ok (.aload_n 0, 1) := dz_42 (k_X1_take 2 51 rfl)
theorem dX1_take_180 : decode cX1_take 180 = .ok (.getfield 38, 3) := dz_180 (k_X1_take 2 52 rfl) (k_X1_take 2 53 rfl) (k_X1_take 2 54 rfl) rfl
theorem dX1_take_183 : decode cX1_take 183 = .ok (.iconst 0, 1) := dz_3 (k_X1_take 2 55 rfl)
theorem dX1_take_184 : decode cX1_take 184 = .ok (.aload_n 0, 1) := dz_42 (k_X1_take 2 56 rfl)
theorem dX1_take_185 : decode cX1_take 185 = .ok (.getfield 38, 3) := dz_180 (k_X1_take 2 57 rfl) (k_X1_take 2 58 rfl) (k_X1_take 2 59 rfl) rfl
theorem dX1_take_188 : decode cX1_take 188 = .ok (.arraylength, 1) := dz_190 (k_X1_take 2 60 rfl)
theorem dX1_take_189 : decode cX1_take 189 = .ok (.invokestatic 60, 3) := dz_184 (k_X1_take 2 61 rfl) (k_X1_take 2 62 rfl) (k_X1_take 2 63 rfl) rfl
theorem dX1_take_192 : decode cX1_take 192 = .ok (.aload_n 1, 1) := dz_43 (k_X1_take 3 0 rfl)
theorem dX1_take_193 : decode cX1_take 193 = .ok (.getfield 41, 3) := dz_180 (k_X1_take 3 1 rfl) (k_X1_take 3 2 rfl) (k_X1_take 3 3 rfl) rfl
theorem dX1_take_196 : decode cX1_take 196 = .ok (.iconst 0, 1) := dz_3 (k_X1_take 3 4 rfl)
theorem dX1_take_197 : decode cX1_take 197 = .ok (.aload_n 0, 1) := dz_42 (k_X1_take 3 5 rfl)
theorem dX1_take_198 : decode cX1_take 198 = .ok (.getfield 41, 3) := dz_180 (k_X1_take 3 6 rfl) (k_X1_take 3 7 rfl) (k_X1_take 3 8 rfl) rfl
theorem dX1_take_201 : decode cX1_take 201 = .ok (.iconst 0, 1) := dz_3 (k_X1_take 3 9 rfl)
theorem dX1_take_202 : decode cX1_take 202 = .ok (.aload_n 0, 1) := dz_42 (k_X1_take 3 10 rfl)
theorem dX1_take_203 : decode cX1_take 203 = .ok (.getfield 41, 3) := dz_180 (k_X1_take 3 11 rfl) (k_X1_take 3 12 rfl) (k_X1_take 3 13 rfl) rfl
theorem dX1_take_206 : decode cX1_take 206 = .ok (.arraylength, 1) := dz_190 (k_X1_take 3 14 rfl)
theorem dX1_take_207 : decode cX1_take 207 = .ok (.invokestatic 60, 3) := dz_184 (k_X1_take 3 15 rfl) (k_X1_take 3 16 rfl) (k_X1_take 3 17 rfl) rfl
theorem dX1_take_210 : decode cX1_take 210 = .ok (.return_, 1) := dz_177 (k_X1_take 3 18 rfl)
def B_X1_toldTo : List (List Nat) := [[27, 155, 0, 17, 27, 7, 162, 0, 12, 42, 180, 0, 23, 27, 46, 167, 0, 4, 3, 172]]
theorem k_X1_toldTo (j i : Nat) {b : Nat} (h : (B_X1_toldTo[j]?.bind fun c => c[i]?) = some b) : s_by cX1_toldTo (64 * j + i) b := s_byC (L := B_X1_toldTo) (by decide +kernel) (by decide +kernel) j i h
theorem dX1_toldTo_0 : decode cX1_toldTo 0 = .ok (.iload_n 1, 1) := dz_27 (k_X1_toldTo 0 0 rfl)
theorem dX1_toldTo_1 : decode cX1_toldTo 1 = .ok (.ifCond .lt 17, 3) := dz_155 (k_X1_toldTo 0 1 rfl) (k_X1_toldTo 0 2 rfl) (k_X1_toldTo 0 3 rfl) rfl
theorem dX1_toldTo_4 : decode cX1_toldTo 4 = .ok (.iload_n 1, 1) := dz_27 (k_X1_toldTo 0 4 rfl)
theorem dX1_toldTo_5 : decode cX1_toldTo 5 = .ok (.iconst 4, 1) := dz_7 (k_X1_toldTo 0 5 rfl)
theorem dX1_toldTo_6 : decode cX1_toldTo 6 = .ok (.if_icmp .ge 12, 3) := dz_162 (k_X1_toldTo 0 6 rfl) (k_X1_toldTo 0 7 rfl) (k_X1_toldTo 0 8 rfl) rfl
theorem dX1_toldTo_9 : decode cX1_toldTo 9 = .ok (.aload_n 0, 1) := dz_42 (k_X1_toldTo 0 9 rfl)
theorem dX1_toldTo_10 : decode cX1_toldTo 10 = .ok (.getfield 23, 3) := dz_180 (k_X1_toldTo 0 10 rfl) (k_X1_toldTo 0 11 rfl) (k_X1_toldTo 0 12 rfl) rfl
theorem dX1_toldTo_13 : decode cX1_toldTo 13 = .ok (.iload_n 1, 1) := dz_27 (k_X1_toldTo 0 13 rfl)
theorem dX1_toldTo_14 : decode cX1_toldTo 14 = .ok (.iaload, 1) := dz_46 (k_X1_toldTo 0 14 rfl)
theorem dX1_toldTo_15 : decode cX1_toldTo 15 = .ok (.goto 4, 3) := dz_167 (k_X1_toldTo 0 15 rfl) (k_X1_toldTo 0 16 rfl) (k_X1_toldTo 0 17 rfl) rfl
theorem dX1_toldTo_18 : decode cX1_toldTo 18 = .ok (.iconst 0, 1) := dz_3 (k_X1_toldTo 0 18 rfl)
theorem dX1_toldTo_19 : decode cX1_toldTo 19 = .ok (.ireturn, 1) := dz_172 (k_X1_toldTo 0 19 rfl)
def B_X1_truthOf : List (List Nat) := [[27, 155, 0, 35, 27, 42, 180, 0, 48, 162, 0, 27, 28, 155, 0, 23, 28, 16, 16, 162, 0, 17, 42, 180, 0, 15, 27, 16, 16, 104, 28, 96, 47, 167, 0, 4, 9, 173]]
theorem k_X1_truthOf (j i : Nat) {b : Nat} (h : (B_X1_truthOf[j]?.bind fun c => c[i]?) = some b) : s_by cX1_truthOf (64 * j + i) b := s_byC (L := B_X1_truthOf) (by decide +kernel) (by decide +kernel) j i h
theorem dX1_truthOf_0 : decode cX1_truthOf 0 = .ok (.iload_n 1, 1) := dz_27 (k_X1_truthOf 0 0 rfl)
theorem dX1_truthOf_1 : decode cX1_truthOf 1 = .ok (.ifCond .lt 35, 3) := dz_155 (k_X1_truthOf 0 1 rfl) (k_X1_truthOf 0 2 rfl) (k_X1_truthOf 0 3 rfl) rfl
theorem dX1_truthOf_4 : decode cX1_truthOf 4 = .ok (.iload_n 1, 1) := dz_27 (k_X1_truthOf 0 4 rfl)
theorem dX1_truthOf_5 : decode cX1_truthOf 5 = .ok (.aload_n 0, 1) := dz_42 (k_X1_truthOf 0 5 rfl)
theorem dX1_truthOf_6 : decode cX1_truthOf 6 = .ok (.getfield 48, 3) := dz_180 (k_X1_truthOf 0 6 rfl) (k_X1_truthOf 0 7 rfl) (k_X1_truthOf 0 8 rfl) rfl
theorem dX1_truthOf_9 : decode cX1_truthOf 9 = .ok (.if_icmp .ge 27, 3) := dz_162 (k_X1_truthOf 0 9 rfl) (k_X1_truthOf 0 10 rfl) (k_X1_truthOf 0 11 rfl) rfl
theorem dX1_truthOf_12 : decode cX1_truthOf 12 = .ok (.iload_n 2, 1) := dz_28 (k_X1_truthOf 0 12 rfl)
theorem dX1_truthOf_13 : decode cX1_truthOf 13 = .ok (.ifCond .lt 23, 3) := dz_155 (k_X1_truthOf 0 13 rfl) (k_X1_truthOf 0 14 rfl) (k_X1_truthOf 0 15 rfl) rfl
theorem dX1_truthOf_16 : decode cX1_truthOf 16 = .ok (.iload_n 2, 1) := dz_28 (k_X1_truthOf 0 16 rfl)
theorem dX1_truthOf_17 : decode cX1_truthOf 17 = .ok (.bipush 16, 2) := dz_16 (k_X1_truthOf 0 17 rfl) (k_X1_truthOf 0 18 rfl) rfl
theorem dX1_truthOf_19 : decode cX1_truthOf 19 = .ok (.if_icmp .ge 17, 3) := dz_162 (k_X1_truthOf 0 19 rfl) (k_X1_truthOf 0 20 rfl) (k_X1_truthOf 0 21 rfl) rfl
theorem dX1_truthOf_22 : decode cX1_truthOf 22 = .ok (.aload_n 0, 1) := dz_42 (k_X1_truthOf 0 22 rfl)
theorem dX1_truthOf_23 : decode cX1_truthOf 23 = .ok (.getfield 15, 3) := dz_180 (k_X1_truthOf 0 23 rfl) (k_X1_truthOf 0 24 rfl) (k_X1_truthOf 0 25 rfl) rfl
theorem dX1_truthOf_26 : decode cX1_truthOf 26 = .ok (.iload_n 1, 1) := dz_27 (k_X1_truthOf 0 26 rfl)
theorem dX1_truthOf_27 : decode cX1_truthOf 27 = .ok (.bipush 16, 2) := dz_16 (k_X1_truthOf 0 27 rfl) (k_X1_truthOf 0 28 rfl) rfl
theorem dX1_truthOf_29 : decode cX1_truthOf 29 = .ok (.imul, 1) := dz_104 (k_X1_truthOf 0 29 rfl)
theorem dX1_truthOf_30 : decode cX1_truthOf 30 = .ok (.iload_n 2, 1) := dz_28 (k_X1_truthOf 0 30 rfl)
theorem dX1_truthOf_31 : decode cX1_truthOf 31 = .ok (.iadd, 1) := dz_96 (k_X1_truthOf 0 31 rfl)
theorem dX1_truthOf_32 : decode cX1_truthOf 32 = .ok (.laload, 1) := dz_47 (k_X1_truthOf 0 32 rfl)
theorem dX1_truthOf_33 : decode cX1_truthOf 33 = .ok (.goto 4, 3) := dz_167 (k_X1_truthOf 0 33 rfl) (k_X1_truthOf 0 34 rfl) (k_X1_truthOf 0 35 rfl) rfl
theorem dX1_truthOf_36 : decode cX1_truthOf 36 = .ok (.lconst 0, 1) := dz_9 (k_X1_truthOf 0 36 rfl)
theorem dX1_truthOf_37 : decode cX1_truthOf 37 = .ok (.lreturn, 1) := dz_173 (k_X1_truthOf 0 37 rfl)
def B_X1_words : List (List Nat) := [[42, 182, 0, 66, 16, 64, 108, 172]]
theorem k_X1_words (j i : Nat) {b : Nat} (h : (B_X1_words[j]?.bind fun c => c[i]?) = some b) : s_by cX1_words (64 * j + i) b := s_byC (L := B_X1_words) (by decide +kernel) (by decide +kernel) j i h
theorem dX1_words_0 : decode cX1_words 0 = .ok (.aload_n 0, 1) := dz_42 (k_X1_words 0 0 rfl)
theorem dX1_words_1 : decode cX1_words 1 = .ok (.invokevirtual 66, 3) := dz_182 (k_X1_words 0 1 rfl) (k_X1_words 0 2 rfl) (k_X1_words 0 3 rfl) rfl
theorem dX1_words_4 : decode cX1_words 4 = .ok (.bipush 64, 2) := dz_16 (k_X1_words 0 4 rfl) (k_X1_words 0 5 rfl) rfl
theorem dX1_words_6 : decode cX1_words 6 = .ok (.idiv, 1) := dz_108 (k_X1_words 0 6 rfl)
theorem dX1_words_7 : decode cX1_words 7 = .ok (.ireturn, 1) := dz_172 (k_X1_words 0 7 rfl)
def B_X1_worldCount : List (List Nat) := [[4, 7, 5, 42, 180, 0, 9, 104, 96, 120, 172]]
theorem k_X1_worldCount (j i : Nat) {b : Nat} (h : (B_X1_worldCount[j]?.bind fun c => c[i]?) = some b) : s_by cX1_worldCount (64 * j + i) b := s_byC (L := B_X1_worldCount) (by decide +kernel) (by decide +kernel) j i h
theorem dX1_worldCount_0 : decode cX1_worldCount 0 = .ok (.iconst 1, 1) := dz_4 (k_X1_worldCount 0 0 rfl)
theorem dX1_worldCount_1 : decode cX1_worldCount 1 = .ok (.iconst 4, 1) := dz_7 (k_X1_worldCount 0 1 rfl)
theorem dX1_worldCount_2 : decode cX1_worldCount 2 = .ok (.iconst 2, 1) := dz_5 (k_X1_worldCount 0 2 rfl)
theorem dX1_worldCount_3 : decode cX1_worldCount 3 = .ok (.aload_n 0, 1) := dz_42 (k_X1_worldCount 0 3 rfl)
theorem dX1_worldCount_4 : decode cX1_worldCount 4 = .ok (.getfield 9, 3) := dz_180 (k_X1_worldCount 0 4 rfl) (k_X1_worldCount 0 5 rfl) (k_X1_worldCount 0 6 rfl) rfl
theorem dX1_worldCount_7 : decode cX1_worldCount 7 = .ok (.imul, 1) := dz_104 (k_X1_worldCount 0 7 rfl)
theorem dX1_worldCount_8 : decode cX1_worldCount 8 = .ok (.iadd, 1) := dz_96 (k_X1_worldCount 0 8 rfl)
theorem dX1_worldCount_9 : decode cX1_worldCount 9 = .ok (.ishl, 1) := dz_120 (k_X1_worldCount 0 9 rfl)
theorem dX1_worldCount_10 : decode cX1_worldCount 10 = .ok (.ireturn, 1) := dz_172 (k_X1_worldCount 0 10 rfl)
def B_X2_column : List (List Nat) := [[26, 155, 0, 17, 26, 178, 0, 89, 190, 162, 0, 9, 178, 0, 89, 26, 47, 173, 27, 26, 178, 0, 89, 190, 100, 122, 4, 126, 154, 0, 7, 9, 167, 0, 6, 20, 0, 78, 173]]
theorem k_X2_column (j i : Nat) {b : Nat} (h : (B_X2_column[j]?.bind fun c => c[i]?) = some b) : s_by cX2_column (64 * j + i) b := s_byC (L := B_X2_column) (by decide +kernel) (by decide +kernel) j i h
theorem dX2_column_0 : decode cX2_column 0 = .ok (.iload_n 0, 1) := dz_26 (k_X2_column 0 0 rfl)
theorem dX2_column_1 : decode cX2_column 1 = .ok (.ifCond .lt 17, 3) := dz_155 (k_X2_column 0 1 rfl) (k_X2_column 0 2 rfl) (k_X2_column 0 3 rfl) rfl
theorem dX2_column_4 : decode cX2_column 4 = .ok (.iload_n 0, 1) := dz_26 (k_X2_column 0 4 rfl)
theorem dX2_column_5 : decode cX2_column 5 = .ok (.getstatic 89, 3) := dz_178 (k_X2_column 0 5 rfl) (k_X2_column 0 6 rfl) (k_X2_column 0 7 rfl) rfl
theorem dX2_column_8 : decode cX2_column 8 = .ok (.arraylength, 1) := dz_190 (k_X2_column 0 8 rfl)
theorem dX2_column_9 : decode cX2_column 9 = .ok (.if_icmp .ge 9, 3) := dz_162 (k_X2_column 0 9 rfl) (k_X2_column 0 10 rfl) (k_X2_column 0 11 rfl) rfl
theorem dX2_column_12 : decode cX2_column 12 = .ok (.getstatic 89, 3) := dz_178 (k_X2_column 0 12 rfl) (k_X2_column 0 13 rfl) (k_X2_column 0 14 rfl) rfl
theorem dX2_column_15 : decode cX2_column 15 = .ok (.iload_n 0, 1) := dz_26 (k_X2_column 0 15 rfl)
theorem dX2_column_16 : decode cX2_column 16 = .ok (.laload, 1) := dz_47 (k_X2_column 0 16 rfl)
theorem dX2_column_17 : decode cX2_column 17 = .ok (.lreturn, 1) := dz_173 (k_X2_column 0 17 rfl)
theorem dX2_column_18 : decode cX2_column 18 = .ok (.iload_n 1, 1) := dz_27 (k_X2_column 0 18 rfl)
theorem dX2_column_19 : decode cX2_column 19 = .ok (.iload_n 0, 1) := dz_26 (k_X2_column 0 19 rfl)
theorem dX2_column_20 : decode cX2_column 20 = .ok (.getstatic 89, 3) := dz_178 (k_X2_column 0 20 rfl) (k_X2_column 0 21 rfl) (k_X2_column 0 22 rfl) rfl
theorem dX2_column_23 : decode cX2_column 23 = .ok (.arraylength, 1) := dz_190 (k_X2_column 0 23 rfl)
theorem dX2_column_24 : decode cX2_column 24 = .ok (.isub, 1) := dz_100 (k_X2_column 0 24 rfl)
theorem dX2_column_25 : decode cX2_column 25 = .ok (.ishr, 1) := dz_122 (k_X2_column 0 25 rfl)
theorem dX2_column_26 : decode cX2_column 26 = .ok (.iconst 1, 1) := dz_4 (k_X2_column 0 26 rfl)
theorem dX2_column_27 : decode cX2_column 27 = .ok (.iand, 1) := dz_126 (k_X2_column 0 27 rfl)
theorem dX2_column_28 : decode cX2_column 28 = .ok (.ifCond .ne 7, 3) := dz_154 (k_X2_column 0 28 rfl) (k_X2_column 0 29 rfl) (k_X2_column 0 30 rfl) rfl
theorem dX2_column_31 : decode cX2_column 31 = .ok (.lconst 0, 1) := dz_9 (k_X2_column 0 31 rfl)
theorem dX2_column_32 : decode cX2_column 32 = .ok (.goto 6, 3) := dz_167 (k_X2_column 0 32 rfl) (k_X2_column 0 33 rfl) (k_X2_column 0 34 rfl) rfl
theorem dX2_column_35 : decode cX2_column 35 = .ok (.ldc2_w 78, 3) := dz_20 (k_X2_column 0 35 rfl) (k_X2_column 0 36 rfl) (k_X2_column 0 37 rfl) rfl
theorem dX2_column_38 : decode cX2_column 38 = .ok (.lreturn, 1) := dz_173 (k_X2_column 0 38 rfl)
def B_X2_cut : List (List Nat) := [[27, 155, 0, 11, 27, 42, 180, 0, 39, 161, 0, 4, 177, 3, 61, 28, 17, 0, 128, 162, 0, 61, 42, 180, 0, 30, 28, 46, 62, 3, 54, 4, 21, 4, 42, 180, 0, 39, 162, 0, 29, 29, 27, 161, 0, 24, 29, 42, 180, 0, 39, 162, 0, 16, 42, 180, 0, 24, 29, 46, 62, 132, 4, 1], [167, 255, 224, 42, 180, 0, 30, 28, 29, 79, 132, 2, 1, 167, 255, 194, 42, 27, 181, 0, 39, 177]]
theorem k_X2_cut (j i : Nat) {b : Nat} (h : (B_X2_cut[j]?.bind fun c => c[i]?) = some b) : s_by cX2_cut (64 * j + i) b := s_byC (L := B_X2_cut) (by decide +kernel) (by decide +kernel) j i h
theorem dX2_cut_0 : decode cX2_cut 0 = .ok (.iload_n 1, 1) := dz_27 (k_X2_cut 0 0 rfl)
theorem dX2_cut_1 : decode cX2_cut 1 = .ok (.ifCond .lt 11, 3) := dz_155 (k_X2_cut 0 1 rfl) (k_X2_cut 0 2 rfl) (k_X2_cut 0 3 rfl) rfl
theorem dX2_cut_4 : decode cX2_cut 4 = .ok (.iload_n 1, 1) := dz_27 (k_X2_cut 0 4 rfl)
theorem dX2_cut_5 : decode cX2_cut 5 = .ok (.aload_n 0, 1) := dz_42 (k_X2_cut 0 5 rfl)
theorem dX2_cut_6 : decode cX2_cut 6 = .ok (.getfield 39, 3) := dz_180 (k_X2_cut 0 6 rfl) (k_X2_cut 0 7 rfl) (k_X2_cut 0 8 rfl) rfl
theorem dX2_cut_9 : decode cX2_cut 9 = .ok (.if_icmp .lt 4, 3) := dz_161 (k_X2_cut 0 9 rfl) (k_X2_cut 0 10 rfl) (k_X2_cut 0 11 rfl) rfl
theorem dX2_cut_12 : decode cX2_cut 12 = .ok (.return_, 1) := dz_177 (k_X2_cut 0 12 rfl)
theorem dX2_cut_13 : decode cX2_cut 13 = .ok (.iconst 0, 1) := dz_3 (k_X2_cut 0 13 rfl)
theorem dX2_cut_14 : decode cX2_cut 14 = .ok (.istore_n 2, 1) := dz_61 (k_X2_cut 0 14 rfl)
theorem dX2_cut_15 : decode cX2_cut 15 = .ok (.iload_n 2, 1) := dz_28 (k_X2_cut 0 15 rfl)
theorem dX2_cut_16 : decode cX2_cut 16 = .ok (.sipush 128, 3) := dz_17 (k_X2_cut 0 16 rfl) (k_X2_cut 0 17 rfl) (k_X2_cut 0 18 rfl) rfl
theorem dX2_cut_19 : decode cX2_cut 19 = .ok (.if_icmp .ge 61, 3) := dz_162 (k_X2_cut 0 19 rfl) (k_X2_cut 0 20 rfl) (k_X2_cut 0 21 rfl) rfl
theorem dX2_cut_22 : decode cX2_cut 22 = .ok (.aload_n 0, 1) := dz_42 (k_X2_cut 0 22 rfl)
theorem dX2_cut_23 : decode cX2_cut 23 = .ok (.getfield 30, 3) := dz_180 (k_X2_cut 0 23 rfl) (k_X2_cut 0 24 rfl) (k_X2_cut 0 25 rfl) rfl
theorem dX2_cut_26 : decode cX2_cut 26 = .ok (.iload_n 2, 1) := dz_28 (k_X2_cut 0 26 rfl)
theorem dX2_cut_27 : decode cX2_cut 27 = .ok (.iaload, 1) := dz_46 (k_X2_cut 0 27 rfl)
theorem dX2_cut_28 : decode cX2_cut 28 = .ok (.istore_n 3, 1) := dz_62 (k_X2_cut 0 28 rfl)
theorem dX2_cut_29 : decode cX2_cut 29 = .ok (.iconst 0, 1) := dz_3 (k_X2_cut 0 29 rfl)
theorem dX2_cut_30 : decode cX2_cut 30 = .ok (.istore 4, 2) := dz_54 (k_X2_cut 0 30 rfl) (k_X2_cut 0 31 rfl)
theorem dX2_cut_32 : decode cX2_cut 32 = .ok (.iload 4, 2) := dz_21 (k_X2_cut 0 32 rfl) (k_X2_cut 0 33 rfl)
theorem dX2_cut_34 : decode cX2_cut 34 = .ok (.aload_n 0, 1) := dz_42 (k_X2_cut 0 34 rfl)
theorem dX2_cut_35 : decode cX2_cut 35 = .ok (.getfield 39, 3) := dz_180 (k_X2_cut 0 35 rfl) (k_X2_cut 0 36 rfl) (k_X2_cut 0 37 rfl) rfl
theorem dX2_cut_38 : decode cX2_cut 38 = .ok (.if_icmp .ge 29, 3) := dz_162 (k_X2_cut 0 38 rfl) (k_X2_cut 0 39 rfl) (k_X2_cut 0 40 rfl) rfl
theorem dX2_cut_41 : decode cX2_cut 41 = .ok (.iload_n 3, 1) := dz_29 (k_X2_cut 0 41 rfl)
theorem dX2_cut_42 : decode cX2_cut 42 = .ok (.iload_n 1, 1) := dz_27 (k_X2_cut 0 42 rfl)
theorem dX2_cut_43 : decode cX2_cut 43 = .ok (.if_icmp .lt 24, 3) := dz_161 (k_X2_cut 0 43 rfl) (k_X2_cut 0 44 rfl) (k_X2_cut 0 45 rfl) rfl
theorem dX2_cut_46 : decode cX2_cut 46 = .ok (.iload_n 3, 1) := dz_29 (k_X2_cut 0 46 rfl)
theorem dX2_cut_47 : decode cX2_cut 47 = .ok (.aload_n 0, 1) := dz_42 (k_X2_cut 0 47 rfl)
theorem dX2_cut_48 : decode cX2_cut 48 = .ok (.getfield 39, 3) := dz_180 (k_X2_cut 0 48 rfl) (k_X2_cut 0 49 rfl) (k_X2_cut 0 50 rfl) rfl
theorem dX2_cut_51 : decode cX2_cut 51 = .ok (.if_icmp .ge 16, 3) := dz_162 (k_X2_cut 0 51 rfl) (k_X2_cut 0 52 rfl) (k_X2_cut 0 53 rfl) rfl
theorem dX2_cut_54 : decode cX2_cut 54 = .ok (.aload_n 0, 1) := dz_42 (k_X2_cut 0 54 rfl)
theorem dX2_cut_55 : decode cX2_cut 55 = .ok (.getfield 24, 3) := dz_180 (k_X2_cut 0 55 rfl) (k_X2_cut 0 56 rfl) (k_X2_cut 0 57 rfl) rfl
theorem dX2_cut_58 : decode cX2_cut 58 = .ok (.iload_n 3, 1) := dz_29 (k_X2_cut 0 58 rfl)
theorem dX2_cut_59 : decode cX2_cut 59 = .ok (.iaload, 1) := dz_46 (k_X2_cut 0 59 rfl)
theorem dX2_cut_60 : decode cX2_cut 60 = .ok (.istore_n 3, 1) := dz_62 (k_X2_cut 0 60 rfl)
theorem dX2_cut_61 : decode cX2_cut 61 = .ok (.iinc 4 1, 3) := dz_132 (k_X2_cut 0 61 rfl) (k_X2_cut 0 62 rfl) (k_X2_cut 0 63 rfl) rfl
theorem dX2_cut_64 : decode cX2_cut 64 = .ok (.goto (-32), 3) := dz_167 (k_X2_cut 1 0 rfl) (k_X2_cut 1 1 rfl) (k_X2_cut 1 2 rfl) rfl
theorem dX2_cut_67 : decode cX2_cut 67 = .ok (.aload_n 0, 1) := dz_42 (k_X2_cut 1 3 rfl)
theorem dX2_cut_68 : decode cX2_cut 68 = .ok (.getfield 30, 3) := dz_180 (k_X2_cut 1 4 rfl) (k_X2_cut 1 5 rfl) (k_X2_cut 1 6 rfl) rfl
theorem dX2_cut_71 : decode cX2_cut 71 = .ok (.iload_n 2, 1) := dz_28 (k_X2_cut 1 7 rfl)
theorem dX2_cut_72 : decode cX2_cut 72 = .ok (.iload_n 3, 1) := dz_29 (k_X2_cut 1 8 rfl)
theorem dX2_cut_73 : decode cX2_cut 73 = .ok (.iastore, 1) := dz_79 (k_X2_cut 1 9 rfl)
theorem dX2_cut_74 : decode cX2_cut 74 = .ok (.iinc 2 1, 3) := dz_132 (k_X2_cut 1 10 rfl) (k_X2_cut 1 11 rfl) (k_X2_cut 1 12 rfl) rfl
theorem dX2_cut_77 : decode cX2_cut 77 = .ok (.goto (-62), 3) := dz_167 (k_X2_cut 1 13 rfl) (k_X2_cut 1 14 rfl) (k_X2_cut 1 15 rfl) rfl
theorem dX2_cut_80 : decode cX2_cut 80 = .ok (.aload_n 0, 1) := dz_42 (k_X2_cut 1 16 rfl)
theorem dX2_cut_81 : decode cX2_cut 81 = .ok (.iload_n 1, 1) := dz_27 (k_X2_cut 1 17 rfl)
theorem dX2_cut_82 : decode cX2_cut 82 = .ok (.putfield 39, 3) := dz_181 (k_X2_cut 1 18 rfl) (k_X2_cut 1 19 rfl) (k_X2_cut 1 20 rfl) rfl
theorem dX2_cut_85 : decode cX2_cut 85 = .ok (.return_, 1) := dz_177 (k_X2_cut 1 21 rfl)
def B_X2_firstOf : List (List Nat) := [[27, 155, 0, 20, 27, 42, 180, 0, 39, 162, 0, 12, 42, 180, 0, 15, 27, 46, 167, 0, 4, 2, 172]]
theorem k_X2_firstOf (j i : Nat) {b : Nat} (h : (B_X2_firstOf[j]?.bind fun c => c[i]?) = some b) : s_by cX2_firstOf (64 * j + i) b := s_byC (L := B_X2_firstOf) (by decide +kernel) (by decide +kernel) j i h
theorem dX2_firstOf_0 : decode cX2_firstOf 0 = .ok (.iload_n 1, 1) := dz_27 (k_X2_firstOf 0 0 rfl)
theorem dX2_firstOf_1 : decode cX2_firstOf 1 = .ok (.ifCond .lt 20, 3) := dz_155 (k_X2_firstOf 0 1 rfl) (k_X2_firstOf 0 2 rfl) (k_X2_firstOf 0 3 rfl) rfl
theorem dX2_firstOf_4 : decode cX2_firstOf 4 = .ok (.iload_n 1, 1) := dz_27 (k_X2_firstOf 0 4 rfl)
theorem dX2_firstOf_5 : decode cX2_firstOf 5 = .ok (.aload_n 0, 1) := dz_42 (k_X2_firstOf 0 5 rfl)
theorem dX2_firstOf_6 : decode cX2_firstOf 6 = .ok (.getfield 39, 3) := dz_180 (k_X2_firstOf 0 6 rfl) (k_X2_firstOf 0 7 rfl) (k_X2_firstOf 0 8 rfl) rfl
theorem dX2_firstOf_9 : decode cX2_firstOf 9 = .ok (.if_icmp .ge 12, 3) := dz_162 (k_X2_firstOf 0 9 rfl) (k_X2_firstOf 0 10 rfl) (k_X2_firstOf 0 11 rfl) rfl
theorem dX2_firstOf_12 : decode cX2_firstOf 12 = .ok (.aload_n 0, 1) := dz_42 (k_X2_firstOf 0 12 rfl)
theorem dX2_firstOf_13 : decode cX2_firstOf 13 = .ok (.getfield 15, 3) := dz_180 (k_X2_firstOf 0 13 rfl) (k_X2_firstOf 0 14 rfl) (k_X2_firstOf 0 15 rfl) rfl
theorem dX2_firstOf_16 : decode cX2_firstOf 16 = .ok (.iload_n 1, 1) := dz_27 (k_X2_firstOf 0 16 rfl)
theorem dX2_firstOf_17 : decode cX2_firstOf 17 = .ok (.iaload, 1) := dz_46 (k_X2_firstOf 0 17 rfl)
theorem dX2_firstOf_18 : decode cX2_firstOf 18 = .ok (.goto 4, 3) := dz_167 (k_X2_firstOf 0 18 rfl) (k_X2_firstOf 0 19 rfl) (k_X2_firstOf 0 20 rfl) rfl
theorem dX2_firstOf_21 : decode cX2_firstOf 21 = .ok (.iconst (-1), 1) := dz_2 (k_X2_firstOf 0 21 rfl)
theorem dX2_firstOf_22 : decode cX2_firstOf 22 = .ok (.ireturn, 1) := dz_172 (k_X2_firstOf 0 22 rfl)
def B_X2_hasRoom : List (List Nat) := [[42, 180, 0, 39, 42, 180, 0, 11, 190, 162, 0, 5, 4, 172, 42, 180, 0, 11, 190, 5, 104, 60, 27, 17, 0, 128, 161, 0, 10, 27, 17, 32, 0, 164, 0, 5, 3, 172, 42, 42, 180, 0, 11, 27, 184, 0, 66, 181, 0, 11, 42, 42, 180, 0, 15, 27, 184, 0, 66, 181, 0, 15, 42, 42], [180, 0, 18, 27, 184, 0, 66, 181, 0, 18, 42, 42, 180, 0, 21, 27, 184, 0, 66, 181, 0, 21, 42, 42, 180, 0, 24, 27, 184, 0, 66, 181, 0, 24, 42, 42, 180, 0, 27, 27, 6, 104, 184, 0, 66, 181, 0, 27, 4, 172]]
theorem k_X2_hasRoom (j i : Nat) {b : Nat} (h : (B_X2_hasRoom[j]?.bind fun c => c[i]?) = some b) : s_by cX2_hasRoom (64 * j + i) b := s_byC (L := B_X2_hasRoom) (by decide +kernel) (by decide +kernel) j i h
theorem dX2_hasRoom_0 : decode cX2_hasRoom 0 = .ok (.aload_n 0, 1) := dz_42 (k_X2_hasRoom 0 0 rfl)
theorem dX2_hasRoom_1 : decode cX2_hasRoom 1 = .ok (.getfield 39, 3) := dz_180 (k_X2_hasRoom 0 1 rfl) (k_X2_hasRoom 0 2 rfl) (k_X2_hasRoom 0 3 rfl) rfl
theorem dX2_hasRoom_4 : decode cX2_hasRoom 4 = .ok (.aload_n 0, 1) := dz_42 (k_X2_hasRoom 0 4 rfl)
theorem dX2_hasRoom_5 : decode cX2_hasRoom 5 = .ok (.getfield 11, 3) := dz_180 (k_X2_hasRoom 0 5 rfl) (k_X2_hasRoom 0 6 rfl) (k_X2_hasRoom 0 7 rfl) rfl
theorem dX2_hasRoom_8 : decode cX2_hasRoom 8 = .ok (.arraylength, 1) := dz_190 (k_X2_hasRoom 0 8 rfl)
theorem dX2_hasRoom_9 : decode cX2_hasRoom 9 = .ok (.if_icmp .ge 5, 3) := dz_162 (k_X2_hasRoom 0 9 rfl) (k_X2_hasRoom 0 10 rfl) (k_X2_hasRoom 0 11 rfl) rfl
theorem dX2_hasRoom_12 : decode cX2_hasRoom 12 = .ok (.iconst 1, 1) := dz_4 (k_X2_hasRoom 0 12 rfl)
theorem dX2_hasRoom_13 : decode cX2_hasRoom 13 = .ok (.ireturn, 1) := dz_172 (k_X2_hasRoom 0 13 rfl)
theorem dX2_hasRoom_14 : decode cX2_hasRoom 14 = .ok (.aload_n 0, 1) := dz_42 (k_X2_hasRoom 0 14 rfl)
theorem dX2_hasRoom_15 : decode cX2_hasRoom 15 = .ok (.getfield 11, 3) := dz_180 (k_X2_hasRoom 0 15 rfl) (k_X2_hasRoom 0 16 rfl) (k_X2_hasRoom 0 17 rfl) rfl
theorem dX2_hasRoom_18 : decode cX2_hasRoom 18 = .ok (.arraylength, 1) := dz_190 (k_X2_hasRoom 0 18 rfl)
theorem dX2_hasRoom_19 : decode cX2_hasRoom 19 = .ok (.iconst 2, 1) := dz_5 (k_X2_hasRoom 0 19 rfl)
theorem dX2_hasRoom_20 : decode cX2_hasRoom 20 = .ok (.imul, 1) := dz_104 (k_X2_hasRoom 0 20 rfl)
theorem dX2_hasRoom_21 : decode cX2_hasRoom 21 = .ok (.istore_n 1, 1) := dz_60 (k_X2_hasRoom 0 21 rfl)
theorem dX2_hasRoom_22 : decode cX2_hasRoom 22 = .ok (.iload_n 1, 1) := dz_27 (k_X2_hasRoom 0 22 rfl)
theorem dX2_hasRoom_23 : decode cX2_hasRoom 23 = .ok (.sipush 128, 3) := dz_17 (k_X2_hasRoom 0 23 rfl) (k_X2_hasRoom 0 24 rfl) (k_X2_hasRoom 0 25 rfl) rfl
theorem dX2_hasRoom_26 : decode cX2_hasRoom 26 = .ok (.if_icmp .lt 10, 3) := dz_161 (k_X2_hasRoom 0 26 rfl) (k_X2_hasRoom 0 27 rfl) (k_X2_hasRoom 0 28 rfl) rfl
theorem dX2_hasRoom_29 : decode cX2_hasRoom 29 = .ok (.iload_n 1, 1) := dz_27 (k_X2_hasRoom 0 29 rfl)
theorem dX2_hasRoom_30 : decode cX2_hasRoom 30 = .ok (.sipush 8192, 3) := dz_17 (k_X2_hasRoom 0 30 rfl) (k_X2_hasRoom 0 31 rfl) (k_X2_hasRoom 0 32 rfl) rfl
theorem dX2_hasRoom_33 : decode cX2_hasRoom 33 = .ok (.if_icmp .le 5, 3) := dz_164 (k_X2_hasRoom 0 33 rfl) (k_X2_hasRoom 0 34 rfl) (k_X2_hasRoom 0 35 rfl) rfl
theorem dX2_hasRoom_36 : decode cX2_hasRoom 36 = .ok (.iconst 0, 1) := dz_3 (k_X2_hasRoom 0 36 rfl)
theorem dX2_hasRoom_37 : decode cX2_hasRoom 37 = .ok (.ireturn, 1) := dz_172 (k_X2_hasRoom 0 37 rfl)
theorem dX2_hasRoom_38 : decode cX2_hasRoom 38 = .ok (.aload_n 0, 1) := dz_42 (k_X2_hasRoom 0 38 rfl)
theorem dX2_hasRoom_39 : decode cX2_hasRoom 39 = .ok (.aload_n 0, 1) := dz_42 (k_X2_hasRoom 0 39 rfl)
theorem dX2_hasRoom_40 : decode cX2_hasRoom 40 = .ok (.getfield 11, 3) := dz_180 (k_X2_hasRoom 0 40 rfl) (k_X2_hasRoom 0 41 rfl) (k_X2_hasRoom 0 42 rfl) rfl
theorem dX2_hasRoom_43 : decode cX2_hasRoom 43 = .ok (.iload_n 1, 1) := dz_27 (k_X2_hasRoom 0 43 rfl)
theorem dX2_hasRoom_44 : decode cX2_hasRoom 44 = .ok (.invokestatic 66, 3) := dz_184 (k_X2_hasRoom 0 44 rfl) (k_X2_hasRoom 0 45 rfl) (k_X2_hasRoom 0 46 rfl) rfl
theorem dX2_hasRoom_47 : decode cX2_hasRoom 47 = .ok (.putfield 11, 3) := dz_181 (k_X2_hasRoom 0 47 rfl) (k_X2_hasRoom 0 48 rfl) (k_X2_hasRoom 0 49 rfl) rfl
theorem dX2_hasRoom_50 : decode cX2_hasRoom 50 = .ok (.aload_n 0, 1) := dz_42 (k_X2_hasRoom 0 50 rfl)
theorem dX2_hasRoom_51 : decode cX2_hasRoom 51 = .ok (.aload_n 0, 1) := dz_42 (k_X2_hasRoom 0 51 rfl)
theorem dX2_hasRoom_52 : decode cX2_hasRoom 52 = .ok (.getfield 15, 3) := dz_180 (k_X2_hasRoom 0 52 rfl) (k_X2_hasRoom 0 53 rfl) (k_X2_hasRoom 0 54 rfl) rfl
theorem dX2_hasRoom_55 : decode cX2_hasRoom 55 = .ok (.iload_n 1, 1) := dz_27 (k_X2_hasRoom 0 55 rfl)
theorem dX2_hasRoom_56 : decode cX2_hasRoom 56 = .ok (.invokestatic 66, 3) := dz_184 (k_X2_hasRoom 0 56 rfl) (k_X2_hasRoom 0 57 rfl) (k_X2_hasRoom 0 58 rfl) rfl
theorem dX2_hasRoom_59 : decode cX2_hasRoom 59 = .ok (.putfield 15, 3) := dz_181 (k_X2_hasRoom 0 59 rfl) (k_X2_hasRoom 0 60 rfl) (k_X2_hasRoom 0 61 rfl) rfl
theorem dX2_hasRoom_62 : decode cX2_hasRoom 62 = .ok (.aload_n 0, 1) := dz_42 (k_X2_hasRoom 0 62 rfl)
theorem dX2_hasRoom_63 : decode cX2_hasRoom 63 = .ok (.aload_n 0, 1) := dz_42 (k_X2_hasRoom 0 63 rfl)
theorem dX2_hasRoom_64 : decode cX2_hasRoom 64 = .ok (.getfield 18, 3) := dz_180 (k_X2_hasRoom 1 0 rfl) (k_X2_hasRoom 1 1 rfl) (k_X2_hasRoom 1 2 rfl) rfl
theorem dX2_hasRoom_67 : decode cX2_hasRoom 67 = .ok (.iload_n 1, 1) := dz_27 (k_X2_hasRoom 1 3 rfl)
theorem dX2_hasRoom_68 : decode cX2_hasRoom 68 = .ok (.invokestatic 66, 3) := dz_184 (k_X2_hasRoom 1 4 rfl) (k_X2_hasRoom 1 5 rfl) (k_X2_hasRoom 1 6 rfl) rfl
theorem dX2_hasRoom_71 : decode cX2_hasRoom 71 = .ok (.putfield 18, 3) := dz_181 (k_X2_hasRoom 1 7 rfl) (k_X2_hasRoom 1 8 rfl) (k_X2_hasRoom 1 9 rfl) rfl
theorem dX2_hasRoom_74 : decode cX2_hasRoom 74 = .ok (.aload_n 0, 1) := dz_42 (k_X2_hasRoom 1 10 rfl)
theorem dX2_hasRoom_75 : decode cX2_hasRoom 75 = .ok (.aload_n 0, 1) := dz_42 (k_X2_hasRoom 1 11 rfl)
theorem dX2_hasRoom_76 : decode cX2_hasRoom 76 = .ok (.getfield 21, 3) := dz_180 (k_X2_hasRoom 1 12 rfl) (k_X2_hasRoom 1 13 rfl) (k_X2_hasRoom 1 14 rfl) rfl
theorem dX2_hasRoom_79 : decode cX2_hasRoom 79 = .ok (.iload_n 1, 1) := dz_27 (k_X2_hasRoom 1 15 rfl)
theorem dX2_hasRoom_80 : decode cX2_hasRoom 80 = .ok (.invokestatic 66, 3) := dz_184 (k_X2_hasRoom 1 16 rfl) (k_X2_hasRoom 1 17 rfl) (k_X2_hasRoom 1 18 rfl) rfl
theorem dX2_hasRoom_83 : decode cX2_hasRoom 83 = .ok (.putfield 21, 3) := dz_181 (k_X2_hasRoom 1 19 rfl) (k_X2_hasRoom 1 20 rfl) (k_X2_hasRoom 1 21 rfl) rfl
theorem dX2_hasRoom_86 : decode cX2_hasRoom 86 = .ok (.aload_n 0, 1) := dz_42 (k_X2_hasRoom 1 22 rfl)
theorem dX2_hasRoom_87 : decode cX2_hasRoom 87 = .ok (.aload_n 0, 1) := dz_42 (k_X2_hasRoom 1 23 rfl)
theorem dX2_hasRoom_88 : decode cX2_hasRoom 88 = .ok (.getfield 24, 3) := dz_180 (k_X2_hasRoom 1 24 rfl) (k_X2_hasRoom 1 25 rfl) (k_X2_hasRoom 1 26 rfl) rfl
theorem dX2_hasRoom_91 : decode cX2_hasRoom 91 = .ok (.iload_n 1, 1) := dz_27 (k_X2_hasRoom 1 27 rfl)
theorem dX2_hasRoom_92 : decode cX2_hasRoom 92 = .ok (.invokestatic 66, 3) := dz_184 (k_X2_hasRoom 1 28 rfl) (k_X2_hasRoom 1 29 rfl) (k_X2_hasRoom 1 30 rfl) rfl
theorem dX2_hasRoom_95 : decode cX2_hasRoom 95 = .ok (.putfield 24, 3) := dz_181 (k_X2_hasRoom 1 31 rfl) (k_X2_hasRoom 1 32 rfl) (k_X2_hasRoom 1 33 rfl) rfl
theorem dX2_hasRoom_98 : decode cX2_hasRoom 98 = .ok (.aload_n 0, 1) := dz_42 (k_X2_hasRoom 1 34 rfl)
theorem dX2_hasRoom_99 : decode cX2_hasRoom 99 = .ok (.aload_n 0, 1) := dz_42 (k_X2_hasRoom 1 35 rfl)
theorem dX2_hasRoom_100 : decode cX2_hasRoom 100 = .ok (.getfield 27, 3) := dz_180 (k_X2_hasRoom 1 36 rfl) (k_X2_hasRoom 1 37 rfl) (k_X2_hasRoom 1 38 rfl) rfl
theorem dX2_hasRoom_103 : decode cX2_hasRoom 103 = .ok (.iload_n 1, 1) := dz_27 (k_X2_hasRoom 1 39 rfl)
theorem dX2_hasRoom_104 : decode cX2_hasRoom 104 = .ok (.iconst 3, 1) := dz_6 (k_X2_hasRoom 1 40 rfl)
theorem dX2_hasRoom_105 : decode cX2_hasRoom 105 = .ok (.imul, 1) := dz_104 (k_X2_hasRoom 1 41 rfl)
theorem dX2_hasRoom_106 : decode cX2_hasRoom 106 = .ok (.invokestatic 66, 3) := dz_184 (k_X2_hasRoom 1 42 rfl) (k_X2_hasRoom 1 43 rfl) (k_X2_hasRoom 1 44 rfl) rfl
theorem dX2_hasRoom_109 : decode cX2_hasRoom 109 = .ok (.putfield 27, 3) := dz_181 (k_X2_hasRoom 1 45 rfl) (k_X2_hasRoom 1 46 rfl) (k_X2_hasRoom 1 47 rfl) rfl
theorem dX2_hasRoom_112 : decode cX2_hasRoom 112 = .ok (.iconst 1, 1) := dz_4 (k_X2_hasRoom 1 48 rfl)
theorem dX2_hasRoom_113 : decode cX2_hasRoom 113 = .ok (.ireturn, 1) := dz_172 (k_X2_hasRoom 1 49 rfl)
def B_X2_init : List (List Nat) := [[42, 183, 0, 3, 42, 17, 0, 128, 188, 10, 181, 0, 11, 42, 17, 0, 128, 188, 10, 181, 0, 15, 42, 17, 0, 128, 188, 10, 181, 0, 18, 42, 17, 0, 128, 188, 10, 181, 0, 21, 42, 17, 0, 128, 188, 10, 181, 0, 24, 42, 17, 1, 128, 188, 10, 181, 0, 27, 42, 17, 0, 128, 188, 10], [181, 0, 30, 42, 180, 0, 30, 2, 184, 0, 33, 177]]
theorem k_X2_init (j i : Nat) {b : Nat} (h : (B_X2_init[j]?.bind fun c => c[i]?) = some b) : s_by cX2_init (64 * j + i) b := s_byC (L := B_X2_init) (by decide +kernel) (by decide +kernel) j i h
theorem dX2_init_0 : decode cX2_init 0 = .ok (.aload_n 0, 1) := dz_42 (k_X2_init 0 0 rfl)
theorem dX2_init_1 : decode cX2_init 1 = .ok (.invokespecial 3, 3) := dz_183 (k_X2_init 0 1 rfl) (k_X2_init 0 2 rfl) (k_X2_init 0 3 rfl) rfl
theorem dX2_init_4 : decode cX2_init 4 = .ok (.aload_n 0, 1) := dz_42 (k_X2_init 0 4 rfl)
theorem dX2_init_5 : decode cX2_init 5 = .ok (.sipush 128, 3) := dz_17 (k_X2_init 0 5 rfl) (k_X2_init 0 6 rfl) (k_X2_init 0 7 rfl) rfl
theorem dX2_init_8 : decode cX2_init 8 = .ok (.newarray .int, 2) := by decide +kernel
theorem dX2_init_10 : decode cX2_init 10 = .ok (.putfield 11, 3) := dz_181 (k_X2_init 0 10 rfl) (k_X2_init 0 11 rfl) (k_X2_init 0 12 rfl) rfl
theorem dX2_init_13 : decode cX2_init 13 = .ok (.aload_n 0, 1) := dz_42 (k_X2_init 0 13 rfl)
theorem dX2_init_14 : decode cX2_init 14 = .ok (.sipush 128, 3) := dz_17 (k_X2_init 0 14 rfl) (k_X2_init 0 15 rfl) (k_X2_init 0 16 rfl) rfl
theorem dX2_init_17 : decode cX2_init 17 = .ok (.newarray .int, 2) := by decide +kernel
theorem dX2_init_19 : decode cX2_init 19 = .ok (.putfield 15, 3) := dz_181 (k_X2_init 0 19 rfl) (k_X2_init 0 20 rfl) (k_X2_init 0 21 rfl) rfl
theorem dX2_init_22 : decode cX2_init 22 = .ok (.aload_n 0, 1) := dz_42 (k_X2_init 0 22 rfl)
theorem dX2_init_23 : decode cX2_init 23 = .ok (.sipush 128, 3) := dz_17 (k_X2_init 0 23 rfl) (k_X2_init 0 24 rfl) (k_X2_init 0 25 rfl) rfl
theorem dX2_init_26 : decode cX2_init 26 = .ok (.newarray .int, 2) := by decide +kernel
theorem dX2_init_28 : decode cX2_init 28 = .ok (.putfield 18, 3) := dz_181 (k_X2_init 0 28 rfl) (k_X2_init 0 29 rfl) (k_X2_init 0 30 rfl) rfl
theorem dX2_init_31 : decode cX2_init 31 = .ok (.aload_n 0, 1) := dz_42 (k_X2_init 0 31 rfl)
theorem dX2_init_32 : decode cX2_init 32 = .ok (.sipush 128, 3) := dz_17 (k_X2_init 0 32 rfl) (k_X2_init 0 33 rfl) (k_X2_init 0 34 rfl) rfl
theorem dX2_init_35 : decode cX2_init 35 = .ok (.newarray .int, 2) := by decide +kernel
theorem dX2_init_37 : decode cX2_init 37 = .ok (.putfield 21, 3) := dz_181 (k_X2_init 0 37 rfl) (k_X2_init 0 38 rfl) (k_X2_init 0 39 rfl) rfl
theorem dX2_init_40 : decode cX2_init 40 = .ok (.aload_n 0, 1) := dz_42 (k_X2_init 0 40 rfl)
theorem dX2_init_41 : decode cX2_init 41 = .ok (.sipush 128, 3) := dz_17 (k_X2_init 0 41 rfl) (k_X2_init 0 42 rfl) (k_X2_init 0 43 rfl) rfl
theorem dX2_init_44 : decode cX2_init 44 = .ok (.newarray .int, 2) := by decide +kernel
theorem dX2_init_46 : decode cX2_init 46 = .ok (.putfield 24, 3) := dz_181 (k_X2_init 0 46 rfl) (k_X2_init 0 47 rfl) (k_X2_init 0 48 rfl) rfl
theorem dX2_init_49 : decode cX2_init 49 = .ok (.aload_n 0, 1) := dz_42 (k_X2_init 0 49 rfl)
theorem dX2_init_50 : decode cX2_init 50 = .ok (.sipush 384, 3) := dz_17 (k_X2_init 0 50 rfl) (k_X2_init 0 51 rfl) (k_X2_init 0 52 rfl) rfl
theorem dX2_init_53 : decode cX2_init 53 = .ok (.newarray .int, 2) := by decide +kernel
theorem dX2_init_55 : decode cX2_init 55 = .ok (.putfield 27, 3) := dz_181 (k_X2_init 0 55 rfl) (k_X2_init 0 56 rfl) (k_X2_init 0 57 rfl) rfl
theorem dX2_init_58 : decode cX2_init 58 = .ok (.aload_n 0, 1) := dz_42 (k_X2_init 0 58 rfl)
theorem dX2_init_59 : decode cX2_init 59 = .ok (.sipush 128, 3) := dz_17 (k_X2_init 0 59 rfl) (k_X2_init 0 60 rfl) (k_X2_init 0 61 rfl) rfl
theorem dX2_init_62 : decode cX2_init 62 = .ok (.newarray .int, 2) := by decide +kernel
theorem dX2_init_64 : decode cX2_init 64 = .ok (.putfield 30, 3) := dz_181 (k_X2_init 1 0 rfl) (k_X2_init 1 1 rfl) (k_X2_init 1 2 rfl) rfl
theorem dX2_init_67 : decode cX2_init 67 = .ok (.aload_n 0, 1) := dz_42 (k_X2_init 1 3 rfl)
theorem dX2_init_68 : decode cX2_init 68 = .ok (.getfield 30, 3) := dz_180 (k_X2_init 1 4 rfl) (k_X2_init 1 5 rfl) (k_X2_init 1 6 rfl) rfl
theorem dX2_init_71 : decode cX2_init 71 = .ok (.iconst (-1), 1) := dz_2 (k_X2_init 1 7 rfl)
theorem dX2_init_72 : decode cX2_init 72 = .ok (.invokestatic 33, 3) := dz_184 (k_X2_init 1 8 rfl) (k_X2_init 1 9 rfl) (k_X2_init 1 10 rfl) rfl
theorem dX2_init_75 : decode cX2_init 75 = .ok (.return_, 1) := dz_177 (k_X2_init 1 11 rfl)
def B_X2_isMade : List (List Nat) := [[27, 155, 0, 46, 27, 42, 180, 0, 39, 162, 0, 38, 42, 180, 0, 11, 27, 46, 28, 160, 0, 28, 42, 180, 0, 15, 27, 46, 29, 160, 0, 18, 42, 180, 0, 18, 27, 46, 21, 4, 160, 0, 7, 4, 167, 0, 4, 3, 172]]
theorem k_X2_isMade (j i : Nat) {b : Nat} (h : (B_X2_isMade[j]?.bind fun c => c[i]?) = some b) : s_by cX2_isMade (64 * j + i) b := s_byC (L := B_X2_isMade) (by decide +kernel) (by decide +kernel) j i h
theorem dX2_isMade_0 : decode cX2_isMade 0 = .ok (.iload_n 1, 1) := dz_27 (k_X2_isMade 0 0 rfl)
theorem dX2_isMade_1 : decode cX2_isMade 1 = .ok (.ifCond .lt 46, 3) := dz_155 (k_X2_isMade 0 1 rfl) (k_X2_isMade 0 2 rfl) (k_X2_isMade 0 3 rfl) rfl
theorem dX2_isMade_4 : decode cX2_isMade 4 = .ok (.iload_n 1, 1) := dz_27 (k_X2_isMade 0 4 rfl)
theorem dX2_isMade_5 : decode cX2_isMade 5 = .ok (.aload_n 0, 1) := dz_42 (k_X2_isMade 0 5 rfl)
theorem dX2_isMade_6 : decode cX2_isMade 6 = .ok (.getfield 39, 3) := dz_180 (k_X2_isMade 0 6 rfl) (k_X2_isMade 0 7 rfl) (k_X2_isMade 0 8 rfl) rfl
theorem dX2_isMade_9 : decode cX2_isMade 9 = .ok (.if_icmp .ge 38, 3) := dz_162 (k_X2_isMade 0 9 rfl) (k_X2_isMade 0 10 rfl) (k_X2_isMade 0 11 rfl) rfl
theorem dX2_isMade_12 : decode cX2_isMade 12 = .ok (.aload_n 0, 1) := dz_42 (k_X2_isMade 0 12 rfl)
theorem dX2_isMade_13 : decode cX2_isMade 13 = .ok (.getfield 11, 3) := dz_180 (k_X2_isMade 0 13 rfl) (k_X2_isMade 0 14 rfl) (k_X2_isMade 0 15 rfl) rfl
theorem dX2_isMade_16 : decode cX2_isMade 16 = .ok (.iload_n 1, 1) := dz_27 (k_X2_isMade 0 16 rfl)
theorem dX2_isMade_17 : decode cX2_isMade 17 = .ok (.iaload, 1) := dz_46 (k_X2_isMade 0 17 rfl)
theorem dX2_isMade_18 : decode cX2_isMade 18 = .ok (.iload_n 2, 1) := dz_28 (k_X2_isMade 0 18 rfl)
theorem dX2_isMade_19 : decode cX2_isMade 19 = .ok (.if_icmp .ne 28, 3) := dz_160 (k_X2_isMade 0 19 rfl) (k_X2_isMade 0 20 rfl) (k_X2_isMade 0 21 rfl) rfl
theorem dX2_isMade_22 : decode cX2_isMade 22 = .ok (.aload_n 0, 1) := dz_42 (k_X2_isMade 0 22 rfl)
theorem dX2_isMade_23 : decode cX2_isMade 23 = .ok (.getfield 15, 3) := dz_180 (k_X2_isMade 0 23 rfl) (k_X2_isMade 0 24 rfl) (k_X2_isMade 0 25 rfl) rfl
theorem dX2_isMade_26 : decode cX2_isMade 26 = .ok (.iload_n 1, 1) := dz_27 (k_X2_isMade 0 26 rfl)
theorem dX2_isMade_27 : decode cX2_isMade 27 = .ok (.iaload, 1) := dz_46 (k_X2_isMade 0 27 rfl)
theorem dX2_isMade_28 : decode cX2_isMade 28 = .ok (.iload_n 3, 1) := dz_29 (k_X2_isMade 0 28 rfl)
theorem dX2_isMade_29 : decode cX2_isMade 29 = .ok (.if_icmp .ne 18, 3) := dz_160 (k_X2_isMade 0 29 rfl) (k_X2_isMade 0 30 rfl) (k_X2_isMade 0 31 rfl) rfl
theorem dX2_isMade_32 : decode cX2_isMade 32 = .ok (.aload_n 0, 1) := dz_42 (k_X2_isMade 0 32 rfl)
theorem dX2_isMade_33 : decode cX2_isMade 33 = .ok (.getfield 18, 3) := dz_180 (k_X2_isMade 0 33 rfl) (k_X2_isMade 0 34 rfl) (k_X2_isMade 0 35 rfl) rfl
theorem dX2_isMade_36 : decode cX2_isMade 36 = .ok (.iload_n 1, 1) := dz_27 (k_X2_isMade 0 36 rfl)
theorem dX2_isMade_37 : decode cX2_isMade 37 = .ok (.iaload, 1) := dz_46 (k_X2_isMade 0 37 rfl)
theorem dX2_isMade_38 : decode cX2_isMade 38 = .ok (.iload 4, 2) := dz_21 (k_X2_isMade 0 38 rfl) (k_X2_isMade 0 39 rfl)
theorem dX2_isMade_40 : decode cX2_isMade 40 = .ok (.if_icmp .ne 7, 3) := dz_160 (k_X2_isMade 0 40 rfl) (k_X2_isMade 0 41 rfl) (k_X2_isMade 0 42 rfl) rfl
theorem dX2_isMade_43 : decode cX2_isMade 43 = .ok (.iconst 1, 1) := dz_4 (k_X2_isMade 0 43 rfl)
theorem dX2_isMade_44 : decode cX2_isMade 44 = .ok (.goto 4, 3) := dz_167 (k_X2_isMade 0 44 rfl) (k_X2_isMade 0 45 rfl) (k_X2_isMade 0 46 rfl) rfl
theorem dX2_isMade_47 : decode cX2_isMade 47 = .ok (.iconst 0, 1) := dz_3 (k_X2_isMade 0 47 rfl)
theorem dX2_isMade_48 : decode cX2_isMade 48 = .ok (.ireturn, 1) := dz_172 (k_X2_isMade 0 48 rfl)
def B_X2_kindOf : List (List Nat) := [[27, 155, 0, 20, 27, 42, 180, 0, 39, 162, 0, 12, 42, 180, 0, 11, 27, 46, 167, 0, 4, 2, 172]]
theorem k_X2_kindOf (j i : Nat) {b : Nat} (h : (B_X2_kindOf[j]?.bind fun c => c[i]?) = some b) : s_by cX2_kindOf (64 * j + i) b := s_byC (L := B_X2_kindOf) (by decide +kernel) (by decide +kernel) j i h
theorem dX2_kindOf_0 : decode cX2_kindOf 0 = .ok (.iload_n 1, 1) := dz_27 (k_X2_kindOf 0 0 rfl)
theorem dX2_kindOf_1 : decode cX2_kindOf 1 = .ok (.ifCond .lt 20, 3) := dz_155 (k_X2_kindOf 0 1 rfl) (k_X2_kindOf 0 2 rfl) (k_X2_kindOf 0 3 rfl) rfl
theorem dX2_kindOf_4 : decode cX2_kindOf 4 = .ok (.iload_n 1, 1) := dz_27 (k_X2_kindOf 0 4 rfl)
theorem dX2_kindOf_5 : decode cX2_kindOf 5 = .ok (.aload_n 0, 1) := dz_42 (k_X2_kindOf 0 5 rfl)
theorem dX2_kindOf_6 : decode cX2_kindOf 6 = .ok (.getfield 39, 3) := dz_180 (k_X2_kindOf 0 6 rfl) (k_X2_kindOf 0 7 rfl) (k_X2_kindOf 0 8 rfl) rfl
theorem dX2_kindOf_9 : decode cX2_kindOf 9 = .ok (.if_icmp .ge 12, 3) := dz_162 (k_X2_kindOf 0 9 rfl) (k_X2_kindOf 0 10 rfl) (k_X2_kindOf 0 11 rfl) rfl
theorem dX2_kindOf_12 : decode cX2_kindOf 12 = .ok (.aload_n 0, 1) := dz_42 (k_X2_kindOf 0 12 rfl)
theorem dX2_kindOf_13 : decode cX2_kindOf 13 = .ok (.getfield 11, 3) := dz_180 (k_X2_kindOf 0 13 rfl) (k_X2_kindOf 0 14 rfl) (k_X2_kindOf 0 15 rfl) rfl
theorem dX2_kindOf_16 : decode cX2_kindOf 16 = .ok (.iload_n 1, 1) := dz_27 (k_X2_kindOf 0 16 rfl)
theorem dX2_kindOf_17 : decode cX2_kindOf 17 = .ok (.iaload, 1) := dz_46 (k_X2_kindOf 0 17 rfl)
theorem dX2_kindOf_18 : decode cX2_kindOf 18 = .ok (.goto 4, 3) := dz_167 (k_X2_kindOf 0 18 rfl) (k_X2_kindOf 0 19 rfl) (k_X2_kindOf 0 20 rfl) rfl
theorem dX2_kindOf_21 : decode cX2_kindOf 21 = .ok (.iconst (-1), 1) := dz_2 (k_X2_kindOf 0 21 rfl)
theorem dX2_kindOf_22 : decode cX2_kindOf 22 = .ok (.ireturn, 1) := dz_172 (k_X2_kindOf 0 22 rfl)
def B_X2_make : List (List Nat) := [[27, 16, 31, 104, 28, 96, 16, 31, 104, 29, 96, 16, 127, 126, 54, 4, 42, 180, 0, 30, 21, 4, 46, 54, 5, 3, 54, 6, 21, 6, 42, 180, 0, 39, 162, 0, 47, 21, 5, 155, 0, 42, 21, 5, 42, 180, 0, 39, 162, 0, 33, 42, 21, 5, 27, 28, 29, 182, 0, 47, 153, 0, 6, 21], [5, 172, 42, 180, 0, 24, 21, 5, 46, 54, 5, 132, 6, 1, 167, 255, 206, 42, 182, 0, 51, 154, 0, 5, 2, 172, 42, 180, 0, 39, 54, 6, 42, 180, 0, 11, 21, 6, 27, 79, 42, 180, 0, 15, 21, 6, 28, 79, 42, 180, 0, 18, 21, 6, 29, 79, 42, 180, 0, 21, 21, 6, 27, 154], [0, 7, 4, 167, 0, 16, 4, 42, 28, 182, 0, 55, 96, 42, 29, 182, 0, 55, 96, 79, 42, 180, 0, 24, 21, 6, 42, 180, 0, 30, 21, 4, 46, 79, 42, 180, 0, 30, 21, 4, 21, 6, 79, 3, 54, 7, 21, 7, 6, 162, 0, 22, 42, 180, 0, 27, 21, 6, 6, 104, 21, 7, 96, 2], [79, 132, 7, 1, 167, 255, 234, 42, 89, 180, 0, 39, 4, 96, 181, 0, 39, 21, 6, 172]]
theorem k_X2_make (j i : Nat) {b : Nat} (h : (B_X2_make[j]?.bind fun c => c[i]?) = some b) : s_by cX2_make (64 * j + i) b := s_byC (L := B_X2_make) (by decide +kernel) (by decide +kernel) j i h
theorem dX2_make_0 : decode cX2_make 0 = .ok (.iload_n 1, 1) := dz_27 (k_X2_make 0 0 rfl)
theorem dX2_make_1 : decode cX2_make 1 = .ok (.bipush 31, 2) := dz_16 (k_X2_make 0 1 rfl) (k_X2_make 0 2 rfl) rfl
theorem dX2_make_3 : decode cX2_make 3 = .ok (.imul, 1) := dz_104 (k_X2_make 0 3 rfl)
theorem dX2_make_4 : decode cX2_make 4 = .ok (.iload_n 2, 1) := dz_28 (k_X2_make 0 4 rfl)
theorem dX2_make_5 : decode cX2_make 5 = .ok (.iadd, 1) := dz_96 (k_X2_make 0 5 rfl)
theorem dX2_make_6 : decode cX2_make 6 = .ok (.bipush 31, 2) := dz_16 (k_X2_make 0 6 rfl) (k_X2_make 0 7 rfl) rfl
theorem dX2_make_8 : decode cX2_make 8 = .ok (.imul, 1) := dz_104 (k_X2_make 0 8 rfl)
theorem dX2_make_9 : decode cX2_make 9 = .ok (.iload_n 3, 1) := dz_29 (k_X2_make 0 9 rfl)
theorem dX2_make_10 : decode cX2_make 10 = .ok (.iadd, 1) := dz_96 (k_X2_make 0 10 rfl)
theorem dX2_make_11 : decode cX2_make 11 = .ok (.bipush 127, 2) := dz_16 (k_X2_make 0 11 rfl) (k_X2_make 0 12 rfl) rfl
theorem dX2_make_13 : decode cX2_make 13 = .ok (.iand, 1) := dz_126 (k_X2_make 0 13 rfl)
theorem dX2_make_14 : decode cX2_make 14 = .ok (.istore 4, 2) := dz_54 (k_X2_make 0 14 rfl) (k_X2_make 0 15 rfl)
theorem dX2_make_16 : decode cX2_make 16 = .ok (.aload_n 0, 1) := dz_42 (k_X2_make 0 16 rfl)
theorem dX2_make_17 : decode cX2_make 17 = .ok (.getfield 30, 3) := dz_180 (k_X2_make 0 17 rfl) (k_X2_make 0 18 rfl) (k_X2_make 0 19 rfl) rfl
theorem dX2_make_20 : decode cX2_make 20 = .ok (.iload 4, 2) := dz_21 (k_X2_make 0 20 rfl) (k_X2_make 0 21 rfl)
theorem dX2_make_22 : decode cX2_make 22 = .ok (.iaload, 1) := dz_46 (k_X2_make 0 22 rfl)
theorem dX2_make_23 : decode cX2_make 23 = .ok (.istore 5, 2) := dz_54 (k_X2_make 0 23 rfl) (k_X2_make 0 24 rfl)
theorem dX2_make_25 : decode cX2_make 25 = .ok (.iconst 0, 1) := dz_3 (k_X2_make 0 25 rfl)
theorem dX2_make_26 : decode cX2_make 26 = .ok (.istore 6, 2) := dz_54 (k_X2_make 0 26 rfl) (k_X2_make 0 27 rfl)
theorem dX2_make_28 : decode cX2_make 28 = .ok (.iload 6, 2) := dz_21 (k_X2_make 0 28 rfl) (k_X2_make 0 29 rfl)
theorem dX2_make_30 : decode cX2_make 30 = .ok (.aload_n 0, 1) := dz_42 (k_X2_make 0 30 rfl)
theorem dX2_make_31 : decode cX2_make 31 = .ok (.getfield 39, 3) := dz_180 (k_X2_make 0 31 rfl) (k_X2_make 0 32 rfl) (k_X2_make 0 33 rfl) rfl
theorem dX2_make_34 : decode cX2_make 34 = .ok (.if_icmp .ge 47, 3) := dz_162 (k_X2_make 0 34 rfl) (k_X2_make 0 35 rfl) (k_X2_make 0 36 rfl) rfl
theorem dX2_make_37 : decode cX2_make 37 = .ok (.iload 5, 2) := dz_21 (k_X2_make 0 37 rfl) (k_X2_make 0 38 rfl)
theorem dX2_make_39 : decode cX2_make 39 = .ok (.ifCond .lt 42, 3) := dz_155 (k_X2_make 0 39 rfl) (k_X2_make 0 40 rfl) (k_X2_make 0 41 rfl) rfl
theorem dX2_make_42 : decode cX2_make 42 = .ok (.iload 5, 2) := dz_21 (k_X2_make 0 42 rfl) (k_X2_make 0 43 rfl)
theorem dX2_make_44 : decode cX2_make 44 = .ok (.aload_n 0, 1) := dz_42 (k_X2_make 0 44 rfl)
theorem dX2_make_45 : decode cX2_make 45 = .ok (.getfield 39, 3) := dz_180 (k_X2_make 0 45 rfl) (k_X2_make 0 46 rfl) (k_X2_make 0 47 rfl) rfl
theorem dX2_make_48 : decode cX2_make 48 = .ok (.if_icmp .ge 33, 3) := dz_162 (k_X2_make 0 48 rfl) (k_X2_make 0 49 rfl) (k_X2_make 0 50 rfl) rfl
theorem dX2_make_51 : decode cX2_make 51 = .ok (.aload_n 0, 1) := dz_42 (k_X2_make 0 51 rfl)
theorem dX2_make_52 : decode cX2_make 52 = .ok (.iload 5, 2) := dz_21 (k_X2_make 0 52 rfl) (k_X2_make 0 53 rfl)
theorem dX2_make_54 : decode cX2_make 54 = .ok (.iload_n 1, 1) := dz_27 (k_X2_make 0 54 rfl)
theorem dX2_make_55 : decode cX2_make 55 = .ok (.iload_n 2, 1) := dz_28 (k_X2_make 0 55 rfl)
theorem dX2_make_56 : decode cX2_make 56 = .ok (.iload_n 3, 1) := dz_29 (k_X2_make 0 56 rfl)
theorem dX2_make_57 : decode cX2_make 57 = .ok (.invokevirtual 47, 3) := dz_182 (k_X2_make 0 57 rfl) (k_X2_make 0 58 rfl) (k_X2_make 0 59 rfl) rfl
theorem dX2_make_60 : decode cX2_make 60 = .ok (.ifCond .eq 6, 3) := dz_153 (k_X2_make 0 60 rfl) (k_X2_make 0 61 rfl) (k_X2_make 0 62 rfl) rfl
theorem dX2_make_63 : decode cX2_make 63 = .ok (.iload 5, 2) := dz_21 (k_X2_make 0 63 rfl) (k_X2_make 1 0 rfl)
theorem dX2_make_65 : decode cX2_make 65 = .ok (.ireturn, 1) := dz_172 (k_X2_make 1 1 rfl)
theorem dX2_make_66 : decode cX2_make 66 = .ok (.aload_n 0, 1) := dz_42 (k_X2_make 1 2 rfl)
theorem dX2_make_67 : decode cX2_make 67 = .ok (.getfield 24, 3) := dz_180 (k_X2_make 1 3 rfl) (k_X2_make 1 4 rfl) (k_X2_make 1 5 rfl) rfl
theorem dX2_make_70 : decode cX2_make 70 = .ok (.iload 5, 2) := dz_21 (k_X2_make 1 6 rfl) (k_X2_make 1 7 rfl)
theorem dX2_make_72 : decode cX2_make 72 = .ok (.iaload, 1) := dz_46 (k_X2_make 1 8 rfl)
theorem dX2_make_73 : decode cX2_make 73 = .ok (.istore 5, 2) := dz_54 (k_X2_make 1 9 rfl) (k_X2_make 1 10 rfl)
theorem dX2_make_75 : decode cX2_make 75 = .ok (.iinc 6 1, 3) := dz_132 (k_X2_make 1 11 rfl) (k_X2_make 1 12 rfl) (k_X2_make 1 13 rfl) rfl
theorem dX2_make_78 : decode cX2_make 78 = .ok (.goto (-50), 3) := dz_167 (k_X2_make 1 14 rfl) (k_X2_make 1 15 rfl) (k_X2_make 1 16 rfl) rfl
theorem dX2_make_81 : decode cX2_make 81 = .ok (.aload_n 0, 1) := dz_42 (k_X2_make 1 17 rfl)
theorem dX2_make_82 : decode cX2_make 82 = .ok (.invokevirtual 51, 3) := dz_182 (k_X2_make 1 18 rfl) (k_X2_make 1 19 rfl) (k_X2_make 1 20 rfl) rfl
theorem dX2_make_85 : decode cX2_make 85 = .ok (.ifCond .ne 5, 3) := dz_154 (k_X2_make 1 21 rfl) (k_X2_make 1 22 rfl) (k_X2_make 1 23 rfl) rfl
theorem dX2_make_88 : decode cX2_make 88 = .ok (.iconst (-1), 1) := dz_2 (k_X2_make 1 24 rfl)
theorem dX2_make_89 : decode cX2_make 89 = .ok (.ireturn, 1) := dz_172 (k_X2_make 1 25 rfl)
theorem dX2_make_90 : decode cX2_make 90 = .ok (.aload_n 0, 1) := dz_42 (k_X2_make 1 26 rfl)
theorem dX2_make_91 : decode cX2_make 91 = .ok (.getfield 39, 3) := dz_180 (k_X2_make 1 27 rfl) (k_X2_make 1 28 rfl) (k_X2_make 1 29 rfl) rfl
theorem dX2_make_94 : decode cX2_make 94 = .ok (.istore 6, 2) := dz_54 (k_X2_make 1 30 rfl) (k_X2_make 1 31 rfl)
theorem dX2_make_96 : decode cX2_make 96 = .ok (.aload_n 0, 1) := dz_42 (k_X2_make 1 32 rfl)
theorem dX2_make_97 : decode cX2_make 97 = .ok (.getfield 11, 3) := dz_180 (k_X2_make 1 33 rfl) (k_X2_make 1 34 rfl) (k_X2_make 1 35 rfl) rfl
theorem dX2_make_100 : decode cX2_make 100 = .ok (.iload 6, 2) := dz_21 (k_X2_make 1 36 rfl) (k_X2_make 1 37 rfl)
theorem dX2_make_102 : decode cX2_make 102 = .ok (.iload_n 1, 1) := dz_27 (k_X2_make 1 38 rfl)
theorem dX2_make_103 : decode cX2_make 103 = .ok (.iastore, 1) := dz_79 (k_X2_make 1 39 rfl)
theorem dX2_make_104 : decode cX2_make 104 = .ok (.aload_n 0, 1) := dz_42 (k_X2_make 1 40 rfl)
theorem dX2_make_105 : decode cX2_make 105 = .ok (.getfield 15, 3) := dz_180 (k_X2_make 1 41 rfl) (k_X2_make 1 42 rfl) (k_X2_make 1 43 rfl) rfl
theorem dX2_make_108 : decode cX2_make 108 = .ok (.iload 6, 2) := dz_21 (k_X2_make 1 44 rfl) (k_X2_make 1 45 rfl)
theorem dX2_make_110 : decode cX2_make 110 = .ok (.iload_n 2, 1) := dz_28 (k_X2_make 1 46 rfl)
theorem dX2_make_111 : decode cX2_make 111 = .ok (.iastore, 1) := dz_79 (k_X2_make 1 47 rfl)
theorem dX2_make_112 : decode cX2_make 112 = .ok (.aload_n 0, 1) := dz_42 (k_X2_make 1 48 rfl)
theorem dX2_make_113 : decode cX2_make 113 = .ok (.getfield 18, 3) := dz_180 (k_X2_make 1 49 rfl) (k_X2_make 1 50 rfl) (k_X2_make 1 51 rfl) rfl
theorem dX2_make_116 : decode cX2_make 116 = .ok (.iload 6, 2) := dz_21 (k_X2_make 1 52 rfl) (k_X2_make 1 53 rfl)
theorem dX2_make_118 : decode cX2_make 118 = .ok (.iload_n 3, 1) := dz_29 (k_X2_make 1 54 rfl)
theorem dX2_make_119 : decode cX2_make 119 = .ok (.iastore, 1) := dz_79 (k_X2_make 1 55 rfl)
theorem dX2_make_120 : decode cX2_make 120 = .ok (.aload_n 0, 1) := dz_42 (k_X2_make 1 56 rfl)
theorem dX2_make_121 : decode cX2_make 121 = .ok (.getfield 21, 3) := dz_180 (k_X2_make 1 57 rfl) (k_X2_make 1 58 rfl) (k_X2_make 1 59 rfl) rfl
theorem dX2_make_124 : decode cX2_make 124 = .ok (.iload 6, 2) := dz_21 (k_X2_make 1 60 rfl) (k_X2_make 1 61 rfl)
theorem dX2_make_126 : decode cX2_make 126 = .ok (.iload_n 1, 1) := dz_27 (k_X2_make 1 62 rfl)
theorem dX2_make_127 : decode cX2_make 127 = .ok (.ifCond .ne 7, 3) := dz_154 (k_X2_make 1 63 rfl) (k_X2_make 2 0 rfl) (k_X2_make 2 1 rfl) rfl
theorem dX2_make_130 : decode cX2_make 130 = .ok (.iconst 1, 1) := dz_4 (k_X2_make 2 2 rfl)
theorem dX2_make_131 : decode cX2_make 131 = .ok (.goto 16, 3) := dz_167 (k_X2_make 2 3 rfl) (k_X2_make 2 4 rfl) (k_X2_make 2 5 rfl) rfl
theorem dX2_make_134 : decode cX2_make 134 = .ok (.iconst 1, 1) := dz_4 (k_X2_make 2 6 rfl)
theorem dX2_make_135 : decode cX2_make 135 = .ok (.aload_n 0, 1) := dz_42 (k_X2_make 2 7 rfl)
theorem dX2_make_136 : decode cX2_make 136 = .ok (.iload_n 2, 1) := dz_28 (k_X2_make 2 8 rfl)
theorem dX2_make_137 : decode cX2_make 137 = .ok (.invokevirtual 55, 3) := dz_182 (k_X2_make 2 9 rfl) (k_X2_make 2 10 rfl) (k_X2_make 2 11 rfl) rfl
theorem dX2_make_140 : decode cX2_make 140 = .ok (.iadd, 1) := dz_96 (k_X2_make 2 12 rfl)
theorem dX2_make_141 : decode cX2_make 141 = .ok (.aload_n 0, 1) := dz_42 (k_X2_make 2 13 rfl)
theorem dX2_make_142 : decode cX2_make 142 = .ok (.iload_n 3, 1) := dz_29 (k_X2_make 2 14 rfl)
theorem dX2_make_143 : decode cX2_make 143 = .ok (.invokevirtual 55, 3) := dz_182 (k_X2_make 2 15 rfl) (k_X2_make 2 16 rfl) (k_X2_make 2 17 rfl) rfl
theorem dX2_make_146 : decode cX2_make 146 = .ok (.iadd, 1) := dz_96 (k_X2_make 2 18 rfl)
theorem dX2_make_147 : decode cX2_make 147 = .ok (.iastore, 1) := dz_79 (k_X2_make 2 19 rfl)
theorem dX2_make_148 : decode cX2_make 148 = .ok (.aload_n 0, 1) := dz_42 (k_X2_make 2 20 rfl)
theorem dX2_make_149 : decode cX2_make 149 = .ok (.getfield 24, 3) := dz_180 (k_X2_make 2 21 rfl) (k_X2_make 2 22 rfl) (k_X2_make 2 23 rfl) rfl
theorem dX2_make_152 : decode cX2_make 152 = .ok (.iload 6, 2) := dz_21 (k_X2_make 2 24 rfl) (k_X2_make 2 25 rfl)
theorem dX2_make_154 : decode cX2_make 154 = .ok (.aload_n 0, 1) := dz_42 (k_X2_make 2 26 rfl)
theorem dX2_make_155 : decode cX2_make 155 = .ok (.getfield 30, 3) := dz_180 (k_X2_make 2 27 rfl) (k_X2_make 2 28 rfl) (k_X2_make 2 29 rfl) rfl
theorem dX2_make_158 : decode cX2_make 158 = .ok (.iload 4, 2) := dz_21 (k_X2_make 2 30 rfl) (k_X2_make 2 31 rfl)
theorem dX2_make_160 : decode cX2_make 160 = .ok (.iaload, 1) := dz_46 (k_X2_make 2 32 rfl)
theorem dX2_make_161 : decode cX2_make 161 = .ok (.iastore, 1) := dz_79 (k_X2_make 2 33 rfl)
theorem dX2_make_162 : decode cX2_make 162 = .ok (.aload_n 0, 1) := dz_42 (k_X2_make 2 34 rfl)
theorem dX2_make_163 : decode cX2_make 163 = .ok (.getfield 30, 3) := dz_180 (k_X2_make 2 35 rfl) (k_X2_make 2 36 rfl) (k_X2_make 2 37 rfl) rfl
theorem dX2_make_166 : decode cX2_make 166 = .ok (.iload 4, 2) := dz_21 (k_X2_make 2 38 rfl) (k_X2_make 2 39 rfl)
theorem dX2_make_168 : decode cX2_make 168 = .ok (.iload 6, 2) := dz_21 (k_X2_make 2 40 rfl) (k_X2_make 2 41 rfl)
theorem dX2_make_170 : decode cX2_make 170 = .ok (.iastore, 1) := dz_79 (k_X2_make 2 42 rfl)
theorem dX2_make_171 : decode cX2_make 171 = .ok (.iconst 0, 1) := dz_3 (k_X2_make 2 43 rfl)
theorem dX2_make_172 : decode cX2_make 172 = .ok (.istore 7, 2) := dz_54 (k_X2_make 2 44 rfl) (k_X2_make 2 45 rfl)
theorem dX2_make_174 : decode cX2_make 174 = .ok (.iload 7, 2) := dz_21 (k_X2_make 2 46 rfl) (k_X2_make 2 47 rfl)
theorem dX2_make_176 : decode cX2_make 176 = .ok (.iconst 3, 1) := dz_6 (k_X2_make 2 48 rfl)
theorem dX2_make_177 : decode cX2_make 177 = .ok (.if_icmp .ge 22, 3) := dz_162 (k_X2_make 2 49 rfl) (k_X2_make 2 50 rfl) (k_X2_make 2 51 rfl) rfl
theorem dX2_make_180 : decode cX2_make 180 = .ok (.aload_n 0, 1) := dz_42 (k_X2_make 2 52 rfl)
theorem dX2_make_181 : decode cX2_make 181 = .ok (.getfield 27, 3) := dz_180 (k_X2_make 2 53 rfl) (k_X2_make 2 54 rfl) (k_X2_make 2 55 rfl) rfl
theorem dX2_make_184 : decode cX2_make 184 = .ok (.iload 6, 2) := dz_21 (k_X2_make 2 56 rfl) (k_X2_make 2 57 rfl)
theorem dX2_make_186 : decode cX2_make 186 = .ok (.iconst 3, 1) := dz_6 (k_X2_make 2 58 rfl)
theorem dX2_make_187 : decode cX2_make 187 = .ok (.imul, 1) := dz_104 (k_X2_make 2 59 rfl)
theorem dX2_make_188 : decode cX2_make 188 = .ok (.iload 7, 2) := dz_21 (k_X2_make 2 60 rfl) (k_X2_make 2 61 rfl)
theorem dX2_make_190 : decode cX2_make 190 = .ok (.iadd, 1) := dz_96 (k_X2_make 2 62 rfl)
theorem dX2_make_191 : decode cX2_make 191 = .ok (.iconst (-1), 1) := dz_2 (k_X2_make 2 63 rfl)
theorem dX2_make_192 : decode cX2_make 192 = .ok (.iastore, 1) := dz_79 (k_X2_make 3 0 rfl)
theorem dX2_make_193 : decode cX2_make 193 = .ok (.iinc 7 1, 3) := dz_132 (k_X2_make 3 1 rfl) (k_X2_make 3 2 rfl) (k_X2_make 3 3 rfl) rfl
theorem dX2_make_196 : decode cX2_make 196 = .ok (.goto (-22), 3) := dz_167 (k_X2_make 3 4 rfl) (k_X2_make 3 5 rfl) (k_X2_make 3 6 rfl) rfl
theorem dX2_make_199 : decode cX2_make 199 = .ok (.aload_n 0, 1) := dz_42 (k_X2_make 3 7 rfl)
theorem dX2_make_200 : decode cX2_make 200 = .ok (.dup, 1) := dz_89 (k_X2_make 3 8 rfl)
theorem dX2_make_201 : decode cX2_make 201 = .ok (.getfield 39, 3) := dz_180 (k_X2_make 3 9 rfl) (k_X2_make 3 10 rfl) (k_X2_make 3 11 rfl) rfl
theorem dX2_make_204 : decode cX2_make 204 = .ok (.iconst 1, 1) := dz_4 (k_X2_make 3 12 rfl)
theorem dX2_make_205 : decode cX2_make 205 = .ok (.iadd, 1) := dz_96 (k_X2_make 3 13 rfl)
theorem dX2_make_206 : decode cX2_make 206 = .ok (.putfield 39, 3) := dz_181 (k_X2_make 3 14 rfl) (k_X2_make 3 15 rfl) (k_X2_make 3 16 rfl) rfl
theorem dX2_make_209 : decode cX2_make 209 = .ok (.iload 6, 2) := dz_21 (k_X2_make 3 17 rfl) (k_X2_make 3 18 rfl)
theorem dX2_make_211 : decode cX2_make 211 = .ok (.ireturn, 1) := dz_172 (k_X2_make 3 19 rfl)
def B_X2_makeAtom : List (List Nat) := [[42, 3, 27, 28, 182, 0, 43, 172]]
theorem k_X2_makeAtom (j i : Nat) {b : Nat} (h : (B_X2_makeAtom[j]?.bind fun c => c[i]?) = some b) : s_by cX2_makeAtom (64 * j + i) b := s_byC (L := B_X2_makeAtom) (by decide +kernel) (by decide +kernel) j i h
theorem dX2_makeAtom_0 : decode cX2_makeAtom 0 = .ok (.aload_n 0, 1) := dz_42 (k_X2_makeAtom 0 0 rfl)
theorem dX2_makeAtom_1 : decode cX2_makeAtom 1 = .ok (.iconst 0, 1) := dz_3 (k_X2_makeAtom 0 1 rfl)
theorem dX2_makeAtom_2 : decode cX2_makeAtom 2 = .ok (.iload_n 1, 1) := dz_27 (k_X2_makeAtom 0 2 rfl)
theorem dX2_makeAtom_3 : decode cX2_makeAtom 3 = .ok (.iload_n 2, 1) := dz_28 (k_X2_makeAtom 0 3 rfl)
theorem dX2_makeAtom_4 : decode cX2_makeAtom 4 = .ok (.invokevirtual 43, 3) := dz_182 (k_X2_makeAtom 0 4 rfl) (k_X2_makeAtom 0 5 rfl) (k_X2_makeAtom 0 6 rfl) rfl
theorem dX2_makeAtom_7 : decode cX2_makeAtom 7 = .ok (.ireturn, 1) := dz_172 (k_X2_makeAtom 0 7 rfl)
def B_X2_makeBinder : List (List Nat) := [[42, 27, 28, 2, 182, 0, 43, 54, 4, 3, 54, 5, 21, 4, 2, 159, 0, 45, 21, 5, 29, 162, 0, 39, 21, 5, 6, 162, 0, 33, 42, 28, 21, 5, 3, 182, 0, 59, 54, 6, 42, 180, 0, 27, 21, 4, 6, 104, 21, 5, 96, 21, 6, 79, 132, 5, 1, 167, 255, 211, 21, 4, 172]]
theorem k_X2_makeBinder (j i : Nat) {b : Nat} (h : (B_X2_makeBinder[j]?.bind fun c => c[i]?) = some b) : s_by cX2_makeBinder (64 * j + i) b := s_byC (L := B_X2_makeBinder) (by decide +kernel) (by decide +kernel) j i h
theorem dX2_makeBinder_0 : decode cX2_makeBinder 0 = .ok (.aload_n 0, 1) := dz_42 (k_X2_makeBinder 0 0 rfl)
theorem dX2_makeBinder_1 : decode cX2_makeBinder 1 = .ok (.iload_n 1, 1) := dz_27 (k_X2_makeBinder 0 1 rfl)
theorem dX2_makeBinder_2 : decode cX2_makeBinder 2 = .ok (.iload_n 2, 1) := dz_28 (k_X2_makeBinder 0 2 rfl)
theorem dX2_makeBinder_3 : decode cX2_makeBinder 3 = .ok (.iconst (-1), 1) := dz_2 (k_X2_makeBinder 0 3 rfl)
theorem dX2_makeBinder_4 : decode cX2_makeBinder 4 = .ok (.invokevirtual 43, 3) := dz_182 (k_X2_makeBinder 0 4 rfl) (k_X2_makeBinder 0 5 rfl) (k_X2_makeBinder 0 6 rfl) rfl
theorem dX2_makeBinder_7 : decode cX2_makeBinder 7 = .ok (.istore 4, 2) := dz_54 (k_X2_makeBinder 0 7 rfl) (k_X2_makeBinder 0 8 rfl)
theorem dX2_makeBinder_9 : decode cX2_makeBinder 9 = .ok (.iconst 0, 1) := dz_3 (k_X2_makeBinder 0 9 rfl)
theorem dX2_makeBinder_10 : decode cX2_makeBinder 10 = .ok (.istore 5, 2) := dz_54 (k_X2_makeBinder 0 10 rfl) (k_X2_makeBinder 0 11 rfl)
theorem dX2_makeBinder_12 : decode cX2_makeBinder 12 = .ok (.iload 4, 2) := dz_21 (k_X2_makeBinder 0 12 rfl) (k_X2_makeBinder 0 13 rfl)
theorem dX2_makeBinder_14 : decode cX2_makeBinder 14 = .ok (.iconst (-1), 1) := dz_2 (k_X2_makeBinder 0 14 rfl)
theorem dX2_makeBinder_15 : decode cX2_makeBinder 15 = .ok (.if_icmp .eq 45, 3) := dz_159 (k_X2_makeBinder 0 15 rfl) (k_X2_makeBinder 0 16 rfl) (k_X2_makeBinder 0 17 rfl) rfl
theorem dX2_makeBinder_18 : decode cX2_makeBinder 18 = .ok (.iload 5, 2) := dz_21 (k_X2_makeBinder 0 18 rfl) (k_X2_makeBinder 0 19 rfl)
theorem dX2_makeBinder_20 : decode cX2_makeBinder 20 = .ok (.iload_n 3, 1) := dz_29 (k_X2_makeBinder 0 20 rfl)
theorem dX2_makeBinder_21 : decode cX2_makeBinder 21 = .ok (.if_icmp .ge 39, 3) := dz_162 (k_X2_makeBinder 0 21 rfl) (k_X2_makeBinder 0 22 rfl) (k_X2_makeBinder 0 23 rfl) rfl
theorem dX2_makeBinder_24 : decode cX2_makeBinder 24 = .ok (.iload 5, 2) := dz_21 (k_X2_makeBinder 0 24 rfl) (k_X2_makeBinder 0 25 rfl)
theorem dX2_makeBinder_26 : decode cX2_makeBinder 26 = .ok (.iconst 3, 1) := dz_6 (k_X2_makeBinder 0 26 rfl)
theorem dX2_makeBinder_27 : decode cX2_makeBinder 27 = .ok (.if_icmp .ge 33, 3) := dz_162 (k_X2_makeBinder 0 27 rfl) (k_X2_makeBinder 0 28 rfl) (k_X2_makeBinder 0 29 rfl) rfl
theorem dX2_makeBinder_30 : decode cX2_makeBinder 30 = .ok (.aload_n 0, 1) := dz_42 (k_X2_makeBinder 0 30 rfl)
theorem dX2_makeBinder_31 : decode cX2_makeBinder 31 = .ok (.iload_n 2, 1) := dz_28 (k_X2_makeBinder 0 31 rfl)
theorem dX2_makeBinder_32 : decode cX2_makeBinder 32 = .ok (.iload 5, 2) := dz_21 (k_X2_makeBinder 0 32 rfl) (k_X2_makeBinder 0 33 rfl)
theorem dX2_makeBinder_34 : decode cX2_makeBinder 34 = .ok (.iconst 0, 1) := dz_3 (k_X2_makeBinder 0 34 rfl)
theorem dX2_makeBinder_35 : decode cX2_makeBinder 35 = .ok (.invokevirtual 59, 3) := dz_182 (k_X2_makeBinder 0 35 rfl) (k_X2_makeBinder 0 36 rfl) (k_X2_makeBinder 0 37 rfl) rfl
theorem dX2_makeBinder_38 : decode cX2_makeBinder 38 = .ok (.istore 6, 2) := dz_54 (k_X2_makeBinder 0 38 rfl) (k_X2_makeBinder 0 39 rfl)
theorem dX2_makeBinder_40 : decode cX2_makeBinder 40 = .ok (.aload_n 0, 1) := dz_42 (k_X2_makeBinder 0 40 rfl)
theorem dX2_makeBinder_41 : decode cX2_makeBinder 41 = .ok (.getfield 27, 3) := dz_180 (k_X2_makeBinder 0 41 rfl) (k_X2_makeBinder 0 42 rfl) (k_X2_makeBinder 0 43 rfl) rfl
theorem dX2_makeBinder_44 : decode cX2_makeBinder 44 = .ok (.iload 4, 2) := dz_21 (k_X2_makeBinder 0 44 rfl) (k_X2_makeBinder 0 45 rfl)
theorem dX2_makeBinder_46 : decode cX2_makeBinder 46 = .ok (.iconst 3, 1) := dz_6 (k_X2_makeBinder 0 46 rfl)
theorem dX2_makeBinder_47 : decode cX2_makeBinder 47 = .ok (.imul, 1) := dz_104 (k_X2_makeBinder 0 47 rfl)
theorem dX2_makeBinder_48 : decode cX2_makeBinder 48 = .ok (.iload 5, 2) := dz_21 (k_X2_makeBinder 0 48 rfl) (k_X2_makeBinder 0 49 rfl)
theorem dX2_makeBinder_50 : decode cX2_makeBinder 50 = .ok (.iadd, 1) := dz_96 (k_X2_makeBinder 0 50 rfl)
theorem dX2_makeBinder_51 : decode cX2_makeBinder 51 = .ok (.iload 6, 2) := dz_21 (k_X2_makeBinder 0 51 rfl) (k_X2_makeBinder 0 52 rfl)
theorem dX2_makeBinder_53 : decode cX2_makeBinder 53 = .ok (.iastore, 1) := dz_79 (k_X2_makeBinder 0 53 rfl)
theorem dX2_makeBinder_54 : decode cX2_makeBinder 54 = .ok (.iinc 5 1, 3) := dz_132 (k_X2_makeBinder 0 54 rfl) (k_X2_makeBinder 0 55 rfl) (k_X2_makeBinder 0 56 rfl) rfl
theorem dX2_makeBinder_57 : decode cX2_makeBinder 57 = .ok (.goto (-45), 3) := dz_167 (k_X2_makeBinder 0 57 rfl) (k_X2_makeBinder 0 58 rfl) (k_X2_makeBinder 0 59 rfl) rfl
theorem dX2_makeBinder_60 : decode cX2_makeBinder 60 = .ok (.iload 4, 2) := dz_21 (k_X2_makeBinder 0 60 rfl) (k_X2_makeBinder 0 61 rfl)
theorem dX2_makeBinder_62 : decode cX2_makeBinder 62 = .ok (.ireturn, 1) := dz_172 (k_X2_makeBinder 0 62 rfl)
def B_X2_place : List (List Nat) := [[27, 155, 0, 17, 27, 42, 180, 0, 39, 162, 0, 9, 29, 16, 48, 164, 0, 5, 2, 172, 42, 180, 0, 11, 27, 46, 170, 0, 0, 0, 0, 128, 0, 0, 0, 0, 0, 0, 0, 4, 0, 0, 0, 34, 0, 0, 0, 60, 0, 0, 0, 81, 0, 0, 0, 81, 0, 0, 0, 81, 42, 180, 0, 18], [27, 46, 6, 160, 0, 17, 42, 42, 180, 0, 15, 27, 46, 28, 182, 0, 62, 167, 0, 4, 27, 172, 42, 4, 42, 42, 180, 0, 15, 27, 46, 28, 29, 4, 96, 182, 0, 59, 2, 182, 0, 43, 172, 42, 42, 180, 0, 15, 27, 46, 28, 29, 4, 96, 182, 0, 59, 54, 4, 42, 42, 180, 0, 18], [27, 46, 28, 29, 4, 96, 182, 0, 59, 54, 5, 42, 42, 180, 0, 11, 27, 46, 21, 4, 21, 5, 182, 0, 43, 172, 27, 172]]
theorem k_X2_place (j i : Nat) {b : Nat} (h : (B_X2_place[j]?.bind fun c => c[i]?) = some b) : s_by cX2_place (64 * j + i) b := s_byC (L := B_X2_place) (by decide +kernel) (by decide +kernel) j i h
theorem dX2_place_0 : decode cX2_place 0 = .ok (.iload_n 1, 1) := dz_27 (k_X2_place 0 0 rfl)
theorem dX2_place_1 : decode cX2_place 1 = .ok (.ifCond .lt 17, 3) := dz_155 (k_X2_place 0 1 rfl) (k_X2_place 0 2 rfl) (k_X2_place 0 3 rfl) rfl
theorem dX2_place_4 : decode cX2_place 4 = .ok (.iload_n 1, 1) := dz_27 (k_X2_place 0 4 rfl)
theorem dX2_place_5 : decode cX2_place 5 = .ok (.aload_n 0, 1) := dz_42 (k_X2_place 0 5 rfl)
theorem dX2_place_6 : decode cX2_place 6 = .ok (.getfield 39, 3) := dz_180 (k_X2_place 0 6 rfl) (k_X2_place 0 7 rfl) (k_X2_place 0 8 rfl) rfl
theorem dX2_place_9 : decode cX2_place 9 = .ok (.if_icmp .ge 9, 3) := dz_162 (k_X2_place 0 9 rfl) (k_X2_place 0 10 rfl) (k_X2_place 0 11 rfl) rfl
theorem dX2_place_12 : decode cX2_place 12 = .ok (.iload_n 3, 1) := dz_29 (k_X2_place 0 12 rfl)
theorem dX2_place_13 : decode cX2_place 13 = .ok (.bipush 48, 2) := dz_16 (k_X2_place 0 13 rfl) (k_X2_place 0 14 rfl) rfl
theorem dX2_place_15 : decode cX2_place 15 = .ok (.if_icmp .le 5, 3) := dz_164 (k_X2_place 0 15 rfl) (k_X2_place 0 16 rfl) (k_X2_place 0 17 rfl) rfl
theorem dX2_place_18 : decode cX2_place 18 = .ok (.iconst (-1), 1) := dz_2 (k_X2_place 0 18 rfl)
theorem dX2_place_19 : decode cX2_place 19 = .ok (.ireturn, 1) := dz_172 (k_X2_place 0 19 rfl)
theorem dX2_place_20 : decode cX2_place 20 = .ok (.aload_n 0, 1) := dz_42 (k_X2_place 0 20 rfl)
theorem dX2_place_21 : decode cX2_place 21 = .ok (.getfield 11, 3) := dz_180 (k_X2_place 0 21 rfl) (k_X2_place 0 22 rfl) (k_X2_place 0 23 rfl) rfl
theorem dX2_place_24 : decode cX2_place 24 = .ok (.iload_n 1, 1) := dz_27 (k_X2_place 0 24 rfl)
theorem dX2_place_25 : decode cX2_place 25 = .ok (.iaload, 1) := dz_46 (k_X2_place 0 25 rfl)
theorem dX2_place_26 : decode cX2_place 26 = .ok (.tableswitch 128 0 4 #[34, 60, 81, 81, 81], 34) := by decide +kernel
theorem dX2_place_60 : decode cX2_place 60 = .ok (.aload_n 0, 1) := dz_42 (k_X2_place 0 60 rfl)
theorem dX2_place_61 : decode cX2_place 61 = .ok (.getfield 18, 3) := dz_180 (k_X2_place 0 61 rfl) (k_X2_place 0 62 rfl) (k_X2_place 0 63 rfl) rfl
theorem dX2_place_64 : decode cX2_place 64 = .ok (.iload_n 1, 1) := dz_27 (k_X2_place 1 0 rfl)
theorem dX2_place_65 : decode cX2_place 65 = .ok (.iaload, 1) := dz_46 (k_X2_place 1 1 rfl)
theorem dX2_place_66 : decode cX2_place 66 = .ok (.iconst 3, 1) := dz_6 (k_X2_place 1 2 rfl)
theorem dX2_place_67 : decode cX2_place 67 = .ok (.if_icmp .ne 17, 3) := dz_160 (k_X2_place 1 3 rfl) (k_X2_place 1 4 rfl) (k_X2_place 1 5 rfl) rfl
theorem dX2_place_70 : decode cX2_place 70 = .ok (.aload_n 0, 1) := dz_42 (k_X2_place 1 6 rfl)
theorem dX2_place_71 : decode cX2_place 71 = .ok (.aload_n 0, 1) := dz_42 (k_X2_place 1 7 rfl)
theorem dX2_place_72 : decode cX2_place 72 = .ok (.getfield 15, 3) := dz_180 (k_X2_place 1 8 rfl) (k_X2_place 1 9 rfl) (k_X2_place 1 10 rfl) rfl
theorem dX2_place_75 : decode cX2_place 75 = .ok (.iload_n 1, 1) := dz_27 (k_X2_place 1 11 rfl)
theorem dX2_place_76 : decode cX2_place 76 = .ok (.iaload, 1) := dz_46 (k_X2_place 1 12 rfl)
theorem dX2_place_77 : decode cX2_place 77 = .ok (.iload_n 2, 1) := dz_28 (k_X2_place 1 13 rfl)
theorem dX2_place_78 : decode cX2_place 78 = .ok (.invokevirtual 62, 3) := dz_182 (k_X2_place 1 14 rfl) (k_X2_place 1 15 rfl) (k_X2_place 1 16 rfl) rfl
theorem dX2_place_81 : decode cX2_place 81 = .ok (.goto 4, 3) := dz_167 (k_X2_place 1 17 rfl) (k_X2_place 1 18 rfl) (k_X2_place 1 19 rfl) rfl
theorem dX2_place_84 : decode cX2_place 84 = .ok (.iload_n 1, 1) := dz_27 (k_X2_place 1 20 rfl)
theorem dX2_place_85 : decode cX2_place 85 = .ok (.ireturn, 1) := dz_172 (k_X2_place 1 21 rfl)
theorem dX2_place_86 : decode cX2_place 86 = .ok (.aload_n 0, 1) := dz_42 (k_X2_place 1 22 rfl)
theorem dX2_place_87 : decode cX2_place 87 = .ok (.iconst 1, 1) := dz_4 (k_X2_place 1 23 rfl)
theorem dX2_place_88 : decode cX2_place 88 = .ok (.aload_n 0, 1) := dz_42 (k_X2_place 1 24 rfl)
theorem dX2_place_89 : decode cX2_place 89 = .ok (.aload_n 0, 1) := dz_42 (k_X2_place 1 25 rfl)
theorem dX2_place_90 : decode cX2_place 90 = .ok (.getfield 15, 3) := dz_180 (k_X2_place 1 26 rfl) (k_X2_place 1 27 rfl) (k_X2_place 1 28 rfl) rfl
theorem dX2_place_93 : decode cX2_place 93 = .ok (.iload_n 1, 1) := dz_27 (k_X2_place 1 29 rfl)
theorem dX2_place_94 : decode cX2_place 94 = .ok (.iaload, 1) := dz_46 (k_X2_place 1 30 rfl)
theorem dX2_place_95 : decode cX2_place 95 = .ok (.iload_n 2, 1) := dz_28 (k_X2_place 1 31 rfl)
theorem dX2_place_96 : decode cX2_place 96 = .ok (.iload_n 3, 1) := dz_29 (k_X2_place 1 32 rfl)
theorem dX2_place_97 : decode cX2_place 97 = .ok (.iconst 1, 1) := dz_4 (k_X2_place 1 33 rfl)
theorem dX2_place_98 : decode cX2_place 98 = .ok (.iadd, 1) := dz_96 (k_X2_place 1 34 rfl)
theorem dX2_place_99 : decode cX2_place 99 = .ok (.invokevirtual 59, 3) := dz_182 (k_X2_place 1 35 rfl) (k_X2_place 1 36 rfl) (k_X2_place 1 37 rfl) rfl
theorem dX2_place_102 : decode cX2_place 102 = .ok (.iconst (-1), 1) := dz_2 (k_X2_place 1 38 rfl)
theorem dX2_place_103 : decode cX2_place 103 = .ok (.invokevirtual 43, 3) := dz_182 (k_X2_place 1 39 rfl) (k_X2_place 1 40 rfl) (k_X2_place 1 41 rfl) rfl
theorem dX2_place_106 : decode cX2_place 106 = .ok (.ireturn, 1) := dz_172 (k_X2_place 1 42 rfl)
theorem dX2_place_107 : decode cX2_place 107 = .ok (.aload_n 0, 1) := dz_42 (k_X2_place 1 43 rfl)
theorem dX2_place_108 : decode cX2_place 108 = .ok (.aload_n 0, 1) := dz_42 (k_X2_place 1 44 rfl)
theorem dX2_place_109 : decode cX2_place 109 = .ok (.getfield 15, 3) := dz_180 (k_X2_place 1 45 rfl) (k_X2_place 1 46 rfl) (k_X2_place 1 47 rfl) rfl
theorem dX2_place_112 : decode cX2_place 112 = .ok (.iload_n 1, 1) := dz_27 (k_X2_place 1 48 rfl)
theorem dX2_place_113 : decode cX2_place 113 = .ok (.iaload, 1) := dz_46 (k_X2_place 1 49 rfl)
theorem dX2_place_114 : decode cX2_place 114 = .ok (.iload_n 2, 1) := dz_28 (k_X2_place 1 50 rfl)
theorem dX2_place_115 : decode cX2_place 115 = .ok (.iload_n 3, 1) := dz_29 (k_X2_place 1 51 rfl)
theorem dX2_place_116 : decode cX2_place 116 = .ok (.iconst 1, 1) := dz_4 (k_X2_place 1 52 rfl)
theorem dX2_place_117 : decode cX2_place 117 = .ok (.iadd, 1) := dz_96 (k_X2_place 1 53 rfl)
theorem dX2_place_118 : decode cX2_place 118 = .ok (.invokevirtual 59, 3) := dz_182 (k_X2_place 1 54 rfl) (k_X2_place 1 55 rfl) (k_X2_place 1 56 rfl) rfl
theorem dX2_place_121 : decode cX2_place 121 = .ok (.istore 4, 2) := dz_54 (k_X2_place 1 57 rfl) (k_X2_place 1 58 rfl)
theorem dX2_place_123 : decode cX2_place 123 = .ok (.aload_n 0, 1) := dz_42 (k_X2_place 1 59 rfl)
theorem dX2_place_124 : decode cX2_place 124 = .ok (.aload_n 0, 1) := dz_42 (k_X2_place 1 60 rfl)
theorem dX2_place_125 : decode cX2_place 125 = .ok (.getfield 18, 3) := dz_180 (k_X2_place 1 61 rfl) (k_X2_place 1 62 rfl) (k_X2_place 1 63 rfl) rfl
theorem dX2_place_128 : decode cX2_place 128 = .ok (.iload_n 1, 1) := dz_27 (k_X2_place 2 0 rfl)
theorem dX2_place_129 : decode cX2_place 129 = .ok (.iaload, 1) := dz_46 (k_X2_place 2 1 rfl)
theorem dX2_place_130 : decode cX2_place 130 = .ok (.iload_n 2, 1) := dz_28 (k_X2_place 2 2 rfl)
theorem dX2_place_131 : decode cX2_place 131 = .ok (.iload_n 3, 1) := dz_29 (k_X2_place 2 3 rfl)
theorem dX2_place_132 : decode cX2_place 132 = .ok (.iconst 1, 1) := dz_4 (k_X2_place 2 4 rfl)
theorem dX2_place_133 : decode cX2_place 133 = .ok (.iadd, 1) := dz_96 (k_X2_place 2 5 rfl)
theorem dX2_place_134 : decode cX2_place 134 = .ok (.invokevirtual 59, 3) := dz_182 (k_X2_place 2 6 rfl) (k_X2_place 2 7 rfl) (k_X2_place 2 8 rfl) rfl
theorem dX2_place_137 : decode cX2_place 137 = .ok (.istore 5, 2) := dz_54 (k_X2_place 2 9 rfl) (k_X2_place 2 10 rfl)
theorem dX2_place_139 : decode cX2_place 139 = .ok (.aload_n 0, 1) := dz_42 (k_X2_place 2 11 rfl)
theorem dX2_place_140 : decode cX2_place 140 = .ok (.aload_n 0, 1) := dz_42 (k_X2_place 2 12 rfl)
theorem dX2_place_141 : decode cX2_place 141 = .ok (.getfield 11, 3) := dz_180 (k_X2_place 2 13 rfl) (k_X2_place 2 14 rfl) (k_X2_place 2 15 rfl) rfl
theorem dX2_place_144 : decode cX2_place 144 = .ok (.iload_n 1, 1) := dz_27 (k_X2_place 2 16 rfl)
theorem dX2_place_145 : decode cX2_place 145 = .ok (.iaload, 1) := dz_46 (k_X2_place 2 17 rfl)
theorem dX2_place_146 : decode cX2_place 146 = .ok (.iload 4, 2) := dz_21 (k_X2_place 2 18 rfl) (k_X2_place 2 19 rfl)
theorem dX2_place_148 : decode cX2_place 148 = .ok (.iload 5, 2) := dz_21 (k_X2_place 2 20 rfl) (k_X2_place 2 21 rfl)
theorem dX2_place_150 : decode cX2_place 150 = .ok (.invokevirtual 43, 3) := dz_182 (k_X2_place 2 22 rfl) (k_X2_place 2 23 rfl) (k_X2_place 2 24 rfl) rfl
theorem dX2_place_153 : decode cX2_place 153 = .ok (.ireturn, 1) := dz_172 (k_X2_place 2 25 rfl)
theorem dX2_place_154 : decode cX2_place 154 = .ok (.iload_n 1, 1) := dz_27 (k_X2_place 2 26 rfl)
theorem dX2_place_155 : decode cX2_place 155 = .ok (.ireturn, 1) := dz_172 (k_X2_place 2 27 rfl)
def B_X2_placedOf : List (List Nat) := [[27, 155, 0, 24, 27, 42, 180, 0, 39, 162, 0, 16, 28, 155, 0, 12, 28, 6, 162, 0, 7, 4, 167, 0, 4, 3, 62, 29, 153, 0, 16, 42, 180, 0, 27, 27, 6, 104, 28, 96, 46, 167, 0, 4, 2, 172]]
theorem k_X2_placedOf (j i : Nat) {b : Nat} (h : (B_X2_placedOf[j]?.bind fun c => c[i]?) = some b) : s_by cX2_placedOf (64 * j + i) b := s_byC (L := B_X2_placedOf) (by decide +kernel) (by decide +kernel) j i h
theorem dX2_placedOf_0 : decode cX2_placedOf 0 = .ok (.iload_n 1, 1) := dz_27 (k_X2_placedOf 0 0 rfl)
theorem dX2_placedOf_1 : decode cX2_placedOf 1 = .ok (.ifCond .lt 24, 3) := dz_155 (k_X2_placedOf 0 1 rfl) (k_X2_placedOf 0 2 rfl) (k_X2_placedOf 0 3 rfl) rfl
theorem dX2_placedOf_4 : decode cX2_placedOf 4 = .ok (.iload_n 1, 1) := dz_27 (k_X2_placedOf 0 4 rfl)
theorem dX2_placedOf_5 : decode cX2_placedOf 5 = .ok (.aload_n 0, 1) := dz_42 (k_X2_placedOf 0 5 rfl)
theorem dX2_placedOf_6 : decode cX2_placedOf 6 = .ok (.getfield 39, 3) := dz_180 (k_X2_placedOf 0 6 rfl) (k_X2_placedOf 0 7 rfl) (k_X2_placedOf 0 8 rfl) rfl
theorem dX2_placedOf_9 : decode cX2_placedOf 9 = .ok (.if_icmp .ge 16, 3) := dz_162 (k_X2_placedOf 0 9 rfl) (k_X2_placedOf 0 10 rfl) (k_X2_placedOf 0 11 rfl) rfl
theorem dX2_placedOf_12 : decode cX2_placedOf 12 = .ok (.iload_n 2, 1) := dz_28 (k_X2_placedOf 0 12 rfl)
theorem dX2_placedOf_13 : decode cX2_placedOf 13 = .ok (.ifCond .lt 12, 3) := dz_155 (k_X2_placedOf 0 13 rfl) (k_X2_placedOf 0 14 rfl) (k_X2_placedOf 0 15 rfl) rfl
theorem dX2_placedOf_16 : decode cX2_placedOf 16 = .ok (.iload_n 2, 1) := dz_28 (k_X2_placedOf 0 16 rfl)
theorem dX2_placedOf_17 : decode cX2_placedOf 17 = .ok (.iconst 3, 1) := dz_6 (k_X2_placedOf 0 17 rfl)
theorem dX2_placedOf_18 : decode cX2_placedOf 18 = .ok (.if_icmp .ge 7, 3) := dz_162 (k_X2_placedOf 0 18 rfl) (k_X2_placedOf 0 19 rfl) (k_X2_placedOf 0 20 rfl) rfl
theorem dX2_placedOf_21 : decode cX2_placedOf 21 = .ok (.iconst 1, 1) := dz_4 (k_X2_placedOf 0 21 rfl)
theorem dX2_placedOf_22 : decode cX2_placedOf 22 = .ok (.goto 4, 3) := dz_167 (k_X2_placedOf 0 22 rfl) (k_X2_placedOf 0 23 rfl) (k_X2_placedOf 0 24 rfl) rfl
theorem dX2_placedOf_25 : decode cX2_placedOf 25 = .ok (.iconst 0, 1) := dz_3 (k_X2_placedOf 0 25 rfl)
theorem dX2_placedOf_26 : decode cX2_placedOf 26 = .ok (.istore_n 3, 1) := dz_62 (k_X2_placedOf 0 26 rfl)
theorem dX2_placedOf_27 : decode cX2_placedOf 27 = .ok (.iload_n 3, 1) := dz_29 (k_X2_placedOf 0 27 rfl)
theorem dX2_placedOf_28 : decode cX2_placedOf 28 = .ok (.ifCond .eq 16, 3) := dz_153 (k_X2_placedOf 0 28 rfl) (k_X2_placedOf 0 29 rfl) (k_X2_placedOf 0 30 rfl) rfl
theorem dX2_placedOf_31 : decode cX2_placedOf 31 = .ok (.aload_n 0, 1) := dz_42 (k_X2_placedOf 0 31 rfl)
theorem dX2_placedOf_32 : decode cX2_placedOf 32 = .ok (.getfield 27, 3) := dz_180 (k_X2_placedOf 0 32 rfl) (k_X2_placedOf 0 33 rfl) (k_X2_placedOf 0 34 rfl) rfl
theorem dX2_placedOf_35 : decode cX2_placedOf 35 = .ok (.iload_n 1, 1) := dz_27 (k_X2_placedOf 0 35 rfl)
theorem dX2_placedOf_36 : decode cX2_placedOf 36 = .ok (.iconst 3, 1) := dz_6 (k_X2_placedOf 0 36 rfl)
theorem dX2_placedOf_37 : decode cX2_placedOf 37 = .ok (.imul, 1) := dz_104 (k_X2_placedOf 0 37 rfl)
theorem dX2_placedOf_38 : decode cX2_placedOf 38 = .ok (.iload_n 2, 1) := dz_28 (k_X2_placedOf 0 38 rfl)
theorem dX2_placedOf_39 : decode cX2_placedOf 39 = .ok (.iadd, 1) := dz_96 (k_X2_placedOf 0 39 rfl)
theorem dX2_placedOf_40 : decode cX2_placedOf 40 = .ok (.iaload, 1) := dz_46 (k_X2_placedOf 0 40 rfl)
theorem dX2_placedOf_41 : decode cX2_placedOf 41 = .ok (.goto 4, 3) := dz_167 (k_X2_placedOf 0 41 rfl) (k_X2_placedOf 0 42 rfl) (k_X2_placedOf 0 43 rfl) rfl
theorem dX2_placedOf_44 : decode cX2_placedOf 44 = .ok (.iconst (-1), 1) := dz_2 (k_X2_placedOf 0 44 rfl)
theorem dX2_placedOf_45 : decode cX2_placedOf 45 = .ok (.ireturn, 1) := dz_172 (k_X2_placedOf 0 45 rfl)
def B_X2_secondOf : List (List Nat) := [[27, 155, 0, 20, 27, 42, 180, 0, 39, 162, 0, 12, 42, 180, 0, 18, 27, 46, 167, 0, 4, 2, 172]]
theorem k_X2_secondOf (j i : Nat) {b : Nat} (h : (B_X2_secondOf[j]?.bind fun c => c[i]?) = some b) : s_by cX2_secondOf (64 * j + i) b := s_byC (L := B_X2_secondOf) (by decide +kernel) (by decide +kernel) j i h
theorem dX2_secondOf_0 : decode cX2_secondOf 0 = .ok (.iload_n 1, 1) := dz_27 (k_X2_secondOf 0 0 rfl)
theorem dX2_secondOf_1 : decode cX2_secondOf 1 = .ok (.ifCond .lt 20, 3) := dz_155 (k_X2_secondOf 0 1 rfl) (k_X2_secondOf 0 2 rfl) (k_X2_secondOf 0 3 rfl) rfl
theorem dX2_secondOf_4 : decode cX2_secondOf 4 = .ok (.iload_n 1, 1) := dz_27 (k_X2_secondOf 0 4 rfl)
theorem dX2_secondOf_5 : decode cX2_secondOf 5 = .ok (.aload_n 0, 1) := dz_42 (k_X2_secondOf 0 5 rfl)
theorem dX2_secondOf_6 : decode cX2_secondOf 6 = .ok (.getfield 39, 3) := dz_180 (k_X2_secondOf 0 6 rfl) (k_X2_secondOf 0 7 rfl) (k_X2_secondOf 0 8 rfl) rfl
theorem dX2_secondOf_9 : decode cX2_secondOf 9 = .ok (.if_icmp .ge 12, 3) := dz_162 (k_X2_secondOf 0 9 rfl) (k_X2_secondOf 0 10 rfl) (k_X2_secondOf 0 11 rfl) rfl
theorem dX2_secondOf_12 : decode cX2_secondOf 12 = .ok (.aload_n 0, 1) := dz_42 (k_X2_secondOf 0 12 rfl)
theorem dX2_secondOf_13 : decode cX2_secondOf 13 = .ok (.getfield 18, 3) := dz_180 (k_X2_secondOf 0 13 rfl) (k_X2_secondOf 0 14 rfl) (k_X2_secondOf 0 15 rfl) rfl
theorem dX2_secondOf_16 : decode cX2_secondOf 16 = .ok (.iload_n 1, 1) := dz_27 (k_X2_secondOf 0 16 rfl)
theorem dX2_secondOf_17 : decode cX2_secondOf 17 = .ok (.iaload, 1) := dz_46 (k_X2_secondOf 0 17 rfl)
theorem dX2_secondOf_18 : decode cX2_secondOf 18 = .ok (.goto 4, 3) := dz_167 (k_X2_secondOf 0 18 rfl) (k_X2_secondOf 0 19 rfl) (k_X2_secondOf 0 20 rfl) rfl
theorem dX2_secondOf_21 : decode cX2_secondOf 21 = .ok (.iconst (-1), 1) := dz_2 (k_X2_secondOf 0 21 rfl)
theorem dX2_secondOf_22 : decode cX2_secondOf 22 = .ok (.ireturn, 1) := dz_172 (k_X2_secondOf 0 22 rfl)
def B_X2_signsOf : List (List Nat) := [[27, 155, 0, 20, 27, 42, 180, 0, 39, 162, 0, 12, 42, 180, 0, 21, 27, 46, 167, 0, 4, 3, 172]]
theorem k_X2_signsOf (j i : Nat) {b : Nat} (h : (B_X2_signsOf[j]?.bind fun c => c[i]?) = some b) : s_by cX2_signsOf (64 * j + i) b := s_byC (L := B_X2_signsOf) (by decide +kernel) (by decide +kernel) j i h
theorem dX2_signsOf_0 : decode cX2_signsOf 0 = .ok (.iload_n 1, 1) := dz_27 (k_X2_signsOf 0 0 rfl)
theorem dX2_signsOf_1 : decode cX2_signsOf 1 = .ok (.ifCond .lt 20, 3) := dz_155 (k_X2_signsOf 0 1 rfl) (k_X2_signsOf 0 2 rfl) (k_X2_signsOf 0 3 rfl) rfl
theorem dX2_signsOf_4 : decode cX2_signsOf 4 = .ok (.iload_n 1, 1) := dz_27 (k_X2_signsOf 0 4 rfl)
theorem dX2_signsOf_5 : decode cX2_signsOf 5 = .ok (.aload_n 0, 1) := dz_42 (k_X2_signsOf 0 5 rfl)
theorem dX2_signsOf_6 : decode cX2_signsOf 6 = .ok (.getfield 39, 3) := dz_180 (k_X2_signsOf 0 6 rfl) (k_X2_signsOf 0 7 rfl) (k_X2_signsOf 0 8 rfl) rfl
theorem dX2_signsOf_9 : decode cX2_signsOf 9 = .ok (.if_icmp .ge 12, 3) := dz_162 (k_X2_signsOf 0 9 rfl) (k_X2_signsOf 0 10 rfl) (k_X2_signsOf 0 11 rfl) rfl
theorem dX2_signsOf_12 : decode cX2_signsOf 12 = .ok (.aload_n 0, 1) := dz_42 (k_X2_signsOf 0 12 rfl)
theorem dX2_signsOf_13 : decode cX2_signsOf 13 = .ok (.getfield 21, 3) := dz_180 (k_X2_signsOf 0 13 rfl) (k_X2_signsOf 0 14 rfl) (k_X2_signsOf 0 15 rfl) rfl
theorem dX2_signsOf_16 : decode cX2_signsOf 16 = .ok (.iload_n 1, 1) := dz_27 (k_X2_signsOf 0 16 rfl)
theorem dX2_signsOf_17 : decode cX2_signsOf 17 = .ok (.iaload, 1) := dz_46 (k_X2_signsOf 0 17 rfl)
theorem dX2_signsOf_18 : decode cX2_signsOf 18 = .ok (.goto 4, 3) := dz_167 (k_X2_signsOf 0 18 rfl) (k_X2_signsOf 0 19 rfl) (k_X2_signsOf 0 20 rfl) rfl
theorem dX2_signsOf_21 : decode cX2_signsOf 21 = .ok (.iconst 0, 1) := dz_3 (k_X2_signsOf 0 21 rfl)
theorem dX2_signsOf_22 : decode cX2_signsOf 22 = .ok (.ireturn, 1) := dz_172 (k_X2_signsOf 0 22 rfl)
def B_X2_truth : List (List Nat) := [[42, 27, 28, 29, 3, 182, 0, 70, 173]]
theorem k_X2_truth (j i : Nat) {b : Nat} (h : (B_X2_truth[j]?.bind fun c => c[i]?) = some b) : s_by cX2_truth (64 * j + i) b := s_byC (L := B_X2_truth) (by decide +kernel) (by decide +kernel) j i h
theorem dX2_truth_0 : decode cX2_truth 0 = .ok (.aload_n 0, 1) := dz_42 (k_X2_truth 0 0 rfl)
theorem dX2_truth_1 : decode cX2_truth 1 = .ok (.iload_n 1, 1) := dz_27 (k_X2_truth 0 1 rfl)
theorem dX2_truth_2 : decode cX2_truth 2 = .ok (.iload_n 2, 1) := dz_28 (k_X2_truth 0 2 rfl)
theorem dX2_truth_3 : decode cX2_truth 3 = .ok (.iload_n 3, 1) := dz_29 (k_X2_truth 0 3 rfl)
theorem dX2_truth_4 : decode cX2_truth 4 = .ok (.iconst 0, 1) := dz_3 (k_X2_truth 0 4 rfl)
theorem dX2_truth_5 : decode cX2_truth 5 = .ok (.invokevirtual 70, 3) := dz_182 (k_X2_truth 0 5 rfl) (k_X2_truth 0 6 rfl) (k_X2_truth 0 7 rfl) rfl
theorem dX2_truth_8 : decode cX2_truth 8 = .ok (.lreturn, 1) := dz_173 (k_X2_truth 0 8 rfl)
def B_X2_truthAt : List (List Nat) := [[27, 155, 0, 18, 27, 42, 180, 0, 39, 162, 0, 10, 21, 4, 16, 48, 164, 0, 5, 9, 173, 42, 180, 0, 15, 27, 46, 54, 5, 42, 180, 0, 18, 27, 46, 54, 6, 42, 180, 0, 11, 27, 46, 170, 0, 0, 0, 159, 0, 0, 0, 0, 0, 0, 0, 4, 0, 0, 0, 33, 0, 0, 0, 60], [0, 0, 0, 77, 0, 0, 0, 103, 0, 0, 0, 129, 21, 5, 7, 162, 0, 8, 21, 5, 167, 0, 14, 7, 21, 5, 7, 100, 29, 104, 96, 21, 6, 96, 28, 184, 0, 74, 173, 42, 21, 5, 28, 29, 21, 4, 4, 96, 182, 0, 70, 20, 0, 78, 131, 173, 42, 21, 5, 28, 29, 21, 4, 4], [96, 182, 0, 70, 42, 21, 6, 28, 29, 21, 4, 4, 96, 182, 0, 70, 127, 173, 42, 21, 5, 28, 29, 21, 4, 4, 96, 182, 0, 70, 42, 21, 6, 28, 29, 21, 4, 4, 96, 182, 0, 70, 129, 173, 42, 21, 5, 28, 29, 21, 4, 4, 96, 182, 0, 70, 20, 0, 78, 131, 42, 21, 6, 28], [29, 21, 4, 4, 96, 182, 0, 70, 129, 173, 42, 27, 28, 29, 21, 4, 182, 0, 80, 173]]
theorem k_X2_truthAt (j i : Nat) {b : Nat} (h : (B_X2_truthAt[j]?.bind fun c => c[i]?) = some b) : s_by cX2_truthAt (64 * j + i) b := s_byC (L := B_X2_truthAt) (by decide +kernel) (by decide +kernel) j i h
theorem dX2_truthAt_0 : decode cX2_truthAt 0 = .ok (.iload_n 1, 1) := dz_27 (k_X2_truthAt 0 0 rfl)
theorem dX2_truthAt_1 : decode cX2_truthAt 1 = .ok (.ifCond .lt 18, 3) := dz_155 (k_X2_truthAt 0 1 rfl) (k_X2_truthAt 0 2 rfl) (k_X2_truthAt 0 3 rfl) rfl
theorem dX2_truthAt_4 : decode cX2_truthAt 4 = .ok (.iload_n 1, 1) := dz_27 (k_X2_truthAt 0 4 rfl)
theorem dX2_truthAt_5 : decode cX2_truthAt 5 = .ok (.aload_n 0, 1) := dz_42 (k_X2_truthAt 0 5 rfl)
theorem dX2_truthAt_6 : decode cX2_truthAt 6 = .ok (.getfield 39, 3) := dz_180 (k_X2_truthAt 0 6 rfl) (k_X2_truthAt 0 7 rfl) (k_X2_truthAt 0 8 rfl) rfl
theorem dX2_truthAt_9 : decode cX2_truthAt 9 = .ok (.if_icmp .ge 10, 3) := dz_162 (k_X2_truthAt 0 9 rfl) (k_X2_truthAt 0 10 rfl) (k_X2_truthAt 0 11 rfl) rfl
theorem dX2_truthAt_12 : decode cX2_truthAt 12 = .ok (.iload 4, 2) := dz_21 (k_X2_truthAt 0 12 rfl) (k_X2_truthAt 0 13 rfl)
theorem dX2_truthAt_14 : decode cX2_truthAt 14 = .ok (.bipush 48, 2) := dz_16 (k_X2_truthAt 0 14 rfl) (k_X2_truthAt 0 15 rfl) rfl
theorem dX2_truthAt_16 : decode cX2_truthAt 16 = .ok (.if_icmp .le 5, 3) := dz_164 (k_X2_truthAt 0 16 rfl) (k_X2_truthAt 0 17 rfl) (k_X2_truthAt 0 18 rfl) rfl
theorem dX2_truthAt_19 : decode cX2_truthAt 19 = .ok (.lconst 0, 1) := dz_9 (k_X2_truthAt 0 19 rfl)
theorem dX2_truthAt_20 : decode cX2_truthAt 20 = .ok (.lreturn, 1) := dz_173 (k_X2_truthAt 0 20 rfl)
theorem dX2_truthAt_21 : decode cX2_truthAt 21 = .ok (.aload_n 0, 1) := dz_42 (k_X2_truthAt 0 21 rfl)
theorem dX2_truthAt_22 : decode cX2_truthAt 22 = .ok (.getfield 15, 3) := dz_180 (k_X2_truthAt 0 22 rfl) (k_X2_truthAt 0 23 rfl) (k_X2_truthAt 0 24 rfl) rfl
theorem dX2_truthAt_25 : decode cX2_truthAt 25 = .ok (.iload_n 1, 1) := dz_27 (k_X2_truthAt 0 25 rfl)
theorem dX2_truthAt_26 : decode cX2_truthAt 26 = .ok (.iaload, 1) := dz_46 (k_X2_truthAt 0 26 rfl)
theorem dX2_truthAt_27 : decode cX2_truthAt 27 = .ok (.istore 5, 2) := dz_54 (k_X2_truthAt 0 27 rfl) (k_X2_truthAt 0 28 rfl)
theorem dX2_truthAt_29 : decode cX2_truthAt 29 = .ok (.aload_n 0, 1) := dz_42 (k_X2_truthAt 0 29 rfl)
theorem dX2_truthAt_30 : decode cX2_truthAt 30 = .ok (.getfield 18, 3) := dz_180 (k_X2_truthAt 0 30 rfl) (k_X2_truthAt 0 31 rfl) (k_X2_truthAt 0 32 rfl) rfl
theorem dX2_truthAt_33 : decode cX2_truthAt 33 = .ok (.iload_n 1, 1) := dz_27 (k_X2_truthAt 0 33 rfl)
theorem dX2_truthAt_34 : decode cX2_truthAt 34 = .ok (.iaload, 1) := dz_46 (k_X2_truthAt 0 34 rfl)
theorem dX2_truthAt_35 : decode cX2_truthAt 35 = .ok (.istore 6, 2) := dz_54 (k_X2_truthAt 0 35 rfl) (k_X2_truthAt 0 36 rfl)
theorem dX2_truthAt_37 : decode cX2_truthAt 37 = .ok (.aload_n 0, 1) := dz_42 (k_X2_truthAt 0 37 rfl)
theorem dX2_truthAt_38 : decode cX2_truthAt 38 = .ok (.getfield 11, 3) := dz_180 (k_X2_truthAt 0 38 rfl) (k_X2_truthAt 0 39 rfl) (k_X2_truthAt 0 40 rfl) rfl
theorem dX2_truthAt_41 : decode cX2_truthAt 41 = .ok (.iload_n 1, 1) := dz_27 (k_X2_truthAt 0 41 rfl)
theorem dX2_truthAt_42 : decode cX2_truthAt 42 = .ok (.iaload, 1) := dz_46 (k_X2_truthAt 0 42 rfl)
theorem dX2_truthAt_43 : decode cX2_truthAt 43 = .ok (.tableswitch 159 0 4 #[33, 60, 77, 103, 129], 33) := by decide +kernel
theorem dX2_truthAt_76 : decode cX2_truthAt 76 = .ok (.iload 5, 2) := dz_21 (k_X2_truthAt 1 12 rfl) (k_X2_truthAt 1 13 rfl)
theorem dX2_truthAt_78 : decode cX2_truthAt 78 = .ok (.iconst 4, 1) := dz_7 (k_X2_truthAt 1 14 rfl)
theorem dX2_truthAt_79 : decode cX2_truthAt 79 = .ok (.if_icmp .ge 8, 3) := dz_162 (k_X2_truthAt 1 15 rfl) (k_X2_truthAt 1 16 rfl) (k_X2_truthAt 1 17 rfl) rfl
theorem dX2_truthAt_82 : decode cX2_truthAt 82 = .ok (.iload 5, 2) := dz_21 (k_X2_truthAt 1 18 rfl) (k_X2_truthAt 1 19 rfl)
theorem dX2_truthAt_84 : decode cX2_truthAt 84 = .ok (.goto 14, 3) := dz_167 (k_X2_truthAt 1 20 rfl) (k_X2_truthAt 1 21 rfl) (k_X2_truthAt 1 22 rfl) rfl
theorem dX2_truthAt_87 : decode cX2_truthAt 87 = .ok (.iconst 4, 1) := dz_7 (k_X2_truthAt 1 23 rfl)
theorem dX2_truthAt_88 : decode cX2_truthAt 88 = .ok (.iload 5, 2) := dz_21 (k_X2_truthAt 1 24 rfl) (k_X2_truthAt 1 25 rfl)
theorem dX2_truthAt_90 : decode cX2_truthAt 90 = .ok (.iconst 4, 1) := dz_7 (k_X2_truthAt 1 26 rfl)
theorem dX2_truthAt_91 : decode cX2_truthAt 91 = .ok (.isub, 1) := dz_100 (k_X2_truthAt 1 27 rfl)
theorem dX2_truthAt_92 : decode cX2_truthAt 92 = .ok (.iload_n 3, 1) := dz_29 (k_X2_truthAt 1 28 rfl)
theorem dX2_truthAt_93 : decode cX2_truthAt 93 = .ok (.imul, 1) := dz_104 (k_X2_truthAt 1 29 rfl)
theorem dX2_truthAt_94 : decode cX2_truthAt 94 = .ok (.iadd, 1) := dz_96 (k_X2_truthAt 1 30 rfl)
theorem dX2_truthAt_95 : decode cX2_truthAt 95 = .ok (.iload 6, 2) := dz_21 (k_X2_truthAt 1 31 rfl) (k_X2_truthAt 1 32 rfl)
theorem dX2_truthAt_97 : decode cX2_truthAt 97 = .ok (.iadd, 1) := dz_96 (k_X2_truthAt 1 33 rfl)
theorem dX2_truthAt_98 : decode cX2_truthAt 98 = .ok (.iload_n 2, 1) := dz_28 (k_X2_truthAt 1 34 rfl)
theorem dX2_truthAt_99 : decode cX2_truthAt 99 = .ok (.invokestatic 74, 3) := dz_184 (k_X2_truthAt 1 35 rfl) (k_X2_truthAt 1 36 rfl) (k_X2_truthAt 1 37 rfl) rfl
theorem dX2_truthAt_102 : decode cX2_truthAt 102 = .ok (.lreturn, 1) := dz_173 (k_X2_truthAt 1 38 rfl)
theorem dX2_truthAt_103 : decode cX2_truthAt 103 = .ok (.aload_n 0, 1) := dz_42 (k_X2_truthAt 1 39 rfl)
theorem dX2_truthAt_104 : decode cX2_truthAt 104 = .ok (.iload 5, 2) := dz_21 (k_X2_truthAt 1 40 rfl) (k_X2_truthAt 1 41 rfl)
theorem dX2_truthAt_106 : decode cX2_truthAt 106 = .ok (.iload_n 2, 1) := dz_28 (k_X2_truthAt 1 42 rfl)
theorem dX2_truthAt_107 : decode cX2_truthAt 107 = .ok (.iload_n 3, 1) := dz_29 (k_X2_truthAt 1 43 rfl)
theorem dX2_truthAt_108 : decode cX2_truthAt 108 = .ok (.iload 4, 2) := dz_21 (k_X2_truthAt 1 44 rfl) (k_X2_truthAt 1 45 rfl)
theorem dX2_truthAt_110 : decode cX2_truthAt 110 = .ok (.iconst 1, 1) := dz_4 (k_X2_truthAt 1 46 rfl)
theorem dX2_truthAt_111 : decode cX2_truthAt 111 = .ok (.iadd, 1) := dz_96 (k_X2_truthAt 1 47 rfl)
theorem dX2_truthAt_112 : decode cX2_truthAt 112 = .ok (.invokevirtual 70, 3) := dz_182 (k_X2_truthAt 1 48 rfl) (k_X2_truthAt 1 49 rfl) (k_X2_truthAt 1 50 rfl) rfl
theorem dX2_truthAt_115 : decode cX2_truthAt 115 = .ok (.ldc2_w 78, 3) := dz_20 (k_X2_truthAt 1 51 rfl) (k_X2_truthAt 1 52 rfl) (k_X2_truthAt 1 53 rfl) rfl
theorem dX2_truthAt_118 : decode cX2_truthAt 118 = .ok (.lxor, 1) := dz_131 (k_X2_truthAt 1 54 rfl)
theorem dX2_truthAt_119 : decode cX2_truthAt 119 = .ok (.lreturn, 1) := dz_173 (k_X2_truthAt 1 55 rfl)
theorem dX2_truthAt_120 : decode cX2_truthAt 120 = .ok (.aload_n 0, 1) := dz_42 (k_X2_truthAt 1 56 rfl)
theorem dX2_truthAt_121 : decode cX2_truthAt 121 = .ok (.iload 5, 2) := dz_21 (k_X2_truthAt 1 57 rfl) (k_X2_truthAt 1 58 rfl)
theorem dX2_truthAt_123 : decode cX2_truthAt 123 = .ok (.iload_n 2, 1) := dz_28 (k_X2_truthAt 1 59 rfl)
theorem dX2_truthAt_124 : decode cX2_truthAt 124 = .ok (.iload_n 3, 1) := dz_29 (k_X2_truthAt 1 60 rfl)
theorem dX2_truthAt_125 : decode cX2_truthAt 125 = .ok (.iload 4, 2) := dz_21 (k_X2_truthAt 1 61 rfl) (k_X2_truthAt 1 62 rfl)
theorem dX2_truthAt_127 : decode cX2_truthAt 127 = .ok (.iconst 1, 1) := dz_4 (k_X2_truthAt 1 63 rfl)
theorem dX2_truthAt_128 : decode cX2_truthAt 128 = .ok (.iadd, 1) := dz_96 (k_X2_truthAt 2 0 rfl)
theorem dX2_truthAt_129 : decode cX2_truthAt 129 = .ok (.invokevirtual 70, 3) := dz_182 (k_X2_truthAt 2 1 rfl) (k_X2_truthAt 2 2 rfl) (k_X2_truthAt 2 3 rfl) rfl
theorem dX2_truthAt_132 : decode cX2_truthAt 132 = .ok (.aload_n 0, 1) := dz_42 (k_X2_truthAt 2 4 rfl)
theorem dX2_truthAt_133 : decode cX2_truthAt 133 = .ok (.iload 6, 2) := dz_21 (k_X2_truthAt 2 5 rfl) (k_X2_truthAt 2 6 rfl)
theorem dX2_truthAt_135 : decode cX2_truthAt 135 = .ok (.iload_n 2, 1) := dz_28 (k_X2_truthAt 2 7 rfl)
theorem dX2_truthAt_136 : decode cX2_truthAt 136 = .ok (.iload_n 3, 1) := dz_29 (k_X2_truthAt 2 8 rfl)
theorem dX2_truthAt_137 : decode cX2_truthAt 137 = .ok (.iload 4, 2) := dz_21 (k_X2_truthAt 2 9 rfl) (k_X2_truthAt 2 10 rfl)
theorem dX2_truthAt_139 : decode cX2_truthAt 139 = .ok (.iconst 1, 1) := dz_4 (k_X2_truthAt 2 11 rfl)
theorem dX2_truthAt_140 : decode cX2_truthAt 140 = .ok (.iadd, 1) := dz_96 (k_X2_truthAt 2 12 rfl)
theorem dX2_truthAt_141 : decode cX2_truthAt 141 = .ok (.invokevirtual 70, 3) := dz_182 (k_X2_truthAt 2 13 rfl) (k_X2_truthAt 2 14 rfl) (k_X2_truthAt 2 15 rfl) rfl
theorem dX2_truthAt_144 : decode cX2_truthAt 144 = .ok (.land, 1) := dz_127 (k_X2_truthAt 2 16 rfl)
theorem dX2_truthAt_145 : decode cX2_truthAt 145 = .ok (.lreturn, 1) := dz_173 (k_X2_truthAt 2 17 rfl)
theorem dX2_truthAt_146 : decode cX2_truthAt 146 = .ok (.aload_n 0, 1) := dz_42 (k_X2_truthAt 2 18 rfl)
theorem dX2_truthAt_147 : decode cX2_truthAt 147 = .ok (.iload 5, 2) := dz_21 (k_X2_truthAt 2 19 rfl) (k_X2_truthAt 2 20 rfl)
theorem dX2_truthAt_149 : decode cX2_truthAt 149 = .ok (.iload_n 2, 1) := dz_28 (k_X2_truthAt 2 21 rfl)
theorem dX2_truthAt_150 : decode cX2_truthAt 150 = .ok (.iload_n 3, 1) := dz_29 (k_X2_truthAt 2 22 rfl)
theorem dX2_truthAt_151 : decode cX2_truthAt 151 = .ok (.iload 4, 2) := dz_21 (k_X2_truthAt 2 23 rfl) (k_X2_truthAt 2 24 rfl)
theorem dX2_truthAt_153 : decode cX2_truthAt 153 = .ok (.iconst 1, 1) := dz_4 (k_X2_truthAt 2 25 rfl)
theorem dX2_truthAt_154 : decode cX2_truthAt 154 = .ok (.iadd, 1) := dz_96 (k_X2_truthAt 2 26 rfl)
theorem dX2_truthAt_155 : decode cX2_truthAt 155 = .ok (.invokevirtual 70, 3) := dz_182 (k_X2_truthAt 2 27 rfl) (k_X2_truthAt 2 28 rfl) (k_X2_truthAt 2 29 rfl) rfl
theorem dX2_truthAt_158 : decode cX2_truthAt 158 = .ok (.aload_n 0, 1) := dz_42 (k_X2_truthAt 2 30 rfl)
theorem dX2_truthAt_159 : decode cX2_truthAt 159 = .ok (.iload 6, 2) := dz_21 (k_X2_truthAt 2 31 rfl) (k_X2_truthAt 2 32 rfl)
theorem dX2_truthAt_161 : decode cX2_truthAt 161 = .ok (.iload_n 2, 1) := dz_28 (k_X2_truthAt 2 33 rfl)
theorem dX2_truthAt_162 : decode cX2_truthAt 162 = .ok (.iload_n 3, 1) := dz_29 (k_X2_truthAt 2 34 rfl)
theorem dX2_truthAt_163 : decode cX2_truthAt 163 = .ok (.iload 4, 2) := dz_21 (k_X2_truthAt 2 35 rfl) (k_X2_truthAt 2 36 rfl)
theorem dX2_truthAt_165 : decode cX2_truthAt 165 = .ok (.iconst 1, 1) := dz_4 (k_X2_truthAt 2 37 rfl)
theorem dX2_truthAt_166 : decode cX2_truthAt 166 = .ok (.iadd, 1) := dz_96 (k_X2_truthAt 2 38 rfl)
theorem dX2_truthAt_167 : decode cX2_truthAt 167 = .ok (.invokevirtual 70, 3) := dz_182 (k_X2_truthAt 2 39 rfl) (k_X2_truthAt 2 40 rfl) (k_X2_truthAt 2 41 rfl) rfl
theorem dX2_truthAt_170 : decode cX2_truthAt 170 = .ok (.lor, 1) := dz_129 (k_X2_truthAt 2 42 rfl)
theorem dX2_truthAt_171 : decode cX2_truthAt 171 = .ok (.lreturn, 1) := dz_173 (k_X2_truthAt 2 43 rfl)
theorem dX2_truthAt_172 : decode cX2_truthAt 172 = .ok (.aload_n 0, 1) := dz_42 (k_X2_truthAt 2 44 rfl)
theorem dX2_truthAt_173 : decode cX2_truthAt 173 = .ok (.iload 5, 2) := dz_21 (k_X2_truthAt 2 45 rfl) (k_X2_truthAt 2 46 rfl)
theorem dX2_truthAt_175 : decode cX2_truthAt 175 = .ok (.iload_n 2, 1) := dz_28 (k_X2_truthAt 2 47 rfl)
theorem dX2_truthAt_176 : decode cX2_truthAt 176 = .ok (.iload_n 3, 1) := dz_29 (k_X2_truthAt 2 48 rfl)
theorem dX2_truthAt_177 : decode cX2_truthAt 177 = .ok (.iload 4, 2) := dz_21 (k_X2_truthAt 2 49 rfl) (k_X2_truthAt 2 50 rfl)
theorem dX2_truthAt_179 : decode cX2_truthAt 179 = .ok (.iconst 1, 1) := dz_4 (k_X2_truthAt 2 51 rfl)
theorem dX2_truthAt_180 : decode cX2_truthAt 180 = .ok (.iadd, 1) := dz_96 (k_X2_truthAt 2 52 rfl)
theorem dX2_truthAt_181 : decode cX2_truthAt 181 = .ok (.invokevirtual 70, 3) := dz_182 (k_X2_truthAt 2 53 rfl) (k_X2_truthAt 2 54 rfl) (k_X2_truthAt 2 55 rfl) rfl
theorem dX2_truthAt_184 : decode cX2_truthAt 184 = .ok (.ldc2_w 78, 3) := dz_20 (k_X2_truthAt 2 56 rfl) (k_X2_truthAt 2 57 rfl) (k_X2_truthAt 2 58 rfl) rfl
theorem dX2_truthAt_187 : decode cX2_truthAt 187 = .ok (.lxor, 1) := dz_131 (k_X2_truthAt 2 59 rfl)
theorem dX2_truthAt_188 : decode cX2_truthAt 188 = .ok (.aload_n 0, 1) := dz_42 (k_X2_truthAt 2 60 rfl)
theorem dX2_truthAt_189 : decode cX2_truthAt 189 = .ok (.iload 6, 2) := dz_21 (k_X2_truthAt 2 61 rfl) (k_X2_truthAt 2 62 rfl)
theorem dX2_truthAt_191 : decode cX2_truthAt 191 = .ok (.iload_n 2, 1) := dz_28 (k_X2_truthAt 2 63 rfl)
theorem dX2_truthAt_192 : decode cX2_truthAt 192 = .ok (.iload_n 3, 1) := dz_29 (k_X2_truthAt 3 0 rfl)
theorem dX2_truthAt_193 : decode cX2_truthAt 193 = .ok (.iload 4, 2) := dz_21 (k_X2_truthAt 3 1 rfl) (k_X2_truthAt 3 2 rfl)
theorem dX2_truthAt_195 : decode cX2_truthAt 195 = .ok (.iconst 1, 1) := dz_4 (k_X2_truthAt 3 3 rfl)
theorem dX2_truthAt_196 : decode cX2_truthAt 196 = .ok (.iadd, 1) := dz_96 (k_X2_truthAt 3 4 rfl)
theorem dX2_truthAt_197 : decode cX2_truthAt 197 = .ok (.invokevirtual 70, 3) := dz_182 (k_X2_truthAt 3 5 rfl) (k_X2_truthAt 3 6 rfl) (k_X2_truthAt 3 7 rfl) rfl
theorem dX2_truthAt_200 : decode cX2_truthAt 200 = .ok (.lor, 1) := dz_129 (k_X2_truthAt 3 8 rfl)
theorem dX2_truthAt_201 : decode cX2_truthAt 201 = .ok (.lreturn, 1) := dz_173 (k_X2_truthAt 3 9 rfl)
theorem dX2_truthAt_202 : decode cX2_truthAt 202 = .ok (.aload_n 0, 1) := dz_42 (k_X2_truthAt 3 10 rfl)
theorem dX2_truthAt_203 : decode cX2_truthAt 203 = .ok (.iload_n 1, 1) := dz_27 (k_X2_truthAt 3 11 rfl)
theorem dX2_truthAt_204 : decode cX2_truthAt 204 = .ok (.iload_n 2, 1) := dz_28 (k_X2_truthAt 3 12 rfl)
theorem dX2_truthAt_205 : decode cX2_truthAt 205 = .ok (.iload_n 3, 1) := dz_29 (k_X2_truthAt 3 13 rfl)
theorem dX2_truthAt_206 : decode cX2_truthAt 206 = .ok (.iload 4, 2) := dz_21 (k_X2_truthAt 3 14 rfl) (k_X2_truthAt 3 15 rfl)
theorem dX2_truthAt_208 : decode cX2_truthAt 208 = .ok (.invokevirtual 80, 3) := dz_182 (k_X2_truthAt 3 16 rfl) (k_X2_truthAt 3 17 rfl) (k_X2_truthAt 3 18 rfl) rfl
theorem dX2_truthAt_211 : decode cX2_truthAt 211 = .ok (.lreturn, 1) := dz_173 (k_X2_truthAt 3 19 rfl)
def B_X2_truthOfBinder : List (List Nat) := [[42, 27, 182, 0, 83, 8, 160, 0, 7, 4, 167, 0, 4, 3, 54, 5, 21, 5, 153, 0, 9, 20, 0, 78, 167, 0, 4, 9, 55, 6, 3, 54, 8, 21, 8, 29, 162, 0, 48, 42, 42, 27, 21, 8, 182, 0, 86, 28, 29, 21, 4, 4, 96, 182, 0, 70, 55, 9, 21, 5, 153, 0, 11, 22], [6, 22, 9, 127, 167, 0, 8, 22, 6, 22, 9, 129, 55, 6, 132, 8, 1, 167, 255, 208, 22, 6, 173]]
theorem k_X2_truthOfBinder (j i : Nat) {b : Nat} (h : (B_X2_truthOfBinder[j]?.bind fun c => c[i]?) = some b) : s_by cX2_truthOfBinder (64 * j + i) b := s_byC (L := B_X2_truthOfBinder) (by decide +kernel) (by decide +kernel) j i h
theorem dX2_truthOfBinder_0 : decode cX2_truthOfBinder 0 = .ok (.aload_n 0, 1) := dz_42 (k_X2_truthOfBinder 0 0 rfl)
theorem dX2_truthOfBinder_1 : decode cX2_truthOfBinder 1 = .ok (.iload_n 1, 1) := dz_27 (k_X2_truthOfBinder 0 1 rfl)
theorem dX2_truthOfBinder_2 : decode cX2_truthOfBinder 2 = .ok (.invokevirtual 83, 3) := dz_182 (k_X2_truthOfBinder 0 2 rfl) (k_X2_truthOfBinder 0 3 rfl) (k_X2_truthOfBinder 0 4 rfl) rfl
theorem dX2_truthOfBinder_5 : decode cX2_truthOfBinder 5 = .ok (.iconst 5, 1) := dz_8 (k_X2_truthOfBinder 0 5 rfl)
theorem dX2_truthOfBinder_6 : decode cX2_truthOfBinder 6 = .ok (.if_icmp .ne 7, 3) := dz_160 (k_X2_truthOfBinder 0 6 rfl) (k_X2_truthOfBinder 0 7 rfl) (k_X2_truthOfBinder 0 8 rfl) rfl
theorem dX2_truthOfBinder_9 : decode cX2_truthOfBinder 9 = .ok (.iconst 1, 1) := dz_4 (k_X2_truthOfBinder 0 9 rfl)
theorem dX2_truthOfBinder_10 : decode cX2_truthOfBinder 10 = .ok (.goto 4, 3) := dz_167 (k_X2_truthOfBinder 0 10 rfl) (k_X2_truthOfBinder 0 11 rfl) (k_X2_truthOfBinder 0 12 rfl) rfl
theorem dX2_truthOfBinder_13 : decode cX2_truthOfBinder 13 = .ok (.iconst 0, 1) := dz_3 (k_X2_truthOfBinder 0 13 rfl)
theorem dX2_truthOfBinder_14 : decode cX2_truthOfBinder 14 = .ok (.istore 5, 2) := dz_54 (k_X2_truthOfBinder 0 14 rfl) (k_X2_truthOfBinder 0 15 rfl)
theorem dX2_truthOfBinder_16 : decode cX2_truthOfBinder 16 = .ok (.iload 5, 2) := dz_21 (k_X2_truthOfBinder 0 16 rfl) (k_X2_truthOfBinder 0 17 rfl)
theorem dX2_truthOfBinder_18 : decode cX2_truthOfBinder 18 = .ok (.ifCond .eq 9, 3) := dz_153 (k_X2_truthOfBinder 0 18 rfl) (k_X2_truthOfBinder 0 19 rfl) (k_X2_truthOfBinder 0 20 rfl) rfl
theorem dX2_truthOfBinder_21 : decode cX2_truthOfBinder 21 = .ok (.ldc2_w 78, 3) := dz_20 (k_X2_truthOfBinder 0 21 rfl) (k_X2_truthOfBinder 0 22 rfl) (k_X2_truthOfBinder 0 23 rfl) rfl
theorem dX2_truthOfBinder_24 : decode cX2_truthOfBinder 24 = .ok (.goto 4, 3) := dz_167 (k_X2_truthOfBinder 0 24 rfl) (k_X2_truthOfBinder 0 25 rfl) (k_X2_truthOfBinder 0 26 rfl) rfl
theorem dX2_truthOfBinder_27 : decode cX2_truthOfBinder 27 = .ok (.lconst 0, 1) := dz_9 (k_X2_truthOfBinder 0 27 rfl)
theorem dX2_truthOfBinder_28 : decode cX2_truthOfBinder 28 = .ok (.lstore 6, 2) := dz_55 (k_X2_truthOfBinder 0 28 rfl) (k_X2_truthOfBinder 0 29 rfl)
theorem dX2_truthOfBinder_30 : decode cX2_truthOfBinder 30 = .ok (.iconst 0, 1) := dz_3 (k_X2_truthOfBinder 0 30 rfl)
theorem dX2_truthOfBinder_31 : decode cX2_truthOfBinder 31 = .ok (.istore 8, 2) := dz_54 (k_X2_truthOfBinder 0 31 rfl) (k_X2_truthOfBinder 0 32 rfl)
theorem dX2_truthOfBinder_33 : decode cX2_truthOfBinder 33 = .ok (.iload 8, 2) := dz_21 (k_X2_truthOfBinder 0 33 rfl) (k_X2_truthOfBinder 0 34 rfl)
theorem dX2_truthOfBinder_35 : decode cX2_truthOfBinder 35 = .ok (.iload_n 3, 1) := dz_29 (k_X2_truthOfBinder 0 35 rfl)
theorem dX2_truthOfBinder_36 : decode cX2_truthOfBinder 36 = .ok (.if_icmp .ge 48, 3) := dz_162 (k_X2_truthOfBinder 0 36 rfl) (k_X2_truthOfBinder 0 37 rfl) (k_X2_truthOfBinder 0 38 rfl) rfl
theorem dX2_truthOfBinder_39 : decode cX2_truthOfBinder 39 = .ok (.aload_n 0, 1) := dz_42 (k_X2_truthOfBinder 0 39 rfl)
theorem dX2_truthOfBinder_40 : decode cX2_truthOfBinder 40 = .ok (.aload_n 0, 1) := dz_42 (k_X2_truthOfBinder 0 40 rfl)
theorem dX2_truthOfBinder_41 : decode cX2_truthOfBinder 41 = .ok (.iload_n 1, 1) := dz_27 (k_X2_truthOfBinder 0 41 rfl)
theorem dX2_truthOfBinder_42 : decode cX2_truthOfBinder 42 = .ok (.iload 8, 2) := dz_21 (k_X2_truthOfBinder 0 42 rfl) (k_X2_truthOfBinder 0 43 rfl)
theorem dX2_truthOfBinder_44 : decode cX2_truthOfBinder 44 = .ok (.invokevirtual 86, 3) := dz_182 (k_X2_truthOfBinder 0 44 rfl) (k_X2_truthOfBinder 0 45 rfl) (k_X2_truthOfBinder 0 46 rfl) rfl
theorem dX2_truthOfBinder_47 : decode cX2_truthOfBinder 47 = .ok (.iload_n 2, 1) := dz_28 (k_X2_truthOfBinder 0 47 rfl)
theorem dX2_truthOfBinder_48 : decode cX2_truthOfBinder 48 = .ok (.iload_n 3, 1) := dz_29 (k_X2_truthOfBinder 0 48 rfl)
theorem dX2_truthOfBinder_49 : decode cX2_truthOfBinder 49 = .ok (.iload 4, 2) := dz_21 (k_X2_truthOfBinder 0 49 rfl) (k_X2_truthOfBinder 0 50 rfl)
theorem dX2_truthOfBinder_51 : decode cX2_truthOfBinder 51 = .ok (.iconst 1, 1) := dz_4 (k_X2_truthOfBinder 0 51 rfl)
theorem dX2_truthOfBinder_52 : decode cX2_truthOfBinder 52 = .ok (.iadd, 1) := dz_96 (k_X2_truthOfBinder 0 52 rfl)
theorem dX2_truthOfBinder_53 : decode cX2_truthOfBinder 53 = .ok (.invokevirtual 70, 3) := dz_182 (k_X2_truthOfBinder 0 53 rfl) (k_X2_truthOfBinder 0 54 rfl) (k_X2_truthOfBinder 0 55 rfl) rfl
theorem dX2_truthOfBinder_56 : decode cX2_truthOfBinder 56 = .ok (.lstore 9, 2) := dz_55 (k_X2_truthOfBinder 0 56 rfl) (k_X2_truthOfBinder 0 57 rfl)
theorem dX2_truthOfBinder_58 : decode cX2_truthOfBinder 58 = .ok (.iload 5, 2) := dz_21 (k_X2_truthOfBinder 0 58 rfl) (k_X2_truthOfBinder 0 59 rfl)
theorem dX2_truthOfBinder_60 : decode cX2_truthOfBinder 60 = .ok (.ifCond .eq 11, 3) := dz_153 (k_X2_truthOfBinder 0 60 rfl) (k_X2_truthOfBinder 0 61 rfl) (k_X2_truthOfBinder 0 62 rfl) rfl
theorem dX2_truthOfBinder_63 : decode cX2_truthOfBinder 63 = .ok (.lload 6, 2) := dz_22 (k_X2_truthOfBinder 0 63 rfl) (k_X2_truthOfBinder 1 0 rfl)
theorem dX2_truthOfBinder_65 : decode cX2_truthOfBinder 65 = .ok (.lload 9, 2) := dz_22 (k_X2_truthOfBinder 1 1 rfl) (k_X2_truthOfBinder 1 2 rfl)
theorem dX2_truthOfBinder_67 : decode cX2_truthOfBinder 67 = .ok (.land, 1) := dz_127 (k_X2_truthOfBinder 1 3 rfl)
theorem dX2_truthOfBinder_68 : decode cX2_truthOfBinder 68 = .ok (.goto 8, 3) := dz_167 (k_X2_truthOfBinder 1 4 rfl) (k_X2_truthOfBinder 1 5 rfl) (k_X2_truthOfBinder 1 6 rfl) rfl
theorem dX2_truthOfBinder_71 : decode cX2_truthOfBinder 71 = .ok (.lload 6, 2) := dz_22 (k_X2_truthOfBinder 1 7 rfl) (k_X2_truthOfBinder 1 8 rfl)
theorem dX2_truthOfBinder_73 : decode cX2_truthOfBinder 73 = .ok (.lload 9, 2) := dz_22 (k_X2_truthOfBinder 1 9 rfl) (k_X2_truthOfBinder 1 10 rfl)
theorem dX2_truthOfBinder_75 : decode cX2_truthOfBinder 75 = .ok (.lor, 1) := dz_129 (k_X2_truthOfBinder 1 11 rfl)
theorem dX2_truthOfBinder_76 : decode cX2_truthOfBinder 76 = .ok (.lstore 6, 2) := dz_55 (k_X2_truthOfBinder 1 12 rfl) (k_X2_truthOfBinder 1 13 rfl)
theorem dX2_truthOfBinder_78 : decode cX2_truthOfBinder 78 = .ok (.iinc 8 1, 3) := dz_132 (k_X2_truthOfBinder 1 14 rfl) (k_X2_truthOfBinder 1 15 rfl) (k_X2_truthOfBinder 1 16 rfl) rfl
theorem dX2_truthOfBinder_81 : decode cX2_truthOfBinder 81 = .ok (.goto (-48), 3) := dz_167 (k_X2_truthOfBinder 1 17 rfl) (k_X2_truthOfBinder 1 18 rfl) (k_X2_truthOfBinder 1 19 rfl) rfl
theorem dX2_truthOfBinder_84 : decode cX2_truthOfBinder 84 = .ok (.lload 6, 2) := dz_22 (k_X2_truthOfBinder 1 20 rfl) (k_X2_truthOfBinder 1 21 rfl)
theorem dX2_truthOfBinder_86 : decode cX2_truthOfBinder 86 = .ok (.lreturn, 1) := dz_173 (k_X2_truthOfBinder 1 22 rfl)
def B_X3_alikeTo : List (List Nat) := [[3, 61, 3, 62, 29, 42, 180, 0, 30, 180, 0, 48, 162, 0, 24, 42, 27, 29, 182, 0, 87, 153, 0, 9, 28, 4, 29, 120, 128, 61, 132, 3, 1, 167, 255, 227, 28, 172]]
theorem k_X3_alikeTo (j i : Nat) {b : Nat} (h : (B_X3_alikeTo[j]?.bind fun c => c[i]?) = some b) : s_by cX3_alikeTo (64 * j + i) b := s_byC (L := B_X3_alikeTo) (by decide +kernel) (by decide +kernel) j i h
theorem dX3_alikeTo_0 : decode cX3_alikeTo 0 = .ok (.iconst 0, 1) := dz_3 (k_X3_alikeTo 0 0 rfl)
theorem dX3_alikeTo_1 : decode cX3_alikeTo 1 = .ok (.istore_n 2, 1) := dz_61 (k_X3_alikeTo 0 1 rfl)
theorem dX3_alikeTo_2 : decode cX3_alikeTo 2 = .ok (.iconst 0, 1) := dz_3 (k_X3_alikeTo 0 2 rfl)
theorem dX3_alikeTo_3 : decode cX3_alikeTo 3 = .ok (.istore_n 3, 1) := dz_62 (k_X3_alikeTo 0 3 rfl)
theorem dX3_alikeTo_4 : decode cX3_alikeTo 4 = .ok (.iload_n 3, 1) := dz_29 (k_X3_alikeTo 0 4 rfl)
theorem dX3_alikeTo_5 : decode cX3_alikeTo 5 = .ok (.aload_n 0, 1) := dz_42 (k_X3_alikeTo 0 5 rfl)
theorem dX3_alikeTo_6 : decode cX3_alikeTo 6 = .ok (.getfield 30, 3) := dz_180 (k_X3_alikeTo 0 6 rfl) (k_X3_alikeTo 0 7 rfl) (k_X3_alikeTo 0 8 rfl) rfl
theorem dX3_alikeTo_9 : decode cX3_alikeTo 9 = .ok (.getfield 48, 3) := dz_180 (k_X3_alikeTo 0 9 rfl) (k_X3_alikeTo 0 10 rfl) (k_X3_alikeTo 0 11 rfl) rfl
theorem dX3_alikeTo_12 : decode cX3_alikeTo 12 = .ok (.if_icmp .ge 24, 3) := dz_162 (k_X3_alikeTo 0 12 rfl) (k_X3_alikeTo 0 13 rfl) (k_X3_alikeTo 0 14 rfl) rfl
theorem dX3_alikeTo_15 : decode cX3_alikeTo 15 = .ok (.aload_n 0, 1) := dz_42 (k_X3_alikeTo 0 15 rfl)
theorem dX3_alikeTo_16 : decode cX3_alikeTo 16 = .ok (.iload_n 1, 1) := dz_27 (k_X3_alikeTo 0 16 rfl)
theorem dX3_alikeTo_17 : decode cX3_alikeTo 17 = .ok (.iload_n 3, 1) := dz_29 (k_X3_alikeTo 0 17 rfl)
theorem dX3_alikeTo_18 : decode cX3_alikeTo 18 = .ok (.invokevirtual 87, 3) := dz_182 (k_X3_alikeTo 0 18 rfl) (k_X3_alikeTo 0 19 rfl) (k_X3_alikeTo 0 20 rfl) rfl
theorem dX3_alikeTo_21 : decode cX3_alikeTo 21 = .ok (.ifCond .eq 9, 3) := dz_153 (k_X3_alikeTo 0 21 rfl) (k_X3_alikeTo 0 22 rfl) (k_X3_alikeTo 0 23 rfl) rfl
theorem dX3_alikeTo_24 : decode cX3_alikeTo 24 = .ok (.iload_n 2, 1) := dz_28 (k_X3_alikeTo 0 24 rfl)
theorem dX3_alikeTo_25 : decode cX3_alikeTo 25 = .ok (.iconst 1, 1) := dz_4 (k_X3_alikeTo 0 25 rfl)
theorem dX3_alikeTo_26 : decode cX3_alikeTo 26 = .ok (.iload_n 3, 1) := dz_29 (k_X3_alikeTo 0 26 rfl)
theorem dX3_alikeTo_27 : decode cX3_alikeTo 27 = .ok (.ishl, 1) := dz_120 (k_X3_alikeTo 0 27 rfl)
theorem dX3_alikeTo_28 : decode cX3_alikeTo 28 = .ok (.ior, 1) := dz_128 (k_X3_alikeTo 0 28 rfl)
theorem dX3_alikeTo_29 : decode cX3_alikeTo 29 = .ok (.istore_n 2, 1) := dz_61 (k_X3_alikeTo 0 29 rfl)
theorem dX3_alikeTo_30 : decode cX3_alikeTo 30 = .ok (.iinc 3 1, 3) := dz_132 (k_X3_alikeTo 0 30 rfl) (k_X3_alikeTo 0 31 rfl) (k_X3_alikeTo 0 32 rfl) rfl
theorem dX3_alikeTo_33 : decode cX3_alikeTo 33 = .ok (.goto (-29), 3) := dz_167 (k_X3_alikeTo 0 33 rfl) (k_X3_alikeTo 0 34 rfl) (k_X3_alikeTo 0 35 rfl) rfl
theorem dX3_alikeTo_36 : decode cX3_alikeTo 36 = .ok (.iload_n 2, 1) := dz_28 (k_X3_alikeTo 0 36 rfl)
theorem dX3_alikeTo_37 : decode cX3_alikeTo 37 = .ok (.ireturn, 1) := dz_172 (k_X3_alikeTo 0 37 rfl)
def B_X3_fewestFailing : List (List Nat) := [[42, 27, 182, 0, 95, 61, 4, 28, 120, 4, 100, 62, 29, 54, 4, 3, 54, 5, 21, 5, 42, 180, 0, 30, 182, 0, 98, 162, 0, 36, 29, 42, 21, 5, 28, 182, 0, 101, 2, 130, 126, 54, 6, 21, 6, 21, 4, 184, 0, 104, 153, 0, 7, 21, 6, 54, 4, 132, 5, 1, 167, 255, 214, 42], [21, 4, 182, 0, 107, 172]]
theorem k_X3_fewestFailing (j i : Nat) {b : Nat} (h : (B_X3_fewestFailing[j]?.bind fun c => c[i]?) = some b) : s_by cX3_fewestFailing (64 * j + i) b := s_byC (L := B_X3_fewestFailing) (by decide +kernel) (by decide +kernel) j i h
theorem dX3_fewestFailing_0 : decode cX3_fewestFailing 0 = .ok (.aload_n 0, 1) := dz_42 (k_X3_fewestFailing 0 0 rfl)
theorem dX3_fewestFailing_1 : decode cX3_fewestFailing 1 = .ok (.iload_n 1, 1) := dz_27 (k_X3_fewestFailing 0 1 rfl)
theorem dX3_fewestFailing_2 : decode cX3_fewestFailing 2 = .ok (.invokevirtual 95, 3) := dz_182 (k_X3_fewestFailing 0 2 rfl) (k_X3_fewestFailing 0 3 rfl) (k_X3_fewestFailing 0 4 rfl) rfl
theorem dX3_fewestFailing_5 : decode cX3_fewestFailing 5 = .ok (.istore_n 2, 1) := dz_61 (k_X3_fewestFailing 0 5 rfl)
theorem dX3_fewestFailing_6 : decode cX3_fewestFailing 6 = .ok (.iconst 1, 1) := dz_4 (k_X3_fewestFailing 0 6 rfl)
theorem dX3_fewestFailing_7 : decode cX3_fewestFailing 7 = .ok (.iload_n 2, 1) := dz_28 (k_X3_fewestFailing 0 7 rfl)
theorem dX3_fewestFailing_8 : decode cX3_fewestFailing 8 = .ok (.ishl, 1) := dz_120 (k_X3_fewestFailing 0 8 rfl)
theorem dX3_fewestFailing_9 : decode cX3_fewestFailing 9 = .ok (.iconst 1, 1) := dz_4 (k_X3_fewestFailing 0 9 rfl)
theorem dX3_fewestFailing_10 : decode cX3_fewestFailing 10 = .ok (.isub, 1) := dz_100 (k_X3_fewestFailing 0 10 rfl)
theorem dX3_fewestFailing_11 : decode cX3_fewestFailing 11 = .ok (.istore_n 3, 1) := dz_62 (k_X3_fewestFailing 0 11 rfl)
theorem dX3_fewestFailing_12 : decode cX3_fewestFailing 12 = .ok (.iload_n 3, 1) := dz_29 (k_X3_fewestFailing 0 12 rfl)
theorem dX3_fewestFailing_13 : decode cX3_fewestFailing 13 = .ok (.istore 4, 2) := dz_54 (k_X3_fewestFailing 0 13 rfl) (k_X3_fewestFailing 0 14 rfl)
theorem dX3_fewestFailing_15 : decode cX3_fewestFailing 15 = .ok (.iconst 0, 1) := dz_3 (k_X3_fewestFailing 0 15 rfl)
theorem dX3_fewestFailing_16 : decode cX3_fewestFailing 16 = .ok (.istore 5, 2) := dz_54 (k_X3_fewestFailing 0 16 rfl) (k_X3_fewestFailing 0 17 rfl)
theorem dX3_fewestFailing_18 : decode cX3_fewestFailing 18 = .ok (.iload 5, 2) := dz_21 (k_X3_fewestFailing 0 18 rfl) (k_X3_fewestFailing 0 19 rfl)
theorem dX3_fewestFailing_20 : decode cX3_fewestFailing 20 = .ok (.aload_n 0, 1) := dz_42 (k_X3_fewestFailing 0 20 rfl)
theorem dX3_fewestFailing_21 : decode cX3_fewestFailing 21 = .ok (.getfield 30, 3) := dz_180 (k_X3_fewestFailing 0 21 rfl) (k_X3_fewestFailing 0 22 rfl) (k_X3_fewestFailing 0 23 rfl) rfl
theorem dX3_fewestFailing_24 : decode cX3_fewestFailing 24 = .ok (.invokevirtual 98, 3) := dz_182 (k_X3_fewestFailing 0 24 rfl) (k_X3_fewestFailing 0 25 rfl) (k_X3_fewestFailing 0 26 rfl) rfl
theorem dX3_fewestFailing_27 : decode cX3_fewestFailing 27 = .ok (.if_icmp .ge 36, 3) := dz_162 (k_X3_fewestFailing 0 27 rfl) (k_X3_fewestFailing 0 28 rfl) (k_X3_fewestFailing 0 29 rfl) rfl
theorem dX3_fewestFailing_30 : decode cX3_fewestFailing 30 = .ok (.iload_n 3, 1) := dz_29 (k_X3_fewestFailing 0 30 rfl)
theorem dX3_fewestFailing_31 : decode cX3_fewestFailing 31 = .ok (.aload_n 0, 1) := dz_42 (k_X3_fewestFailing 0 31 rfl)
theorem dX3_fewestFailing_32 : decode cX3_fewestFailing 32 = .ok (.iload 5, 2) := dz_21 (k_X3_fewestFailing 0 32 rfl) (k_X3_fewestFailing 0 33 rfl)
theorem dX3_fewestFailing_34 : decode cX3_fewestFailing 34 = .ok (.iload_n 2, 1) := dz_28 (k_X3_fewestFailing 0 34 rfl)
theorem dX3_fewestFailing_35 : decode cX3_fewestFailing 35 = .ok (.invokevirtual 101, 3) := dz_182 (k_X3_fewestFailing 0 35 rfl) (k_X3_fewestFailing 0 36 rfl) (k_X3_fewestFailing 0 37 rfl) rfl
theorem dX3_fewestFailing_38 : decode cX3_fewestFailing 38 = .ok (.iconst (-1), 1) := dz_2 (k_X3_fewestFailing 0 38 rfl)
theorem dX3_fewestFailing_39 : decode cX3_fewestFailing 39 = .ok (.ixor, 1) := dz_130 (k_X3_fewestFailing 0 39 rfl)
theorem dX3_fewestFailing_40 : decode cX3_fewestFailing 40 = .ok (.iand, 1) := dz_126 (k_X3_fewestFailing 0 40 rfl)
theorem dX3_fewestFailing_41 : decode cX3_fewestFailing 41 = .ok (.istore 6, 2) := dz_54 (k_X3_fewestFailing 0 41 rfl) (k_X3_fewestFailing 0 42 rfl)
theorem dX3_fewestFailing_43 : decode cX3_fewestFailing 43 = .ok (.iload 6, 2) := dz_21 (k_X3_fewestFailing 0 43 rfl) (k_X3_fewestFailing 0 44 rfl)
theorem dX3_fewestFailing_45 : decode cX3_fewestFailing 45 = .ok (.iload 4, 2) := dz_21 (k_X3_fewestFailing 0 45 rfl) (k_X3_fewestFailing 0 46 rfl)
theorem dX3_fewestFailing_47 : decode cX3_fewestFailing 47 = .ok (.invokestatic 104, 3) := dz_184 (k_X3_fewestFailing 0 47 rfl) (k_X3_fewestFailing 0 48 rfl) (k_X3_fewestFailing 0 49 rfl) rfl
theorem dX3_fewestFailing_50 : decode cX3_fewestFailing 50 = .ok (.ifCond .eq 7, 3) := dz_153 (k_X3_fewestFailing 0 50 rfl) (k_X3_fewestFailing 0 51 rfl) (k_X3_fewestFailing 0 52 rfl) rfl
theorem dX3_fewestFailing_53 : decode cX3_fewestFailing 53 = .ok (.iload 6, 2) := dz_21 (k_X3_fewestFailing 0 53 rfl) (k_X3_fewestFailing 0 54 rfl)
theorem dX3_fewestFailing_55 : decode cX3_fewestFailing 55 = .ok (.istore 4, 2) := dz_54 (k_X3_fewestFailing 0 55 rfl) (k_X3_fewestFailing 0 56 rfl)
theorem dX3_fewestFailing_57 : decode cX3_fewestFailing 57 = .ok (.iinc 5 1, 3) := dz_132 (k_X3_fewestFailing 0 57 rfl) (k_X3_fewestFailing 0 58 rfl) (k_X3_fewestFailing 0 59 rfl) rfl
theorem dX3_fewestFailing_60 : decode cX3_fewestFailing 60 = .ok (.goto (-42), 3) := dz_167 (k_X3_fewestFailing 0 60 rfl) (k_X3_fewestFailing 0 61 rfl) (k_X3_fewestFailing 0 62 rfl) rfl
theorem dX3_fewestFailing_63 : decode cX3_fewestFailing 63 = .ok (.aload_n 0, 1) := dz_42 (k_X3_fewestFailing 0 63 rfl)
theorem dX3_fewestFailing_64 : decode cX3_fewestFailing 64 = .ok (.iload 4, 2) := dz_21 (k_X3_fewestFailing 1 0 rfl) (k_X3_fewestFailing 1 1 rfl)
theorem dX3_fewestFailing_66 : decode cX3_fewestFailing 66 = .ok (.invokevirtual 107, 3) := dz_182 (k_X3_fewestFailing 1 2 rfl) (k_X3_fewestFailing 1 3 rfl) (k_X3_fewestFailing 1 4 rfl) rfl
theorem dX3_fewestFailing_69 : decode cX3_fewestFailing 69 = .ok (.ireturn, 1) := dz_172 (k_X3_fewestFailing 1 5 rfl)
def B_X3_fewestMore : List (List Nat) := [[42, 27, 42, 180, 0, 11, 182, 0, 75, 42, 42, 180, 0, 11, 182, 0, 125, 153, 0, 5, 2, 172, 42, 42, 180, 0, 11, 28, 182, 0, 79, 2, 160, 0, 5, 3, 172, 42, 42, 180, 0, 11, 28, 42, 180, 0, 30, 180, 0, 48, 182, 0, 129, 62, 29, 2, 160, 0, 20, 42, 42, 180, 0, 11], [28, 42, 180, 0, 30, 180, 0, 48, 182, 0, 133, 62, 29, 2, 160, 0, 11, 42, 28, 182, 0, 136, 167, 0, 4, 29, 172]]
theorem k_X3_fewestMore (j i : Nat) {b : Nat} (h : (B_X3_fewestMore[j]?.bind fun c => c[i]?) = some b) : s_by cX3_fewestMore (64 * j + i) b := s_byC (L := B_X3_fewestMore) (by decide +kernel) (by decide +kernel) j i h
theorem dX3_fewestMore_0 : decode cX3_fewestMore 0 = .ok (.aload_n 0, 1) := dz_42 (k_X3_fewestMore 0 0 rfl)
theorem dX3_fewestMore_1 : decode cX3_fewestMore 1 = .ok (.iload_n 1, 1) := dz_27 (k_X3_fewestMore 0 1 rfl)
theorem dX3_fewestMore_2 : decode cX3_fewestMore 2 = .ok (.aload_n 0, 1) := dz_42 (k_X3_fewestMore 0 2 rfl)
theorem dX3_fewestMore_3 : decode cX3_fewestMore 3 = .ok (.getfield 11, 3) := dz_180 (k_X3_fewestMore 0 3 rfl) (k_X3_fewestMore 0 4 rfl) (k_X3_fewestMore 0 5 rfl) rfl
theorem dX3_fewestMore_6 : decode cX3_fewestMore 6 = .ok (.invokevirtual 75, 3) := dz_182 (k_X3_fewestMore 0 6 rfl) (k_X3_fewestMore 0 7 rfl) (k_X3_fewestMore 0 8 rfl) rfl
theorem dX3_fewestMore_9 : decode cX3_fewestMore 9 = .ok (.aload_n 0, 1) := dz_42 (k_X3_fewestMore 0 9 rfl)
theorem dX3_fewestMore_10 : decode cX3_fewestMore 10 = .ok (.aload_n 0, 1) := dz_42 (k_X3_fewestMore 0 10 rfl)
theorem dX3_fewestMore_11 : decode cX3_fewestMore 11 = .ok (.getfield 11, 3) := dz_180 (k_X3_fewestMore 0 11 rfl) (k_X3_fewestMore 0 12 rfl) (k_X3_fewestMore 0 13 rfl) rfl
theorem dX3_fewestMore_14 : decode cX3_fewestMore 14 = .ok (.invokevirtual 125, 3) := dz_182 (k_X3_fewestMore 0 14 rfl) (k_X3_fewestMore 0 15 rfl) (k_X3_fewestMore 0 16 rfl) rfl
theorem dX3_fewestMore_17 : decode cX3_fewestMore 17 = .ok (.ifCond .eq 5, 3) := dz_153 (k_X3_fewestMore 0 17 rfl) (k_X3_fewestMore 0 18 rfl) (k_X3_fewestMore 0 19 rfl) rfl
theorem dX3_fewestMore_20 : decode cX3_fewestMore 20 = .ok (.iconst (-1), 1) := dz_2 (k_X3_fewestMore 0 20 rfl)
theorem dX3_fewestMore_21 : decode cX3_fewestMore 21 = .ok (.ireturn, 1) := dz_172 (k_X3_fewestMore 0 21 rfl)
theorem dX3_fewestMore_22 : decode cX3_fewestMore 22 = .ok (.aload_n 0, 1) := dz_42 (k_X3_fewestMore 0 22 rfl)
theorem dX3_fewestMore_23 : decode cX3_fewestMore 23 = .ok (.aload_n 0, 1) := dz_42 (k_X3_fewestMore 0 23 rfl)
theorem dX3_fewestMore_24 : decode cX3_fewestMore 24 = .ok (.getfield 11, 3) := dz_180 (k_X3_fewestMore 0 24 rfl) (k_X3_fewestMore 0 25 rfl) (k_X3_fewestMore 0 26 rfl) rfl
theorem dX3_fewestMore_27 : decode cX3_fewestMore 27 = .ok (.iload_n 2, 1) := dz_28 (k_X3_fewestMore 0 27 rfl)
theorem dX3_fewestMore_28 : decode cX3_fewestMore 28 = .ok (.invokevirtual 79, 3) := dz_182 (k_X3_fewestMore 0 28 rfl) (k_X3_fewestMore 0 29 rfl) (k_X3_fewestMore 0 30 rfl) rfl
theorem dX3_fewestMore_31 : decode cX3_fewestMore 31 = .ok (.iconst (-1), 1) := dz_2 (k_X3_fewestMore 0 31 rfl)
theorem dX3_fewestMore_32 : decode cX3_fewestMore 32 = .ok (.if_icmp .ne 5, 3) := dz_160 (k_X3_fewestMore 0 32 rfl) (k_X3_fewestMore 0 33 rfl) (k_X3_fewestMore 0 34 rfl) rfl
theorem dX3_fewestMore_35 : decode cX3_fewestMore 35 = .ok (.iconst 0, 1) := dz_3 (k_X3_fewestMore 0 35 rfl)
theorem dX3_fewestMore_36 : decode cX3_fewestMore 36 = .ok (.ireturn, 1) := dz_172 (k_X3_fewestMore 0 36 rfl)
theorem dX3_fewestMore_37 : decode cX3_fewestMore 37 = .ok (.aload_n 0, 1) := dz_42 (k_X3_fewestMore 0 37 rfl)
theorem dX3_fewestMore_38 : decode cX3_fewestMore 38 = .ok (.aload_n 0, 1) := dz_42 (k_X3_fewestMore 0 38 rfl)
theorem dX3_fewestMore_39 : decode cX3_fewestMore 39 = .ok (.getfield 11, 3) := dz_180 (k_X3_fewestMore 0 39 rfl) (k_X3_fewestMore 0 40 rfl) (k_X3_fewestMore 0 41 rfl) rfl
theorem dX3_fewestMore_42 : decode cX3_fewestMore 42 = .ok (.iload_n 2, 1) := dz_28 (k_X3_fewestMore 0 42 rfl)
theorem dX3_fewestMore_43 : decode cX3_fewestMore 43 = .ok (.aload_n 0, 1) := dz_42 (k_X3_fewestMore 0 43 rfl)
theorem dX3_fewestMore_44 : decode cX3_fewestMore 44 = .ok (.getfield 30, 3) := dz_180 (k_X3_fewestMore 0 44 rfl) (k_X3_fewestMore 0 45 rfl) (k_X3_fewestMore 0 46 rfl) rfl
theorem dX3_fewestMore_47 : decode cX3_fewestMore 47 = .ok (.getfield 48, 3) := dz_180 (k_X3_fewestMore 0 47 rfl) (k_X3_fewestMore 0 48 rfl) (k_X3_fewestMore 0 49 rfl) rfl
theorem dX3_fewestMore_50 : decode cX3_fewestMore 50 = .ok (.invokevirtual 129, 3) := dz_182 (k_X3_fewestMore 0 50 rfl) (k_X3_fewestMore 0 51 rfl) (k_X3_fewestMore 0 52 rfl) rfl
theorem dX3_fewestMore_53 : decode cX3_fewestMore 53 = .ok (.istore_n 3, 1) := dz_62 (k_X3_fewestMore 0 53 rfl)
theorem dX3_fewestMore_54 : decode cX3_fewestMore 54 = .ok (.iload_n 3, 1) := dz_29 (k_X3_fewestMore 0 54 rfl)
theorem dX3_fewestMore_55 : decode cX3_fewestMore 55 = .ok (.iconst (-1), 1) := dz_2 (k_X3_fewestMore 0 55 rfl)
theorem dX3_fewestMore_56 : decode cX3_fewestMore 56 = .ok (.if_icmp .ne 20, 3) := dz_160 (k_X3_fewestMore 0 56 rfl) (k_X3_fewestMore 0 57 rfl) (k_X3_fewestMore 0 58 rfl) rfl
theorem dX3_fewestMore_59 : decode cX3_fewestMore 59 = .ok (.aload_n 0, 1) := dz_42 (k_X3_fewestMore 0 59 rfl)
theorem dX3_fewestMore_60 : decode cX3_fewestMore 60 = .ok (.aload_n 0, 1) := dz_42 (k_X3_fewestMore 0 60 rfl)
theorem dX3_fewestMore_61 : decode cX3_fewestMore 61 = .ok (.getfield 11, 3) := dz_180 (k_X3_fewestMore 0 61 rfl) (k_X3_fewestMore 0 62 rfl) (k_X3_fewestMore 0 63 rfl) rfl
theorem dX3_fewestMore_64 : decode cX3_fewestMore 64 = .ok (.iload_n 2, 1) := dz_28 (k_X3_fewestMore 1 0 rfl)
theorem dX3_fewestMore_65 : decode cX3_fewestMore 65 = .ok (.aload_n 0, 1) := dz_42 (k_X3_fewestMore 1 1 rfl)
theorem dX3_fewestMore_66 : decode cX3_fewestMore 66 = .ok (.getfield 30, 3) := dz_180 (k_X3_fewestMore 1 2 rfl) (k_X3_fewestMore 1 3 rfl) (k_X3_fewestMore 1 4 rfl) rfl
theorem dX3_fewestMore_69 : decode cX3_fewestMore 69 = .ok (.getfield 48, 3) := dz_180 (k_X3_fewestMore 1 5 rfl) (k_X3_fewestMore 1 6 rfl) (k_X3_fewestMore 1 7 rfl) rfl
theorem dX3_fewestMore_72 : decode cX3_fewestMore 72 = .ok (.invokevirtual 133, 3) := dz_182 (k_X3_fewestMore 1 8 rfl) (k_X3_fewestMore 1 9 rfl) (k_X3_fewestMore 1 10 rfl) rfl
theorem dX3_fewestMore_75 : decode cX3_fewestMore 75 = .ok (.istore_n 3, 1) := dz_62 (k_X3_fewestMore 1 11 rfl)
theorem dX3_fewestMore_76 : decode cX3_fewestMore 76 = .ok (.iload_n 3, 1) := dz_29 (k_X3_fewestMore 1 12 rfl)
theorem dX3_fewestMore_77 : decode cX3_fewestMore 77 = .ok (.iconst (-1), 1) := dz_2 (k_X3_fewestMore 1 13 rfl)
theorem dX3_fewestMore_78 : decode cX3_fewestMore 78 = .ok (.if_icmp .ne 11, 3) := dz_160 (k_X3_fewestMore 1 14 rfl) (k_X3_fewestMore 1 15 rfl) (k_X3_fewestMore 1 16 rfl) rfl
theorem dX3_fewestMore_81 : decode cX3_fewestMore 81 = .ok (.aload_n 0, 1) := dz_42 (k_X3_fewestMore 1 17 rfl)
theorem dX3_fewestMore_82 : decode cX3_fewestMore 82 = .ok (.iload_n 2, 1) := dz_28 (k_X3_fewestMore 1 18 rfl)
theorem dX3_fewestMore_83 : decode cX3_fewestMore 83 = .ok (.invokevirtual 136, 3) := dz_182 (k_X3_fewestMore 1 19 rfl) (k_X3_fewestMore 1 20 rfl) (k_X3_fewestMore 1 21 rfl) rfl
theorem dX3_fewestMore_86 : decode cX3_fewestMore 86 = .ok (.goto 4, 3) := dz_167 (k_X3_fewestMore 1 22 rfl) (k_X3_fewestMore 1 23 rfl) (k_X3_fewestMore 1 24 rfl) rfl
theorem dX3_fewestMore_89 : decode cX3_fewestMore 89 = .ok (.iload_n 3, 1) := dz_29 (k_X3_fewestMore 1 25 rfl)
theorem dX3_fewestMore_90 : decode cX3_fewestMore 90 = .ok (.ireturn, 1) := dz_172 (k_X3_fewestMore 1 26 rfl)
def B_X3_formulasOf : List (List Nat) := [[3, 61, 3, 62, 29, 16, 14, 162, 0, 28, 27, 29, 122, 4, 126, 153, 0, 14, 28, 4, 42, 180, 0, 23, 29, 46, 120, 128, 61, 132, 3, 1, 167, 255, 228, 28, 172]]
theorem k_X3_formulasOf (j i : Nat) {b : Nat} (h : (B_X3_formulasOf[j]?.bind fun c => c[i]?) = some b) : s_by cX3_formulasOf (64 * j + i) b := s_byC (L := B_X3_formulasOf) (by decide +kernel) (by decide +kernel) j i h
theorem dX3_formulasOf_0 : decode cX3_formulasOf 0 = .ok (.iconst 0, 1) := dz_3 (k_X3_formulasOf 0 0 rfl)
theorem dX3_formulasOf_1 : decode cX3_formulasOf 1 = .ok (.istore_n 2, 1) := dz_61 (k_X3_formulasOf 0 1 rfl)
theorem dX3_formulasOf_2 : decode cX3_formulasOf 2 = .ok (.iconst 0, 1) := dz_3 (k_X3_formulasOf 0 2 rfl)
theorem dX3_formulasOf_3 : decode cX3_formulasOf 3 = .ok (.istore_n 3, 1) := dz_62 (k_X3_formulasOf 0 3 rfl)
theorem dX3_formulasOf_4 : decode cX3_formulasOf 4 = .ok (.iload_n 3, 1) := dz_29 (k_X3_formulasOf 0 4 rfl)
theorem dX3_formulasOf_5 : decode cX3_formulasOf 5 = .ok (.bipush 14, 2) := dz_16 (k_X3_formulasOf 0 5 rfl) (k_X3_formulasOf 0 6 rfl) rfl
theorem dX3_formulasOf_7 : decode cX3_formulasOf 7 = .ok (.if_icmp .ge 28, 3) := dz_162 (k_X3_formulasOf 0 7 rfl) (k_X3_formulasOf 0 8 rfl) (k_X3_formulasOf 0 9 rfl) rfl
theorem dX3_formulasOf_10 : decode cX3_formulasOf 10 = .ok (.iload_n 1, 1) := dz_27 (k_X3_formulasOf 0 10 rfl)
theorem dX3_formulasOf_11 : decode cX3_formulasOf 11 = .ok (.iload_n 3, 1) := dz_29 (k_X3_formulasOf 0 11 rfl)
theorem dX3_formulasOf_12 : decode cX3_formulasOf 12 = .ok (.ishr, 1) := dz_122 (k_X3_formulasOf 0 12 rfl)
theorem dX3_formulasOf_13 : decode cX3_formulasOf 13 = .ok (.iconst 1, 1) := dz_4 (k_X3_formulasOf 0 13 rfl)
theorem dX3_formulasOf_14 : decode cX3_formulasOf 14 = .ok (.iand, 1) := dz_126 (k_X3_formulasOf 0 14 rfl)
theorem dX3_formulasOf_15 : decode cX3_formulasOf 15 = .ok (.ifCond .eq 14, 3) := dz_153 (k_X3_formulasOf 0 15 rfl) (k_X3_formulasOf 0 16 rfl) (k_X3_formulasOf 0 17 rfl) rfl
theorem dX3_formulasOf_18 : decode cX3_formulasOf 18 = .ok (.iload_n 2, 1) := dz_28 (k_X3_formulasOf 0 18 rfl)
theorem dX3_formulasOf_19 : decode cX3_formulasOf 19 = .ok (.iconst 1, 1) := dz_4 (k_X3_formulasOf 0 19 rfl)
theorem dX3_formulasOf_20 : decode cX3_formulasOf 20 = .ok (.aload_n 0, 1) := dz_42 (k_X3_formulasOf 0 20 rfl)
theorem dX3_formulasOf_21 : decode cX3_formulasOf 21 = .ok (.getfield 23, 3) := dz_180 (k_X3_formulasOf 0 21 rfl) (k_X3_formulasOf 0 22 rfl) (k_X3_formulasOf 0 23 rfl) rfl
theorem dX3_formulasOf_24 : decode cX3_formulasOf 24 = .ok (.iload_n 3, 1) := dz_29 (k_X3_formulasOf 0 24 rfl)
theorem dX3_formulasOf_25 : decode cX3_formulasOf 25 = .ok (.iaload, 1) := dz_46 (k_X3_formulasOf 0 25 rfl)
theorem dX3_formulasOf_26 : decode cX3_formulasOf 26 = .ok (.ishl, 1) := dz_120 (k_X3_formulasOf 0 26 rfl)
theorem dX3_formulasOf_27 : decode cX3_formulasOf 27 = .ok (.ior, 1) := dz_128 (k_X3_formulasOf 0 27 rfl)
theorem dX3_formulasOf_28 : decode cX3_formulasOf 28 = .ok (.istore_n 2, 1) := dz_61 (k_X3_formulasOf 0 28 rfl)
theorem dX3_formulasOf_29 : decode cX3_formulasOf 29 = .ok (.iinc 3 1, 3) := dz_132 (k_X3_formulasOf 0 29 rfl) (k_X3_formulasOf 0 30 rfl) (k_X3_formulasOf 0 31 rfl) rfl
theorem dX3_formulasOf_32 : decode cX3_formulasOf 32 = .ok (.goto (-28), 3) := dz_167 (k_X3_formulasOf 0 32 rfl) (k_X3_formulasOf 0 33 rfl) (k_X3_formulasOf 0 34 rfl) rfl
theorem dX3_formulasOf_35 : decode cX3_formulasOf 35 = .ok (.iload_n 2, 1) := dz_28 (k_X3_formulasOf 0 35 rfl)
theorem dX3_formulasOf_36 : decode cX3_formulasOf 36 = .ok (.ireturn, 1) := dz_172 (k_X3_formulasOf 0 36 rfl)
def B_X3_gather : List (List Nat) := [[44, 20, 0, 56, 184, 0, 58, 3, 62, 29, 42, 180, 0, 30, 180, 0, 48, 162, 0, 24, 27, 29, 122, 4, 126, 153, 0, 10, 42, 44, 29, 44, 182, 0, 64, 132, 3, 1, 167, 255, 227, 177]]
theorem k_X3_gather (j i : Nat) {b : Nat} (h : (B_X3_gather[j]?.bind fun c => c[i]?) = some b) : s_by cX3_gather (64 * j + i) b := s_byC (L := B_X3_gather) (by decide +kernel) (by decide +kernel) j i h
theorem dX3_gather_0 : decode cX3_gather 0 = .ok (.aload_n 2, 1) := dz_44 (k_X3_gather 0 0 rfl)
theorem dX3_gather_1 : decode cX3_gather 1 = .ok (.ldc2_w 56, 3) := dz_20 (k_X3_gather 0 1 rfl) (k_X3_gather 0 2 rfl) (k_X3_gather 0 3 rfl) rfl
theorem dX3_gather_4 : decode cX3_gather 4 = .ok (.invokestatic 58, 3) := dz_184 (k_X3_gather 0 4 rfl) (k_X3_gather 0 5 rfl) (k_X3_gather 0 6 rfl) rfl
theorem dX3_gather_7 : decode cX3_gather 7 = .ok (.iconst 0, 1) := dz_3 (k_X3_gather 0 7 rfl)
theorem dX3_gather_8 : decode cX3_gather 8 = .ok (.istore_n 3, 1) := dz_62 (k_X3_gather 0 8 rfl)
theorem dX3_gather_9 : decode cX3_gather 9 = .ok (.iload_n 3, 1) := dz_29 (k_X3_gather 0 9 rfl)
theorem dX3_gather_10 : decode cX3_gather 10 = .ok (.aload_n 0, 1) := dz_42 (k_X3_gather 0 10 rfl)
theorem dX3_gather_11 : decode cX3_gather 11 = .ok (.getfield 30, 3) := dz_180 (k_X3_gather 0 11 rfl) (k_X3_gather 0 12 rfl) (k_X3_gather 0 13 rfl) rfl
theorem dX3_gather_14 : decode cX3_gather 14 = .ok (.getfield 48, 3) := dz_180 (k_X3_gather 0 14 rfl) (k_X3_gather 0 15 rfl) (k_X3_gather 0 16 rfl) rfl
theorem dX3_gather_17 : decode cX3_gather 17 = .ok (.if_icmp .ge 24, 3) := dz_162 (k_X3_gather 0 17 rfl) (k_X3_gather 0 18 rfl) (k_X3_gather 0 19 rfl) rfl
theorem dX3_gather_20 : decode cX3_gather 20 = .ok (.iload_n 1, 1) := dz_27 (k_X3_gather 0 20 rfl)
theorem dX3_gather_21 : decode cX3_gather 21 = .ok (.iload_n 3, 1) := dz_29 (k_X3_gather 0 21 rfl)
theorem dX3_gather_22 : decode cX3_gather 22 = .ok (.ishr, 1) := dz_122 (k_X3_gather 0 22 rfl)
theorem dX3_gather_23 : decode cX3_gather 23 = .ok (.iconst 1, 1) := dz_4 (k_X3_gather 0 23 rfl)
theorem dX3_gather_24 : decode cX3_gather 24 = .ok (.iand, 1) := dz_126 (k_X3_gather 0 24 rfl)
theorem dX3_gather_25 : decode cX3_gather 25 = .ok (.ifCond .eq 10, 3) := dz_153 (k_X3_gather 0 25 rfl) (k_X3_gather 0 26 rfl) (k_X3_gather 0 27 rfl) rfl
theorem dX3_gather_28 : decode cX3_gather 28 = .ok (.aload_n 0, 1) := dz_42 (k_X3_gather 0 28 rfl)
theorem dX3_gather_29 : decode cX3_gather 29 = .ok (.aload_n 2, 1) := dz_44 (k_X3_gather 0 29 rfl)
theorem dX3_gather_30 : decode cX3_gather 30 = .ok (.iload_n 3, 1) := dz_29 (k_X3_gather 0 30 rfl)
theorem dX3_gather_31 : decode cX3_gather 31 = .ok (.aload_n 2, 1) := dz_44 (k_X3_gather 0 31 rfl)
theorem dX3_gather_32 : decode cX3_gather 32 = .ok (.invokevirtual 64, 3) := dz_182 (k_X3_gather 0 32 rfl) (k_X3_gather 0 33 rfl) (k_X3_gather 0 34 rfl) rfl
theorem dX3_gather_35 : decode cX3_gather 35 = .ok (.iinc 3 1, 3) := dz_132 (k_X3_gather 0 35 rfl) (k_X3_gather 0 36 rfl) (k_X3_gather 0 37 rfl) rfl
theorem dX3_gather_38 : decode cX3_gather 38 = .ok (.goto (-29), 3) := dz_167 (k_X3_gather 0 38 rfl) (k_X3_gather 0 39 rfl) (k_X3_gather 0 40 rfl) rfl
theorem dX3_gather_41 : decode cX3_gather 41 = .ok (.return_, 1) := dz_177 (k_X3_gather 0 41 rfl)
def B_X3_holdAlike : List (List Nat) := [[3, 62, 29, 42, 180, 0, 30, 182, 0, 34, 162, 0, 33, 42, 180, 0, 30, 27, 29, 182, 0, 38, 42, 180, 0, 30, 28, 29, 182, 0, 38, 148, 153, 0, 5, 3, 172, 132, 3, 1, 167, 255, 218, 4, 172]]
theorem k_X3_holdAlike (j i : Nat) {b : Nat} (h : (B_X3_holdAlike[j]?.bind fun c => c[i]?) = some b) : s_by cX3_holdAlike (64 * j + i) b := s_byC (L := B_X3_holdAlike) (by decide +kernel) (by decide +kernel) j i h
theorem dX3_holdAlike_0 : decode cX3_holdAlike 0 = .ok (.iconst 0, 1) := dz_3 (k_X3_holdAlike 0 0 rfl)
theorem dX3_holdAlike_1 : decode cX3_holdAlike 1 = .ok (.istore_n 3, 1) := dz_62 (k_X3_holdAlike 0 1 rfl)
theorem dX3_holdAlike_2 : decode cX3_holdAlike 2 = .ok (.iload_n 3, 1) := dz_29 (k_X3_holdAlike 0 2 rfl)
theorem dX3_holdAlike_3 : decode cX3_holdAlike 3 = .ok (.aload_n 0, 1) := dz_42 (k_X3_holdAlike 0 3 rfl)
theorem dX3_holdAlike_4 : decode cX3_holdAlike 4 = .ok (.getfield 30, 3) := dz_180 (k_X3_holdAlike 0 4 rfl) (k_X3_holdAlike 0 5 rfl) (k_X3_holdAlike 0 6 rfl) rfl
theorem dX3_holdAlike_7 : decode cX3_holdAlike 7 = .ok (.invokevirtual 34, 3) := dz_182 (k_X3_holdAlike 0 7 rfl) (k_X3_holdAlike 0 8 rfl) (k_X3_holdAlike 0 9 rfl) rfl
theorem dX3_holdAlike_10 : decode cX3_holdAlike 10 = .ok (.if_icmp .ge 33, 3) := dz_162 (k_X3_holdAlike 0 10 rfl) (k_X3_holdAlike 0 11 rfl) (k_X3_holdAlike 0 12 rfl) rfl
theorem dX3_holdAlike_13 : decode cX3_holdAlike 13 = .ok (.aload_n 0, 1) := dz_42 (k_X3_holdAlike 0 13 rfl)
theorem dX3_holdAlike_14 : decode cX3_holdAlike 14 = .ok (.getfield 30, 3) := dz_180 (k_X3_holdAlike 0 14 rfl) (k_X3_holdAlike 0 15 rfl) (k_X3_holdAlike 0 16 rfl) rfl
theorem dX3_holdAlike_17 : decode cX3_holdAlike 17 = .ok (.iload_n 1, 1) := dz_27 (k_X3_holdAlike 0 17 rfl)
theorem dX3_holdAlike_18 : decode cX3_holdAlike 18 = .ok (.iload_n 3, 1) := dz_29 (k_X3_holdAlike 0 18 rfl)
theorem dX3_holdAlike_19 : decode cX3_holdAlike 19 = .ok (.invokevirtual 38, 3) := dz_182 (k_X3_holdAlike 0 19 rfl) (k_X3_holdAlike 0 20 rfl) (k_X3_holdAlike 0 21 rfl) rfl
theorem dX3_holdAlike_22 : decode cX3_holdAlike 22 = .ok (.aload_n 0, 1) := dz_42 (k_X3_holdAlike 0 22 rfl)
theorem dX3_holdAlike_23 : decode cX3_holdAlike 23 = .ok (.getfield 30, 3) := dz_180 (k_X3_holdAlike 0 23 rfl) (k_X3_holdAlike 0 24 rfl) (k_X3_holdAlike 0 25 rfl) rfl
theorem dX3_holdAlike_26 : decode cX3_holdAlike 26 = .ok (.iload_n 2, 1) := dz_28 (k_X3_holdAlike 0 26 rfl)
theorem dX3_holdAlike_27 : decode cX3_holdAlike 27 = .ok (.iload_n 3, 1) := dz_29 (k_X3_holdAlike 0 27 rfl)
theorem dX3_holdAlike_28 : decode cX3_holdAlike 28 = .ok (.invokevirtual 38, 3) := dz_182 (k_X3_holdAlike 0 28 rfl) (k_X3_holdAlike 0 29 rfl) (k_X3_holdAlike 0 30 rfl) rfl
theorem dX3_holdAlike_31 : decode cX3_holdAlike 31 = .ok (.lcmp, 1) := dz_148 (k_X3_holdAlike 0 31 rfl)
theorem dX3_holdAlike_32 : decode cX3_holdAlike 32 = .ok (.ifCond .eq 5, 3) := dz_153 (k_X3_holdAlike 0 32 rfl) (k_X3_holdAlike 0 33 rfl) (k_X3_holdAlike 0 34 rfl) rfl
theorem dX3_holdAlike_35 : decode cX3_holdAlike 35 = .ok (.iconst 0, 1) := dz_3 (k_X3_holdAlike 0 35 rfl)
theorem dX3_holdAlike_36 : decode cX3_holdAlike 36 = .ok (.ireturn, 1) := dz_172 (k_X3_holdAlike 0 36 rfl)
theorem dX3_holdAlike_37 : decode cX3_holdAlike 37 = .ok (.iinc 3 1, 3) := dz_132 (k_X3_holdAlike 0 37 rfl) (k_X3_holdAlike 0 38 rfl) (k_X3_holdAlike 0 39 rfl) rfl
theorem dX3_holdAlike_40 : decode cX3_holdAlike 40 = .ok (.goto (-38), 3) := dz_167 (k_X3_holdAlike 0 40 rfl) (k_X3_holdAlike 0 41 rfl) (k_X3_holdAlike 0 42 rfl) rfl
theorem dX3_holdAlike_43 : decode cX3_holdAlike 43 = .ok (.iconst 1, 1) := dz_4 (k_X3_holdAlike 0 43 rfl)
theorem dX3_holdAlike_44 : decode cX3_holdAlike 44 = .ok (.ireturn, 1) := dz_172 (k_X3_holdAlike 0 44 rfl)
def B_X3_idleIn : List (List Nat) := [[3, 61, 3, 62, 29, 42, 180, 0, 30, 180, 0, 48, 162, 0, 41, 4, 29, 120, 54, 4, 27, 21, 4, 126, 153, 0, 23, 42, 27, 21, 4, 2, 130, 126, 29, 182, 0, 83, 2, 160, 0, 8, 28, 21, 4, 128, 61, 132, 3, 1, 167, 255, 210, 28, 172]]
theorem k_X3_idleIn (j i : Nat) {b : Nat} (h : (B_X3_idleIn[j]?.bind fun c => c[i]?) = some b) : s_by cX3_idleIn (64 * j + i) b := s_byC (L := B_X3_idleIn) (by decide +kernel) (by decide +kernel) j i h
theorem dX3_idleIn_0 : decode cX3_idleIn 0 = .ok (.iconst 0, 1) := dz_3 (k_X3_idleIn 0 0 rfl)
theorem dX3_idleIn_1 : decode cX3_idleIn 1 = .ok (.istore_n 2, 1) := dz_61 (k_X3_idleIn 0 1 rfl)
theorem dX3_idleIn_2 : decode cX3_idleIn 2 = .ok (.iconst 0, 1) := dz_3 (k_X3_idleIn 0 2 rfl)
theorem dX3_idleIn_3 : decode cX3_idleIn 3 = .ok (.istore_n 3, 1) := dz_62 (k_X3_idleIn 0 3 rfl)
theorem dX3_idleIn_4 : decode cX3_idleIn 4 = .ok (.iload_n 3, 1) := dz_29 (k_X3_idleIn 0 4 rfl)
theorem dX3_idleIn_5 : decode cX3_idleIn 5 = .ok (.aload_n 0, 1) := dz_42 (k_X3_idleIn 0 5 rfl)
theorem dX3_idleIn_6 : decode cX3_idleIn 6 = .ok (.getfield 30, 3) := dz_180 (k_X3_idleIn 0 6 rfl) (k_X3_idleIn 0 7 rfl) (k_X3_idleIn 0 8 rfl) rfl
theorem dX3_idleIn_9 : decode cX3_idleIn 9 = .ok (.getfield 48, 3) := dz_180 (k_X3_idleIn 0 9 rfl) (k_X3_idleIn 0 10 rfl) (k_X3_idleIn 0 11 rfl) rfl
theorem dX3_idleIn_12 : decode cX3_idleIn 12 = .ok (.if_icmp .ge 41, 3) := dz_162 (k_X3_idleIn 0 12 rfl) (k_X3_idleIn 0 13 rfl) (k_X3_idleIn 0 14 rfl) rfl
theorem dX3_idleIn_15 : decode cX3_idleIn 15 = .ok (.iconst 1, 1) := dz_4 (k_X3_idleIn 0 15 rfl)
theorem dX3_idleIn_16 : decode cX3_idleIn 16 = .ok (.iload_n 3, 1) := dz_29 (k_X3_idleIn 0 16 rfl)
theorem dX3_idleIn_17 : decode cX3_idleIn 17 = .ok (.ishl, 1) := dz_120 (k_X3_idleIn 0 17 rfl)
theorem dX3_idleIn_18 : decode cX3_idleIn 18 = .ok (.istore 4, 2) := dz_54 (k_X3_idleIn 0 18 rfl) (k_X3_idleIn 0 19 rfl)
theorem dX3_idleIn_20 : decode cX3_idleIn 20 = .ok (.iload_n 1, 1) := dz_27 (k_X3_idleIn 0 20 rfl)
theorem dX3_idleIn_21 : decode cX3_idleIn 21 = .ok (.iload 4, 2) := dz_21 (k_X3_idleIn 0 21 rfl) (k_X3_idleIn 0 22 rfl)
theorem dX3_idleIn_23 : decode cX3_idleIn 23 = .ok (.iand, 1) := dz_126 (k_X3_idleIn 0 23 rfl)
theorem dX3_idleIn_24 : decode cX3_idleIn 24 = .ok (.ifCond .eq 23, 3) := dz_153 (k_X3_idleIn 0 24 rfl) (k_X3_idleIn 0 25 rfl) (k_X3_idleIn 0 26 rfl) rfl
theorem dX3_idleIn_27 : decode cX3_idleIn 27 = .ok (.aload_n 0, 1) := dz_42 (k_X3_idleIn 0 27 rfl)
theorem dX3_idleIn_28 : decode cX3_idleIn 28 = .ok (.iload_n 1, 1) := dz_27 (k_X3_idleIn 0 28 rfl)
theorem dX3_idleIn_29 : decode cX3_idleIn 29 = .ok (.iload 4, 2) := dz_21 (k_X3_idleIn 0 29 rfl) (k_X3_idleIn 0 30 rfl)
theorem dX3_idleIn_31 : decode cX3_idleIn 31 = .ok (.iconst (-1), 1) := dz_2 (k_X3_idleIn 0 31 rfl)
theorem dX3_idleIn_32 : decode cX3_idleIn 32 = .ok (.ixor, 1) := dz_130 (k_X3_idleIn 0 32 rfl)
theorem dX3_idleIn_33 : decode cX3_idleIn 33 = .ok (.iand, 1) := dz_126 (k_X3_idleIn 0 33 rfl)
theorem dX3_idleIn_34 : decode cX3_idleIn 34 = .ok (.iload_n 3, 1) := dz_29 (k_X3_idleIn 0 34 rfl)
theorem dX3_idleIn_35 : decode cX3_idleIn 35 = .ok (.invokevirtual 83, 3) := dz_182 (k_X3_idleIn 0 35 rfl) (k_X3_idleIn 0 36 rfl) (k_X3_idleIn 0 37 rfl) rfl
theorem dX3_idleIn_38 : decode cX3_idleIn 38 = .ok (.iconst (-1), 1) := dz_2 (k_X3_idleIn 0 38 rfl)
theorem dX3_idleIn_39 : decode cX3_idleIn 39 = .ok (.if_icmp .ne 8, 3) := dz_160 (k_X3_idleIn 0 39 rfl) (k_X3_idleIn 0 40 rfl) (k_X3_idleIn 0 41 rfl) rfl
theorem dX3_idleIn_42 : decode cX3_idleIn 42 = .ok (.iload_n 2, 1) := dz_28 (k_X3_idleIn 0 42 rfl)
theorem dX3_idleIn_43 : decode cX3_idleIn 43 = .ok (.iload 4, 2) := dz_21 (k_X3_idleIn 0 43 rfl) (k_X3_idleIn 0 44 rfl)
theorem dX3_idleIn_45 : decode cX3_idleIn 45 = .ok (.ior, 1) := dz_128 (k_X3_idleIn 0 45 rfl)
theorem dX3_idleIn_46 : decode cX3_idleIn 46 = .ok (.istore_n 2, 1) := dz_61 (k_X3_idleIn 0 46 rfl)
theorem dX3_idleIn_47 : decode cX3_idleIn 47 = .ok (.iinc 3 1, 3) := dz_132 (k_X3_idleIn 0 47 rfl) (k_X3_idleIn 0 48 rfl) (k_X3_idleIn 0 49 rfl) rfl
theorem dX3_idleIn_50 : decode cX3_idleIn 50 = .ok (.goto (-46), 3) := dz_167 (k_X3_idleIn 0 50 rfl) (k_X3_idleIn 0 51 rfl) (k_X3_idleIn 0 52 rfl) rfl
theorem dX3_idleIn_53 : decode cX3_idleIn 53 = .ok (.iload_n 2, 1) := dz_28 (k_X3_idleIn 0 53 rfl)
theorem dX3_idleIn_54 : decode cX3_idleIn 54 = .ok (.ireturn, 1) := dz_172 (k_X3_idleIn 0 54 rfl)
def B_X3_init : List (List Nat) := [[42, 183, 0, 3, 42, 16, 16, 188, 11, 181, 0, 11, 42, 16, 16, 188, 11, 181, 0, 17, 42, 16, 16, 188, 11, 181, 0, 20, 42, 16, 14, 188, 10, 181, 0, 23, 42, 17, 1, 0, 188, 11, 181, 0, 27, 42, 43, 181, 0, 30, 177]]
theorem k_X3_init (j i : Nat) {b : Nat} (h : (B_X3_init[j]?.bind fun c => c[i]?) = some b) : s_by cX3_init (64 * j + i) b := s_byC (L := B_X3_init) (by decide +kernel) (by decide +kernel) j i h
theorem dX3_init_0 : decode cX3_init 0 = .ok (.aload_n 0, 1) := dz_42 (k_X3_init 0 0 rfl)
theorem dX3_init_1 : decode cX3_init 1 = .ok (.invokespecial 3, 3) := dz_183 (k_X3_init 0 1 rfl) (k_X3_init 0 2 rfl) (k_X3_init 0 3 rfl) rfl
theorem dX3_init_4 : decode cX3_init 4 = .ok (.aload_n 0, 1) := dz_42 (k_X3_init 0 4 rfl)
theorem dX3_init_5 : decode cX3_init 5 = .ok (.bipush 16, 2) := dz_16 (k_X3_init 0 5 rfl) (k_X3_init 0 6 rfl) rfl
theorem dX3_init_7 : decode cX3_init 7 = .ok (.newarray .long, 2) := by decide +kernel
theorem dX3_init_9 : decode cX3_init 9 = .ok (.putfield 11, 3) := dz_181 (k_X3_init 0 9 rfl) (k_X3_init 0 10 rfl) (k_X3_init 0 11 rfl) rfl
theorem dX3_init_12 : decode cX3_init 12 = .ok (.aload_n 0, 1) := dz_42 (k_X3_init 0 12 rfl)
theorem dX3_init_13 : decode cX3_init 13 = .ok (.bipush 16, 2) := dz_16 (k_X3_init 0 13 rfl) (k_X3_init 0 14 rfl) rfl
theorem dX3_init_15 : decode cX3_init 15 = .ok (.newarray .long, 2) := by decide +kernel
theorem dX3_init_17 : decode cX3_init 17 = .ok (.putfield 17, 3) := dz_181 (k_X3_init 0 17 rfl) (k_X3_init 0 18 rfl) (k_X3_init 0 19 rfl) rfl
theorem dX3_init_20 : decode cX3_init 20 = .ok (.aload_n 0, 1) := dz_42 (k_X3_init 0 20 rfl)
theorem dX3_init_21 : decode cX3_init 21 = .ok (.bipush 16, 2) := dz_16 (k_X3_init 0 21 rfl) (k_X3_init 0 22 rfl) rfl
theorem dX3_init_23 : decode cX3_init 23 = .ok (.newarray .long, 2) := by decide +kernel
theorem dX3_init_25 : decode cX3_init 25 = .ok (.putfield 20, 3) := dz_181 (k_X3_init 0 25 rfl) (k_X3_init 0 26 rfl) (k_X3_init 0 27 rfl) rfl
theorem dX3_init_28 : decode cX3_init 28 = .ok (.aload_n 0, 1) := dz_42 (k_X3_init 0 28 rfl)
theorem dX3_init_29 : decode cX3_init 29 = .ok (.bipush 14, 2) := dz_16 (k_X3_init 0 29 rfl) (k_X3_init 0 30 rfl) rfl
theorem dX3_init_31 : decode cX3_init 31 = .ok (.newarray .int, 2) := by decide +kernel
theorem dX3_init_33 : decode cX3_init 33 = .ok (.putfield 23, 3) := dz_181 (k_X3_init 0 33 rfl) (k_X3_init 0 34 rfl) (k_X3_init 0 35 rfl) rfl
theorem dX3_init_36 : decode cX3_init 36 = .ok (.aload_n 0, 1) := dz_42 (k_X3_init 0 36 rfl)
theorem dX3_init_37 : decode cX3_init 37 = .ok (.sipush 256, 3) := dz_17 (k_X3_init 0 37 rfl) (k_X3_init 0 38 rfl) (k_X3_init 0 39 rfl) rfl
theorem dX3_init_40 : decode cX3_init 40 = .ok (.newarray .long, 2) := by decide +kernel
theorem dX3_init_42 : decode cX3_init 42 = .ok (.putfield 27, 3) := dz_181 (k_X3_init 0 42 rfl) (k_X3_init 0 43 rfl) (k_X3_init 0 44 rfl) rfl
theorem dX3_init_45 : decode cX3_init 45 = .ok (.aload_n 0, 1) := dz_42 (k_X3_init 0 45 rfl)
theorem dX3_init_46 : decode cX3_init 46 = .ok (.aload_n 1, 1) := dz_43 (k_X3_init 0 46 rfl)
theorem dX3_init_47 : decode cX3_init 47 = .ok (.putfield 30, 3) := dz_181 (k_X3_init 0 47 rfl) (k_X3_init 0 48 rfl) (k_X3_init 0 49 rfl) rfl
theorem dX3_init_50 : decode cX3_init 50 = .ok (.return_, 1) := dz_177 (k_X3_init 0 50 rfl)
def B_X3_isBetter : List (List Nat) := [[26, 184, 0, 90, 27, 184, 0, 90, 100, 61, 28, 155, 0, 12, 28, 154, 0, 12, 26, 27, 162, 0, 7, 4, 167, 0, 4, 3, 172]]
theorem k_X3_isBetter (j i : Nat) {b : Nat} (h : (B_X3_isBetter[j]?.bind fun c => c[i]?) = some b) : s_by cX3_isBetter (64 * j + i) b := s_byC (L := B_X3_isBetter) (by decide +kernel) (by decide +kernel) j i h
theorem dX3_isBetter_0 : decode cX3_isBetter 0 = .ok (.iload_n 0, 1) := dz_26 (k_X3_isBetter 0 0 rfl)
theorem dX3_isBetter_1 : decode cX3_isBetter 1 = .ok (.invokestatic 90, 3) := dz_184 (k_X3_isBetter 0 1 rfl) (k_X3_isBetter 0 2 rfl) (k_X3_isBetter 0 3 rfl) rfl
theorem dX3_isBetter_4 : decode cX3_isBetter 4 = .ok (.iload_n 1, 1) := dz_27 (k_X3_isBetter 0 4 rfl)
theorem dX3_isBetter_5 : decode cX3_isBetter 5 = .ok (.invokestatic 90, 3) := dz_184 (k_X3_isBetter 0 5 rfl) (k_X3_isBetter 0 6 rfl) (k_X3_isBetter 0 7 rfl) rfl
theorem dX3_isBetter_8 : decode cX3_isBetter 8 = .ok (.isub, 1) := dz_100 (k_X3_isBetter 0 8 rfl)
theorem dX3_isBetter_9 : decode cX3_isBetter 9 = .ok (.istore_n 2, 1) := dz_61 (k_X3_isBetter 0 9 rfl)
theorem dX3_isBetter_10 : decode cX3_isBetter 10 = .ok (.iload_n 2, 1) := dz_28 (k_X3_isBetter 0 10 rfl)
theorem dX3_isBetter_11 : decode cX3_isBetter 11 = .ok (.ifCond .lt 12, 3) := dz_155 (k_X3_isBetter 0 11 rfl) (k_X3_isBetter 0 12 rfl) (k_X3_isBetter 0 13 rfl) rfl
theorem dX3_isBetter_14 : decode cX3_isBetter 14 = .ok (.iload_n 2, 1) := dz_28 (k_X3_isBetter 0 14 rfl)
theorem dX3_isBetter_15 : decode cX3_isBetter 15 = .ok (.ifCond .ne 12, 3) := dz_154 (k_X3_isBetter 0 15 rfl) (k_X3_isBetter 0 16 rfl) (k_X3_isBetter 0 17 rfl) rfl
theorem dX3_isBetter_18 : decode cX3_isBetter 18 = .ok (.iload_n 0, 1) := dz_26 (k_X3_isBetter 0 18 rfl)
theorem dX3_isBetter_19 : decode cX3_isBetter 19 = .ok (.iload_n 1, 1) := dz_27 (k_X3_isBetter 0 19 rfl)
theorem dX3_isBetter_20 : decode cX3_isBetter 20 = .ok (.if_icmp .ge 7, 3) := dz_162 (k_X3_isBetter 0 20 rfl) (k_X3_isBetter 0 21 rfl) (k_X3_isBetter 0 22 rfl) rfl
theorem dX3_isBetter_23 : decode cX3_isBetter 23 = .ok (.iconst 1, 1) := dz_4 (k_X3_isBetter 0 23 rfl)
theorem dX3_isBetter_24 : decode cX3_isBetter 24 = .ok (.goto 4, 3) := dz_167 (k_X3_isBetter 0 24 rfl) (k_X3_isBetter 0 25 rfl) (k_X3_isBetter 0 26 rfl) rfl
theorem dX3_isBetter_27 : decode cX3_isBetter 27 = .ok (.iconst 0, 1) := dz_3 (k_X3_isBetter 0 27 rfl)
theorem dX3_isBetter_28 : decode cX3_isBetter 28 = .ok (.ireturn, 1) := dz_172 (k_X3_isBetter 0 28 rfl)
def B_X3_isEmpty : List (List Nat) := [[42, 43, 182, 0, 68, 2, 160, 0, 7, 4, 167, 0, 4, 3, 172]]
theorem k_X3_isEmpty (j i : Nat) {b : Nat} (h : (B_X3_isEmpty[j]?.bind fun c => c[i]?) = some b) : s_by cX3_isEmpty (64 * j + i) b := s_byC (L := B_X3_isEmpty) (by decide +kernel) (by decide +kernel) j i h
theorem dX3_isEmpty_0 : decode cX3_isEmpty 0 = .ok (.aload_n 0, 1) := dz_42 (k_X3_isEmpty 0 0 rfl)
theorem dX3_isEmpty_1 : decode cX3_isEmpty 1 = .ok (.aload_n 1, 1) := dz_43 (k_X3_isEmpty 0 1 rfl)
theorem dX3_isEmpty_2 : decode cX3_isEmpty 2 = .ok (.invokevirtual 68, 3) := dz_182 (k_X3_isEmpty 0 2 rfl) (k_X3_isEmpty 0 3 rfl) (k_X3_isEmpty 0 4 rfl) rfl
theorem dX3_isEmpty_5 : decode cX3_isEmpty 5 = .ok (.iconst (-1), 1) := dz_2 (k_X3_isEmpty 0 5 rfl)
theorem dX3_isEmpty_6 : decode cX3_isEmpty 6 = .ok (.if_icmp .ne 7, 3) := dz_160 (k_X3_isEmpty 0 6 rfl) (k_X3_isEmpty 0 7 rfl) (k_X3_isEmpty 0 8 rfl) rfl
theorem dX3_isEmpty_9 : decode cX3_isEmpty 9 = .ok (.iconst 1, 1) := dz_4 (k_X3_isEmpty 0 9 rfl)
theorem dX3_isEmpty_10 : decode cX3_isEmpty 10 = .ok (.goto 4, 3) := dz_167 (k_X3_isEmpty 0 10 rfl) (k_X3_isEmpty 0 11 rfl) (k_X3_isEmpty 0 12 rfl) rfl
theorem dX3_isEmpty_13 : decode cX3_isEmpty 13 = .ok (.iconst 0, 1) := dz_3 (k_X3_isEmpty 0 13 rfl)
theorem dX3_isEmpty_14 : decode cX3_isEmpty 14 = .ok (.ireturn, 1) := dz_172 (k_X3_isEmpty 0 14 rfl)
def B_X3_isOpenTo : List (List Nat) := [[42, 180, 0, 30, 27, 182, 0, 139, 42, 180, 0, 30, 28, 182, 0, 139, 159, 0, 7, 4, 167, 0, 4, 3, 172]]
theorem k_X3_isOpenTo (j i : Nat) {b : Nat} (h : (B_X3_isOpenTo[j]?.bind fun c => c[i]?) = some b) : s_by cX3_isOpenTo (64 * j + i) b := s_byC (L := B_X3_isOpenTo) (by decide +kernel) (by decide +kernel) j i h
theorem dX3_isOpenTo_0 : decode cX3_isOpenTo 0 = .ok (.aload_n 0, 1) := dz_42 (k_X3_isOpenTo 0 0 rfl)
theorem dX3_isOpenTo_1 : decode cX3_isOpenTo 1 = .ok (.getfield 30, 3) := dz_180 (k_X3_isOpenTo 0 1 rfl) (k_X3_isOpenTo 0 2 rfl) (k_X3_isOpenTo 0 3 rfl) rfl
theorem dX3_isOpenTo_4 : decode cX3_isOpenTo 4 = .ok (.iload_n 1, 1) := dz_27 (k_X3_isOpenTo 0 4 rfl)
theorem dX3_isOpenTo_5 : decode cX3_isOpenTo 5 = .ok (.invokevirtual 139, 3) := dz_182 (k_X3_isOpenTo 0 5 rfl) (k_X3_isOpenTo 0 6 rfl) (k_X3_isOpenTo 0 7 rfl) rfl
theorem dX3_isOpenTo_8 : decode cX3_isOpenTo 8 = .ok (.aload_n 0, 1) := dz_42 (k_X3_isOpenTo 0 8 rfl)
theorem dX3_isOpenTo_9 : decode cX3_isOpenTo 9 = .ok (.getfield 30, 3) := dz_180 (k_X3_isOpenTo 0 9 rfl) (k_X3_isOpenTo 0 10 rfl) (k_X3_isOpenTo 0 11 rfl) rfl
theorem dX3_isOpenTo_12 : decode cX3_isOpenTo 12 = .ok (.iload_n 2, 1) := dz_28 (k_X3_isOpenTo 0 12 rfl)
theorem dX3_isOpenTo_13 : decode cX3_isOpenTo 13 = .ok (.invokevirtual 139, 3) := dz_182 (k_X3_isOpenTo 0 13 rfl) (k_X3_isOpenTo 0 14 rfl) (k_X3_isOpenTo 0 15 rfl) rfl
theorem dX3_isOpenTo_16 : decode cX3_isOpenTo 16 = .ok (.if_icmp .eq 7, 3) := dz_159 (k_X3_isOpenTo 0 16 rfl) (k_X3_isOpenTo 0 17 rfl) (k_X3_isOpenTo 0 18 rfl) rfl
theorem dX3_isOpenTo_19 : decode cX3_isOpenTo 19 = .ok (.iconst 1, 1) := dz_4 (k_X3_isOpenTo 0 19 rfl)
theorem dX3_isOpenTo_20 : decode cX3_isOpenTo 20 = .ok (.goto 4, 3) := dz_167 (k_X3_isOpenTo 0 20 rfl) (k_X3_isOpenTo 0 21 rfl) (k_X3_isOpenTo 0 22 rfl) rfl
theorem dX3_isOpenTo_23 : decode cX3_isOpenTo 23 = .ok (.iconst 0, 1) := dz_3 (k_X3_isOpenTo 0 23 rfl)
theorem dX3_isOpenTo_24 : decode cX3_isOpenTo 24 = .ok (.ireturn, 1) := dz_172 (k_X3_isOpenTo 0 24 rfl)
