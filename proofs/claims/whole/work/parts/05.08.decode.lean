def B_X8_holds : List (List Nat) := [[42, 3, 181, 0, 3, 42, 42, 27, 182, 0, 231, 4, 182, 0, 224, 154, 0, 29, 42, 42, 28, 182, 0, 240, 5, 182, 0, 224, 154, 0, 16, 42, 27, 28, 182, 0, 243, 153, 0, 7, 4, 167, 0, 4, 3, 172]]
theorem k_X8_holds (j i : Nat) {b : Nat} (h : (B_X8_holds[j]?.bind fun c => c[i]?) = some b) : s_by cX8_holds (64 * j + i) b := s_byC (L := B_X8_holds) (by decide +kernel) (by decide +kernel) j i h
theorem dX8_holds_0 : decode cX8_holds 0 = .ok (.aload_n 0, 1) := dz_42 (k_X8_holds 0 0 rfl)
theorem dX8_holds_1 : decode cX8_holds 1 = .ok (.iconst 0, 1) := dz_3 (k_X8_holds 0 1 rfl)
theorem dX8_holds_2 : decode cX8_holds 2 = .ok (.putfield 3, 3) := dz_181 (k_X8_holds 0 2 rfl) (k_X8_holds 0 3 rfl) (k_X8_holds 0 4 rfl) rfl
theorem dX8_holds_5 : decode cX8_holds 5 = .ok (.aload_n 0, 1) := dz_42 (k_X8_holds 0 5 rfl)
theorem dX8_holds_6 : decode cX8_holds 6 = .ok (.aload_n 0, 1) := dz_42 (k_X8_holds 0 6 rfl)
theorem dX8_holds_7 : decode cX8_holds 7 = .ok (.iload_n 1, 1) := dz_27 (k_X8_holds 0 7 rfl)
theorem dX8_holds_8 : decode cX8_holds 8 = .ok (.invokevirtual 231, 3) := dz_182 (k_X8_holds 0 8 rfl) (k_X8_holds 0 9 rfl) (k_X8_holds 0 10 rfl) rfl
theorem dX8_holds_11 : decode cX8_holds 11 = .ok (.iconst 1, 1) := dz_4 (k_X8_holds 0 11 rfl)
theorem dX8_holds_12 : decode cX8_holds 12 = .ok (.invokevirtual 224, 3) := dz_182 (k_X8_holds 0 12 rfl) (k_X8_holds 0 13 rfl) (k_X8_holds 0 14 rfl) rfl
theorem dX8_holds_15 : decode cX8_holds 15 = .ok (.ifCond .ne 29, 3) := dz_154 (k_X8_holds 0 15 rfl) (k_X8_holds 0 16 rfl) (k_X8_holds 0 17 rfl) rfl
theorem dX8_holds_18 : decode cX8_holds 18 = .ok (.aload_n 0, 1) := dz_42 (k_X8_holds 0 18 rfl)
theorem dX8_holds_19 : decode cX8_holds 19 = .ok (.aload_n 0, 1) := dz_42 (k_X8_holds 0 19 rfl)
theorem dX8_holds_20 : decode cX8_holds 20 = .ok (.iload_n 2, 1) := dz_28 (k_X8_holds 0 20 rfl)
theorem dX8_holds_21 : decode cX8_holds 21 = .ok (.invokevirtual 240, 3) := dz_182 (k_X8_holds 0 21 rfl) (k_X8_holds 0 22 rfl) (k_X8_holds 0 23 rfl) rfl
theorem dX8_holds_24 : decode cX8_holds 24 = .ok (.iconst 2, 1) := dz_5 (k_X8_holds 0 24 rfl)
theorem dX8_holds_25 : decode cX8_holds 25 = .ok (.invokevirtual 224, 3) := dz_182 (k_X8_holds 0 25 rfl) (k_X8_holds 0 26 rfl) (k_X8_holds 0 27 rfl) rfl
theorem dX8_holds_28 : decode cX8_holds 28 = .ok (.ifCond .ne 16, 3) := dz_154 (k_X8_holds 0 28 rfl) (k_X8_holds 0 29 rfl) (k_X8_holds 0 30 rfl) rfl
theorem dX8_holds_31 : decode cX8_holds 31 = .ok (.aload_n 0, 1) := dz_42 (k_X8_holds 0 31 rfl)
theorem dX8_holds_32 : decode cX8_holds 32 = .ok (.iload_n 1, 1) := dz_27 (k_X8_holds 0 32 rfl)
theorem dX8_holds_33 : decode cX8_holds 33 = .ok (.iload_n 2, 1) := dz_28 (k_X8_holds 0 33 rfl)
theorem dX8_holds_34 : decode cX8_holds 34 = .ok (.invokevirtual 243, 3) := dz_182 (k_X8_holds 0 34 rfl) (k_X8_holds 0 35 rfl) (k_X8_holds 0 36 rfl) rfl
theorem dX8_holds_37 : decode cX8_holds 37 = .ok (.ifCond .eq 7, 3) := dz_153 (k_X8_holds 0 37 rfl) (k_X8_holds 0 38 rfl) (k_X8_holds 0 39 rfl) rfl
theorem dX8_holds_40 : decode cX8_holds 40 = .ok (.iconst 1, 1) := dz_4 (k_X8_holds 0 40 rfl)
theorem dX8_holds_41 : decode cX8_holds 41 = .ok (.goto 4, 3) := dz_167 (k_X8_holds 0 41 rfl) (k_X8_holds 0 42 rfl) (k_X8_holds 0 43 rfl) rfl
theorem dX8_holds_44 : decode cX8_holds 44 = .ok (.iconst 0, 1) := dz_3 (k_X8_holds 0 44 rfl)
theorem dX8_holds_45 : decode cX8_holds 45 = .ok (.ireturn, 1) := dz_172 (k_X8_holds 0 45 rfl)
def B_X8_idle : List (List Nat) := [[42, 3, 181, 0, 3, 42, 27, 184, 0, 249, 4, 182, 0, 224, 153, 0, 5, 3, 172, 3, 61, 3, 62, 29, 42, 182, 0, 103, 162, 0, 51, 28, 42, 27, 182, 0, 252, 29, 122, 4, 126, 4, 160, 0, 28, 42, 42, 27, 182, 0, 252, 4, 29, 120, 2, 130, 126, 29, 182, 1, 69, 156, 0, 9], [4, 29, 120, 167, 0, 4, 3, 128, 61, 132, 3, 1, 167, 255, 203, 28, 172]]
theorem k_X8_idle (j i : Nat) {b : Nat} (h : (B_X8_idle[j]?.bind fun c => c[i]?) = some b) : s_by cX8_idle (64 * j + i) b := s_byC (L := B_X8_idle) (by decide +kernel) (by decide +kernel) j i h
theorem dX8_idle_0 : decode cX8_idle 0 = .ok (.aload_n 0, 1) := dz_42 (k_X8_idle 0 0 rfl)
theorem dX8_idle_1 : decode cX8_idle 1 = .ok (.iconst 0, 1) := dz_3 (k_X8_idle 0 1 rfl)
theorem dX8_idle_2 : decode cX8_idle 2 = .ok (.putfield 3, 3) := dz_181 (k_X8_idle 0 2 rfl) (k_X8_idle 0 3 rfl) (k_X8_idle 0 4 rfl) rfl
theorem dX8_idle_5 : decode cX8_idle 5 = .ok (.aload_n 0, 1) := dz_42 (k_X8_idle 0 5 rfl)
theorem dX8_idle_6 : decode cX8_idle 6 = .ok (.iload_n 1, 1) := dz_27 (k_X8_idle 0 6 rfl)
theorem dX8_idle_7 : decode cX8_idle 7 = .ok (.invokestatic 249, 3) := dz_184 (k_X8_idle 0 7 rfl) (k_X8_idle 0 8 rfl) (k_X8_idle 0 9 rfl) rfl
theorem dX8_idle_10 : decode cX8_idle 10 = .ok (.iconst 1, 1) := dz_4 (k_X8_idle 0 10 rfl)
theorem dX8_idle_11 : decode cX8_idle 11 = .ok (.invokevirtual 224, 3) := dz_182 (k_X8_idle 0 11 rfl) (k_X8_idle 0 12 rfl) (k_X8_idle 0 13 rfl) rfl
theorem dX8_idle_14 : decode cX8_idle 14 = .ok (.ifCond .eq 5, 3) := dz_153 (k_X8_idle 0 14 rfl) (k_X8_idle 0 15 rfl) (k_X8_idle 0 16 rfl) rfl
theorem dX8_idle_17 : decode cX8_idle 17 = .ok (.iconst 0, 1) := dz_3 (k_X8_idle 0 17 rfl)
theorem dX8_idle_18 : decode cX8_idle 18 = .ok (.ireturn, 1) := dz_172 (k_X8_idle 0 18 rfl)
theorem dX8_idle_19 : decode cX8_idle 19 = .ok (.iconst 0, 1) := dz_3 (k_X8_idle 0 19 rfl)
theorem dX8_idle_20 : decode cX8_idle 20 = .ok (.istore_n 2, 1) := dz_61 (k_X8_idle 0 20 rfl)
theorem dX8_idle_21 : decode cX8_idle 21 = .ok (.iconst 0, 1) := dz_3 (k_X8_idle 0 21 rfl)
theorem dX8_idle_22 : decode cX8_idle 22 = .ok (.istore_n 3, 1) := dz_62 (k_X8_idle 0 22 rfl)
theorem dX8_idle_23 : decode cX8_idle 23 = .ok (.iload_n 3, 1) := dz_29 (k_X8_idle 0 23 rfl)
theorem dX8_idle_24 : decode cX8_idle 24 = .ok (.aload_n 0, 1) := dz_42 (k_X8_idle 0 24 rfl)
theorem dX8_idle_25 : decode cX8_idle 25 = .ok (.invokevirtual 103, 3) := dz_182 (k_X8_idle 0 25 rfl) (k_X8_idle 0 26 rfl) (k_X8_idle 0 27 rfl) rfl
theorem dX8_idle_28 : decode cX8_idle 28 = .ok (.if_icmp .ge 51, 3) := dz_162 (k_X8_idle 0 28 rfl) (k_X8_idle 0 29 rfl) (k_X8_idle 0 30 rfl) rfl
theorem dX8_idle_31 : decode cX8_idle 31 = .ok (.iload_n 2, 1) := dz_28 (k_X8_idle 0 31 rfl)
theorem dX8_idle_32 : decode cX8_idle 32 = .ok (.aload_n 0, 1) := dz_42 (k_X8_idle 0 32 rfl)
theorem dX8_idle_33 : decode cX8_idle 33 = .ok (.iload_n 1, 1) := dz_27 (k_X8_idle 0 33 rfl)
theorem dX8_idle_34 : decode cX8_idle 34 = .ok (.invokevirtual 252, 3) := dz_182 (k_X8_idle 0 34 rfl) (k_X8_idle 0 35 rfl) (k_X8_idle 0 36 rfl) rfl
theorem dX8_idle_37 : decode cX8_idle 37 = .ok (.iload_n 3, 1) := dz_29 (k_X8_idle 0 37 rfl)
theorem dX8_idle_38 : decode cX8_idle 38 = .ok (.ishr, 1) := dz_122 (k_X8_idle 0 38 rfl)
theorem dX8_idle_39 : decode cX8_idle 39 = .ok (.iconst 1, 1) := dz_4 (k_X8_idle 0 39 rfl)
theorem dX8_idle_40 : decode cX8_idle 40 = .ok (.iand, 1) := dz_126 (k_X8_idle 0 40 rfl)
theorem dX8_idle_41 : decode cX8_idle 41 = .ok (.iconst 1, 1) := dz_4 (k_X8_idle 0 41 rfl)
theorem dX8_idle_42 : decode cX8_idle 42 = .ok (.if_icmp .ne 28, 3) := dz_160 (k_X8_idle 0 42 rfl) (k_X8_idle 0 43 rfl) (k_X8_idle 0 44 rfl) rfl
theorem dX8_idle_45 : decode cX8_idle 45 = .ok (.aload_n 0, 1) := dz_42 (k_X8_idle 0 45 rfl)
theorem dX8_idle_46 : decode cX8_idle 46 = .ok (.aload_n 0, 1) := dz_42 (k_X8_idle 0 46 rfl)
theorem dX8_idle_47 : decode cX8_idle 47 = .ok (.iload_n 1, 1) := dz_27 (k_X8_idle 0 47 rfl)
theorem dX8_idle_48 : decode cX8_idle 48 = .ok (.invokevirtual 252, 3) := dz_182 (k_X8_idle 0 48 rfl) (k_X8_idle 0 49 rfl) (k_X8_idle 0 50 rfl) rfl
theorem dX8_idle_51 : decode cX8_idle 51 = .ok (.iconst 1, 1) := dz_4 (k_X8_idle 0 51 rfl)
theorem dX8_idle_52 : decode cX8_idle 52 = .ok (.iload_n 3, 1) := dz_29 (k_X8_idle 0 52 rfl)
theorem dX8_idle_53 : decode cX8_idle 53 = .ok (.ishl, 1) := dz_120 (k_X8_idle 0 53 rfl)
theorem dX8_idle_54 : decode cX8_idle 54 = .ok (.iconst (-1), 1) := dz_2 (k_X8_idle 0 54 rfl)
theorem dX8_idle_55 : decode cX8_idle 55 = .ok (.ixor, 1) := dz_130 (k_X8_idle 0 55 rfl)
theorem dX8_idle_56 : decode cX8_idle 56 = .ok (.iand, 1) := dz_126 (k_X8_idle 0 56 rfl)
theorem dX8_idle_57 : decode cX8_idle 57 = .ok (.iload_n 3, 1) := dz_29 (k_X8_idle 0 57 rfl)
theorem dX8_idle_58 : decode cX8_idle 58 = .ok (.invokevirtual 325, 3) := dz_182 (k_X8_idle 0 58 rfl) (k_X8_idle 0 59 rfl) (k_X8_idle 0 60 rfl) rfl
theorem dX8_idle_61 : decode cX8_idle 61 = .ok (.ifCond .ge 9, 3) := dz_156 (k_X8_idle 0 61 rfl) (k_X8_idle 0 62 rfl) (k_X8_idle 0 63 rfl) rfl
theorem dX8_idle_64 : decode cX8_idle 64 = .ok (.iconst 1, 1) := dz_4 (k_X8_idle 1 0 rfl)
theorem dX8_idle_65 : decode cX8_idle 65 = .ok (.iload_n 3, 1) := dz_29 (k_X8_idle 1 1 rfl)
theorem dX8_idle_66 : decode cX8_idle 66 = .ok (.ishl, 1) := dz_120 (k_X8_idle 1 2 rfl)
theorem dX8_idle_67 : decode cX8_idle 67 = .ok (.goto 4, 3) := dz_167 (k_X8_idle 1 3 rfl) (k_X8_idle 1 4 rfl) (k_X8_idle 1 5 rfl) rfl
theorem dX8_idle_70 : decode cX8_idle 70 = .ok (.iconst 0, 1) := dz_3 (k_X8_idle 1 6 rfl)
theorem dX8_idle_71 : decode cX8_idle 71 = .ok (.ior, 1) := dz_128 (k_X8_idle 1 7 rfl)
theorem dX8_idle_72 : decode cX8_idle 72 = .ok (.istore_n 2, 1) := dz_61 (k_X8_idle 1 8 rfl)
theorem dX8_idle_73 : decode cX8_idle 73 = .ok (.iinc 3 1, 3) := dz_132 (k_X8_idle 1 9 rfl) (k_X8_idle 1 10 rfl) (k_X8_idle 1 11 rfl) rfl
theorem dX8_idle_76 : decode cX8_idle 76 = .ok (.goto (-53), 3) := dz_167 (k_X8_idle 1 12 rfl) (k_X8_idle 1 13 rfl) (k_X8_idle 1 14 rfl) rfl
theorem dX8_idle_79 : decode cX8_idle 79 = .ok (.iload_n 2, 1) := dz_28 (k_X8_idle 1 15 rfl)
theorem dX8_idle_80 : decode cX8_idle 80 = .ok (.ireturn, 1) := dz_172 (k_X8_idle 1 16 rfl)
def B_X8_image : List (List Nat) := [[42, 3, 181, 0, 3, 3, 60, 27, 17, 6, 146, 162, 0, 21, 42, 180, 0, 17, 27, 42, 180, 0, 13, 27, 46, 79, 132, 1, 1, 167, 255, 234, 42, 4, 181, 0, 96, 177]]
theorem k_X8_image (j i : Nat) {b : Nat} (h : (B_X8_image[j]?.bind fun c => c[i]?) = some b) : s_by cX8_image (64 * j + i) b := s_byC (L := B_X8_image) (by decide +kernel) (by decide +kernel) j i h
theorem dX8_image_0 : decode cX8_image 0 = .ok (.aload_n 0, 1) := dz_42 (k_X8_image 0 0 rfl)
theorem dX8_image_1 : decode cX8_image 1 = .ok (.iconst 0, 1) := dz_3 (k_X8_image 0 1 rfl)
theorem dX8_image_2 : decode cX8_image 2 = .ok (.putfield 3, 3) := dz_181 (k_X8_image 0 2 rfl) (k_X8_image 0 3 rfl) (k_X8_image 0 4 rfl) rfl
theorem dX8_image_5 : decode cX8_image 5 = .ok (.iconst 0, 1) := dz_3 (k_X8_image 0 5 rfl)
theorem dX8_image_6 : decode cX8_image 6 = .ok (.istore_n 1, 1) := dz_60 (k_X8_image 0 6 rfl)
theorem dX8_image_7 : decode cX8_image 7 = .ok (.iload_n 1, 1) := dz_27 (k_X8_image 0 7 rfl)
theorem dX8_image_8 : decode cX8_image 8 = .ok (.sipush 1682, 3) := dz_17 (k_X8_image 0 8 rfl) (k_X8_image 0 9 rfl) (k_X8_image 0 10 rfl) rfl
theorem dX8_image_11 : decode cX8_image 11 = .ok (.if_icmp .ge 21, 3) := dz_162 (k_X8_image 0 11 rfl) (k_X8_image 0 12 rfl) (k_X8_image 0 13 rfl) rfl
theorem dX8_image_14 : decode cX8_image 14 = .ok (.aload_n 0, 1) := dz_42 (k_X8_image 0 14 rfl)
theorem dX8_image_15 : decode cX8_image 15 = .ok (.getfield 17, 3) := dz_180 (k_X8_image 0 15 rfl) (k_X8_image 0 16 rfl) (k_X8_image 0 17 rfl) rfl
theorem dX8_image_18 : decode cX8_image 18 = .ok (.iload_n 1, 1) := dz_27 (k_X8_image 0 18 rfl)
theorem dX8_image_19 : decode cX8_image 19 = .ok (.aload_n 0, 1) := dz_42 (k_X8_image 0 19 rfl)
theorem dX8_image_20 : decode cX8_image 20 = .ok (.getfield 13, 3) := dz_180 (k_X8_image 0 20 rfl) (k_X8_image 0 21 rfl) (k_X8_image 0 22 rfl) rfl
theorem dX8_image_23 : decode cX8_image 23 = .ok (.iload_n 1, 1) := dz_27 (k_X8_image 0 23 rfl)
theorem dX8_image_24 : decode cX8_image 24 = .ok (.iaload, 1) := dz_46 (k_X8_image 0 24 rfl)
theorem dX8_image_25 : decode cX8_image 25 = .ok (.iastore, 1) := dz_79 (k_X8_image 0 25 rfl)
theorem dX8_image_26 : decode cX8_image 26 = .ok (.iinc 1 1, 3) := dz_132 (k_X8_image 0 26 rfl) (k_X8_image 0 27 rfl) (k_X8_image 0 28 rfl) rfl
theorem dX8_image_29 : decode cX8_image 29 = .ok (.goto (-22), 3) := dz_167 (k_X8_image 0 29 rfl) (k_X8_image 0 30 rfl) (k_X8_image 0 31 rfl) rfl
theorem dX8_image_32 : decode cX8_image 32 = .ok (.aload_n 0, 1) := dz_42 (k_X8_image 0 32 rfl)
theorem dX8_image_33 : decode cX8_image 33 = .ok (.iconst 1, 1) := dz_4 (k_X8_image 0 33 rfl)
theorem dX8_image_34 : decode cX8_image 34 = .ok (.putfield 96, 3) := dz_181 (k_X8_image 0 34 rfl) (k_X8_image 0 35 rfl) (k_X8_image 0 36 rfl) rfl
theorem dX8_image_37 : decode cX8_image 37 = .ok (.return_, 1) := dz_177 (k_X8_image 0 37 rfl)
def B_X8_in : List (List Nat) := [[26, 27, 161, 0, 12, 26, 28, 163, 0, 7, 4, 167, 0, 4, 3, 172]]
theorem k_X8_in (j i : Nat) {b : Nat} (h : (B_X8_in[j]?.bind fun c => c[i]?) = some b) : s_by cX8_in (64 * j + i) b := s_byC (L := B_X8_in) (by decide +kernel) (by decide +kernel) j i h
theorem dX8_in_0 : decode cX8_in 0 = .ok (.iload_n 0, 1) := dz_26 (k_X8_in 0 0 rfl)
theorem dX8_in_1 : decode cX8_in 1 = .ok (.iload_n 1, 1) := dz_27 (k_X8_in 0 1 rfl)
theorem dX8_in_2 : decode cX8_in 2 = .ok (.if_icmp .lt 12, 3) := dz_161 (k_X8_in 0 2 rfl) (k_X8_in 0 3 rfl) (k_X8_in 0 4 rfl) rfl
theorem dX8_in_5 : decode cX8_in 5 = .ok (.iload_n 0, 1) := dz_26 (k_X8_in 0 5 rfl)
theorem dX8_in_6 : decode cX8_in 6 = .ok (.iload_n 2, 1) := dz_28 (k_X8_in 0 6 rfl)
theorem dX8_in_7 : decode cX8_in 7 = .ok (.if_icmp .gt 7, 3) := dz_163 (k_X8_in 0 7 rfl) (k_X8_in 0 8 rfl) (k_X8_in 0 9 rfl) rfl
theorem dX8_in_10 : decode cX8_in 10 = .ok (.iconst 1, 1) := dz_4 (k_X8_in 0 10 rfl)
theorem dX8_in_11 : decode cX8_in 11 = .ok (.goto 4, 3) := dz_167 (k_X8_in 0 11 rfl) (k_X8_in 0 12 rfl) (k_X8_in 0 13 rfl) rfl
theorem dX8_in_14 : decode cX8_in 14 = .ok (.iconst 0, 1) := dz_3 (k_X8_in 0 14 rfl)
theorem dX8_in_15 : decode cX8_in 15 = .ok (.ireturn, 1) := dz_172 (k_X8_in 0 15 rfl)
def B_X8_init : List (List Nat) := [[42, 183, 0, 7, 42, 17, 6, 146, 188, 10, 181, 0, 13, 42, 17, 6, 146, 188, 10, 181, 0, 17, 42, 16, 72, 188, 10, 181, 0, 20, 42, 17, 11, 64, 188, 10, 181, 0, 23, 42, 17, 1, 144, 188, 8, 181, 0, 26, 42, 2, 181, 0, 30, 42, 8, 188, 10, 181, 0, 33, 42, 16, 40, 188], [10, 181, 0, 36, 42, 16, 40, 188, 4, 181, 0, 39, 42, 16, 40, 188, 11, 181, 0, 43, 42, 16, 40, 188, 11, 181, 0, 47, 42, 17, 4, 0, 188, 10, 181, 0, 50, 42, 17, 4, 64, 188, 10, 181, 0, 53, 42, 7, 188, 10, 181, 0, 56, 42, 16, 40, 188, 10, 181, 0, 59, 42, 16, 40], [188, 10, 181, 0, 62, 42, 16, 40, 188, 10, 181, 0, 65, 42, 16, 120, 188, 10, 181, 0, 68, 42, 16, 40, 188, 4, 181, 0, 71, 42, 17, 6, 64, 188, 4, 181, 0, 74, 42, 17, 6, 64, 188, 4, 181, 0, 77, 42, 17, 6, 64, 188, 10, 181, 0, 80, 42, 17, 6, 64, 188, 10, 181, 0], [83, 42, 6, 188, 10, 181, 0, 86, 42, 17, 1, 64, 188, 10, 181, 0, 89, 42, 17, 2, 96, 188, 10, 181, 0, 92, 42, 180, 0, 13, 3, 5, 79, 3, 60, 27, 6, 162, 0, 62, 7, 16, 18, 27, 104, 96, 61, 42, 180, 0, 13, 28, 18, 95, 79, 3, 62, 29, 16, 16, 162, 0, 21, 42], [180, 0, 13, 28, 4, 96, 29, 96, 16, 10, 79, 132, 3, 1, 167, 255, 235, 42, 180, 0, 13, 28, 4, 96, 16, 16, 96, 4, 79, 132, 1, 1, 167, 255, 195, 177]]
theorem k_X8_init (j i : Nat) {b : Nat} (h : (B_X8_init[j]?.bind fun c => c[i]?) = some b) : s_by cX8_init (64 * j + i) b := s_byC (L := B_X8_init) (by decide +kernel) (by decide +kernel) j i h
theorem dX8_init_0 : decode cX8_init 0 = .ok (.aload_n 0, 1) := dz_42 (k_X8_init 0 0 rfl)
theorem dX8_init_1 : decode cX8_init 1 = .ok (.invokespecial 7, 3) := dz_183 (k_X8_init 0 1 rfl) (k_X8_init 0 2 rfl) (k_X8_init 0 3 rfl) rfl
theorem dX8_init_4 : decode cX8_init 4 = .ok (.aload_n 0, 1) := dz_42 (k_X8_init 0 4 rfl)
theorem dX8_init_5 : decode cX8_init 5 = .ok (.sipush 1682, 3) := dz_17 (k_X8_init 0 5 rfl) (k_X8_init 0 6 rfl) (k_X8_init 0 7 rfl) rfl
theorem dX8_init_8 : decode cX8_init 8 = .ok (.newarray .int, 2) := by decide +kernel
theorem dX8_init_10 : decode cX8_init 10 = .ok (.putfield 13, 3) := dz_181 (k_X8_init 0 10 rfl) (k_X8_init 0 11 rfl) (k_X8_init 0 12 rfl) rfl
theorem dX8_init_13 : decode cX8_init 13 = .ok (.aload_n 0, 1) := dz_42 (k_X8_init 0 13 rfl)
theorem dX8_init_14 : decode cX8_init 14 = .ok (.sipush 1682, 3) := dz_17 (k_X8_init 0 14 rfl) (k_X8_init 0 15 rfl) (k_X8_init 0 16 rfl) rfl
theorem dX8_init_17 : decode cX8_init 17 = .ok (.newarray .int, 2) := by decide +kernel
theorem dX8_init_19 : decode cX8_init 19 = .ok (.putfield 17, 3) := dz_181 (k_X8_init 0 19 rfl) (k_X8_init 0 20 rfl) (k_X8_init 0 21 rfl) rfl
theorem dX8_init_22 : decode cX8_init 22 = .ok (.aload_n 0, 1) := dz_42 (k_X8_init 0 22 rfl)
theorem dX8_init_23 : decode cX8_init 23 = .ok (.bipush 72, 2) := dz_16 (k_X8_init 0 23 rfl) (k_X8_init 0 24 rfl) rfl
theorem dX8_init_25 : decode cX8_init 25 = .ok (.newarray .int, 2) := by decide +kernel
theorem dX8_init_27 : decode cX8_init 27 = .ok (.putfield 20, 3) := dz_181 (k_X8_init 0 27 rfl) (k_X8_init 0 28 rfl) (k_X8_init 0 29 rfl) rfl
theorem dX8_init_30 : decode cX8_init 30 = .ok (.aload_n 0, 1) := dz_42 (k_X8_init 0 30 rfl)
theorem dX8_init_31 : decode cX8_init 31 = .ok (.sipush 2880, 3) := dz_17 (k_X8_init 0 31 rfl) (k_X8_init 0 32 rfl) (k_X8_init 0 33 rfl) rfl
theorem dX8_init_34 : decode cX8_init 34 = .ok (.newarray .int, 2) := by decide +kernel
theorem dX8_init_36 : decode cX8_init 36 = .ok (.putfield 23, 3) := dz_181 (k_X8_init 0 36 rfl) (k_X8_init 0 37 rfl) (k_X8_init 0 38 rfl) rfl
theorem dX8_init_39 : decode cX8_init 39 = .ok (.aload_n 0, 1) := dz_42 (k_X8_init 0 39 rfl)
theorem dX8_init_40 : decode cX8_init 40 = .ok (.sipush 400, 3) := dz_17 (k_X8_init 0 40 rfl) (k_X8_init 0 41 rfl) (k_X8_init 0 42 rfl) rfl
theorem dX8_init_43 : decode cX8_init 43 = .ok (.newarray .byte, 2) := by decide +kernel
theorem dX8_init_45 : decode cX8_init 45 = .ok (.putfield 26, 3) := dz_181 (k_X8_init 0 45 rfl) (k_X8_init 0 46 rfl) (k_X8_init 0 47 rfl) rfl
theorem dX8_init_48 : decode cX8_init 48 = .ok (.aload_n 0, 1) := dz_42 (k_X8_init 0 48 rfl)
theorem dX8_init_49 : decode cX8_init 49 = .ok (.iconst (-1), 1) := dz_2 (k_X8_init 0 49 rfl)
theorem dX8_init_50 : decode cX8_init 50 = .ok (.putfield 30, 3) := dz_181 (k_X8_init 0 50 rfl) (k_X8_init 0 51 rfl) (k_X8_init 0 52 rfl) rfl
theorem dX8_init_53 : decode cX8_init 53 = .ok (.aload_n 0, 1) := dz_42 (k_X8_init 0 53 rfl)
theorem dX8_init_54 : decode cX8_init 54 = .ok (.iconst 5, 1) := dz_8 (k_X8_init 0 54 rfl)
theorem dX8_init_55 : decode cX8_init 55 = .ok (.newarray .int, 2) := by decide +kernel
theorem dX8_init_57 : decode cX8_init 57 = .ok (.putfield 33, 3) := dz_181 (k_X8_init 0 57 rfl) (k_X8_init 0 58 rfl) (k_X8_init 0 59 rfl) rfl
theorem dX8_init_60 : decode cX8_init 60 = .ok (.aload_n 0, 1) := dz_42 (k_X8_init 0 60 rfl)
theorem dX8_init_61 : decode cX8_init 61 = .ok (.bipush 40, 2) := dz_16 (k_X8_init 0 61 rfl) (k_X8_init 0 62 rfl) rfl
theorem dX8_init_63 : decode cX8_init 63 = .ok (.newarray .int, 2) := by decide +kernel
theorem dX8_init_65 : decode cX8_init 65 = .ok (.putfield 36, 3) := dz_181 (k_X8_init 1 1 rfl) (k_X8_init 1 2 rfl) (k_X8_init 1 3 rfl) rfl
theorem dX8_init_68 : decode cX8_init 68 = .ok (.aload_n 0, 1) := dz_42 (k_X8_init 1 4 rfl)
theorem dX8_init_69 : decode cX8_init 69 = .ok (.bipush 40, 2) := dz_16 (k_X8_init 1 5 rfl) (k_X8_init 1 6 rfl) rfl
theorem dX8_init_71 : decode cX8_init 71 = .ok (.newarray .boolean, 2) := by decide +kernel
theorem dX8_init_73 : decode cX8_init 73 = .ok (.putfield 39, 3) := dz_181 (k_X8_init 1 9 rfl) (k_X8_init 1 10 rfl) (k_X8_init 1 11 rfl) rfl
theorem dX8_init_76 : decode cX8_init 76 = .ok (.aload_n 0, 1) := dz_42 (k_X8_init 1 12 rfl)
theorem dX8_init_77 : decode cX8_init 77 = .ok (.bipush 40, 2) := dz_16 (k_X8_init 1 13 rfl) (k_X8_init 1 14 rfl) rfl
theorem dX8_init_79 : decode cX8_init 79 = .ok (.newarray .long, 2) := by decide +kernel
theorem dX8_init_81 : decode cX8_init 81 = .ok (.putfield 43, 3) := dz_181 (k_X8_init 1 17 rfl) (k_X8_init 1 18 rfl) (k_X8_init 1 19 rfl) rfl
theorem dX8_init_84 : decode cX8_init 84 = .ok (.aload_n 0, 1) := dz_42 (k_X8_init 1 20 rfl)
theorem dX8_init_85 : decode cX8_init 85 = .ok (.bipush 40, 2) := dz_16 (k_X8_init 1 21 rfl) (k_X8_init 1 22 rfl) rfl
theorem dX8_init_87 : decode cX8_init 87 = .ok (.newarray .long, 2) := by decide +kernel
theorem dX8_init_89 : decode cX8_init 89 = .ok (.putfield 47, 3) := dz_181 (k_X8_init 1 25 rfl) (k_X8_init 1 26 rfl) (k_X8_init 1 27 rfl) rfl
theorem dX8_init_92 : decode cX8_init 92 = .ok (.aload_n 0, 1) := dz_42 (k_X8_init 1 28 rfl)
theorem dX8_init_93 : decode cX8_init 93 = .ok (.sipush 1024, 3) := dz_17 (k_X8_init 1 29 rfl) (k_X8_init 1 30 rfl) (k_X8_init 1 31 rfl) rfl
theorem dX8_init_96 : decode cX8_init 96 = .ok (.newarray .int, 2) := by decide +kernel
theorem dX8_init_98 : decode cX8_init 98 = .ok (.putfield 50, 3) := dz_181 (k_X8_init 1 34 rfl) (k_X8_init 1 35 rfl) (k_X8_init 1 36 rfl) rfl
theorem dX8_init_101 : decode cX8_init 101 = .ok (.aload_n 0, 1) := dz_42 (k_X8_init 1 37 rfl)
theorem dX8_init_102 : decode cX8_init 102 = .ok (.sipush 1088, 3) := dz_17 (k_X8_init 1 38 rfl) (k_X8_init 1 39 rfl) (k_X8_init 1 40 rfl) rfl
theorem dX8_init_105 : decode cX8_init 105 = .ok (.newarray .int, 2) := by decide +kernel
theorem dX8_init_107 : decode cX8_init 107 = .ok (.putfield 53, 3) := dz_181 (k_X8_init 1 43 rfl) (k_X8_init 1 44 rfl) (k_X8_init 1 45 rfl) rfl
theorem dX8_init_110 : decode cX8_init 110 = .ok (.aload_n 0, 1) := dz_42 (k_X8_init 1 46 rfl)
theorem dX8_init_111 : decode cX8_init 111 = .ok (.iconst 4, 1) := dz_7 (k_X8_init 1 47 rfl)
theorem dX8_init_112 : decode cX8_init 112 = .ok (.newarray .int, 2) := by decide +kernel
theorem dX8_init_114 : decode cX8_init 114 = .ok (.putfield 56, 3) := dz_181 (k_X8_init 1 50 rfl) (k_X8_init 1 51 rfl) (k_X8_init 1 52 rfl) rfl
theorem dX8_init_117 : decode cX8_init 117 = .ok (.aload_n 0, 1) := dz_42 (k_X8_init 1 53 rfl)
theorem dX8_init_118 : decode cX8_init 118 = .ok (.bipush 40, 2) := dz_16 (k_X8_init 1 54 rfl) (k_X8_init 1 55 rfl) rfl
theorem dX8_init_120 : decode cX8_init 120 = .ok (.newarray .int, 2) := by decide +kernel
theorem dX8_init_122 : decode cX8_init 122 = .ok (.putfield 59, 3) := dz_181 (k_X8_init 1 58 rfl) (k_X8_init 1 59 rfl) (k_X8_init 1 60 rfl) rfl
theorem dX8_init_125 : decode cX8_init 125 = .ok (.aload_n 0, 1) := dz_42 (k_X8_init 1 61 rfl)
theorem dX8_init_126 : decode cX8_init 126 = .ok (.bipush 40, 2) := dz_16 (k_X8_init 1 62 rfl) (k_X8_init 1 63 rfl) rfl
theorem dX8_init_128 : decode cX8_init 128 = .ok (.newarray .int, 2) := by decide +kernel
theorem dX8_init_130 : decode cX8_init 130 = .ok (.putfield 62, 3) := dz_181 (k_X8_init 2 2 rfl) (k_X8_init 2 3 rfl) (k_X8_init 2 4 rfl) rfl
theorem dX8_init_133 : decode cX8_init 133 = .ok (.aload_n 0, 1) := dz_42 (k_X8_init 2 5 rfl)
theorem dX8_init_134 : decode cX8_init 134 = .ok (.bipush 40, 2) := dz_16 (k_X8_init 2 6 rfl) (k_X8_init 2 7 rfl) rfl
theorem dX8_init_136 : decode cX8_init 136 = .ok (.newarray .int, 2) := by decide +kernel
theorem dX8_init_138 : decode cX8_init 138 = .ok (.putfield 65, 3) := dz_181 (k_X8_init 2 10 rfl) (k_X8_init 2 11 rfl) (k_X8_init 2 12 rfl) rfl
theorem dX8_init_141 : decode cX8_init 141 = .ok (.aload_n 0, 1) := dz_42 (k_X8_init 2 13 rfl)
theorem dX8_init_142 : decode cX8_init 142 = .ok (.bipush 120, 2) := dz_16 (k_X8_init 2 14 rfl) (k_X8_init 2 15 rfl) rfl
theorem dX8_init_144 : decode cX8_init 144 = .ok (.newarray .int, 2) := by decide +kernel
theorem dX8_init_146 : decode cX8_init 146 = .ok (.putfield 68, 3) := dz_181 (k_X8_init 2 18 rfl) (k_X8_init 2 19 rfl) (k_X8_init 2 20 rfl) rfl
theorem dX8_init_149 : decode cX8_init 149 = .ok (.aload_n 0, 1) := dz_42 (k_X8_init 2 21 rfl)
theorem dX8_init_150 : decode cX8_init 150 = .ok (.bipush 40, 2) := dz_16 (k_X8_init 2 22 rfl) (k_X8_init 2 23 rfl) rfl
theorem dX8_init_152 : decode cX8_init 152 = .ok (.newarray .boolean, 2) := by decide +kernel
theorem dX8_init_154 : decode cX8_init 154 = .ok (.putfield 71, 3) := dz_181 (k_X8_init 2 26 rfl) (k_X8_init 2 27 rfl) (k_X8_init 2 28 rfl) rfl
theorem dX8_init_157 : decode cX8_init 157 = .ok (.aload_n 0, 1) := dz_42 (k_X8_init 2 29 rfl)
theorem dX8_init_158 : decode cX8_init 158 = .ok (.sipush 1600, 3) := dz_17 (k_X8_init 2 30 rfl) (k_X8_init 2 31 rfl) (k_X8_init 2 32 rfl) rfl
theorem dX8_init_161 : decode cX8_init 161 = .ok (.newarray .boolean, 2) := by decide +kernel
theorem dX8_init_163 : decode cX8_init 163 = .ok (.putfield 74, 3) := dz_181 (k_X8_init 2 35 rfl) (k_X8_init 2 36 rfl) (k_X8_init 2 37 rfl) rfl
theorem dX8_init_166 : decode cX8_init 166 = .ok (.aload_n 0, 1) := dz_42 (k_X8_init 2 38 rfl)
theorem dX8_init_167 : decode cX8_init 167 = .ok (.sipush 1600, 3) := dz_17 (k_X8_init 2 39 rfl) (k_X8_init 2 40 rfl) (k_X8_init 2 41 rfl) rfl
theorem dX8_init_170 : decode cX8_init 170 = .ok (.newarray .boolean, 2) := by decide +kernel
theorem dX8_init_172 : decode cX8_init 172 = .ok (.putfield 77, 3) := dz_181 (k_X8_init 2 44 rfl) (k_X8_init 2 45 rfl) (k_X8_init 2 46 rfl) rfl
theorem dX8_init_175 : decode cX8_init 175 = .ok (.aload_n 0, 1) := dz_42 (k_X8_init 2 47 rfl)
theorem dX8_init_176 : decode cX8_init 176 = .ok (.sipush 1600, 3) := dz_17 (k_X8_init 2 48 rfl) (k_X8_init 2 49 rfl) (k_X8_init 2 50 rfl) rfl
theorem dX8_init_179 : decode cX8_init 179 = .ok (.newarray .int, 2) := by decide +kernel
theorem dX8_init_181 : decode cX8_init 181 = .ok (.putfield 80, 3) := dz_181 (k_X8_init 2 53 rfl) (k_X8_init 2 54 rfl) (k_X8_init 2 55 rfl) rfl
theorem dX8_init_184 : decode cX8_init 184 = .ok (.aload_n 0, 1) := dz_42 (k_X8_init 2 56 rfl)
theorem dX8_init_185 : decode cX8_init 185 = .ok (.sipush 1600, 3) := dz_17 (k_X8_init 2 57 rfl) (k_X8_init 2 58 rfl) (k_X8_init 2 59 rfl) rfl
theorem dX8_init_188 : decode cX8_init 188 = .ok (.newarray .int, 2) := by decide +kernel
theorem dX8_init_190 : decode cX8_init 190 = .ok (.putfield 83, 3) := dz_181 (k_X8_init 2 62 rfl) (k_X8_init 2 63 rfl) (k_X8_init 3 0 rfl) rfl
theorem dX8_init_193 : decode cX8_init 193 = .ok (.aload_n 0, 1) := dz_42 (k_X8_init 3 1 rfl)
theorem dX8_init_194 : decode cX8_init 194 = .ok (.iconst 3, 1) := dz_6 (k_X8_init 3 2 rfl)
theorem dX8_init_195 : decode cX8_init 195 = .ok (.newarray .int, 2) := by decide +kernel
theorem dX8_init_197 : decode cX8_init 197 = .ok (.putfield 86, 3) := dz_181 (k_X8_init 3 5 rfl) (k_X8_init 3 6 rfl) (k_X8_init 3 7 rfl) rfl
theorem dX8_init_200 : decode cX8_init 200 = .ok (.aload_n 0, 1) := dz_42 (k_X8_init 3 8 rfl)
theorem dX8_init_201 : decode cX8_init 201 = .ok (.sipush 320, 3) := dz_17 (k_X8_init 3 9 rfl) (k_X8_init 3 10 rfl) (k_X8_init 3 11 rfl) rfl
theorem dX8_init_204 : decode cX8_init 204 = .ok (.newarray .int, 2) := by decide +kernel
theorem dX8_init_206 : decode cX8_init 206 = .ok (.putfield 89, 3) := dz_181 (k_X8_init 3 14 rfl) (k_X8_init 3 15 rfl) (k_X8_init 3 16 rfl) rfl
theorem dX8_init_209 : decode cX8_init 209 = .ok (.aload_n 0, 1) := dz_42 (k_X8_init 3 17 rfl)
theorem dX8_init_210 : decode cX8_init 210 = .ok (.sipush 608, 3) := dz_17 (k_X8_init 3 18 rfl) (k_X8_init 3 19 rfl) (k_X8_init 3 20 rfl) rfl
theorem dX8_init_213 : decode cX8_init 213 = .ok (.newarray .int, 2) := by decide +kernel
theorem dX8_init_215 : decode cX8_init 215 = .ok (.putfield 92, 3) := dz_181 (k_X8_init 3 23 rfl) (k_X8_init 3 24 rfl) (k_X8_init 3 25 rfl) rfl
theorem dX8_init_218 : decode cX8_init 218 = .ok (.aload_n 0, 1) := dz_42 (k_X8_init 3 26 rfl)
theorem dX8_init_219 : decode cX8_init 219 = .ok (.getfield 13, 3) := dz_180 (k_X8_init 3 27 rfl) (k_X8_init 3 28 rfl) (k_X8_init 3 29 rfl) rfl
theorem dX8_init_222 : decode cX8_init 222 = .ok (.iconst 0, 1) := dz_3 (k_X8_init 3 30 rfl)
theorem dX8_init_223 : decode cX8_init 223 = .ok (.iconst 2, 1) := dz_5 (k_X8_init 3 31 rfl)
theorem dX8_init_224 : decode cX8_init 224 = .ok (.iastore, 1) := dz_79 (k_X8_init 3 32 rfl)
theorem dX8_init_225 : decode cX8_init 225 = .ok (.iconst 0, 1) := dz_3 (k_X8_init 3 33 rfl)
theorem dX8_init_226 : decode cX8_init 226 = .ok (.istore_n 1, 1) := dz_60 (k_X8_init 3 34 rfl)
theorem dX8_init_227 : decode cX8_init 227 = .ok (.iload_n 1, 1) := dz_27 (k_X8_init 3 35 rfl)
theorem dX8_init_228 : decode cX8_init 228 = .ok (.iconst 3, 1) := dz_6 (k_X8_init 3 36 rfl)
theorem dX8_init_229 : decode cX8_init 229 = .ok (.if_icmp .ge 62, 3) := dz_162 (k_X8_init 3 37 rfl) (k_X8_init 3 38 rfl) (k_X8_init 3 39 rfl) rfl
theorem dX8_init_232 : decode cX8_init 232 = .ok (.iconst 4, 1) := dz_7 (k_X8_init 3 40 rfl)
theorem dX8_init_233 : decode cX8_init 233 = .ok (.bipush 18, 2) := dz_16 (k_X8_init 3 41 rfl) (k_X8_init 3 42 rfl) rfl
theorem dX8_init_235 : decode cX8_init 235 = .ok (.iload_n 1, 1) := dz_27 (k_X8_init 3 43 rfl)
theorem dX8_init_236 : decode cX8_init 236 = .ok (.imul, 1) := dz_104 (k_X8_init 3 44 rfl)
theorem dX8_init_237 : decode cX8_init 237 = .ok (.iadd, 1) := dz_96 (k_X8_init 3 45 rfl)
theorem dX8_init_238 : decode cX8_init 238 = .ok (.istore_n 2, 1) := dz_61 (k_X8_init 3 46 rfl)
theorem dX8_init_239 : decode cX8_init 239 = .ok (.aload_n 0, 1) := dz_42 (k_X8_init 3 47 rfl)
theorem dX8_init_240 : decode cX8_init 240 = .ok (.getfield 13, 3) := dz_180 (k_X8_init 3 48 rfl) (k_X8_init 3 49 rfl) (k_X8_init 3 50 rfl) rfl
theorem dX8_init_243 : decode cX8_init 243 = .ok (.iload_n 2, 1) := dz_28 (k_X8_init 3 51 rfl)
theorem dX8_init_244 : decode cX8_init 244 = .ok (.ldc 95, 2) := dz_18 (k_X8_init 3 52 rfl) (k_X8_init 3 53 rfl)
theorem dX8_init_246 : decode cX8_init 246 = .ok (.iastore, 1) := dz_79 (k_X8_init 3 54 rfl)
theorem dX8_init_247 : decode cX8_init 247 = .ok (.iconst 0, 1) := dz_3 (k_X8_init 3 55 rfl)
theorem dX8_init_248 : decode cX8_init 248 = .ok (.istore_n 3, 1) := dz_62 (k_X8_init 3 56 rfl)
theorem dX8_init_249 : decode cX8_init 249 = .ok (.iload_n 3, 1) := dz_29 (k_X8_init 3 57 rfl)
theorem dX8_init_250 : decode cX8_init 250 = .ok (.bipush 16, 2) := dz_16 (k_X8_init 3 58 rfl) (k_X8_init 3 59 rfl) rfl
theorem dX8_init_252 : decode cX8_init 252 = .ok (.if_icmp .ge 21, 3) := dz_162 (k_X8_init 3 60 rfl) (k_X8_init 3 61 rfl) (k_X8_init 3 62 rfl) rfl
theorem dX8_init_255 : decode cX8_init 255 = .ok (.aload_n 0, 1) := dz_42 (k_X8_init 3 63 rfl)
theorem dX8_init_256 : decode cX8_init 256 = .ok (.getfield 13, 3) := dz_180 (k_X8_init 4 0 rfl) (k_X8_init 4 1 rfl) (k_X8_init 4 2 rfl) rfl
theorem dX8_init_259 : decode cX8_init 259 = .ok (.iload_n 2, 1) := dz_28 (k_X8_init 4 3 rfl)
theorem dX8_init_260 : decode cX8_init 260 = .ok (.iconst 1, 1) := dz_4 (k_X8_init 4 4 rfl)
theorem dX8_init_261 : decode cX8_init 261 = .ok (.iadd, 1) := dz_96 (k_X8_init 4 5 rfl)
theorem dX8_init_262 : decode cX8_init 262 = .ok (.iload_n 3, 1) := dz_29 (k_X8_init 4 6 rfl)
theorem dX8_init_263 : decode cX8_init 263 = .ok (.iadd, 1) := dz_96 (k_X8_init 4 7 rfl)
theorem dX8_init_264 : decode cX8_init 264 = .ok (.bipush 10, 2) := dz_16 (k_X8_init 4 8 rfl) (k_X8_init 4 9 rfl) rfl
theorem dX8_init_266 : decode cX8_init 266 = .ok (.iastore, 1) := dz_79 (k_X8_init 4 10 rfl)
theorem dX8_init_267 : decode cX8_init 267 = .ok (.iinc 3 1, 3) := dz_132 (k_X8_init 4 11 rfl) (k_X8_init 4 12 rfl) (k_X8_init 4 13 rfl) rfl
theorem dX8_init_270 : decode cX8_init 270 = .ok (.goto (-21), 3) := dz_167 (k_X8_init 4 14 rfl) (k_X8_init 4 15 rfl) (k_X8_init 4 16 rfl) rfl
theorem dX8_init_273 : decode cX8_init 273 = .ok (.aload_n 0, 1) := dz_42 (k_X8_init 4 17 rfl)
theorem dX8_init_274 : decode cX8_init 274 = .ok (.getfield 13, 3) := dz_180 (k_X8_init 4 18 rfl) (k_X8_init 4 19 rfl) (k_X8_init 4 20 rfl) rfl
theorem dX8_init_277 : decode cX8_init 277 = .ok (.iload_n 2, 1) := dz_28 (k_X8_init 4 21 rfl)
theorem dX8_init_278 : decode cX8_init 278 = .ok (.iconst 1, 1) := dz_4 (k_X8_init 4 22 rfl)
theorem dX8_init_279 : decode cX8_init 279 = .ok (.iadd, 1) := dz_96 (k_X8_init 4 23 rfl)
theorem dX8_init_280 : decode cX8_init 280 = .ok (.bipush 16, 2) := dz_16 (k_X8_init 4 24 rfl) (k_X8_init 4 25 rfl) rfl
theorem dX8_init_282 : decode cX8_init 282 = .ok (.iadd, 1) := dz_96 (k_X8_init 4 26 rfl)
theorem dX8_init_283 : decode cX8_init 283 = .ok (.iconst 1, 1) := dz_4 (k_X8_init 4 27 rfl)
theorem dX8_init_284 : decode cX8_init 284 = .ok (.iastore, 1) := dz_79 (k_X8_init 4 28 rfl)
theorem dX8_init_285 : decode cX8_init 285 = .ok (.iinc 1 1, 3) := dz_132 (k_X8_init 4 29 rfl) (k_X8_init 4 30 rfl) (k_X8_init 4 31 rfl) rfl
theorem dX8_init_288 : decode cX8_init 288 = .ok (.goto (-61), 3) := dz_167 (k_X8_init 4 32 rfl) (k_X8_init 4 33 rfl) (k_X8_init 4 34 rfl) rfl
theorem dX8_init_291 : decode cX8_init 291 = .ok (.return_, 1) := dz_177 (k_X8_init 4 35 rfl)
def B_X8_is : List (List Nat) := [[42, 3, 181, 0, 3, 42, 42, 27, 182, 1, 7, 4, 182, 0, 224, 154, 0, 25, 42, 28, 3, 7, 184, 0, 107, 154, 0, 7, 4, 167, 0, 4, 3, 5, 182, 0, 224, 153, 0, 5, 3, 172, 42, 182, 1, 57, 28, 154, 0, 11, 42, 27, 182, 1, 46, 167, 0, 48, 28, 4, 160, 0, 12, 42], [180, 0, 39, 27, 51, 167, 0, 34, 28, 5, 160, 0, 11, 42, 27, 182, 1, 54, 167, 0, 21, 28, 6, 160, 0, 11, 42, 27, 182, 1, 51, 167, 0, 8, 42, 27, 182, 1, 60, 172]]
theorem k_X8_is (j i : Nat) {b : Nat} (h : (B_X8_is[j]?.bind fun c => c[i]?) = some b) : s_by cX8_is (64 * j + i) b := s_byC (L := B_X8_is) (by decide +kernel) (by decide +kernel) j i h
theorem dX8_is_0 : decode cX8_is 0 = .ok (.aload_n 0, 1) := dz_42 (k_X8_is 0 0 rfl)
theorem dX8_is_1 : decode cX8_is 1 = .ok (.iconst 0, 1) := dz_3 (k_X8_is 0 1 rfl)
theorem dX8_is_2 : decode cX8_is 2 = .ok (.putfield 3, 3) := dz_181 (k_X8_is 0 2 rfl) (k_X8_is 0 3 rfl) (k_X8_is 0 4 rfl) rfl
theorem dX8_is_5 : decode cX8_is 5 = .ok (.aload_n 0, 1) := dz_42 (k_X8_is 0 5 rfl)
theorem dX8_is_6 : decode cX8_is 6 = .ok (.aload_n 0, 1) := dz_42 (k_X8_is 0 6 rfl)
theorem dX8_is_7 : decode cX8_is 7 = .ok (.iload_n 1, 1) := dz_27 (k_X8_is 0 7 rfl)
theorem dX8_is_8 : decode cX8_is 8 = .ok (.invokevirtual 263, 3) := dz_182 (k_X8_is 0 8 rfl) (k_X8_is 0 9 rfl) (k_X8_is 0 10 rfl) rfl
theorem dX8_is_11 : decode cX8_is 11 = .ok (.iconst 1, 1) := dz_4 (k_X8_is 0 11 rfl)
theorem dX8_is_12 : decode cX8_is 12 = .ok (.invokevirtual 224, 3) := dz_182 (k_X8_is 0 12 rfl) (k_X8_is 0 13 rfl) (k_X8_is 0 14 rfl) rfl
theorem dX8_is_15 : decode cX8_is 15 = .ok (.ifCond .ne 25, 3) := dz_154 (k_X8_is 0 15 rfl) (k_X8_is 0 16 rfl) (k_X8_is 0 17 rfl) rfl
theorem dX8_is_18 : decode cX8_is 18 = .ok (.aload_n 0, 1) := dz_42 (k_X8_is 0 18 rfl)
theorem dX8_is_19 : decode cX8_is 19 = .ok (.iload_n 2, 1) := dz_28 (k_X8_is 0 19 rfl)
theorem dX8_is_20 : decode cX8_is 20 = .ok (.iconst 0, 1) := dz_3 (k_X8_is 0 20 rfl)
theorem dX8_is_21 : decode cX8_is 21 = .ok (.iconst 4, 1) := dz_7 (k_X8_is 0 21 rfl)
theorem dX8_is_22 : decode cX8_is 22 = .ok (.invokestatic 107, 3) := dz_184 (k_X8_is 0 22 rfl) (k_X8_is 0 23 rfl) (k_X8_is 0 24 rfl) rfl
theorem dX8_is_25 : decode cX8_is 25 = .ok (.ifCond .ne 7, 3) := dz_154 (k_X8_is 0 25 rfl) (k_X8_is 0 26 rfl) (k_X8_is 0 27 rfl) rfl
theorem dX8_is_28 : decode cX8_is 28 = .ok (.iconst 1, 1) := dz_4 (k_X8_is 0 28 rfl)
theorem dX8_is_29 : decode cX8_is 29 = .ok (.goto 4, 3) := dz_167 (k_X8_is 0 29 rfl) (k_X8_is 0 30 rfl) (k_X8_is 0 31 rfl) rfl
theorem dX8_is_32 : decode cX8_is 32 = .ok (.iconst 0, 1) := dz_3 (k_X8_is 0 32 rfl)
theorem dX8_is_33 : decode cX8_is 33 = .ok (.iconst 2, 1) := dz_5 (k_X8_is 0 33 rfl)
theorem dX8_is_34 : decode cX8_is 34 = .ok (.invokevirtual 224, 3) := dz_182 (k_X8_is 0 34 rfl) (k_X8_is 0 35 rfl) (k_X8_is 0 36 rfl) rfl
theorem dX8_is_37 : decode cX8_is 37 = .ok (.ifCond .eq 5, 3) := dz_153 (k_X8_is 0 37 rfl) (k_X8_is 0 38 rfl) (k_X8_is 0 39 rfl) rfl
theorem dX8_is_40 : decode cX8_is 40 = .ok (.iconst 0, 1) := dz_3 (k_X8_is 0 40 rfl)
theorem dX8_is_41 : decode cX8_is 41 = .ok (.ireturn, 1) := dz_172 (k_X8_is 0 41 rfl)
theorem dX8_is_42 : decode cX8_is 42 = .ok (.aload_n 0, 1) := dz_42 (k_X8_is 0 42 rfl)
theorem dX8_is_43 : decode cX8_is 43 = .ok (.invokevirtual 313, 3) := dz_182 (k_X8_is 0 43 rfl) (k_X8_is 0 44 rfl) (k_X8_is 0 45 rfl) rfl
theorem dX8_is_46 : decode cX8_is 46 = .ok (.iload_n 2, 1) := dz_28 (k_X8_is 0 46 rfl)
theorem dX8_is_47 : decode cX8_is 47 = .ok (.ifCond .ne 11, 3) := dz_154 (k_X8_is 0 47 rfl) (k_X8_is 0 48 rfl) (k_X8_is 0 49 rfl) rfl
theorem dX8_is_50 : decode cX8_is 50 = .ok (.aload_n 0, 1) := dz_42 (k_X8_is 0 50 rfl)
theorem dX8_is_51 : decode cX8_is 51 = .ok (.iload_n 1, 1) := dz_27 (k_X8_is 0 51 rfl)
theorem dX8_is_52 : decode cX8_is 52 = .ok (.invokevirtual 302, 3) := dz_182 (k_X8_is 0 52 rfl) (k_X8_is 0 53 rfl) (k_X8_is 0 54 rfl) rfl
theorem dX8_is_55 : decode cX8_is 55 = .ok (.goto 48, 3) := dz_167 (k_X8_is 0 55 rfl) (k_X8_is 0 56 rfl) (k_X8_is 0 57 rfl) rfl
theorem dX8_is_58 : decode cX8_is 58 = .ok (.iload_n 2, 1) := dz_28 (k_X8_is 0 58 rfl)
theorem dX8_is_59 : decode cX8_is 59 = .ok (.iconst 1, 1) := dz_4 (k_X8_is 0 59 rfl)
theorem dX8_is_60 : decode cX8_is 60 = .ok (.if_icmp .ne 12, 3) := dz_160 (k_X8_is 0 60 rfl) (k_X8_is 0 61 rfl) (k_X8_is 0 62 rfl) rfl
theorem dX8_is_63 : decode cX8_is 63 = .ok (.aload_n 0, 1) := dz_42 (k_X8_is 0 63 rfl)
theorem dX8_is_64 : decode cX8_is 64 = .ok (.getfield 39, 3) := dz_180 (k_X8_is 1 0 rfl) (k_X8_is 1 1 rfl) (k_X8_is 1 2 rfl) rfl
theorem dX8_is_67 : decode cX8_is 67 = .ok (.iload_n 1, 1) := dz_27 (k_X8_is 1 3 rfl)
theorem dX8_is_68 : decode cX8_is 68 = .ok (.baload, 1) := dz_51 (k_X8_is 1 4 rfl)
theorem dX8_is_69 : decode cX8_is 69 = .ok (.goto 34, 3) := dz_167 (k_X8_is 1 5 rfl) (k_X8_is 1 6 rfl) (k_X8_is 1 7 rfl) rfl
theorem dX8_is_72 : decode cX8_is 72 = .ok (.iload_n 2, 1) := dz_28 (k_X8_is 1 8 rfl)
theorem dX8_is_73 : decode cX8_is 73 = .ok (.iconst 2, 1) := dz_5 (k_X8_is 1 9 rfl)
theorem dX8_is_74 : decode cX8_is 74 = .ok (.if_icmp .ne 11, 3) := dz_160 (k_X8_is 1 10 rfl) (k_X8_is 1 11 rfl) (k_X8_is 1 12 rfl) rfl
theorem dX8_is_77 : decode cX8_is 77 = .ok (.aload_n 0, 1) := dz_42 (k_X8_is 1 13 rfl)
theorem dX8_is_78 : decode cX8_is 78 = .ok (.iload_n 1, 1) := dz_27 (k_X8_is 1 14 rfl)
theorem dX8_is_79 : decode cX8_is 79 = .ok (.invokevirtual 310, 3) := dz_182 (k_X8_is 1 15 rfl) (k_X8_is 1 16 rfl) (k_X8_is 1 17 rfl) rfl
theorem dX8_is_82 : decode cX8_is 82 = .ok (.goto 21, 3) := dz_167 (k_X8_is 1 18 rfl) (k_X8_is 1 19 rfl) (k_X8_is 1 20 rfl) rfl
theorem dX8_is_85 : decode cX8_is 85 = .ok (.iload_n 2, 1) := dz_28 (k_X8_is 1 21 rfl)
theorem dX8_is_86 : decode cX8_is 86 = .ok (.iconst 3, 1) := dz_6 (k_X8_is 1 22 rfl)
theorem dX8_is_87 : decode cX8_is 87 = .ok (.if_icmp .ne 11, 3) := dz_160 (k_X8_is 1 23 rfl) (k_X8_is 1 24 rfl) (k_X8_is 1 25 rfl) rfl
theorem dX8_is_90 : decode cX8_is 90 = .ok (.aload_n 0, 1) := dz_42 (k_X8_is 1 26 rfl)
theorem dX8_is_91 : decode cX8_is 91 = .ok (.iload_n 1, 1) := dz_27 (k_X8_is 1 27 rfl)
theorem dX8_is_92 : decode cX8_is 92 = .ok (.invokevirtual 307, 3) := dz_182 (k_X8_is 1 28 rfl) (k_X8_is 1 29 rfl) (k_X8_is 1 30 rfl) rfl
theorem dX8_is_95 : decode cX8_is 95 = .ok (.goto 8, 3) := dz_167 (k_X8_is 1 31 rfl) (k_X8_is 1 32 rfl) (k_X8_is 1 33 rfl) rfl
theorem dX8_is_98 : decode cX8_is 98 = .ok (.aload_n 0, 1) := dz_42 (k_X8_is 1 34 rfl)
theorem dX8_is_99 : decode cX8_is 99 = .ok (.iload_n 1, 1) := dz_27 (k_X8_is 1 35 rfl)
theorem dX8_is_100 : decode cX8_is 100 = .ok (.invokevirtual 316, 3) := dz_182 (k_X8_is 1 36 rfl) (k_X8_is 1 37 rfl) (k_X8_is 1 38 rfl) rfl
theorem dX8_is_103 : decode cX8_is 103 = .ok (.ireturn, 1) := dz_172 (k_X8_is 1 39 rfl)
def B_X8_isAgain : List (List Nat) := [[3, 61, 3, 62, 29, 42, 182, 1, 175, 162, 0, 85, 28, 154, 0, 69, 29, 27, 159, 0, 68, 42, 29, 182, 1, 181, 154, 0, 60, 42, 29, 27, 182, 1, 184, 153, 0, 51, 42, 29, 4, 182, 1, 178, 42, 27, 4, 182, 1, 178, 160, 0, 36, 42, 42, 42, 29, 3, 182, 1, 178, 4, 182, 1], [0, 42, 42, 27, 3, 182, 1, 178, 4, 182, 1, 0, 182, 0, 234, 153, 0, 7, 4, 167, 0, 4, 3, 61, 132, 3, 1, 167, 255, 169, 28, 172]]
theorem k_X8_isAgain (j i : Nat) {b : Nat} (h : (B_X8_isAgain[j]?.bind fun c => c[i]?) = some b) : s_by cX8_isAgain (64 * j + i) b := s_byC (L := B_X8_isAgain) (by decide +kernel) (by decide +kernel) j i h
theorem dX8_isAgain_0 : decode cX8_isAgain 0 = .ok (.iconst 0, 1) := dz_3 (k_X8_isAgain 0 0 rfl)
theorem dX8_isAgain_1 : decode cX8_isAgain 1 = .ok (.istore_n 2, 1) := dz_61 (k_X8_isAgain 0 1 rfl)
theorem dX8_isAgain_2 : decode cX8_isAgain 2 = .ok (.iconst 0, 1) := dz_3 (k_X8_isAgain 0 2 rfl)
theorem dX8_isAgain_3 : decode cX8_isAgain 3 = .ok (.istore_n 3, 1) := dz_62 (k_X8_isAgain 0 3 rfl)
theorem dX8_isAgain_4 : decode cX8_isAgain 4 = .ok (.iload_n 3, 1) := dz_29 (k_X8_isAgain 0 4 rfl)
theorem dX8_isAgain_5 : decode cX8_isAgain 5 = .ok (.aload_n 0, 1) := dz_42 (k_X8_isAgain 0 5 rfl)
theorem dX8_isAgain_6 : decode cX8_isAgain 6 = .ok (.invokevirtual 431, 3) := dz_182 (k_X8_isAgain 0 6 rfl) (k_X8_isAgain 0 7 rfl) (k_X8_isAgain 0 8 rfl) rfl
theorem dX8_isAgain_9 : decode cX8_isAgain 9 = .ok (.if_icmp .ge 85, 3) := dz_162 (k_X8_isAgain 0 9 rfl) (k_X8_isAgain 0 10 rfl) (k_X8_isAgain 0 11 rfl) rfl
theorem dX8_isAgain_12 : decode cX8_isAgain 12 = .ok (.iload_n 2, 1) := dz_28 (k_X8_isAgain 0 12 rfl)
theorem dX8_isAgain_13 : decode cX8_isAgain 13 = .ok (.ifCond .ne 69, 3) := dz_154 (k_X8_isAgain 0 13 rfl) (k_X8_isAgain 0 14 rfl) (k_X8_isAgain 0 15 rfl) rfl
theorem dX8_isAgain_16 : decode cX8_isAgain 16 = .ok (.iload_n 3, 1) := dz_29 (k_X8_isAgain 0 16 rfl)
theorem dX8_isAgain_17 : decode cX8_isAgain 17 = .ok (.iload_n 1, 1) := dz_27 (k_X8_isAgain 0 17 rfl)
theorem dX8_isAgain_18 : decode cX8_isAgain 18 = .ok (.if_icmp .eq 68, 3) := dz_159 (k_X8_isAgain 0 18 rfl) (k_X8_isAgain 0 19 rfl) (k_X8_isAgain 0 20 rfl) rfl
theorem dX8_isAgain_21 : decode cX8_isAgain 21 = .ok (.aload_n 0, 1) := dz_42 (k_X8_isAgain 0 21 rfl)
theorem dX8_isAgain_22 : decode cX8_isAgain 22 = .ok (.iload_n 3, 1) := dz_29 (k_X8_isAgain 0 22 rfl)
theorem dX8_isAgain_23 : decode cX8_isAgain 23 = .ok (.invokevirtual 437, 3) := dz_182 (k_X8_isAgain 0 23 rfl) (k_X8_isAgain 0 24 rfl) (k_X8_isAgain 0 25 rfl) rfl
theorem dX8_isAgain_26 : decode cX8_isAgain 26 = .ok (.ifCond .ne 60, 3) := dz_154 (k_X8_isAgain 0 26 rfl) (k_X8_isAgain 0 27 rfl) (k_X8_isAgain 0 28 rfl) rfl
theorem dX8_isAgain_29 : decode cX8_isAgain 29 = .ok (.aload_n 0, 1) := dz_42 (k_X8_isAgain 0 29 rfl)
theorem dX8_isAgain_30 : decode cX8_isAgain 30 = .ok (.iload_n 3, 1) := dz_29 (k_X8_isAgain 0 30 rfl)
theorem dX8_isAgain_31 : decode cX8_isAgain 31 = .ok (.iload_n 1, 1) := dz_27 (k_X8_isAgain 0 31 rfl)
theorem dX8_isAgain_32 : decode cX8_isAgain 32 = .ok (.invokevirtual 440, 3) := dz_182 (k_X8_isAgain 0 32 rfl) (k_X8_isAgain 0 33 rfl) (k_X8_isAgain 0 34 rfl) rfl
theorem dX8_isAgain_35 : decode cX8_isAgain 35 = .ok (.ifCond .eq 51, 3) := dz_153 (k_X8_isAgain 0 35 rfl) (k_X8_isAgain 0 36 rfl) (k_X8_isAgain 0 37 rfl) rfl
theorem dX8_isAgain_38 : decode cX8_isAgain 38 = .ok (.aload_n 0, 1) := dz_42 (k_X8_isAgain 0 38 rfl)
theorem dX8_isAgain_39 : decode cX8_isAgain 39 = .ok (.iload_n 3, 1) := dz_29 (k_X8_isAgain 0 39 rfl)
theorem dX8_isAgain_40 : decode cX8_isAgain 40 = .ok (.iconst 1, 1) := dz_4 (k_X8_isAgain 0 40 rfl)
theorem dX8_isAgain_41 : decode cX8_isAgain 41 = .ok (.invokevirtual 434, 3) := dz_182 (k_X8_isAgain 0 41 rfl) (k_X8_isAgain 0 42 rfl) (k_X8_isAgain 0 43 rfl) rfl
theorem dX8_isAgain_44 : decode cX8_isAgain 44 = .ok (.aload_n 0, 1) := dz_42 (k_X8_isAgain 0 44 rfl)
theorem dX8_isAgain_45 : decode cX8_isAgain 45 = .ok (.iload_n 1, 1) := dz_27 (k_X8_isAgain 0 45 rfl)
theorem dX8_isAgain_46 : decode cX8_isAgain 46 = .ok (.iconst 1, 1) := dz_4 (k_X8_isAgain 0 46 rfl)
theorem dX8_isAgain_47 : decode cX8_isAgain 47 = .ok (.invokevirtual 434, 3) := dz_182 (k_X8_isAgain 0 47 rfl) (k_X8_isAgain 0 48 rfl) (k_X8_isAgain 0 49 rfl) rfl
theorem dX8_isAgain_50 : decode cX8_isAgain 50 = .ok (.if_icmp .ne 36, 3) := dz_160 (k_X8_isAgain 0 50 rfl) (k_X8_isAgain 0 51 rfl) (k_X8_isAgain 0 52 rfl) rfl
theorem dX8_isAgain_53 : decode cX8_isAgain 53 = .ok (.aload_n 0, 1) := dz_42 (k_X8_isAgain 0 53 rfl)
theorem dX8_isAgain_54 : decode cX8_isAgain 54 = .ok (.aload_n 0, 1) := dz_42 (k_X8_isAgain 0 54 rfl)
theorem dX8_isAgain_55 : decode cX8_isAgain 55 = .ok (.aload_n 0, 1) := dz_42 (k_X8_isAgain 0 55 rfl)
theorem dX8_isAgain_56 : decode cX8_isAgain 56 = .ok (.iload_n 3, 1) := dz_29 (k_X8_isAgain 0 56 rfl)
theorem dX8_isAgain_57 : decode cX8_isAgain 57 = .ok (.iconst 0, 1) := dz_3 (k_X8_isAgain 0 57 rfl)
theorem dX8_isAgain_58 : decode cX8_isAgain 58 = .ok (.invokevirtual 434, 3) := dz_182 (k_X8_isAgain 0 58 rfl) (k_X8_isAgain 0 59 rfl) (k_X8_isAgain 0 60 rfl) rfl
theorem dX8_isAgain_61 : decode cX8_isAgain 61 = .ok (.iconst 1, 1) := dz_4 (k_X8_isAgain 0 61 rfl)
theorem dX8_isAgain_62 : decode cX8_isAgain 62 = .ok (.invokevirtual 256, 3) := dz_182 (k_X8_isAgain 0 62 rfl) (k_X8_isAgain 0 63 rfl) (k_X8_isAgain 1 0 rfl) rfl
theorem dX8_isAgain_65 : decode cX8_isAgain 65 = .ok (.aload_n 0, 1) := dz_42 (k_X8_isAgain 1 1 rfl)
theorem dX8_isAgain_66 : decode cX8_isAgain 66 = .ok (.aload_n 0, 1) := dz_42 (k_X8_isAgain 1 2 rfl)
theorem dX8_isAgain_67 : decode cX8_isAgain 67 = .ok (.iload_n 1, 1) := dz_27 (k_X8_isAgain 1 3 rfl)
theorem dX8_isAgain_68 : decode cX8_isAgain 68 = .ok (.iconst 0, 1) := dz_3 (k_X8_isAgain 1 4 rfl)
theorem dX8_isAgain_69 : decode cX8_isAgain 69 = .ok (.invokevirtual 434, 3) := dz_182 (k_X8_isAgain 1 5 rfl) (k_X8_isAgain 1 6 rfl) (k_X8_isAgain 1 7 rfl) rfl
theorem dX8_isAgain_72 : decode cX8_isAgain 72 = .ok (.iconst 1, 1) := dz_4 (k_X8_isAgain 1 8 rfl)
theorem dX8_isAgain_73 : decode cX8_isAgain 73 = .ok (.invokevirtual 256, 3) := dz_182 (k_X8_isAgain 1 9 rfl) (k_X8_isAgain 1 10 rfl) (k_X8_isAgain 1 11 rfl) rfl
theorem dX8_isAgain_76 : decode cX8_isAgain 76 = .ok (.invokevirtual 234, 3) := dz_182 (k_X8_isAgain 1 12 rfl) (k_X8_isAgain 1 13 rfl) (k_X8_isAgain 1 14 rfl) rfl
theorem dX8_isAgain_79 : decode cX8_isAgain 79 = .ok (.ifCond .eq 7, 3) := dz_153 (k_X8_isAgain 1 15 rfl) (k_X8_isAgain 1 16 rfl) (k_X8_isAgain 1 17 rfl) rfl
theorem dX8_isAgain_82 : decode cX8_isAgain 82 = .ok (.iconst 1, 1) := dz_4 (k_X8_isAgain 1 18 rfl)
theorem dX8_isAgain_83 : decode cX8_isAgain 83 = .ok (.goto 4, 3) := dz_167 (k_X8_isAgain 1 19 rfl) (k_X8_isAgain 1 20 rfl) (k_X8_isAgain 1 21 rfl) rfl
theorem dX8_isAgain_86 : decode cX8_isAgain 86 = .ok (.iconst 0, 1) := dz_3 (k_X8_isAgain 1 22 rfl)
theorem dX8_isAgain_87 : decode cX8_isAgain 87 = .ok (.istore_n 2, 1) := dz_61 (k_X8_isAgain 1 23 rfl)
theorem dX8_isAgain_88 : decode cX8_isAgain 88 = .ok (.iinc 3 1, 3) := dz_132 (k_X8_isAgain 1 24 rfl) (k_X8_isAgain 1 25 rfl) (k_X8_isAgain 1 26 rfl) rfl
theorem dX8_isAgain_91 : decode cX8_isAgain 91 = .ok (.goto (-87), 3) := dz_167 (k_X8_isAgain 1 27 rfl) (k_X8_isAgain 1 28 rfl) (k_X8_isAgain 1 29 rfl) rfl
theorem dX8_isAgain_94 : decode cX8_isAgain 94 = .ok (.iload_n 2, 1) := dz_28 (k_X8_isAgain 1 30 rfl)
theorem dX8_isAgain_95 : decode cX8_isAgain 95 = .ok (.ireturn, 1) := dz_172 (k_X8_isAgain 1 31 rfl)
def B_X8_isAgainst : List (List Nat) := [[4, 61, 3, 62, 29, 42, 182, 0, 237, 162, 0, 30, 28, 153, 0, 26, 42, 180, 0, 50, 29, 46, 27, 126, 153, 0, 7, 4, 167, 0, 4, 3, 61, 132, 3, 1, 167, 255, 224, 28, 172]]
theorem k_X8_isAgainst (j i : Nat) {b : Nat} (h : (B_X8_isAgainst[j]?.bind fun c => c[i]?) = some b) : s_by cX8_isAgainst (64 * j + i) b := s_byC (L := B_X8_isAgainst) (by decide +kernel) (by decide +kernel) j i h
theorem dX8_isAgainst_0 : decode cX8_isAgainst 0 = .ok (.iconst 1, 1) := dz_4 (k_X8_isAgainst 0 0 rfl)
theorem dX8_isAgainst_1 : decode cX8_isAgainst 1 = .ok (.istore_n 2, 1) := dz_61 (k_X8_isAgainst 0 1 rfl)
theorem dX8_isAgainst_2 : decode cX8_isAgainst 2 = .ok (.iconst 0, 1) := dz_3 (k_X8_isAgainst 0 2 rfl)
theorem dX8_isAgainst_3 : decode cX8_isAgainst 3 = .ok (.istore_n 3, 1) := dz_62 (k_X8_isAgainst 0 3 rfl)
theorem dX8_isAgainst_4 : decode cX8_isAgainst 4 = .ok (.iload_n 3, 1) := dz_29 (k_X8_isAgainst 0 4 rfl)
theorem dX8_isAgainst_5 : decode cX8_isAgainst 5 = .ok (.aload_n 0, 1) := dz_42 (k_X8_isAgainst 0 5 rfl)
theorem dX8_isAgainst_6 : decode cX8_isAgainst 6 = .ok (.invokevirtual 237, 3) := dz_182 (k_X8_isAgainst 0 6 rfl) (k_X8_isAgainst 0 7 rfl) (k_X8_isAgainst 0 8 rfl) rfl
theorem dX8_isAgainst_9 : decode cX8_isAgainst 9 = .ok (.if_icmp .ge 30, 3) := dz_162 (k_X8_isAgainst 0 9 rfl) (k_X8_isAgainst 0 10 rfl) (k_X8_isAgainst 0 11 rfl) rfl
theorem dX8_isAgainst_12 : decode cX8_isAgainst 12 = .ok (.iload_n 2, 1) := dz_28 (k_X8_isAgainst 0 12 rfl)
theorem dX8_isAgainst_13 : decode cX8_isAgainst 13 = .ok (.ifCond .eq 26, 3) := dz_153 (k_X8_isAgainst 0 13 rfl) (k_X8_isAgainst 0 14 rfl) (k_X8_isAgainst 0 15 rfl) rfl
theorem dX8_isAgainst_16 : decode cX8_isAgainst 16 = .ok (.aload_n 0, 1) := dz_42 (k_X8_isAgainst 0 16 rfl)
theorem dX8_isAgainst_17 : decode cX8_isAgainst 17 = .ok (.getfield 50, 3) := dz_180 (k_X8_isAgainst 0 17 rfl) (k_X8_isAgainst 0 18 rfl) (k_X8_isAgainst 0 19 rfl) rfl
theorem dX8_isAgainst_20 : decode cX8_isAgainst 20 = .ok (.iload_n 3, 1) := dz_29 (k_X8_isAgainst 0 20 rfl)
theorem dX8_isAgainst_21 : decode cX8_isAgainst 21 = .ok (.iaload, 1) := dz_46 (k_X8_isAgainst 0 21 rfl)
theorem dX8_isAgainst_22 : decode cX8_isAgainst 22 = .ok (.iload_n 1, 1) := dz_27 (k_X8_isAgainst 0 22 rfl)
theorem dX8_isAgainst_23 : decode cX8_isAgainst 23 = .ok (.iand, 1) := dz_126 (k_X8_isAgainst 0 23 rfl)
theorem dX8_isAgainst_24 : decode cX8_isAgainst 24 = .ok (.ifCond .eq 7, 3) := dz_153 (k_X8_isAgainst 0 24 rfl) (k_X8_isAgainst 0 25 rfl) (k_X8_isAgainst 0 26 rfl) rfl
theorem dX8_isAgainst_27 : decode cX8_isAgainst 27 = .ok (.iconst 1, 1) := dz_4 (k_X8_isAgainst 0 27 rfl)
theorem dX8_isAgainst_28 : decode cX8_isAgainst 28 = .ok (.goto 4, 3) := dz_167 (k_X8_isAgainst 0 28 rfl) (k_X8_isAgainst 0 29 rfl) (k_X8_isAgainst 0 30 rfl) rfl
theorem dX8_isAgainst_31 : decode cX8_isAgainst 31 = .ok (.iconst 0, 1) := dz_3 (k_X8_isAgainst 0 31 rfl)
theorem dX8_isAgainst_32 : decode cX8_isAgainst 32 = .ok (.istore_n 2, 1) := dz_61 (k_X8_isAgainst 0 32 rfl)
theorem dX8_isAgainst_33 : decode cX8_isAgainst 33 = .ok (.iinc 3 1, 3) := dz_132 (k_X8_isAgainst 0 33 rfl) (k_X8_isAgainst 0 34 rfl) (k_X8_isAgainst 0 35 rfl) rfl
theorem dX8_isAgainst_36 : decode cX8_isAgainst 36 = .ok (.goto (-32), 3) := dz_167 (k_X8_isAgainst 0 36 rfl) (k_X8_isAgainst 0 37 rfl) (k_X8_isAgainst 0 38 rfl) rfl
theorem dX8_isAgainst_39 : decode cX8_isAgainst 39 = .ok (.iload_n 2, 1) := dz_28 (k_X8_isAgainst 0 39 rfl)
theorem dX8_isAgainst_40 : decode cX8_isAgainst 40 = .ok (.ireturn, 1) := dz_172 (k_X8_isAgainst 0 40 rfl)
def B_X8_isAhead : List (List Nat) := [[42, 27, 6, 182, 1, 178, 42, 28, 6, 182, 1, 178, 159, 0, 26, 42, 27, 6, 182, 1, 178, 42, 28, 6, 182, 1, 178, 162, 0, 7, 4, 167, 0, 17, 3, 167, 0, 13, 27, 28, 162, 0, 7, 4, 167, 0, 4, 3, 172]]
theorem k_X8_isAhead (j i : Nat) {b : Nat} (h : (B_X8_isAhead[j]?.bind fun c => c[i]?) = some b) : s_by cX8_isAhead (64 * j + i) b := s_byC (L := B_X8_isAhead) (by decide +kernel) (by decide +kernel) j i h
theorem dX8_isAhead_0 : decode cX8_isAhead 0 = .ok (.aload_n 0, 1) := dz_42 (k_X8_isAhead 0 0 rfl)
theorem dX8_isAhead_1 : decode cX8_isAhead 1 = .ok (.iload_n 1, 1) := dz_27 (k_X8_isAhead 0 1 rfl)
theorem dX8_isAhead_2 : decode cX8_isAhead 2 = .ok (.iconst 3, 1) := dz_6 (k_X8_isAhead 0 2 rfl)
theorem dX8_isAhead_3 : decode cX8_isAhead 3 = .ok (.invokevirtual 434, 3) := dz_182 (k_X8_isAhead 0 3 rfl) (k_X8_isAhead 0 4 rfl) (k_X8_isAhead 0 5 rfl) rfl
theorem dX8_isAhead_6 : decode cX8_isAhead 6 = .ok (.aload_n 0, 1) := dz_42 (k_X8_isAhead 0 6 rfl)
theorem dX8_isAhead_7 : decode cX8_isAhead 7 = .ok (.iload_n 2, 1) := dz_28 (k_X8_isAhead 0 7 rfl)
theorem dX8_isAhead_8 : decode cX8_isAhead 8 = .ok (.iconst 3, 1) := dz_6 (k_X8_isAhead 0 8 rfl)
theorem dX8_isAhead_9 : decode cX8_isAhead 9 = .ok (.invokevirtual 434, 3) := dz_182 (k_X8_isAhead 0 9 rfl) (k_X8_isAhead 0 10 rfl) (k_X8_isAhead 0 11 rfl) rfl
theorem dX8_isAhead_12 : decode cX8_isAhead 12 = .ok (.if_icmp .eq 26, 3) := dz_159 (k_X8_isAhead 0 12 rfl) (k_X8_isAhead 0 13 rfl) (k_X8_isAhead 0 14 rfl) rfl
theorem dX8_isAhead_15 : decode cX8_isAhead 15 = .ok (.aload_n 0, 1) := dz_42 (k_X8_isAhead 0 15 rfl)
theorem dX8_isAhead_16 : decode cX8_isAhead 16 = .ok (.iload_n 1, 1) := dz_27 (k_X8_isAhead 0 16 rfl)
theorem dX8_isAhead_17 : decode cX8_isAhead 17 = .ok (.iconst 3, 1) := dz_6 (k_X8_isAhead 0 17 rfl)
theorem dX8_isAhead_18 : decode cX8_isAhead 18 = .ok (.invokevirtual 434, 3) := dz_182 (k_X8_isAhead 0 18 rfl) (k_X8_isAhead 0 19 rfl) (k_X8_isAhead 0 20 rfl) rfl
theorem dX8_isAhead_21 : decode cX8_isAhead 21 = .ok (.aload_n 0, 1) := dz_42 (k_X8_isAhead 0 21 rfl)
theorem dX8_isAhead_22 : decode cX8_isAhead 22 = .ok (.iload_n 2, 1) := dz_28 (k_X8_isAhead 0 22 rfl)
theorem dX8_isAhead_23 : decode cX8_isAhead 23 = .ok (.iconst 3, 1) := dz_6 (k_X8_isAhead 0 23 rfl)
theorem dX8_isAhead_24 : decode cX8_isAhead 24 = .ok (.invokevirtual 434, 3) := dz_182 (k_X8_isAhead 0 24 rfl) (k_X8_isAhead 0 25 rfl) (k_X8_isAhead 0 26 rfl) rfl
theorem dX8_isAhead_27 : decode cX8_isAhead 27 = .ok (.if_icmp .ge 7, 3) := dz_162 (k_X8_isAhead 0 27 rfl) (k_X8_isAhead 0 28 rfl) (k_X8_isAhead 0 29 rfl) rfl
theorem dX8_isAhead_30 : decode cX8_isAhead 30 = .ok (.iconst 1, 1) := dz_4 (k_X8_isAhead 0 30 rfl)
theorem dX8_isAhead_31 : decode cX8_isAhead 31 = .ok (.goto 17, 3) := dz_167 (k_X8_isAhead 0 31 rfl) (k_X8_isAhead 0 32 rfl) (k_X8_isAhead 0 33 rfl) rfl
theorem dX8_isAhead_34 : decode cX8_isAhead 34 = .ok (.iconst 0, 1) := dz_3 (k_X8_isAhead 0 34 rfl)
theorem dX8_isAhead_35 : decode cX8_isAhead 35 = .ok (.goto 13, 3) := dz_167 (k_X8_isAhead 0 35 rfl) (k_X8_isAhead 0 36 rfl) (k_X8_isAhead 0 37 rfl) rfl
theorem dX8_isAhead_38 : decode cX8_isAhead 38 = .ok (.iload_n 1, 1) := dz_27 (k_X8_isAhead 0 38 rfl)
theorem dX8_isAhead_39 : decode cX8_isAhead 39 = .ok (.iload_n 2, 1) := dz_28 (k_X8_isAhead 0 39 rfl)
theorem dX8_isAhead_40 : decode cX8_isAhead 40 = .ok (.if_icmp .ge 7, 3) := dz_162 (k_X8_isAhead 0 40 rfl) (k_X8_isAhead 0 41 rfl) (k_X8_isAhead 0 42 rfl) rfl
theorem dX8_isAhead_43 : decode cX8_isAhead 43 = .ok (.iconst 1, 1) := dz_4 (k_X8_isAhead 0 43 rfl)
theorem dX8_isAhead_44 : decode cX8_isAhead 44 = .ok (.goto 4, 3) := dz_167 (k_X8_isAhead 0 44 rfl) (k_X8_isAhead 0 45 rfl) (k_X8_isAhead 0 46 rfl) rfl
theorem dX8_isAhead_47 : decode cX8_isAhead 47 = .ok (.iconst 0, 1) := dz_3 (k_X8_isAhead 0 47 rfl)
theorem dX8_isAhead_48 : decode cX8_isAhead 48 = .ok (.ireturn, 1) := dz_172 (k_X8_isAhead 0 48 rfl)
def B_X8_isAmong : List (List Nat) := [[3, 62, 3, 54, 4, 21, 4, 42, 182, 0, 103, 162, 0, 39, 29, 154, 0, 35, 28, 21, 4, 122, 4, 126, 4, 160, 0, 17, 42, 21, 4, 27, 182, 0, 234, 153, 0, 7, 4, 167, 0, 4, 3, 62, 132, 4, 1, 167, 255, 214, 29, 172]]
theorem k_X8_isAmong (j i : Nat) {b : Nat} (h : (B_X8_isAmong[j]?.bind fun c => c[i]?) = some b) : s_by cX8_isAmong (64 * j + i) b := s_byC (L := B_X8_isAmong) (by decide +kernel) (by decide +kernel) j i h
theorem dX8_isAmong_0 : decode cX8_isAmong 0 = .ok (.iconst 0, 1) := dz_3 (k_X8_isAmong 0 0 rfl)
theorem dX8_isAmong_1 : decode cX8_isAmong 1 = .ok (.istore_n 3, 1) := dz_62 (k_X8_isAmong 0 1 rfl)
theorem dX8_isAmong_2 : decode cX8_isAmong 2 = .ok (.iconst 0, 1) := dz_3 (k_X8_isAmong 0 2 rfl)
theorem dX8_isAmong_3 : decode cX8_isAmong 3 = .ok (.istore 4, 2) := dz_54 (k_X8_isAmong 0 3 rfl) (k_X8_isAmong 0 4 rfl)
theorem dX8_isAmong_5 : decode cX8_isAmong 5 = .ok (.iload 4, 2) := dz_21 (k_X8_isAmong 0 5 rfl) (k_X8_isAmong 0 6 rfl)
theorem dX8_isAmong_7 : decode cX8_isAmong 7 = .ok (.aload_n 0, 1) := dz_42 (k_X8_isAmong 0 7 rfl)
theorem dX8_isAmong_8 : decode cX8_isAmong 8 = .ok (.invokevirtual 103, 3) := dz_182 (k_X8_isAmong 0 8 rfl) (k_X8_isAmong 0 9 rfl) (k_X8_isAmong 0 10 rfl) rfl
theorem dX8_isAmong_11 : decode cX8_isAmong 11 = .ok (.if_icmp .ge 39, 3) := dz_162 (k_X8_isAmong 0 11 rfl) (k_X8_isAmong 0 12 rfl) (k_X8_isAmong 0 13 rfl) rfl
theorem dX8_isAmong_14 : decode cX8_isAmong 14 = .ok (.iload_n 3, 1) := dz_29 (k_X8_isAmong 0 14 rfl)
theorem dX8_isAmong_15 : decode cX8_isAmong 15 = .ok (.ifCond .ne 35, 3) := dz_154 (k_X8_isAmong 0 15 rfl) (k_X8_isAmong 0 16 rfl) (k_X8_isAmong 0 17 rfl) rfl
theorem dX8_isAmong_18 : decode cX8_isAmong 18 = .ok (.iload_n 2, 1) := dz_28 (k_X8_isAmong 0 18 rfl)
theorem dX8_isAmong_19 : decode cX8_isAmong 19 = .ok (.iload 4, 2) := dz_21 (k_X8_isAmong 0 19 rfl) (k_X8_isAmong 0 20 rfl)
theorem dX8_isAmong_21 : decode cX8_isAmong 21 = .ok (.ishr, 1) := dz_122 (k_X8_isAmong 0 21 rfl)
theorem dX8_isAmong_22 : decode cX8_isAmong 22 = .ok (.iconst 1, 1) := dz_4 (k_X8_isAmong 0 22 rfl)
theorem dX8_isAmong_23 : decode cX8_isAmong 23 = .ok (.iand, 1) := dz_126 (k_X8_isAmong 0 23 rfl)
theorem dX8_isAmong_24 : decode cX8_isAmong 24 = .ok (.iconst 1, 1) := dz_4 (k_X8_isAmong 0 24 rfl)
theorem dX8_isAmong_25 : decode cX8_isAmong 25 = .ok (.if_icmp .ne 17, 3) := dz_160 (k_X8_isAmong 0 25 rfl) (k_X8_isAmong 0 26 rfl) (k_X8_isAmong 0 27 rfl) rfl
theorem dX8_isAmong_28 : decode cX8_isAmong 28 = .ok (.aload_n 0, 1) := dz_42 (k_X8_isAmong 0 28 rfl)
theorem dX8_isAmong_29 : decode cX8_isAmong 29 = .ok (.iload 4, 2) := dz_21 (k_X8_isAmong 0 29 rfl) (k_X8_isAmong 0 30 rfl)
theorem dX8_isAmong_31 : decode cX8_isAmong 31 = .ok (.iload_n 1, 1) := dz_27 (k_X8_isAmong 0 31 rfl)
theorem dX8_isAmong_32 : decode cX8_isAmong 32 = .ok (.invokevirtual 234, 3) := dz_182 (k_X8_isAmong 0 32 rfl) (k_X8_isAmong 0 33 rfl) (k_X8_isAmong 0 34 rfl) rfl
theorem dX8_isAmong_35 : decode cX8_isAmong 35 = .ok (.ifCond .eq 7, 3) := dz_153 (k_X8_isAmong 0 35 rfl) (k_X8_isAmong 0 36 rfl) (k_X8_isAmong 0 37 rfl) rfl
theorem dX8_isAmong_38 : decode cX8_isAmong 38 = .ok (.iconst 1, 1) := dz_4 (k_X8_isAmong 0 38 rfl)
theorem dX8_isAmong_39 : decode cX8_isAmong 39 = .ok (.goto 4, 3) := dz_167 (k_X8_isAmong 0 39 rfl) (k_X8_isAmong 0 40 rfl) (k_X8_isAmong 0 41 rfl) rfl
theorem dX8_isAmong_42 : decode cX8_isAmong 42 = .ok (.iconst 0, 1) := dz_3 (k_X8_isAmong 0 42 rfl)
theorem dX8_isAmong_43 : decode cX8_isAmong 43 = .ok (.istore_n 3, 1) := dz_62 (k_X8_isAmong 0 43 rfl)
theorem dX8_isAmong_44 : decode cX8_isAmong 44 = .ok (.iinc 4 1, 3) := dz_132 (k_X8_isAmong 0 44 rfl) (k_X8_isAmong 0 45 rfl) (k_X8_isAmong 0 46 rfl) rfl
theorem dX8_isAmong_47 : decode cX8_isAmong 47 = .ok (.goto (-42), 3) := dz_167 (k_X8_isAmong 0 47 rfl) (k_X8_isAmong 0 48 rfl) (k_X8_isAmong 0 49 rfl) rfl
theorem dX8_isAmong_50 : decode cX8_isAmong 50 = .ok (.iload_n 3, 1) := dz_29 (k_X8_isAmong 0 50 rfl)
theorem dX8_isAmong_51 : decode cX8_isAmong 51 = .ok (.ireturn, 1) := dz_172 (k_X8_isAmong 0 51 rfl)
def B_X8_isAt : List (List Nat) := [[42, 180, 0, 148, 42, 180, 0, 151, 162, 0, 33, 42, 180, 0, 26, 42, 180, 0, 148, 51, 27, 161, 0, 20, 42, 180, 0, 26, 42, 180, 0, 148, 51, 28, 163, 0, 7, 4, 167, 0, 4, 3, 172]]
theorem k_X8_isAt (j i : Nat) {b : Nat} (h : (B_X8_isAt[j]?.bind fun c => c[i]?) = some b) : s_by cX8_isAt (64 * j + i) b := s_byC (L := B_X8_isAt) (by decide +kernel) (by decide +kernel) j i h
theorem dX8_isAt_0 : decode cX8_isAt 0 = .ok (.aload_n 0, 1) := dz_42 (k_X8_isAt 0 0 rfl)
theorem dX8_isAt_1 : decode cX8_isAt 1 = .ok (.getfield 148, 3) := dz_180 (k_X8_isAt 0 1 rfl) (k_X8_isAt 0 2 rfl) (k_X8_isAt 0 3 rfl) rfl
theorem dX8_isAt_4 : decode cX8_isAt 4 = .ok (.aload_n 0, 1) := dz_42 (k_X8_isAt 0 4 rfl)
theorem dX8_isAt_5 : decode cX8_isAt 5 = .ok (.getfield 151, 3) := dz_180 (k_X8_isAt 0 5 rfl) (k_X8_isAt 0 6 rfl) (k_X8_isAt 0 7 rfl) rfl
theorem dX8_isAt_8 : decode cX8_isAt 8 = .ok (.if_icmp .ge 33, 3) := dz_162 (k_X8_isAt 0 8 rfl) (k_X8_isAt 0 9 rfl) (k_X8_isAt 0 10 rfl) rfl
theorem dX8_isAt_11 : decode cX8_isAt 11 = .ok (.aload_n 0, 1) := dz_42 (k_X8_isAt 0 11 rfl)
theorem dX8_isAt_12 : decode cX8_isAt 12 = .ok (.getfield 26, 3) := dz_180 (k_X8_isAt 0 12 rfl) (k_X8_isAt 0 13 rfl) (k_X8_isAt 0 14 rfl) rfl
theorem dX8_isAt_15 : decode cX8_isAt 15 = .ok (.aload_n 0, 1) := dz_42 (k_X8_isAt 0 15 rfl)
theorem dX8_isAt_16 : decode cX8_isAt 16 = .ok (.getfield 148, 3) := dz_180 (k_X8_isAt 0 16 rfl) (k_X8_isAt 0 17 rfl) (k_X8_isAt 0 18 rfl) rfl
theorem dX8_isAt_19 : decode cX8_isAt 19 = .ok (.baload, 1) := dz_51 (k_X8_isAt 0 19 rfl)
theorem dX8_isAt_20 : decode cX8_isAt 20 = .ok (.iload_n 1, 1) := dz_27 (k_X8_isAt 0 20 rfl)
theorem dX8_isAt_21 : decode cX8_isAt 21 = .ok (.if_icmp .lt 20, 3) := dz_161 (k_X8_isAt 0 21 rfl) (k_X8_isAt 0 22 rfl) (k_X8_isAt 0 23 rfl) rfl
theorem dX8_isAt_24 : decode cX8_isAt 24 = .ok (.aload_n 0, 1) := dz_42 (k_X8_isAt 0 24 rfl)
theorem dX8_isAt_25 : decode cX8_isAt 25 = .ok (.getfield 26, 3) := dz_180 (k_X8_isAt 0 25 rfl) (k_X8_isAt 0 26 rfl) (k_X8_isAt 0 27 rfl) rfl
theorem dX8_isAt_28 : decode cX8_isAt 28 = .ok (.aload_n 0, 1) := dz_42 (k_X8_isAt 0 28 rfl)
theorem dX8_isAt_29 : decode cX8_isAt 29 = .ok (.getfield 148, 3) := dz_180 (k_X8_isAt 0 29 rfl) (k_X8_isAt 0 30 rfl) (k_X8_isAt 0 31 rfl) rfl
theorem dX8_isAt_32 : decode cX8_isAt 32 = .ok (.baload, 1) := dz_51 (k_X8_isAt 0 32 rfl)
theorem dX8_isAt_33 : decode cX8_isAt 33 = .ok (.iload_n 2, 1) := dz_28 (k_X8_isAt 0 33 rfl)
theorem dX8_isAt_34 : decode cX8_isAt 34 = .ok (.if_icmp .gt 7, 3) := dz_163 (k_X8_isAt 0 34 rfl) (k_X8_isAt 0 35 rfl) (k_X8_isAt 0 36 rfl) rfl
theorem dX8_isAt_37 : decode cX8_isAt 37 = .ok (.iconst 1, 1) := dz_4 (k_X8_isAt 0 37 rfl)
theorem dX8_isAt_38 : decode cX8_isAt 38 = .ok (.goto 4, 3) := dz_167 (k_X8_isAt 0 38 rfl) (k_X8_isAt 0 39 rfl) (k_X8_isAt 0 40 rfl) rfl
theorem dX8_isAt_41 : decode cX8_isAt 41 = .ok (.iconst 0, 1) := dz_3 (k_X8_isAt 0 41 rfl)
theorem dX8_isAt_42 : decode cX8_isAt 42 = .ok (.ireturn, 1) := dz_172 (k_X8_isAt 0 42 rfl)
def B_X8_isBack : List (List Nat) := [[42, 27, 182, 1, 181, 153, 0, 5, 3, 172, 42, 27, 3, 182, 1, 178, 62, 28, 4, 126, 153, 0, 11, 42, 29, 182, 1, 46, 153, 0, 70, 28, 5, 126, 153, 0, 12, 42, 180, 0, 39, 29, 51, 153, 0, 55, 28, 7, 126, 153, 0, 19, 42, 29, 182, 1, 51, 153, 0, 11, 42, 29, 182, 1], [60, 153, 0, 33, 28, 16, 8, 126, 153, 0, 11, 42, 29, 182, 1, 54, 154, 0, 18, 28, 16, 16, 126, 153, 0, 15, 42, 27, 182, 1, 187, 153, 0, 7, 4, 167, 0, 4, 3, 172]]
theorem k_X8_isBack (j i : Nat) {b : Nat} (h : (B_X8_isBack[j]?.bind fun c => c[i]?) = some b) : s_by cX8_isBack (64 * j + i) b := s_byC (L := B_X8_isBack) (by decide +kernel) (by decide +kernel) j i h
theorem dX8_isBack_0 : decode cX8_isBack 0 = .ok (.aload_n 0, 1) := dz_42 (k_X8_isBack 0 0 rfl)
theorem dX8_isBack_1 : decode cX8_isBack 1 = .ok (.iload_n 1, 1) := dz_27 (k_X8_isBack 0 1 rfl)
theorem dX8_isBack_2 : decode cX8_isBack 2 = .ok (.invokevirtual 437, 3) := dz_182 (k_X8_isBack 0 2 rfl) (k_X8_isBack 0 3 rfl) (k_X8_isBack 0 4 rfl) rfl
theorem dX8_isBack_5 : decode cX8_isBack 5 = .ok (.ifCond .eq 5, 3) := dz_153 (k_X8_isBack 0 5 rfl) (k_X8_isBack 0 6 rfl) (k_X8_isBack 0 7 rfl) rfl
theorem dX8_isBack_8 : decode cX8_isBack 8 = .ok (.iconst 0, 1) := dz_3 (k_X8_isBack 0 8 rfl)
theorem dX8_isBack_9 : decode cX8_isBack 9 = .ok (.ireturn, 1) := dz_172 (k_X8_isBack 0 9 rfl)
theorem dX8_isBack_10 : decode cX8_isBack 10 = .ok (.aload_n 0, 1) := dz_42 (k_X8_isBack 0 10 rfl)
theorem dX8_isBack_11 : decode cX8_isBack 11 = .ok (.iload_n 1, 1) := dz_27 (k_X8_isBack 0 11 rfl)
theorem dX8_isBack_12 : decode cX8_isBack 12 = .ok (.iconst 0, 1) := dz_3 (k_X8_isBack 0 12 rfl)
theorem dX8_isBack_13 : decode cX8_isBack 13 = .ok (.invokevirtual 434, 3) := dz_182 (k_X8_isBack 0 13 rfl) (k_X8_isBack 0 14 rfl) (k_X8_isBack 0 15 rfl) rfl
theorem dX8_isBack_16 : decode cX8_isBack 16 = .ok (.istore_n 3, 1) := dz_62 (k_X8_isBack 0 16 rfl)
theorem dX8_isBack_17 : decode cX8_isBack 17 = .ok (.iload_n 2, 1) := dz_28 (k_X8_isBack 0 17 rfl)
theorem dX8_isBack_18 : decode cX8_isBack 18 = .ok (.iconst 1, 1) := dz_4 (k_X8_isBack 0 18 rfl)
theorem dX8_isBack_19 : decode cX8_isBack 19 = .ok (.iand, 1) := dz_126 (k_X8_isBack 0 19 rfl)
theorem dX8_isBack_20 : decode cX8_isBack 20 = .ok (.ifCond .eq 11, 3) := dz_153 (k_X8_isBack 0 20 rfl) (k_X8_isBack 0 21 rfl) (k_X8_isBack 0 22 rfl) rfl
theorem dX8_isBack_23 : decode cX8_isBack 23 = .ok (.aload_n 0, 1) := dz_42 (k_X8_isBack 0 23 rfl)
theorem dX8_isBack_24 : decode cX8_isBack 24 = .ok (.iload_n 3, 1) := dz_29 (k_X8_isBack 0 24 rfl)
theorem dX8_isBack_25 : decode cX8_isBack 25 = .ok (.invokevirtual 302, 3) := dz_182 (k_X8_isBack 0 25 rfl) (k_X8_isBack 0 26 rfl) (k_X8_isBack 0 27 rfl) rfl
theorem dX8_isBack_28 : decode cX8_isBack 28 = .ok (.ifCond .eq 70, 3) := dz_153 (k_X8_isBack 0 28 rfl) (k_X8_isBack 0 29 rfl) (k_X8_isBack 0 30 rfl) rfl
theorem dX8_isBack_31 : decode cX8_isBack 31 = .ok (.iload_n 2, 1) := dz_28 (k_X8_isBack 0 31 rfl)
theorem dX8_isBack_32 : decode cX8_isBack 32 = .ok (.iconst 2, 1) := dz_5 (k_X8_isBack 0 32 rfl)
theorem dX8_isBack_33 : decode cX8_isBack 33 = .ok (.iand, 1) := dz_126 (k_X8_isBack 0 33 rfl)
theorem dX8_isBack_34 : decode cX8_isBack 34 = .ok (.ifCond .eq 12, 3) := dz_153 (k_X8_isBack 0 34 rfl) (k_X8_isBack 0 35 rfl) (k_X8_isBack 0 36 rfl) rfl
theorem dX8_isBack_37 : decode cX8_isBack 37 = .ok (.aload_n 0, 1) := dz_42 (k_X8_isBack 0 37 rfl)
theorem dX8_isBack_38 : decode cX8_isBack 38 = .ok (.getfield 39, 3) := dz_180 (k_X8_isBack 0 38 rfl) (k_X8_isBack 0 39 rfl) (k_X8_isBack 0 40 rfl) rfl
theorem dX8_isBack_41 : decode cX8_isBack 41 = .ok (.iload_n 3, 1) := dz_29 (k_X8_isBack 0 41 rfl)
theorem dX8_isBack_42 : decode cX8_isBack 42 = .ok (.baload, 1) := dz_51 (k_X8_isBack 0 42 rfl)
theorem dX8_isBack_43 : decode cX8_isBack 43 = .ok (.ifCond .eq 55, 3) := dz_153 (k_X8_isBack 0 43 rfl) (k_X8_isBack 0 44 rfl) (k_X8_isBack 0 45 rfl) rfl
theorem dX8_isBack_46 : decode cX8_isBack 46 = .ok (.iload_n 2, 1) := dz_28 (k_X8_isBack 0 46 rfl)
theorem dX8_isBack_47 : decode cX8_isBack 47 = .ok (.iconst 4, 1) := dz_7 (k_X8_isBack 0 47 rfl)
theorem dX8_isBack_48 : decode cX8_isBack 48 = .ok (.iand, 1) := dz_126 (k_X8_isBack 0 48 rfl)
theorem dX8_isBack_49 : decode cX8_isBack 49 = .ok (.ifCond .eq 19, 3) := dz_153 (k_X8_isBack 0 49 rfl) (k_X8_isBack 0 50 rfl) (k_X8_isBack 0 51 rfl) rfl
theorem dX8_isBack_52 : decode cX8_isBack 52 = .ok (.aload_n 0, 1) := dz_42 (k_X8_isBack 0 52 rfl)
theorem dX8_isBack_53 : decode cX8_isBack 53 = .ok (.iload_n 3, 1) := dz_29 (k_X8_isBack 0 53 rfl)
theorem dX8_isBack_54 : decode cX8_isBack 54 = .ok (.invokevirtual 307, 3) := dz_182 (k_X8_isBack 0 54 rfl) (k_X8_isBack 0 55 rfl) (k_X8_isBack 0 56 rfl) rfl
theorem dX8_isBack_57 : decode cX8_isBack 57 = .ok (.ifCond .eq 11, 3) := dz_153 (k_X8_isBack 0 57 rfl) (k_X8_isBack 0 58 rfl) (k_X8_isBack 0 59 rfl) rfl
theorem dX8_isBack_60 : decode cX8_isBack 60 = .ok (.aload_n 0, 1) := dz_42 (k_X8_isBack 0 60 rfl)
theorem dX8_isBack_61 : decode cX8_isBack 61 = .ok (.iload_n 3, 1) := dz_29 (k_X8_isBack 0 61 rfl)
theorem dX8_isBack_62 : decode cX8_isBack 62 = .ok (.invokevirtual 316, 3) := dz_182 (k_X8_isBack 0 62 rfl) (k_X8_isBack 0 63 rfl) (k_X8_isBack 1 0 rfl) rfl
theorem dX8_isBack_65 : decode cX8_isBack 65 = .ok (.ifCond .eq 33, 3) := dz_153 (k_X8_isBack 1 1 rfl) (k_X8_isBack 1 2 rfl) (k_X8_isBack 1 3 rfl) rfl
theorem dX8_isBack_68 : decode cX8_isBack 68 = .ok (.iload_n 2, 1) := dz_28 (k_X8_isBack 1 4 rfl)
theorem dX8_isBack_69 : decode cX8_isBack 69 = .ok (.bipush 8, 2) := dz_16 (k_X8_isBack 1 5 rfl) (k_X8_isBack 1 6 rfl) rfl
theorem dX8_isBack_71 : decode cX8_isBack 71 = .ok (.iand, 1) := dz_126 (k_X8_isBack 1 7 rfl)
theorem dX8_isBack_72 : decode cX8_isBack 72 = .ok (.ifCond .eq 11, 3) := dz_153 (k_X8_isBack 1 8 rfl) (k_X8_isBack 1 9 rfl) (k_X8_isBack 1 10 rfl) rfl
theorem dX8_isBack_75 : decode cX8_isBack 75 = .ok (.aload_n 0, 1) := dz_42 (k_X8_isBack 1 11 rfl)
theorem dX8_isBack_76 : decode cX8_isBack 76 = .ok (.iload_n 3, 1) := dz_29 (k_X8_isBack 1 12 rfl)
theorem dX8_isBack_77 : decode cX8_isBack 77 = .ok (.invokevirtual 310, 3) := dz_182 (k_X8_isBack 1 13 rfl) (k_X8_isBack 1 14 rfl) (k_X8_isBack 1 15 rfl) rfl
theorem dX8_isBack_80 : decode cX8_isBack 80 = .ok (.ifCond .ne 18, 3) := dz_154 (k_X8_isBack 1 16 rfl) (k_X8_isBack 1 17 rfl) (k_X8_isBack 1 18 rfl) rfl
theorem dX8_isBack_83 : decode cX8_isBack 83 = .ok (.iload_n 2, 1) := dz_28 (k_X8_isBack 1 19 rfl)
theorem dX8_isBack_84 : decode cX8_isBack 84 = .ok (.bipush 16, 2) := dz_16 (k_X8_isBack 1 20 rfl) (k_X8_isBack 1 21 rfl) rfl
theorem dX8_isBack_86 : decode cX8_isBack 86 = .ok (.iand, 1) := dz_126 (k_X8_isBack 1 22 rfl)
theorem dX8_isBack_87 : decode cX8_isBack 87 = .ok (.ifCond .eq 15, 3) := dz_153 (k_X8_isBack 1 23 rfl) (k_X8_isBack 1 24 rfl) (k_X8_isBack 1 25 rfl) rfl
theorem dX8_isBack_90 : decode cX8_isBack 90 = .ok (.aload_n 0, 1) := dz_42 (k_X8_isBack 1 26 rfl)
theorem dX8_isBack_91 : decode cX8_isBack 91 = .ok (.iload_n 1, 1) := dz_27 (k_X8_isBack 1 27 rfl)
theorem dX8_isBack_92 : decode cX8_isBack 92 = .ok (.invokevirtual 443, 3) := dz_182 (k_X8_isBack 1 28 rfl) (k_X8_isBack 1 29 rfl) (k_X8_isBack 1 30 rfl) rfl
theorem dX8_isBack_95 : decode cX8_isBack 95 = .ok (.ifCond .eq 7, 3) := dz_153 (k_X8_isBack 1 31 rfl) (k_X8_isBack 1 32 rfl) (k_X8_isBack 1 33 rfl) rfl
theorem dX8_isBack_98 : decode cX8_isBack 98 = .ok (.iconst 1, 1) := dz_4 (k_X8_isBack 1 34 rfl)
theorem dX8_isBack_99 : decode cX8_isBack 99 = .ok (.goto 4, 3) := dz_167 (k_X8_isBack 1 35 rfl) (k_X8_isBack 1 36 rfl) (k_X8_isBack 1 37 rfl) rfl
theorem dX8_isBack_102 : decode cX8_isBack 102 = .ok (.iconst 0, 1) := dz_3 (k_X8_isBack 1 38 rfl)
theorem dX8_isBack_103 : decode cX8_isBack 103 = .ok (.ireturn, 1) := dz_172 (k_X8_isBack 1 39 rfl)
def B_X8_isCases : List (List Nat) := [[42, 27, 16, 14, 182, 0, 135, 54, 5, 42, 28, 16, 15, 182, 0, 135, 54, 6, 42, 29, 16, 15, 182, 0, 135, 54, 7, 21, 5, 155, 0, 78, 21, 6, 155, 0, 73, 21, 7, 155, 0, 68, 42, 28, 16, 15, 21, 4, 182, 1, 31, 153, 0, 56, 42, 29, 16, 15, 21, 4, 182, 1, 31, 153], [0, 44, 42, 27, 4, 21, 5, 2, 28, 4, 21, 6, 182, 0, 128, 153, 0, 28, 42, 27, 21, 5, 42, 180, 0, 20, 27, 46, 2, 29, 4, 21, 7, 182, 0, 128, 153, 0, 7, 4, 167, 0, 4, 3, 172]]
theorem k_X8_isCases (j i : Nat) {b : Nat} (h : (B_X8_isCases[j]?.bind fun c => c[i]?) = some b) : s_by cX8_isCases (64 * j + i) b := s_byC (L := B_X8_isCases) (by decide +kernel) (by decide +kernel) j i h
theorem dX8_isCases_0 : decode cX8_isCases 0 = .ok (.aload_n 0, 1) := dz_42 (k_X8_isCases 0 0 rfl)
theorem dX8_isCases_1 : decode cX8_isCases 1 = .ok (.iload_n 1, 1) := dz_27 (k_X8_isCases 0 1 rfl)
theorem dX8_isCases_2 : decode cX8_isCases 2 = .ok (.bipush 14, 2) := dz_16 (k_X8_isCases 0 2 rfl) (k_X8_isCases 0 3 rfl) rfl
theorem dX8_isCases_4 : decode cX8_isCases 4 = .ok (.invokevirtual 135, 3) := dz_182 (k_X8_isCases 0 4 rfl) (k_X8_isCases 0 5 rfl) (k_X8_isCases 0 6 rfl) rfl
theorem dX8_isCases_7 : decode cX8_isCases 7 = .ok (.istore 5, 2) := dz_54 (k_X8_isCases 0 7 rfl) (k_X8_isCases 0 8 rfl)
theorem dX8_isCases_9 : decode cX8_isCases 9 = .ok (.aload_n 0, 1) := dz_42 (k_X8_isCases 0 9 rfl)
theorem dX8_isCases_10 : decode cX8_isCases 10 = .ok (.iload_n 2, 1) := dz_28 (k_X8_isCases 0 10 rfl)
theorem dX8_isCases_11 : decode cX8_isCases 11 = .ok (.bipush 15, 2) := dz_16 (k_X8_isCases 0 11 rfl) (k_X8_isCases 0 12 rfl) rfl
theorem dX8_isCases_13 : decode cX8_isCases 13 = .ok (.invokevirtual 135, 3) := dz_182 (k_X8_isCases 0 13 rfl) (k_X8_isCases 0 14 rfl) (k_X8_isCases 0 15 rfl) rfl
theorem dX8_isCases_16 : decode cX8_isCases 16 = .ok (.istore 6, 2) := dz_54 (k_X8_isCases 0 16 rfl) (k_X8_isCases 0 17 rfl)
theorem dX8_isCases_18 : decode cX8_isCases 18 = .ok (.aload_n 0, 1) := dz_42 (k_X8_isCases 0 18 rfl)
theorem dX8_isCases_19 : decode cX8_isCases 19 = .ok (.iload_n 3, 1) := dz_29 (k_X8_isCases 0 19 rfl)
theorem dX8_isCases_20 : decode cX8_isCases 20 = .ok (.bipush 15, 2) := dz_16 (k_X8_isCases 0 20 rfl) (k_X8_isCases 0 21 rfl) rfl
theorem dX8_isCases_22 : decode cX8_isCases 22 = .ok (.invokevirtual 135, 3) := dz_182 (k_X8_isCases 0 22 rfl) (k_X8_isCases 0 23 rfl) (k_X8_isCases 0 24 rfl) rfl
theorem dX8_isCases_25 : decode cX8_isCases 25 = .ok (.istore 7, 2) := dz_54 (k_X8_isCases 0 25 rfl) (k_X8_isCases 0 26 rfl)
theorem dX8_isCases_27 : decode cX8_isCases 27 = .ok (.iload 5, 2) := dz_21 (k_X8_isCases 0 27 rfl) (k_X8_isCases 0 28 rfl)
theorem dX8_isCases_29 : decode cX8_isCases 29 = .ok (.ifCond .lt 78, 3) := dz_155 (k_X8_isCases 0 29 rfl) (k_X8_isCases 0 30 rfl) (k_X8_isCases 0 31 rfl) rfl
theorem dX8_isCases_32 : decode cX8_isCases 32 = .ok (.iload 6, 2) := dz_21 (k_X8_isCases 0 32 rfl) (k_X8_isCases 0 33 rfl)
theorem dX8_isCases_34 : decode cX8_isCases 34 = .ok (.ifCond .lt 73, 3) := dz_155 (k_X8_isCases 0 34 rfl) (k_X8_isCases 0 35 rfl) (k_X8_isCases 0 36 rfl) rfl
theorem dX8_isCases_37 : decode cX8_isCases 37 = .ok (.iload 7, 2) := dz_21 (k_X8_isCases 0 37 rfl) (k_X8_isCases 0 38 rfl)
theorem dX8_isCases_39 : decode cX8_isCases 39 = .ok (.ifCond .lt 68, 3) := dz_155 (k_X8_isCases 0 39 rfl) (k_X8_isCases 0 40 rfl) (k_X8_isCases 0 41 rfl) rfl
theorem dX8_isCases_42 : decode cX8_isCases 42 = .ok (.aload_n 0, 1) := dz_42 (k_X8_isCases 0 42 rfl)
theorem dX8_isCases_43 : decode cX8_isCases 43 = .ok (.iload_n 2, 1) := dz_28 (k_X8_isCases 0 43 rfl)
theorem dX8_isCases_44 : decode cX8_isCases 44 = .ok (.bipush 15, 2) := dz_16 (k_X8_isCases 0 44 rfl) (k_X8_isCases 0 45 rfl) rfl
theorem dX8_isCases_46 : decode cX8_isCases 46 = .ok (.iload 4, 2) := dz_21 (k_X8_isCases 0 46 rfl) (k_X8_isCases 0 47 rfl)
theorem dX8_isCases_48 : decode cX8_isCases 48 = .ok (.invokevirtual 287, 3) := dz_182 (k_X8_isCases 0 48 rfl) (k_X8_isCases 0 49 rfl) (k_X8_isCases 0 50 rfl) rfl
theorem dX8_isCases_51 : decode cX8_isCases 51 = .ok (.ifCond .eq 56, 3) := dz_153 (k_X8_isCases 0 51 rfl) (k_X8_isCases 0 52 rfl) (k_X8_isCases 0 53 rfl) rfl
theorem dX8_isCases_54 : decode cX8_isCases 54 = .ok (.aload_n 0, 1) := dz_42 (k_X8_isCases 0 54 rfl)
theorem dX8_isCases_55 : decode cX8_isCases 55 = .ok (.iload_n 3, 1) := dz_29 (k_X8_isCases 0 55 rfl)
theorem dX8_isCases_56 : decode cX8_isCases 56 = .ok (.bipush 15, 2) := dz_16 (k_X8_isCases 0 56 rfl) (k_X8_isCases 0 57 rfl) rfl
theorem dX8_isCases_58 : decode cX8_isCases 58 = .ok (.iload 4, 2) := dz_21 (k_X8_isCases 0 58 rfl) (k_X8_isCases 0 59 rfl)
theorem dX8_isCases_60 : decode cX8_isCases 60 = .ok (.invokevirtual 287, 3) := dz_182 (k_X8_isCases 0 60 rfl) (k_X8_isCases 0 61 rfl) (k_X8_isCases 0 62 rfl) rfl
theorem dX8_isCases_63 : decode cX8_isCases 63 = .ok (.ifCond .eq 44, 3) := dz_153 (k_X8_isCases 0 63 rfl) (k_X8_isCases 1 0 rfl) (k_X8_isCases 1 1 rfl) rfl
theorem dX8_isCases_66 : decode cX8_isCases 66 = .ok (.aload_n 0, 1) := dz_42 (k_X8_isCases 1 2 rfl)
theorem dX8_isCases_67 : decode cX8_isCases 67 = .ok (.iload_n 1, 1) := dz_27 (k_X8_isCases 1 3 rfl)
theorem dX8_isCases_68 : decode cX8_isCases 68 = .ok (.iconst 1, 1) := dz_4 (k_X8_isCases 1 4 rfl)
theorem dX8_isCases_69 : decode cX8_isCases 69 = .ok (.iload 5, 2) := dz_21 (k_X8_isCases 1 5 rfl) (k_X8_isCases 1 6 rfl)
theorem dX8_isCases_71 : decode cX8_isCases 71 = .ok (.iconst (-1), 1) := dz_2 (k_X8_isCases 1 7 rfl)
theorem dX8_isCases_72 : decode cX8_isCases 72 = .ok (.iload_n 2, 1) := dz_28 (k_X8_isCases 1 8 rfl)
theorem dX8_isCases_73 : decode cX8_isCases 73 = .ok (.iconst 1, 1) := dz_4 (k_X8_isCases 1 9 rfl)
theorem dX8_isCases_74 : decode cX8_isCases 74 = .ok (.iload 6, 2) := dz_21 (k_X8_isCases 1 10 rfl) (k_X8_isCases 1 11 rfl)
theorem dX8_isCases_76 : decode cX8_isCases 76 = .ok (.invokevirtual 128, 3) := dz_182 (k_X8_isCases 1 12 rfl) (k_X8_isCases 1 13 rfl) (k_X8_isCases 1 14 rfl) rfl
theorem dX8_isCases_79 : decode cX8_isCases 79 = .ok (.ifCond .eq 28, 3) := dz_153 (k_X8_isCases 1 15 rfl) (k_X8_isCases 1 16 rfl) (k_X8_isCases 1 17 rfl) rfl
theorem dX8_isCases_82 : decode cX8_isCases 82 = .ok (.aload_n 0, 1) := dz_42 (k_X8_isCases 1 18 rfl)
theorem dX8_isCases_83 : decode cX8_isCases 83 = .ok (.iload_n 1, 1) := dz_27 (k_X8_isCases 1 19 rfl)
theorem dX8_isCases_84 : decode cX8_isCases 84 = .ok (.iload 5, 2) := dz_21 (k_X8_isCases 1 20 rfl) (k_X8_isCases 1 21 rfl)
theorem dX8_isCases_86 : decode cX8_isCases 86 = .ok (.aload_n 0, 1) := dz_42 (k_X8_isCases 1 22 rfl)
theorem dX8_isCases_87 : decode cX8_isCases 87 = .ok (.getfield 20, 3) := dz_180 (k_X8_isCases 1 23 rfl) (k_X8_isCases 1 24 rfl) (k_X8_isCases 1 25 rfl) rfl
theorem dX8_isCases_90 : decode cX8_isCases 90 = .ok (.iload_n 1, 1) := dz_27 (k_X8_isCases 1 26 rfl)
theorem dX8_isCases_91 : decode cX8_isCases 91 = .ok (.iaload, 1) := dz_46 (k_X8_isCases 1 27 rfl)
theorem dX8_isCases_92 : decode cX8_isCases 92 = .ok (.iconst (-1), 1) := dz_2 (k_X8_isCases 1 28 rfl)
theorem dX8_isCases_93 : decode cX8_isCases 93 = .ok (.iload_n 3, 1) := dz_29 (k_X8_isCases 1 29 rfl)
theorem dX8_isCases_94 : decode cX8_isCases 94 = .ok (.iconst 1, 1) := dz_4 (k_X8_isCases 1 30 rfl)
theorem dX8_isCases_95 : decode cX8_isCases 95 = .ok (.iload 7, 2) := dz_21 (k_X8_isCases 1 31 rfl) (k_X8_isCases 1 32 rfl)
theorem dX8_isCases_97 : decode cX8_isCases 97 = .ok (.invokevirtual 128, 3) := dz_182 (k_X8_isCases 1 33 rfl) (k_X8_isCases 1 34 rfl) (k_X8_isCases 1 35 rfl) rfl
theorem dX8_isCases_100 : decode cX8_isCases 100 = .ok (.ifCond .eq 7, 3) := dz_153 (k_X8_isCases 1 36 rfl) (k_X8_isCases 1 37 rfl) (k_X8_isCases 1 38 rfl) rfl
theorem dX8_isCases_103 : decode cX8_isCases 103 = .ok (.iconst 1, 1) := dz_4 (k_X8_isCases 1 39 rfl)
theorem dX8_isCases_104 : decode cX8_isCases 104 = .ok (.goto 4, 3) := dz_167 (k_X8_isCases 1 40 rfl) (k_X8_isCases 1 41 rfl) (k_X8_isCases 1 42 rfl) rfl
theorem dX8_isCases_107 : decode cX8_isCases 107 = .ok (.iconst 0, 1) := dz_3 (k_X8_isCases 1 43 rfl)
theorem dX8_isCases_108 : decode cX8_isCases 108 = .ok (.ireturn, 1) := dz_172 (k_X8_isCases 1 44 rfl)
def B_X8_isEnough : List (List Nat) := [[3, 62, 4, 54, 4, 3, 54, 5, 21, 5, 16, 32, 162, 0, 73, 42, 180, 0, 53, 16, 32, 16, 30, 27, 96, 104, 21, 5, 96, 46, 54, 6, 29, 154, 0, 8, 21, 6, 153, 0, 7, 4, 167, 0, 4, 3, 62, 21, 4, 153, 0, 27, 21, 6, 42, 180, 0, 53, 16, 32, 28, 104, 21, 5], [96, 46, 2, 130, 126, 154, 0, 7, 4, 167, 0, 4, 3, 54, 4, 132, 5, 1, 167, 255, 182, 29, 153, 0, 12, 21, 4, 153, 0, 7, 4, 167, 0, 4, 3, 172]]
theorem k_X8_isEnough (j i : Nat) {b : Nat} (h : (B_X8_isEnough[j]?.bind fun c => c[i]?) = some b) : s_by cX8_isEnough (64 * j + i) b := s_byC (L := B_X8_isEnough) (by decide +kernel) (by decide +kernel) j i h
theorem dX8_isEnough_0 : decode cX8_isEnough 0 = .ok (.iconst 0, 1) := dz_3 (k_X8_isEnough 0 0 rfl)
theorem dX8_isEnough_1 : decode cX8_isEnough 1 = .ok (.istore_n 3, 1) := dz_62 (k_X8_isEnough 0 1 rfl)
theorem dX8_isEnough_2 : decode cX8_isEnough 2 = .ok (.iconst 1, 1) := dz_4 (k_X8_isEnough 0 2 rfl)
theorem dX8_isEnough_3 : decode cX8_isEnough 3 = .ok (.istore 4, 2) := dz_54 (k_X8_isEnough 0 3 rfl) (k_X8_isEnough 0 4 rfl)
theorem dX8_isEnough_5 : decode cX8_isEnough 5 = .ok (.iconst 0, 1) := dz_3 (k_X8_isEnough 0 5 rfl)
theorem dX8_isEnough_6 : decode cX8_isEnough 6 = .ok (.istore 5, 2) := dz_54 (k_X8_isEnough 0 6 rfl) (k_X8_isEnough 0 7 rfl)
theorem dX8_isEnough_8 : decode cX8_isEnough 8 = .ok (.iload 5, 2) := dz_21 (k_X8_isEnough 0 8 rfl) (k_X8_isEnough 0 9 rfl)
theorem dX8_isEnough_10 : decode cX8_isEnough 10 = .ok (.bipush 32, 2) := dz_16 (k_X8_isEnough 0 10 rfl) (k_X8_isEnough 0 11 rfl) rfl
theorem dX8_isEnough_12 : decode cX8_isEnough 12 = .ok (.if_icmp .ge 73, 3) := dz_162 (k_X8_isEnough 0 12 rfl) (k_X8_isEnough 0 13 rfl) (k_X8_isEnough 0 14 rfl) rfl
theorem dX8_isEnough_15 : decode cX8_isEnough 15 = .ok (.aload_n 0, 1) := dz_42 (k_X8_isEnough 0 15 rfl)
theorem dX8_isEnough_16 : decode cX8_isEnough 16 = .ok (.getfield 53, 3) := dz_180 (k_X8_isEnough 0 16 rfl) (k_X8_isEnough 0 17 rfl) (k_X8_isEnough 0 18 rfl) rfl
theorem dX8_isEnough_19 : decode cX8_isEnough 19 = .ok (.bipush 32, 2) := dz_16 (k_X8_isEnough 0 19 rfl) (k_X8_isEnough 0 20 rfl) rfl
theorem dX8_isEnough_21 : decode cX8_isEnough 21 = .ok (.bipush 30, 2) := dz_16 (k_X8_isEnough 0 21 rfl) (k_X8_isEnough 0 22 rfl) rfl
theorem dX8_isEnough_23 : decode cX8_isEnough 23 = .ok (.iload_n 1, 1) := dz_27 (k_X8_isEnough 0 23 rfl)
theorem dX8_isEnough_24 : decode cX8_isEnough 24 = .ok (.iadd, 1) := dz_96 (k_X8_isEnough 0 24 rfl)
theorem dX8_isEnough_25 : decode cX8_isEnough 25 = .ok (.imul, 1) := dz_104 (k_X8_isEnough 0 25 rfl)
theorem dX8_isEnough_26 : decode cX8_isEnough 26 = .ok (.iload 5, 2) := dz_21 (k_X8_isEnough 0 26 rfl) (k_X8_isEnough 0 27 rfl)
theorem dX8_isEnough_28 : decode cX8_isEnough 28 = .ok (.iadd, 1) := dz_96 (k_X8_isEnough 0 28 rfl)
theorem dX8_isEnough_29 : decode cX8_isEnough 29 = .ok (.iaload, 1) := dz_46 (k_X8_isEnough 0 29 rfl)
theorem dX8_isEnough_30 : decode cX8_isEnough 30 = .ok (.istore 6, 2) := dz_54 (k_X8_isEnough 0 30 rfl) (k_X8_isEnough 0 31 rfl)
theorem dX8_isEnough_32 : decode cX8_isEnough 32 = .ok (.iload_n 3, 1) := dz_29 (k_X8_isEnough 0 32 rfl)
theorem dX8_isEnough_33 : decode cX8_isEnough 33 = .ok (.ifCond .ne 8, 3) := dz_154 (k_X8_isEnough 0 33 rfl) (k_X8_isEnough 0 34 rfl) (k_X8_isEnough 0 35 rfl) rfl
theorem dX8_isEnough_36 : decode cX8_isEnough 36 = .ok (.iload 6, 2) := dz_21 (k_X8_isEnough 0 36 rfl) (k_X8_isEnough 0 37 rfl)
theorem dX8_isEnough_38 : decode cX8_isEnough 38 = .ok (.ifCond .eq 7, 3) := dz_153 (k_X8_isEnough 0 38 rfl) (k_X8_isEnough 0 39 rfl) (k_X8_isEnough 0 40 rfl) rfl
theorem dX8_isEnough_41 : decode cX8_isEnough 41 = .ok (.iconst 1, 1) := dz_4 (k_X8_isEnough 0 41 rfl)
theorem dX8_isEnough_42 : decode cX8_isEnough 42 = .ok (.goto 4, 3) := dz_167 (k_X8_isEnough 0 42 rfl) (k_X8_isEnough 0 43 rfl) (k_X8_isEnough 0 44 rfl) rfl
theorem dX8_isEnough_45 : decode cX8_isEnough 45 = .ok (.iconst 0, 1) := dz_3 (k_X8_isEnough 0 45 rfl)
theorem dX8_isEnough_46 : decode cX8_isEnough 46 = .ok (.istore_n 3, 1) := dz_62 (k_X8_isEnough 0 46 rfl)
theorem dX8_isEnough_47 : decode cX8_isEnough 47 = .ok (.iload 4, 2) := dz_21 (k_X8_isEnough 0 47 rfl) (k_X8_isEnough 0 48 rfl)
theorem dX8_isEnough_49 : decode cX8_isEnough 49 = .ok (.ifCond .eq 27, 3) := dz_153 (k_X8_isEnough 0 49 rfl) (k_X8_isEnough 0 50 rfl) (k_X8_isEnough 0 51 rfl) rfl
theorem dX8_isEnough_52 : decode cX8_isEnough 52 = .ok (.iload 6, 2) := dz_21 (k_X8_isEnough 0 52 rfl) (k_X8_isEnough 0 53 rfl)
theorem dX8_isEnough_54 : decode cX8_isEnough 54 = .ok (.aload_n 0, 1) := dz_42 (k_X8_isEnough 0 54 rfl)
theorem dX8_isEnough_55 : decode cX8_isEnough 55 = .ok (.getfield 53, 3) := dz_180 (k_X8_isEnough 0 55 rfl) (k_X8_isEnough 0 56 rfl) (k_X8_isEnough 0 57 rfl) rfl
theorem dX8_isEnough_58 : decode cX8_isEnough 58 = .ok (.bipush 32, 2) := dz_16 (k_X8_isEnough 0 58 rfl) (k_X8_isEnough 0 59 rfl) rfl
theorem dX8_isEnough_60 : decode cX8_isEnough 60 = .ok (.iload_n 2, 1) := dz_28 (k_X8_isEnough 0 60 rfl)
theorem dX8_isEnough_61 : decode cX8_isEnough 61 = .ok (.imul, 1) := dz_104 (k_X8_isEnough 0 61 rfl)
theorem dX8_isEnough_62 : decode cX8_isEnough 62 = .ok (.iload 5, 2) := dz_21 (k_X8_isEnough 0 62 rfl) (k_X8_isEnough 0 63 rfl)
theorem dX8_isEnough_64 : decode cX8_isEnough 64 = .ok (.iadd, 1) := dz_96 (k_X8_isEnough 1 0 rfl)
theorem dX8_isEnough_65 : decode cX8_isEnough 65 = .ok (.iaload, 1) := dz_46 (k_X8_isEnough 1 1 rfl)
theorem dX8_isEnough_66 : decode cX8_isEnough 66 = .ok (.iconst (-1), 1) := dz_2 (k_X8_isEnough 1 2 rfl)
theorem dX8_isEnough_67 : decode cX8_isEnough 67 = .ok (.ixor, 1) := dz_130 (k_X8_isEnough 1 3 rfl)
theorem dX8_isEnough_68 : decode cX8_isEnough 68 = .ok (.iand, 1) := dz_126 (k_X8_isEnough 1 4 rfl)
theorem dX8_isEnough_69 : decode cX8_isEnough 69 = .ok (.ifCond .ne 7, 3) := dz_154 (k_X8_isEnough 1 5 rfl) (k_X8_isEnough 1 6 rfl) (k_X8_isEnough 1 7 rfl) rfl
theorem dX8_isEnough_72 : decode cX8_isEnough 72 = .ok (.iconst 1, 1) := dz_4 (k_X8_isEnough 1 8 rfl)
theorem dX8_isEnough_73 : decode cX8_isEnough 73 = .ok (.goto 4, 3) := dz_167 (k_X8_isEnough 1 9 rfl) (k_X8_isEnough 1 10 rfl) (k_X8_isEnough 1 11 rfl) rfl
theorem dX8_isEnough_76 : decode cX8_isEnough 76 = .ok (.iconst 0, 1) := dz_3 (k_X8_isEnough 1 12 rfl)
theorem dX8_isEnough_77 : decode cX8_isEnough 77 = .ok (.istore 4, 2) := dz_54 (k_X8_isEnough 1 13 rfl) (k_X8_isEnough 1 14 rfl)
theorem dX8_isEnough_79 : decode cX8_isEnough 79 = .ok (.iinc 5 1, 3) := dz_132 (k_X8_isEnough 1 15 rfl) (k_X8_isEnough 1 16 rfl) (k_X8_isEnough 1 17 rfl) rfl
theorem dX8_isEnough_82 : decode cX8_isEnough 82 = .ok (.goto (-74), 3) := dz_167 (k_X8_isEnough 1 18 rfl) (k_X8_isEnough 1 19 rfl) (k_X8_isEnough 1 20 rfl) rfl
theorem dX8_isEnough_85 : decode cX8_isEnough 85 = .ok (.iload_n 3, 1) := dz_29 (k_X8_isEnough 1 21 rfl)
theorem dX8_isEnough_86 : decode cX8_isEnough 86 = .ok (.ifCond .eq 12, 3) := dz_153 (k_X8_isEnough 1 22 rfl) (k_X8_isEnough 1 23 rfl) (k_X8_isEnough 1 24 rfl) rfl
theorem dX8_isEnough_89 : decode cX8_isEnough 89 = .ok (.iload 4, 2) := dz_21 (k_X8_isEnough 1 25 rfl) (k_X8_isEnough 1 26 rfl)
theorem dX8_isEnough_91 : decode cX8_isEnough 91 = .ok (.ifCond .eq 7, 3) := dz_153 (k_X8_isEnough 1 27 rfl) (k_X8_isEnough 1 28 rfl) (k_X8_isEnough 1 29 rfl) rfl
theorem dX8_isEnough_94 : decode cX8_isEnough 94 = .ok (.iconst 1, 1) := dz_4 (k_X8_isEnough 1 30 rfl)
theorem dX8_isEnough_95 : decode cX8_isEnough 95 = .ok (.goto 4, 3) := dz_167 (k_X8_isEnough 1 31 rfl) (k_X8_isEnough 1 32 rfl) (k_X8_isEnough 1 33 rfl) rfl
theorem dX8_isEnough_98 : decode cX8_isEnough 98 = .ok (.iconst 0, 1) := dz_3 (k_X8_isEnough 1 34 rfl)
theorem dX8_isEnough_99 : decode cX8_isEnough 99 = .ok (.ireturn, 1) := dz_172 (k_X8_isEnough 1 35 rfl)
def B_X8_isFewer : List (List Nat) := [[26, 184, 1, 72, 27, 184, 1, 72, 159, 0, 22, 26, 184, 1, 72, 27, 184, 1, 72, 162, 0, 7, 4, 167, 0, 17, 3, 167, 0, 13, 26, 27, 162, 0, 7, 4, 167, 0, 4, 3, 172]]
theorem k_X8_isFewer (j i : Nat) {b : Nat} (h : (B_X8_isFewer[j]?.bind fun c => c[i]?) = some b) : s_by cX8_isFewer (64 * j + i) b := s_byC (L := B_X8_isFewer) (by decide +kernel) (by decide +kernel) j i h
theorem dX8_isFewer_0 : decode cX8_isFewer 0 = .ok (.iload_n 0, 1) := dz_26 (k_X8_isFewer 0 0 rfl)
theorem dX8_isFewer_1 : decode cX8_isFewer 1 = .ok (.invokestatic 328, 3) := dz_184 (k_X8_isFewer 0 1 rfl) (k_X8_isFewer 0 2 rfl) (k_X8_isFewer 0 3 rfl) rfl
theorem dX8_isFewer_4 : decode cX8_isFewer 4 = .ok (.iload_n 1, 1) := dz_27 (k_X8_isFewer 0 4 rfl)
theorem dX8_isFewer_5 : decode cX8_isFewer 5 = .ok (.invokestatic 328, 3) := dz_184 (k_X8_isFewer 0 5 rfl) (k_X8_isFewer 0 6 rfl) (k_X8_isFewer 0 7 rfl) rfl
theorem dX8_isFewer_8 : decode cX8_isFewer 8 = .ok (.if_icmp .eq 22, 3) := dz_159 (k_X8_isFewer 0 8 rfl) (k_X8_isFewer 0 9 rfl) (k_X8_isFewer 0 10 rfl) rfl
theorem dX8_isFewer_11 : decode cX8_isFewer 11 = .ok (.iload_n 0, 1) := dz_26 (k_X8_isFewer 0 11 rfl)
theorem dX8_isFewer_12 : decode cX8_isFewer 12 = .ok (.invokestatic 328, 3) := dz_184 (k_X8_isFewer 0 12 rfl) (k_X8_isFewer 0 13 rfl) (k_X8_isFewer 0 14 rfl) rfl
theorem dX8_isFewer_15 : decode cX8_isFewer 15 = .ok (.iload_n 1, 1) := dz_27 (k_X8_isFewer 0 15 rfl)
theorem dX8_isFewer_16 : decode cX8_isFewer 16 = .ok (.invokestatic 328, 3) := dz_184 (k_X8_isFewer 0 16 rfl) (k_X8_isFewer 0 17 rfl) (k_X8_isFewer 0 18 rfl) rfl
theorem dX8_isFewer_19 : decode cX8_isFewer 19 = .ok (.if_icmp .ge 7, 3) := dz_162 (k_X8_isFewer 0 19 rfl) (k_X8_isFewer 0 20 rfl) (k_X8_isFewer 0 21 rfl) rfl
theorem dX8_isFewer_22 : decode cX8_isFewer 22 = .ok (.iconst 1, 1) := dz_4 (k_X8_isFewer 0 22 rfl)
theorem dX8_isFewer_23 : decode cX8_isFewer 23 = .ok (.goto 17, 3) := dz_167 (k_X8_isFewer 0 23 rfl) (k_X8_isFewer 0 24 rfl) (k_X8_isFewer 0 25 rfl) rfl
theorem dX8_isFewer_26 : decode cX8_isFewer 26 = .ok (.iconst 0, 1) := dz_3 (k_X8_isFewer 0 26 rfl)
theorem dX8_isFewer_27 : decode cX8_isFewer 27 = .ok (.goto 13, 3) := dz_167 (k_X8_isFewer 0 27 rfl) (k_X8_isFewer 0 28 rfl) (k_X8_isFewer 0 29 rfl) rfl
theorem dX8_isFewer_30 : decode cX8_isFewer 30 = .ok (.iload_n 0, 1) := dz_26 (k_X8_isFewer 0 30 rfl)
theorem dX8_isFewer_31 : decode cX8_isFewer 31 = .ok (.iload_n 1, 1) := dz_27 (k_X8_isFewer 0 31 rfl)
theorem dX8_isFewer_32 : decode cX8_isFewer 32 = .ok (.if_icmp .ge 7, 3) := dz_162 (k_X8_isFewer 0 32 rfl) (k_X8_isFewer 0 33 rfl) (k_X8_isFewer 0 34 rfl) rfl
theorem dX8_isFewer_35 : decode cX8_isFewer 35 = .ok (.iconst 1, 1) := dz_4 (k_X8_isFewer 0 35 rfl)
theorem dX8_isFewer_36 : decode cX8_isFewer 36 = .ok (.goto 4, 3) := dz_167 (k_X8_isFewer 0 36 rfl) (k_X8_isFewer 0 37 rfl) (k_X8_isFewer 0 38 rfl) rfl
theorem dX8_isFewer_39 : decode cX8_isFewer 39 = .ok (.iconst 0, 1) := dz_3 (k_X8_isFewer 0 39 rfl)
theorem dX8_isFewer_40 : decode cX8_isFewer 40 = .ok (.ireturn, 1) := dz_172 (k_X8_isFewer 0 40 rfl)
def B_X8_isHonest : List (List Nat) := [[42, 27, 5, 182, 1, 0, 61, 42, 27, 4, 182, 1, 0, 62, 42, 42, 27, 3, 182, 1, 0, 28, 182, 1, 16, 153, 0, 16, 42, 27, 182, 1, 19, 42, 28, 182, 1, 22, 159, 0, 5, 3, 172, 42, 27, 3, 182, 1, 13, 156, 0, 7, 2, 167, 0, 14, 42, 42, 27, 3, 182, 1, 13, 4], [182, 1, 0, 54, 4, 42, 27, 4, 182, 1, 13, 156, 0, 7, 2, 167, 0, 14, 42, 42, 27, 4, 182, 1, 13, 4, 182, 1, 0, 54, 5, 42, 27, 5, 182, 1, 13, 156, 0, 7, 2, 167, 0, 14, 42, 42, 27, 5, 182, 1, 13, 4, 182, 1, 0, 54, 6, 28, 170, 0, 0, 0, 1, 92], [0, 0, 0, 0, 0, 0, 0, 14, 0, 0, 0, 74, 0, 0, 0, 90, 0, 0, 0, 92, 0, 0, 0, 122, 0, 0, 0, 132, 0, 0, 0, 142, 0, 0, 0, 152, 0, 0, 0, 162, 0, 0, 0, 193, 0, 0, 0, 201, 0, 0, 0, 213, 0, 0, 1, 2, 0, 0, 1, 12, 0, 0, 1, 73], [0, 0, 1, 83, 42, 29, 42, 42, 27, 6, 182, 1, 0, 182, 0, 252, 182, 1, 25, 172, 4, 172, 42, 29, 16, 13, 21, 4, 182, 1, 28, 153, 0, 19, 42, 29, 16, 13, 21, 5, 182, 1, 31, 153, 0, 7, 4, 167, 0, 4, 3, 172, 42, 21, 4, 16, 13, 29, 182, 1, 28, 172, 42, 21], [4, 16, 13, 29, 182, 1, 31, 172, 42, 29, 16, 14, 21, 4, 182, 1, 28, 172, 42, 29, 16, 14, 21, 4, 182, 1, 31, 172, 42, 21, 5, 16, 15, 21, 4, 182, 1, 28, 153, 0, 19, 42, 21, 5, 16, 15, 29, 182, 1, 31, 153, 0, 7, 4, 167, 0, 4, 3, 172, 42, 21, 4, 29, 182], [1, 34, 172, 42, 21, 4, 21, 5, 21, 6, 29, 182, 1, 37, 172, 42, 42, 27, 3, 182, 1, 13, 5, 182, 1, 0, 4, 160, 0, 31, 42, 29, 16, 15, 21, 4, 182, 1, 28, 153, 0, 19, 42, 29, 16, 15, 21, 5, 182, 1, 31, 153, 0, 7, 4, 167, 0, 4, 3, 172, 42, 21, 4, 16], [16, 29, 182, 1, 40, 172, 42, 29, 16, 16, 21, 4, 3, 182, 0, 141, 153, 0, 49, 42, 182, 0, 138, 5, 161, 0, 16, 42, 29, 16, 16, 21, 5, 4, 182, 0, 141, 153, 0, 28, 42, 182, 0, 138, 6, 161, 0, 16, 42, 29, 16, 16, 21, 6, 5, 182, 0, 141, 153, 0, 7, 4, 167, 0], [4, 3, 172, 42, 29, 16, 17, 21, 4, 182, 1, 40, 172, 42, 21, 5, 21, 4, 182, 1, 43, 172, 42, 42, 27, 3, 182, 1, 13, 3, 182, 1, 0, 42, 27, 3, 182, 1, 0, 159, 0, 17, 42, 21, 4, 29, 182, 0, 234, 153, 0, 7, 4, 167, 0, 4, 3, 172]]
theorem k_X8_isHonest (j i : Nat) {b : Nat} (h : (B_X8_isHonest[j]?.bind fun c => c[i]?) = some b) : s_by cX8_isHonest (64 * j + i) b := s_byC (L := B_X8_isHonest) (by decide +kernel) (by decide +kernel) j i h
theorem dX8_isHonest_0 : decode cX8_isHonest 0 = .ok (.aload_n 0, 1) := dz_42 (k_X8_isHonest 0 0 rfl)
theorem dX8_isHonest_1 : decode cX8_isHonest 1 = .ok (.iload_n 1, 1) := dz_27 (k_X8_isHonest 0 1 rfl)
theorem dX8_isHonest_2 : decode cX8_isHonest 2 = .ok (.iconst 2, 1) := dz_5 (k_X8_isHonest 0 2 rfl)
theorem dX8_isHonest_3 : decode cX8_isHonest 3 = .ok (.invokevirtual 256, 3) := dz_182 (k_X8_isHonest 0 3 rfl) (k_X8_isHonest 0 4 rfl) (k_X8_isHonest 0 5 rfl) rfl
theorem dX8_isHonest_6 : decode cX8_isHonest 6 = .ok (.istore_n 2, 1) := dz_61 (k_X8_isHonest 0 6 rfl)
theorem dX8_isHonest_7 : decode cX8_isHonest 7 = .ok (.aload_n 0, 1) := dz_42 (k_X8_isHonest 0 7 rfl)
theorem dX8_isHonest_8 : decode cX8_isHonest 8 = .ok (.iload_n 1, 1) := dz_27 (k_X8_isHonest 0 8 rfl)
theorem dX8_isHonest_9 : decode cX8_isHonest 9 = .ok (.iconst 1, 1) := dz_4 (k_X8_isHonest 0 9 rfl)
theorem dX8_isHonest_10 : decode cX8_isHonest 10 = .ok (.invokevirtual 256, 3) := dz_182 (k_X8_isHonest 0 10 rfl) (k_X8_isHonest 0 11 rfl) (k_X8_isHonest 0 12 rfl) rfl
theorem dX8_isHonest_13 : decode cX8_isHonest 13 = .ok (.istore_n 3, 1) := dz_62 (k_X8_isHonest 0 13 rfl)
theorem dX8_isHonest_14 : decode cX8_isHonest 14 = .ok (.aload_n 0, 1) := dz_42 (k_X8_isHonest 0 14 rfl)
theorem dX8_isHonest_15 : decode cX8_isHonest 15 = .ok (.aload_n 0, 1) := dz_42 (k_X8_isHonest 0 15 rfl)
theorem dX8_isHonest_16 : decode cX8_isHonest 16 = .ok (.iload_n 1, 1) := dz_27 (k_X8_isHonest 0 16 rfl)
theorem dX8_isHonest_17 : decode cX8_isHonest 17 = .ok (.iconst 0, 1) := dz_3 (k_X8_isHonest 0 17 rfl)
theorem dX8_isHonest_18 : decode cX8_isHonest 18 = .ok (.invokevirtual 256, 3) := dz_182 (k_X8_isHonest 0 18 rfl) (k_X8_isHonest 0 19 rfl) (k_X8_isHonest 0 20 rfl) rfl
theorem dX8_isHonest_21 : decode cX8_isHonest 21 = .ok (.iload_n 2, 1) := dz_28 (k_X8_isHonest 0 21 rfl)
theorem dX8_isHonest_22 : decode cX8_isHonest 22 = .ok (.invokevirtual 272, 3) := dz_182 (k_X8_isHonest 0 22 rfl) (k_X8_isHonest 0 23 rfl) (k_X8_isHonest 0 24 rfl) rfl
theorem dX8_isHonest_25 : decode cX8_isHonest 25 = .ok (.ifCond .eq 16, 3) := dz_153 (k_X8_isHonest 0 25 rfl) (k_X8_isHonest 0 26 rfl) (k_X8_isHonest 0 27 rfl) rfl
theorem dX8_isHonest_28 : decode cX8_isHonest 28 = .ok (.aload_n 0, 1) := dz_42 (k_X8_isHonest 0 28 rfl)
theorem dX8_isHonest_29 : decode cX8_isHonest 29 = .ok (.iload_n 1, 1) := dz_27 (k_X8_isHonest 0 29 rfl)
theorem dX8_isHonest_30 : decode cX8_isHonest 30 = .ok (.invokevirtual 275, 3) := dz_182 (k_X8_isHonest 0 30 rfl) (k_X8_isHonest 0 31 rfl) (k_X8_isHonest 0 32 rfl) rfl
theorem dX8_isHonest_33 : decode cX8_isHonest 33 = .ok (.aload_n 0, 1) := dz_42 (k_X8_isHonest 0 33 rfl)
theorem dX8_isHonest_34 : decode cX8_isHonest 34 = .ok (.iload_n 2, 1) := dz_28 (k_X8_isHonest 0 34 rfl)
theorem dX8_isHonest_35 : decode cX8_isHonest 35 = .ok (.invokevirtual 278, 3) := dz_182 (k_X8_isHonest 0 35 rfl) (k_X8_isHonest 0 36 rfl) (k_X8_isHonest 0 37 rfl) rfl
theorem dX8_isHonest_38 : decode cX8_isHonest 38 = .ok (.if_icmp .eq 5, 3) := dz_159 (k_X8_isHonest 0 38 rfl) (k_X8_isHonest 0 39 rfl) (k_X8_isHonest 0 40 rfl) rfl
theorem dX8_isHonest_41 : decode cX8_isHonest 41 = .ok (.iconst 0, 1) := dz_3 (k_X8_isHonest 0 41 rfl)
theorem dX8_isHonest_42 : decode cX8_isHonest 42 = .ok (.ireturn, 1) := dz_172 (k_X8_isHonest 0 42 rfl)
theorem dX8_isHonest_43 : decode cX8_isHonest 43 = .ok (.aload_n 0, 1) := dz_42 (k_X8_isHonest 0 43 rfl)
theorem dX8_isHonest_44 : decode cX8_isHonest 44 = .ok (.iload_n 1, 1) := dz_27 (k_X8_isHonest 0 44 rfl)
theorem dX8_isHonest_45 : decode cX8_isHonest 45 = .ok (.iconst 0, 1) := dz_3 (k_X8_isHonest 0 45 rfl)
theorem dX8_isHonest_46 : decode cX8_isHonest 46 = .ok (.invokevirtual 269, 3) := dz_182 (k_X8_isHonest 0 46 rfl) (k_X8_isHonest 0 47 rfl) (k_X8_isHonest 0 48 rfl) rfl
theorem dX8_isHonest_49 : decode cX8_isHonest 49 = .ok (.ifCond .ge 7, 3) := dz_156 (k_X8_isHonest 0 49 rfl) (k_X8_isHonest 0 50 rfl) (k_X8_isHonest 0 51 rfl) rfl
theorem dX8_isHonest_52 : decode cX8_isHonest 52 = .ok (.iconst (-1), 1) := dz_2 (k_X8_isHonest 0 52 rfl)
theorem dX8_isHonest_53 : decode cX8_isHonest 53 = .ok (.goto 14, 3) := dz_167 (k_X8_isHonest 0 53 rfl) (k_X8_isHonest 0 54 rfl) (k_X8_isHonest 0 55 rfl) rfl
theorem dX8_isHonest_56 : decode cX8_isHonest 56 = .ok (.aload_n 0, 1) := dz_42 (k_X8_isHonest 0 56 rfl)
theorem dX8_isHonest_57 : decode cX8_isHonest 57 = .ok (.aload_n 0, 1) := dz_42 (k_X8_isHonest 0 57 rfl)
theorem dX8_isHonest_58 : decode cX8_isHonest 58 = .ok (.iload_n 1, 1) := dz_27 (k_X8_isHonest 0 58 rfl)
theorem dX8_isHonest_59 : decode cX8_isHonest 59 = .ok (.iconst 0, 1) := dz_3 (k_X8_isHonest 0 59 rfl)
theorem dX8_isHonest_60 : decode cX8_isHonest 60 = .ok (.invokevirtual 269, 3) := dz_182 (k_X8_isHonest 0 60 rfl) (k_X8_isHonest 0 61 rfl) (k_X8_isHonest 0 62 rfl) rfl
theorem dX8_isHonest_63 : decode cX8_isHonest 63 = .ok (.iconst 1, 1) := dz_4 (k_X8_isHonest 0 63 rfl)
theorem dX8_isHonest_64 : decode cX8_isHonest 64 = .ok (.invokevirtual 256, 3) := dz_182 (k_X8_isHonest 1 0 rfl) (k_X8_isHonest 1 1 rfl) (k_X8_isHonest 1 2 rfl) rfl
theorem dX8_isHonest_67 : decode cX8_isHonest 67 = .ok (.istore 4, 2) := dz_54 (k_X8_isHonest 1 3 rfl) (k_X8_isHonest 1 4 rfl)
theorem dX8_isHonest_69 : decode cX8_isHonest 69 = .ok (.aload_n 0, 1) := dz_42 (k_X8_isHonest 1 5 rfl)
theorem dX8_isHonest_70 : decode cX8_isHonest 70 = .ok (.iload_n 1, 1) := dz_27 (k_X8_isHonest 1 6 rfl)
theorem dX8_isHonest_71 : decode cX8_isHonest 71 = .ok (.iconst 1, 1) := dz_4 (k_X8_isHonest 1 7 rfl)
theorem dX8_isHonest_72 : decode cX8_isHonest 72 = .ok (.invokevirtual 269, 3) := dz_182 (k_X8_isHonest 1 8 rfl) (k_X8_isHonest 1 9 rfl) (k_X8_isHonest 1 10 rfl) rfl
theorem dX8_isHonest_75 : decode cX8_isHonest 75 = .ok (.ifCond .ge 7, 3) := dz_156 (k_X8_isHonest 1 11 rfl) (k_X8_isHonest 1 12 rfl) (k_X8_isHonest 1 13 rfl) rfl
theorem dX8_isHonest_78 : decode cX8_isHonest 78 = .ok (.iconst (-1), 1) := dz_2 (k_X8_isHonest 1 14 rfl)
theorem dX8_isHonest_79 : decode cX8_isHonest 79 = .ok (.goto 14, 3) := dz_167 (k_X8_isHonest 1 15 rfl) (k_X8_isHonest 1 16 rfl) (k_X8_isHonest 1 17 rfl) rfl
theorem dX8_isHonest_82 : decode cX8_isHonest 82 = .ok (.aload_n 0, 1) := dz_42 (k_X8_isHonest 1 18 rfl)
theorem dX8_isHonest_83 : decode cX8_isHonest 83 = .ok (.aload_n 0, 1) := dz_42 (k_X8_isHonest 1 19 rfl)
theorem dX8_isHonest_84 : decode cX8_isHonest 84 = .ok (.iload_n 1, 1) := dz_27 (k_X8_isHonest 1 20 rfl)
theorem dX8_isHonest_85 : decode cX8_isHonest 85 = .ok (.iconst 1, 1) := dz_4 (k_X8_isHonest 1 21 rfl)
theorem dX8_isHonest_86 : decode cX8_isHonest 86 = .ok (.invokevirtual 269, 3) := dz_182 (k_X8_isHonest 1 22 rfl) (k_X8_isHonest 1 23 rfl) (k_X8_isHonest 1 24 rfl) rfl
theorem dX8_isHonest_89 : decode cX8_isHonest 89 = .ok (.iconst 1, 1) := dz_4 (k_X8_isHonest 1 25 rfl)
theorem dX8_isHonest_90 : decode cX8_isHonest 90 = .ok (.invokevirtual 256, 3) := dz_182 (k_X8_isHonest 1 26 rfl) (k_X8_isHonest 1 27 rfl) (k_X8_isHonest 1 28 rfl) rfl
theorem dX8_isHonest_93 : decode cX8_isHonest 93 = .ok (.istore 5, 2) := dz_54 (k_X8_isHonest 1 29 rfl) (k_X8_isHonest 1 30 rfl)
theorem dX8_isHonest_95 : decode cX8_isHonest 95 = .ok (.aload_n 0, 1) := dz_42 (k_X8_isHonest 1 31 rfl)
theorem dX8_isHonest_96 : decode cX8_isHonest 96 = .ok (.iload_n 1, 1) := dz_27 (k_X8_isHonest 1 32 rfl)
theorem dX8_isHonest_97 : decode cX8_isHonest 97 = .ok (.iconst 2, 1) := dz_5 (k_X8_isHonest 1 33 rfl)
theorem dX8_isHonest_98 : decode cX8_isHonest 98 = .ok (.invokevirtual 269, 3) := dz_182 (k_X8_isHonest 1 34 rfl) (k_X8_isHonest 1 35 rfl) (k_X8_isHonest 1 36 rfl) rfl
theorem dX8_isHonest_101 : decode cX8_isHonest 101 = .ok (.ifCond .ge 7, 3) := dz_156 (k_X8_isHonest 1 37 rfl) (k_X8_isHonest 1 38 rfl) (k_X8_isHonest 1 39 rfl) rfl
theorem dX8_isHonest_104 : decode cX8_isHonest 104 = .ok (.iconst (-1), 1) := dz_2 (k_X8_isHonest 1 40 rfl)
theorem dX8_isHonest_105 : decode cX8_isHonest 105 = .ok (.goto 14, 3) := dz_167 (k_X8_isHonest 1 41 rfl) (k_X8_isHonest 1 42 rfl) (k_X8_isHonest 1 43 rfl) rfl
theorem dX8_isHonest_108 : decode cX8_isHonest 108 = .ok (.aload_n 0, 1) := dz_42 (k_X8_isHonest 1 44 rfl)
theorem dX8_isHonest_109 : decode cX8_isHonest 109 = .ok (.aload_n 0, 1) := dz_42 (k_X8_isHonest 1 45 rfl)
theorem dX8_isHonest_110 : decode cX8_isHonest 110 = .ok (.iload_n 1, 1) := dz_27 (k_X8_isHonest 1 46 rfl)
theorem dX8_isHonest_111 : decode cX8_isHonest 111 = .ok (.iconst 2, 1) := dz_5 (k_X8_isHonest 1 47 rfl)
theorem dX8_isHonest_112 : decode cX8_isHonest 112 = .ok (.invokevirtual 269, 3) := dz_182 (k_X8_isHonest 1 48 rfl) (k_X8_isHonest 1 49 rfl) (k_X8_isHonest 1 50 rfl) rfl
theorem dX8_isHonest_115 : decode cX8_isHonest 115 = .ok (.iconst 1, 1) := dz_4 (k_X8_isHonest 1 51 rfl)
theorem dX8_isHonest_116 : decode cX8_isHonest 116 = .ok (.invokevirtual 256, 3) := dz_182 (k_X8_isHonest 1 52 rfl) (k_X8_isHonest 1 53 rfl) (k_X8_isHonest 1 54 rfl) rfl
theorem dX8_isHonest_119 : decode cX8_isHonest 119 = .ok (.istore 6, 2) := dz_54 (k_X8_isHonest 1 55 rfl) (k_X8_isHonest 1 56 rfl)
theorem dX8_isHonest_121 : decode cX8_isHonest 121 = .ok (.iload_n 2, 1) := dz_28 (k_X8_isHonest 1 57 rfl)
theorem dX8_isHonest_122 : decode cX8_isHonest 122 = .ok (.tableswitch 348 0 14 #[74, 90, 92, 122, 132, 142, 152, 162, 193, 201, 213, 258, 268, 329, 339], 74) := by decide +kernel
theorem dX8_isHonest_196 : decode cX8_isHonest 196 = .ok (.aload_n 0, 1) := dz_42 (k_X8_isHonest 3 4 rfl)
theorem dX8_isHonest_197 : decode cX8_isHonest 197 = .ok (.iload_n 3, 1) := dz_29 (k_X8_isHonest 3 5 rfl)
theorem dX8_isHonest_198 : decode cX8_isHonest 198 = .ok (.aload_n 0, 1) := dz_42 (k_X8_isHonest 3 6 rfl)
theorem dX8_isHonest_199 : decode cX8_isHonest 199 = .ok (.aload_n 0, 1) := dz_42 (k_X8_isHonest 3 7 rfl)
theorem dX8_isHonest_200 : decode cX8_isHonest 200 = .ok (.iload_n 1, 1) := dz_27 (k_X8_isHonest 3 8 rfl)
theorem dX8_isHonest_201 : decode cX8_isHonest 201 = .ok (.iconst 3, 1) := dz_6 (k_X8_isHonest 3 9 rfl)
theorem dX8_isHonest_202 : decode cX8_isHonest 202 = .ok (.invokevirtual 256, 3) := dz_182 (k_X8_isHonest 3 10 rfl) (k_X8_isHonest 3 11 rfl) (k_X8_isHonest 3 12 rfl) rfl
theorem dX8_isHonest_205 : decode cX8_isHonest 205 = .ok (.invokevirtual 252, 3) := dz_182 (k_X8_isHonest 3 13 rfl) (k_X8_isHonest 3 14 rfl) (k_X8_isHonest 3 15 rfl) rfl
theorem dX8_isHonest_208 : decode cX8_isHonest 208 = .ok (.invokevirtual 281, 3) := dz_182 (k_X8_isHonest 3 16 rfl) (k_X8_isHonest 3 17 rfl) (k_X8_isHonest 3 18 rfl) rfl
theorem dX8_isHonest_211 : decode cX8_isHonest 211 = .ok (.ireturn, 1) := dz_172 (k_X8_isHonest 3 19 rfl)
theorem dX8_isHonest_212 : decode cX8_isHonest 212 = .ok (.iconst 1, 1) := dz_4 (k_X8_isHonest 3 20 rfl)
theorem dX8_isHonest_213 : decode cX8_isHonest 213 = .ok (.ireturn, 1) := dz_172 (k_X8_isHonest 3 21 rfl)
theorem dX8_isHonest_214 : decode cX8_isHonest 214 = .ok (.aload_n 0, 1) := dz_42 (k_X8_isHonest 3 22 rfl)
theorem dX8_isHonest_215 : decode cX8_isHonest 215 = .ok (.iload_n 3, 1) := dz_29 (k_X8_isHonest 3 23 rfl)
theorem dX8_isHonest_216 : decode cX8_isHonest 216 = .ok (.bipush 13, 2) := dz_16 (k_X8_isHonest 3 24 rfl) (k_X8_isHonest 3 25 rfl) rfl
theorem dX8_isHonest_218 : decode cX8_isHonest 218 = .ok (.iload 4, 2) := dz_21 (k_X8_isHonest 3 26 rfl) (k_X8_isHonest 3 27 rfl)
theorem dX8_isHonest_220 : decode cX8_isHonest 220 = .ok (.invokevirtual 284, 3) := dz_182 (k_X8_isHonest 3 28 rfl) (k_X8_isHonest 3 29 rfl) (k_X8_isHonest 3 30 rfl) rfl
theorem dX8_isHonest_223 : decode cX8_isHonest 223 = .ok (.ifCond .eq 19, 3) := dz_153 (k_X8_isHonest 3 31 rfl) (k_X8_isHonest 3 32 rfl) (k_X8_isHonest 3 33 rfl) rfl
theorem dX8_isHonest_226 : decode cX8_isHonest 226 = .ok (.aload_n 0, 1) := dz_42 (k_X8_isHonest 3 34 rfl)
theorem dX8_isHonest_227 : decode cX8_isHonest 227 = .ok (.iload_n 3, 1) := dz_29 (k_X8_isHonest 3 35 rfl)
theorem dX8_isHonest_228 : decode cX8_isHonest 228 = .ok (.bipush 13, 2) := dz_16 (k_X8_isHonest 3 36 rfl) (k_X8_isHonest 3 37 rfl) rfl
theorem dX8_isHonest_230 : decode cX8_isHonest 230 = .ok (.iload 5, 2) := dz_21 (k_X8_isHonest 3 38 rfl) (k_X8_isHonest 3 39 rfl)
theorem dX8_isHonest_232 : decode cX8_isHonest 232 = .ok (.invokevirtual 287, 3) := dz_182 (k_X8_isHonest 3 40 rfl) (k_X8_isHonest 3 41 rfl) (k_X8_isHonest 3 42 rfl) rfl
theorem dX8_isHonest_235 : decode cX8_isHonest 235 = .ok (.ifCond .eq 7, 3) := dz_153 (k_X8_isHonest 3 43 rfl) (k_X8_isHonest 3 44 rfl) (k_X8_isHonest 3 45 rfl) rfl
theorem dX8_isHonest_238 : decode cX8_isHonest 238 = .ok (.iconst 1, 1) := dz_4 (k_X8_isHonest 3 46 rfl)
theorem dX8_isHonest_239 : decode cX8_isHonest 239 = .ok (.goto 4, 3) := dz_167 (k_X8_isHonest 3 47 rfl) (k_X8_isHonest 3 48 rfl) (k_X8_isHonest 3 49 rfl) rfl
theorem dX8_isHonest_242 : decode cX8_isHonest 242 = .ok (.iconst 0, 1) := dz_3 (k_X8_isHonest 3 50 rfl)
theorem dX8_isHonest_243 : decode cX8_isHonest 243 = .ok (.ireturn, 1) := dz_172 (k_X8_isHonest 3 51 rfl)
theorem dX8_isHonest_244 : decode cX8_isHonest 244 = .ok (.aload_n 0, 1) := dz_42 (k_X8_isHonest 3 52 rfl)
theorem dX8_isHonest_245 : decode cX8_isHonest 245 = .ok (.iload 4, 2) := dz_21 (k_X8_isHonest 3 53 rfl) (k_X8_isHonest 3 54 rfl)
theorem dX8_isHonest_247 : decode cX8_isHonest 247 = .ok (.bipush 13, 2) := dz_16 (k_X8_isHonest 3 55 rfl) (k_X8_isHonest 3 56 rfl) rfl
theorem dX8_isHonest_249 : decode cX8_isHonest 249 = .ok (.iload_n 3, 1) := dz_29 (k_X8_isHonest 3 57 rfl)
theorem dX8_isHonest_250 : decode cX8_isHonest 250 = .ok (.invokevirtual 284, 3) := dz_182 (k_X8_isHonest 3 58 rfl) (k_X8_isHonest 3 59 rfl) (k_X8_isHonest 3 60 rfl) rfl
theorem dX8_isHonest_253 : decode cX8_isHonest 253 = .ok (.ireturn, 1) := dz_172 (k_X8_isHonest 3 61 rfl)
theorem dX8_isHonest_254 : decode cX8_isHonest 254 = .ok (.aload_n 0, 1) := dz_42 (k_X8_isHonest 3 62 rfl)
theorem dX8_isHonest_255 : decode cX8_isHonest 255 = .ok (.iload 4, 2) := dz_21 (k_X8_isHonest 3 63 rfl) (k_X8_isHonest 4 0 rfl)
theorem dX8_isHonest_257 : decode cX8_isHonest 257 = .ok (.bipush 13, 2) := dz_16 (k_X8_isHonest 4 1 rfl) (k_X8_isHonest 4 2 rfl) rfl
theorem dX8_isHonest_259 : decode cX8_isHonest 259 = .ok (.iload_n 3, 1) := dz_29 (k_X8_isHonest 4 3 rfl)
theorem dX8_isHonest_260 : decode cX8_isHonest 260 = .ok (.invokevirtual 287, 3) := dz_182 (k_X8_isHonest 4 4 rfl) (k_X8_isHonest 4 5 rfl) (k_X8_isHonest 4 6 rfl) rfl
theorem dX8_isHonest_263 : decode cX8_isHonest 263 = .ok (.ireturn, 1) := dz_172 (k_X8_isHonest 4 7 rfl)
theorem dX8_isHonest_264 : decode cX8_isHonest 264 = .ok (.aload_n 0, 1) := dz_42 (k_X8_isHonest 4 8 rfl)
theorem dX8_isHonest_265 : decode cX8_isHonest 265 = .ok (.iload_n 3, 1) := dz_29 (k_X8_isHonest 4 9 rfl)
theorem dX8_isHonest_266 : decode cX8_isHonest 266 = .ok (.bipush 14, 2) := dz_16 (k_X8_isHonest 4 10 rfl) (k_X8_isHonest 4 11 rfl) rfl
theorem dX8_isHonest_268 : decode cX8_isHonest 268 = .ok (.iload 4, 2) := dz_21 (k_X8_isHonest 4 12 rfl) (k_X8_isHonest 4 13 rfl)
theorem dX8_isHonest_270 : decode cX8_isHonest 270 = .ok (.invokevirtual 284, 3) := dz_182 (k_X8_isHonest 4 14 rfl) (k_X8_isHonest 4 15 rfl) (k_X8_isHonest 4 16 rfl) rfl
theorem dX8_isHonest_273 : decode cX8_isHonest 273 = .ok (.ireturn, 1) := dz_172 (k_X8_isHonest 4 17 rfl)
theorem dX8_isHonest_274 : decode cX8_isHonest 274 = .ok (.aload_n 0, 1) := dz_42 (k_X8_isHonest 4 18 rfl)
theorem dX8_isHonest_275 : decode cX8_isHonest 275 = .ok (.iload_n 3, 1) := dz_29 (k_X8_isHonest 4 19 rfl)
theorem dX8_isHonest_276 : decode cX8_isHonest 276 = .ok (.bipush 14, 2) := dz_16 (k_X8_isHonest 4 20 rfl) (k_X8_isHonest 4 21 rfl) rfl
theorem dX8_isHonest_278 : decode cX8_isHonest 278 = .ok (.iload 4, 2) := dz_21 (k_X8_isHonest 4 22 rfl) (k_X8_isHonest 4 23 rfl)
theorem dX8_isHonest_280 : decode cX8_isHonest 280 = .ok (.invokevirtual 287, 3) := dz_182 (k_X8_isHonest 4 24 rfl) (k_X8_isHonest 4 25 rfl) (k_X8_isHonest 4 26 rfl) rfl
theorem dX8_isHonest_283 : decode cX8_isHonest 283 = .ok (.ireturn, 1) := dz_172 (k_X8_isHonest 4 27 rfl)
theorem dX8_isHonest_284 : decode cX8_isHonest 284 = .ok (.aload_n 0, 1) := dz_42 (k_X8_isHonest 4 28 rfl)
theorem dX8_isHonest_285 : decode cX8_isHonest 285 = .ok (.iload 5, 2) := dz_21 (k_X8_isHonest 4 29 rfl) (k_X8_isHonest 4 30 rfl)
theorem dX8_isHonest_287 : decode cX8_isHonest 287 = .ok (.bipush 15, 2) := dz_16 (k_X8_isHonest 4 31 rfl) (k_X8_isHonest 4 32 rfl) rfl
theorem dX8_isHonest_289 : decode cX8_isHonest 289 = .ok (.iload 4, 2) := dz_21 (k_X8_isHonest 4 33 rfl) (k_X8_isHonest 4 34 rfl)
theorem dX8_isHonest_291 : decode cX8_isHonest 291 = .ok (.invokevirtual 284, 3) := dz_182 (k_X8_isHonest 4 35 rfl) (k_X8_isHonest 4 36 rfl) (k_X8_isHonest 4 37 rfl) rfl
theorem dX8_isHonest_294 : decode cX8_isHonest 294 = .ok (.ifCond .eq 19, 3) := dz_153 (k_X8_isHonest 4 38 rfl) (k_X8_isHonest 4 39 rfl) (k_X8_isHonest 4 40 rfl) rfl
theorem dX8_isHonest_297 : decode cX8_isHonest 297 = .ok (.aload_n 0, 1) := dz_42 (k_X8_isHonest 4 41 rfl)
theorem dX8_isHonest_298 : decode cX8_isHonest 298 = .ok (.iload 5, 2) := dz_21 (k_X8_isHonest 4 42 rfl) (k_X8_isHonest 4 43 rfl)
theorem dX8_isHonest_300 : decode cX8_isHonest 300 = .ok (.bipush 15, 2) := dz_16 (k_X8_isHonest 4 44 rfl) (k_X8_isHonest 4 45 rfl) rfl
theorem dX8_isHonest_302 : decode cX8_isHonest 302 = .ok (.iload_n 3, 1) := dz_29 (k_X8_isHonest 4 46 rfl)
theorem dX8_isHonest_303 : decode cX8_isHonest 303 = .ok (.invokevirtual 287, 3) := dz_182 (k_X8_isHonest 4 47 rfl) (k_X8_isHonest 4 48 rfl) (k_X8_isHonest 4 49 rfl) rfl
theorem dX8_isHonest_306 : decode cX8_isHonest 306 = .ok (.ifCond .eq 7, 3) := dz_153 (k_X8_isHonest 4 50 rfl) (k_X8_isHonest 4 51 rfl) (k_X8_isHonest 4 52 rfl) rfl
theorem dX8_isHonest_309 : decode cX8_isHonest 309 = .ok (.iconst 1, 1) := dz_4 (k_X8_isHonest 4 53 rfl)
theorem dX8_isHonest_310 : decode cX8_isHonest 310 = .ok (.goto 4, 3) := dz_167 (k_X8_isHonest 4 54 rfl) (k_X8_isHonest 4 55 rfl) (k_X8_isHonest 4 56 rfl) rfl
theorem dX8_isHonest_313 : decode cX8_isHonest 313 = .ok (.iconst 0, 1) := dz_3 (k_X8_isHonest 4 57 rfl)
theorem dX8_isHonest_314 : decode cX8_isHonest 314 = .ok (.ireturn, 1) := dz_172 (k_X8_isHonest 4 58 rfl)
theorem dX8_isHonest_315 : decode cX8_isHonest 315 = .ok (.aload_n 0, 1) := dz_42 (k_X8_isHonest 4 59 rfl)
theorem dX8_isHonest_316 : decode cX8_isHonest 316 = .ok (.iload 4, 2) := dz_21 (k_X8_isHonest 4 60 rfl) (k_X8_isHonest 4 61 rfl)
theorem dX8_isHonest_318 : decode cX8_isHonest 318 = .ok (.iload_n 3, 1) := dz_29 (k_X8_isHonest 4 62 rfl)
theorem dX8_isHonest_319 : decode cX8_isHonest 319 = .ok (.invokevirtual 290, 3) := dz_182 (k_X8_isHonest 4 63 rfl) (k_X8_isHonest 5 0 rfl) (k_X8_isHonest 5 1 rfl) rfl
theorem dX8_isHonest_322 : decode cX8_isHonest 322 = .ok (.ireturn, 1) := dz_172 (k_X8_isHonest 5 2 rfl)
theorem dX8_isHonest_323 : decode cX8_isHonest 323 = .ok (.aload_n 0, 1) := dz_42 (k_X8_isHonest 5 3 rfl)
theorem dX8_isHonest_324 : decode cX8_isHonest 324 = .ok (.iload 4, 2) := dz_21 (k_X8_isHonest 5 4 rfl) (k_X8_isHonest 5 5 rfl)
theorem dX8_isHonest_326 : decode cX8_isHonest 326 = .ok (.iload 5, 2) := dz_21 (k_X8_isHonest 5 6 rfl) (k_X8_isHonest 5 7 rfl)
theorem dX8_isHonest_328 : decode cX8_isHonest 328 = .ok (.iload 6, 2) := dz_21 (k_X8_isHonest 5 8 rfl) (k_X8_isHonest 5 9 rfl)
theorem dX8_isHonest_330 : decode cX8_isHonest 330 = .ok (.iload_n 3, 1) := dz_29 (k_X8_isHonest 5 10 rfl)
theorem dX8_isHonest_331 : decode cX8_isHonest 331 = .ok (.invokevirtual 293, 3) := dz_182 (k_X8_isHonest 5 11 rfl) (k_X8_isHonest 5 12 rfl) (k_X8_isHonest 5 13 rfl) rfl
theorem dX8_isHonest_334 : decode cX8_isHonest 334 = .ok (.ireturn, 1) := dz_172 (k_X8_isHonest 5 14 rfl)
theorem dX8_isHonest_335 : decode cX8_isHonest 335 = .ok (.aload_n 0, 1) := dz_42 (k_X8_isHonest 5 15 rfl)
theorem dX8_isHonest_336 : decode cX8_isHonest 336 = .ok (.aload_n 0, 1) := dz_42 (k_X8_isHonest 5 16 rfl)
theorem dX8_isHonest_337 : decode cX8_isHonest 337 = .ok (.iload_n 1, 1) := dz_27 (k_X8_isHonest 5 17 rfl)
theorem dX8_isHonest_338 : decode cX8_isHonest 338 = .ok (.iconst 0, 1) := dz_3 (k_X8_isHonest 5 18 rfl)
theorem dX8_isHonest_339 : decode cX8_isHonest 339 = .ok (.invokevirtual 269, 3) := dz_182 (k_X8_isHonest 5 19 rfl) (k_X8_isHonest 5 20 rfl) (k_X8_isHonest 5 21 rfl) rfl
theorem dX8_isHonest_342 : decode cX8_isHonest 342 = .ok (.iconst 2, 1) := dz_5 (k_X8_isHonest 5 22 rfl)
theorem dX8_isHonest_343 : decode cX8_isHonest 343 = .ok (.invokevirtual 256, 3) := dz_182 (k_X8_isHonest 5 23 rfl) (k_X8_isHonest 5 24 rfl) (k_X8_isHonest 5 25 rfl) rfl
theorem dX8_isHonest_346 : decode cX8_isHonest 346 = .ok (.iconst 1, 1) := dz_4 (k_X8_isHonest 5 26 rfl)
theorem dX8_isHonest_347 : decode cX8_isHonest 347 = .ok (.if_icmp .ne 31, 3) := dz_160 (k_X8_isHonest 5 27 rfl) (k_X8_isHonest 5 28 rfl) (k_X8_isHonest 5 29 rfl) rfl
theorem dX8_isHonest_350 : decode cX8_isHonest 350 = .ok (.aload_n 0, 1) := dz_42 (k_X8_isHonest 5 30 rfl)
theorem dX8_isHonest_351 : decode cX8_isHonest 351 = .ok (.iload_n 3, 1) := dz_29 (k_X8_isHonest 5 31 rfl)
theorem dX8_isHonest_352 : decode cX8_isHonest 352 = .ok (.bipush 15, 2) := dz_16 (k_X8_isHonest 5 32 rfl) (k_X8_isHonest 5 33 rfl) rfl
theorem dX8_isHonest_354 : decode cX8_isHonest 354 = .ok (.iload 4, 2) := dz_21 (k_X8_isHonest 5 34 rfl) (k_X8_isHonest 5 35 rfl)
theorem dX8_isHonest_356 : decode cX8_isHonest 356 = .ok (.invokevirtual 284, 3) := dz_182 (k_X8_isHonest 5 36 rfl) (k_X8_isHonest 5 37 rfl) (k_X8_isHonest 5 38 rfl) rfl
theorem dX8_isHonest_359 : decode cX8_isHonest 359 = .ok (.ifCond .eq 19, 3) := dz_153 (k_X8_isHonest 5 39 rfl) (k_X8_isHonest 5 40 rfl) (k_X8_isHonest 5 41 rfl) rfl
theorem dX8_isHonest_362 : decode cX8_isHonest 362 = .ok (.aload_n 0, 1) := dz_42 (k_X8_isHonest 5 42 rfl)
theorem dX8_isHonest_363 : decode cX8_isHonest 363 = .ok (.iload_n 3, 1) := dz_29 (k_X8_isHonest 5 43 rfl)
theorem dX8_isHonest_364 : decode cX8_isHonest 364 = .ok (.bipush 15, 2) := dz_16 (k_X8_isHonest 5 44 rfl) (k_X8_isHonest 5 45 rfl) rfl
theorem dX8_isHonest_366 : decode cX8_isHonest 366 = .ok (.iload 5, 2) := dz_21 (k_X8_isHonest 5 46 rfl) (k_X8_isHonest 5 47 rfl)
theorem dX8_isHonest_368 : decode cX8_isHonest 368 = .ok (.invokevirtual 287, 3) := dz_182 (k_X8_isHonest 5 48 rfl) (k_X8_isHonest 5 49 rfl) (k_X8_isHonest 5 50 rfl) rfl
theorem dX8_isHonest_371 : decode cX8_isHonest 371 = .ok (.ifCond .eq 7, 3) := dz_153 (k_X8_isHonest 5 51 rfl) (k_X8_isHonest 5 52 rfl) (k_X8_isHonest 5 53 rfl) rfl
theorem dX8_isHonest_374 : decode cX8_isHonest 374 = .ok (.iconst 1, 1) := dz_4 (k_X8_isHonest 5 54 rfl)
theorem dX8_isHonest_375 : decode cX8_isHonest 375 = .ok (.goto 4, 3) := dz_167 (k_X8_isHonest 5 55 rfl) (k_X8_isHonest 5 56 rfl) (k_X8_isHonest 5 57 rfl) rfl
theorem dX8_isHonest_378 : decode cX8_isHonest 378 = .ok (.iconst 0, 1) := dz_3 (k_X8_isHonest 5 58 rfl)
theorem dX8_isHonest_379 : decode cX8_isHonest 379 = .ok (.ireturn, 1) := dz_172 (k_X8_isHonest 5 59 rfl)
theorem dX8_isHonest_380 : decode cX8_isHonest 380 = .ok (.aload_n 0, 1) := dz_42 (k_X8_isHonest 5 60 rfl)
theorem dX8_isHonest_381 : decode cX8_isHonest 381 = .ok (.iload 4, 2) := dz_21 (k_X8_isHonest 5 61 rfl) (k_X8_isHonest 5 62 rfl)
theorem dX8_isHonest_383 : decode cX8_isHonest 383 = .ok (.bipush 16, 2) := dz_16 (k_X8_isHonest 5 63 rfl) (k_X8_isHonest 6 0 rfl) rfl
theorem dX8_isHonest_385 : decode cX8_isHonest 385 = .ok (.iload_n 3, 1) := dz_29 (k_X8_isHonest 6 1 rfl)
theorem dX8_isHonest_386 : decode cX8_isHonest 386 = .ok (.invokevirtual 296, 3) := dz_182 (k_X8_isHonest 6 2 rfl) (k_X8_isHonest 6 3 rfl) (k_X8_isHonest 6 4 rfl) rfl
theorem dX8_isHonest_389 : decode cX8_isHonest 389 = .ok (.ireturn, 1) := dz_172 (k_X8_isHonest 6 5 rfl)
theorem dX8_isHonest_390 : decode cX8_isHonest 390 = .ok (.aload_n 0, 1) := dz_42 (k_X8_isHonest 6 6 rfl)
theorem dX8_isHonest_391 : decode cX8_isHonest 391 = .ok (.iload_n 3, 1) := dz_29 (k_X8_isHonest 6 7 rfl)
theorem dX8_isHonest_392 : decode cX8_isHonest 392 = .ok (.bipush 16, 2) := dz_16 (k_X8_isHonest 6 8 rfl) (k_X8_isHonest 6 9 rfl) rfl
theorem dX8_isHonest_394 : decode cX8_isHonest 394 = .ok (.iload 4, 2) := dz_21 (k_X8_isHonest 6 10 rfl) (k_X8_isHonest 6 11 rfl)
theorem dX8_isHonest_396 : decode cX8_isHonest 396 = .ok (.iconst 0, 1) := dz_3 (k_X8_isHonest 6 12 rfl)
theorem dX8_isHonest_397 : decode cX8_isHonest 397 = .ok (.invokevirtual 141, 3) := dz_182 (k_X8_isHonest 6 13 rfl) (k_X8_isHonest 6 14 rfl) (k_X8_isHonest 6 15 rfl) rfl
theorem dX8_isHonest_400 : decode cX8_isHonest 400 = .ok (.ifCond .eq 49, 3) := dz_153 (k_X8_isHonest 6 16 rfl) (k_X8_isHonest 6 17 rfl) (k_X8_isHonest 6 18 rfl) rfl
theorem dX8_isHonest_403 : decode cX8_isHonest 403 = .ok (.aload_n 0, 1) := dz_42 (k_X8_isHonest 6 19 rfl)
theorem dX8_isHonest_404 : decode cX8_isHonest 404 = .ok (.invokevirtual 138, 3) := dz_182 (k_X8_isHonest 6 20 rfl) (k_X8_isHonest 6 21 rfl) (k_X8_isHonest 6 22 rfl) rfl
theorem dX8_isHonest_407 : decode cX8_isHonest 407 = .ok (.iconst 2, 1) := dz_5 (k_X8_isHonest 6 23 rfl)
theorem dX8_isHonest_408 : decode cX8_isHonest 408 = .ok (.if_icmp .lt 16, 3) := dz_161 (k_X8_isHonest 6 24 rfl) (k_X8_isHonest 6 25 rfl) (k_X8_isHonest 6 26 rfl) rfl
theorem dX8_isHonest_411 : decode cX8_isHonest 411 = .ok (.aload_n 0, 1) := dz_42 (k_X8_isHonest 6 27 rfl)
theorem dX8_isHonest_412 : decode cX8_isHonest 412 = .ok (.iload_n 3, 1) := dz_29 (k_X8_isHonest 6 28 rfl)
theorem dX8_isHonest_413 : decode cX8_isHonest 413 = .ok (.bipush 16, 2) := dz_16 (k_X8_isHonest 6 29 rfl) (k_X8_isHonest 6 30 rfl) rfl
theorem dX8_isHonest_415 : decode cX8_isHonest 415 = .ok (.iload 5, 2) := dz_21 (k_X8_isHonest 6 31 rfl) (k_X8_isHonest 6 32 rfl)
theorem dX8_isHonest_417 : decode cX8_isHonest 417 = .ok (.iconst 1, 1) := dz_4 (k_X8_isHonest 6 33 rfl)
theorem dX8_isHonest_418 : decode cX8_isHonest 418 = .ok (.invokevirtual 141, 3) := dz_182 (k_X8_isHonest 6 34 rfl) (k_X8_isHonest 6 35 rfl) (k_X8_isHonest 6 36 rfl) rfl
theorem dX8_isHonest_421 : decode cX8_isHonest 421 = .ok (.ifCond .eq 28, 3) := dz_153 (k_X8_isHonest 6 37 rfl) (k_X8_isHonest 6 38 rfl) (k_X8_isHonest 6 39 rfl) rfl
theorem dX8_isHonest_424 : decode cX8_isHonest 424 = .ok (.aload_n 0, 1) := dz_42 (k_X8_isHonest 6 40 rfl)
theorem dX8_isHonest_425 : decode cX8_isHonest 425 = .ok (.invokevirtual 138, 3) := dz_182 (k_X8_isHonest 6 41 rfl) (k_X8_isHonest 6 42 rfl) (k_X8_isHonest 6 43 rfl) rfl
theorem dX8_isHonest_428 : decode cX8_isHonest 428 = .ok (.iconst 3, 1) := dz_6 (k_X8_isHonest 6 44 rfl)
theorem dX8_isHonest_429 : decode cX8_isHonest 429 = .ok (.if_icmp .lt 16, 3) := dz_161 (k_X8_isHonest 6 45 rfl) (k_X8_isHonest 6 46 rfl) (k_X8_isHonest 6 47 rfl) rfl
theorem dX8_isHonest_432 : decode cX8_isHonest 432 = .ok (.aload_n 0, 1) := dz_42 (k_X8_isHonest 6 48 rfl)
theorem dX8_isHonest_433 : decode cX8_isHonest 433 = .ok (.iload_n 3, 1) := dz_29 (k_X8_isHonest 6 49 rfl)
theorem dX8_isHonest_434 : decode cX8_isHonest 434 = .ok (.bipush 16, 2) := dz_16 (k_X8_isHonest 6 50 rfl) (k_X8_isHonest 6 51 rfl) rfl
theorem dX8_isHonest_436 : decode cX8_isHonest 436 = .ok (.iload 6, 2) := dz_21 (k_X8_isHonest 6 52 rfl) (k_X8_isHonest 6 53 rfl)
theorem dX8_isHonest_438 : decode cX8_isHonest 438 = .ok (.iconst 2, 1) := dz_5 (k_X8_isHonest 6 54 rfl)
theorem dX8_isHonest_439 : decode cX8_isHonest 439 = .ok (.invokevirtual 141, 3) := dz_182 (k_X8_isHonest 6 55 rfl) (k_X8_isHonest 6 56 rfl) (k_X8_isHonest 6 57 rfl) rfl
theorem dX8_isHonest_442 : decode cX8_isHonest 442 = .ok (.ifCond .eq 7, 3) := dz_153 (k_X8_isHonest 6 58 rfl) (k_X8_isHonest 6 59 rfl) (k_X8_isHonest 6 60 rfl) rfl
theorem dX8_isHonest_445 : decode cX8_isHonest 445 = .ok (.iconst 1, 1) := dz_4 (k_X8_isHonest 6 61 rfl)
theorem dX8_isHonest_446 : decode cX8_isHonest 446 = .ok (.goto 4, 3) := dz_167 (k_X8_isHonest 6 62 rfl) (k_X8_isHonest 6 63 rfl) (k_X8_isHonest 7 0 rfl) rfl
theorem dX8_isHonest_449 : decode cX8_isHonest 449 = .ok (.iconst 0, 1) := dz_3 (k_X8_isHonest 7 1 rfl)
theorem dX8_isHonest_450 : decode cX8_isHonest 450 = .ok (.ireturn, 1) := dz_172 (k_X8_isHonest 7 2 rfl)
theorem dX8_isHonest_451 : decode cX8_isHonest 451 = .ok (.aload_n 0, 1) := dz_42 (k_X8_isHonest 7 3 rfl)
theorem dX8_isHonest_452 : decode cX8_isHonest 452 = .ok (.iload_n 3, 1) := dz_29 (k_X8_isHonest 7 4 rfl)
theorem dX8_isHonest_453 : decode cX8_isHonest 453 = .ok (.bipush 17, 2) := dz_16 (k_X8_isHonest 7 5 rfl) (k_X8_isHonest 7 6 rfl) rfl
theorem dX8_isHonest_455 : decode cX8_isHonest 455 = .ok (.iload 4, 2) := dz_21 (k_X8_isHonest 7 7 rfl) (k_X8_isHonest 7 8 rfl)
theorem dX8_isHonest_457 : decode cX8_isHonest 457 = .ok (.invokevirtual 296, 3) := dz_182 (k_X8_isHonest 7 9 rfl) (k_X8_isHonest 7 10 rfl) (k_X8_isHonest 7 11 rfl) rfl
theorem dX8_isHonest_460 : decode cX8_isHonest 460 = .ok (.ireturn, 1) := dz_172 (k_X8_isHonest 7 12 rfl)
theorem dX8_isHonest_461 : decode cX8_isHonest 461 = .ok (.aload_n 0, 1) := dz_42 (k_X8_isHonest 7 13 rfl)
theorem dX8_isHonest_462 : decode cX8_isHonest 462 = .ok (.iload 5, 2) := dz_21 (k_X8_isHonest 7 14 rfl) (k_X8_isHonest 7 15 rfl)
theorem dX8_isHonest_464 : decode cX8_isHonest 464 = .ok (.iload 4, 2) := dz_21 (k_X8_isHonest 7 16 rfl) (k_X8_isHonest 7 17 rfl)
theorem dX8_isHonest_466 : decode cX8_isHonest 466 = .ok (.invokevirtual 299, 3) := dz_182 (k_X8_isHonest 7 18 rfl) (k_X8_isHonest 7 19 rfl) (k_X8_isHonest 7 20 rfl) rfl
theorem dX8_isHonest_469 : decode cX8_isHonest 469 = .ok (.ireturn, 1) := dz_172 (k_X8_isHonest 7 21 rfl)
theorem dX8_isHonest_470 : decode cX8_isHonest 470 = .ok (.aload_n 0, 1) := dz_42 (k_X8_isHonest 7 22 rfl)
theorem dX8_isHonest_471 : decode cX8_isHonest 471 = .ok (.aload_n 0, 1) := dz_42 (k_X8_isHonest 7 23 rfl)
theorem dX8_isHonest_472 : decode cX8_isHonest 472 = .ok (.iload_n 1, 1) := dz_27 (k_X8_isHonest 7 24 rfl)
theorem dX8_isHonest_473 : decode cX8_isHonest 473 = .ok (.iconst 0, 1) := dz_3 (k_X8_isHonest 7 25 rfl)
theorem dX8_isHonest_474 : decode cX8_isHonest 474 = .ok (.invokevirtual 269, 3) := dz_182 (k_X8_isHonest 7 26 rfl) (k_X8_isHonest 7 27 rfl) (k_X8_isHonest 7 28 rfl) rfl
theorem dX8_isHonest_477 : decode cX8_isHonest 477 = .ok (.iconst 0, 1) := dz_3 (k_X8_isHonest 7 29 rfl)
theorem dX8_isHonest_478 : decode cX8_isHonest 478 = .ok (.invokevirtual 256, 3) := dz_182 (k_X8_isHonest 7 30 rfl) (k_X8_isHonest 7 31 rfl) (k_X8_isHonest 7 32 rfl) rfl
theorem dX8_isHonest_481 : decode cX8_isHonest 481 = .ok (.aload_n 0, 1) := dz_42 (k_X8_isHonest 7 33 rfl)
theorem dX8_isHonest_482 : decode cX8_isHonest 482 = .ok (.iload_n 1, 1) := dz_27 (k_X8_isHonest 7 34 rfl)
theorem dX8_isHonest_483 : decode cX8_isHonest 483 = .ok (.iconst 0, 1) := dz_3 (k_X8_isHonest 7 35 rfl)
theorem dX8_isHonest_484 : decode cX8_isHonest 484 = .ok (.invokevirtual 256, 3) := dz_182 (k_X8_isHonest 7 36 rfl) (k_X8_isHonest 7 37 rfl) (k_X8_isHonest 7 38 rfl) rfl
theorem dX8_isHonest_487 : decode cX8_isHonest 487 = .ok (.if_icmp .eq 17, 3) := dz_159 (k_X8_isHonest 7 39 rfl) (k_X8_isHonest 7 40 rfl) (k_X8_isHonest 7 41 rfl) rfl
theorem dX8_isHonest_490 : decode cX8_isHonest 490 = .ok (.aload_n 0, 1) := dz_42 (k_X8_isHonest 7 42 rfl)
theorem dX8_isHonest_491 : decode cX8_isHonest 491 = .ok (.iload 4, 2) := dz_21 (k_X8_isHonest 7 43 rfl) (k_X8_isHonest 7 44 rfl)
theorem dX8_isHonest_493 : decode cX8_isHonest 493 = .ok (.iload_n 3, 1) := dz_29 (k_X8_isHonest 7 45 rfl)
theorem dX8_isHonest_494 : decode cX8_isHonest 494 = .ok (.invokevirtual 234, 3) := dz_182 (k_X8_isHonest 7 46 rfl) (k_X8_isHonest 7 47 rfl) (k_X8_isHonest 7 48 rfl) rfl
theorem dX8_isHonest_497 : decode cX8_isHonest 497 = .ok (.ifCond .eq 7, 3) := dz_153 (k_X8_isHonest 7 49 rfl) (k_X8_isHonest 7 50 rfl) (k_X8_isHonest 7 51 rfl) rfl
theorem dX8_isHonest_500 : decode cX8_isHonest 500 = .ok (.iconst 1, 1) := dz_4 (k_X8_isHonest 7 52 rfl)
theorem dX8_isHonest_501 : decode cX8_isHonest 501 = .ok (.goto 4, 3) := dz_167 (k_X8_isHonest 7 53 rfl) (k_X8_isHonest 7 54 rfl) (k_X8_isHonest 7 55 rfl) rfl
theorem dX8_isHonest_504 : decode cX8_isHonest 504 = .ok (.iconst 0, 1) := dz_3 (k_X8_isHonest 7 56 rfl)
theorem dX8_isHonest_505 : decode cX8_isHonest 505 = .ok (.ireturn, 1) := dz_172 (k_X8_isHonest 7 57 rfl)
def B_X8_isJoining : List (List Nat) := [[26, 16, 13, 159, 0, 15, 26, 16, 14, 159, 0, 9, 26, 16, 15, 160, 0, 7, 4, 167, 0, 4, 3, 172]]
theorem k_X8_isJoining (j i : Nat) {b : Nat} (h : (B_X8_isJoining[j]?.bind fun c => c[i]?) = some b) : s_by cX8_isJoining (64 * j + i) b := s_byC (L := B_X8_isJoining) (by decide +kernel) (by decide +kernel) j i h
theorem dX8_isJoining_0 : decode cX8_isJoining 0 = .ok (.iload_n 0, 1) := dz_26 (k_X8_isJoining 0 0 rfl)
theorem dX8_isJoining_1 : decode cX8_isJoining 1 = .ok (.bipush 13, 2) := dz_16 (k_X8_isJoining 0 1 rfl) (k_X8_isJoining 0 2 rfl) rfl
theorem dX8_isJoining_3 : decode cX8_isJoining 3 = .ok (.if_icmp .eq 15, 3) := dz_159 (k_X8_isJoining 0 3 rfl) (k_X8_isJoining 0 4 rfl) (k_X8_isJoining 0 5 rfl) rfl
theorem dX8_isJoining_6 : decode cX8_isJoining 6 = .ok (.iload_n 0, 1) := dz_26 (k_X8_isJoining 0 6 rfl)
theorem dX8_isJoining_7 : decode cX8_isJoining 7 = .ok (.bipush 14, 2) := dz_16 (k_X8_isJoining 0 7 rfl) (k_X8_isJoining 0 8 rfl) rfl
theorem dX8_isJoining_9 : decode cX8_isJoining 9 = .ok (.if_icmp .eq 9, 3) := dz_159 (k_X8_isJoining 0 9 rfl) (k_X8_isJoining 0 10 rfl) (k_X8_isJoining 0 11 rfl) rfl
theorem dX8_isJoining_12 : decode cX8_isJoining 12 = .ok (.iload_n 0, 1) := dz_26 (k_X8_isJoining 0 12 rfl)
theorem dX8_isJoining_13 : decode cX8_isJoining 13 = .ok (.bipush 15, 2) := dz_16 (k_X8_isJoining 0 13 rfl) (k_X8_isJoining 0 14 rfl) rfl
theorem dX8_isJoining_15 : decode cX8_isJoining 15 = .ok (.if_icmp .ne 7, 3) := dz_160 (k_X8_isJoining 0 15 rfl) (k_X8_isJoining 0 16 rfl) (k_X8_isJoining 0 17 rfl) rfl
theorem dX8_isJoining_18 : decode cX8_isJoining 18 = .ok (.iconst 1, 1) := dz_4 (k_X8_isJoining 0 18 rfl)
theorem dX8_isJoining_19 : decode cX8_isJoining 19 = .ok (.goto 4, 3) := dz_167 (k_X8_isJoining 0 19 rfl) (k_X8_isJoining 0 20 rfl) (k_X8_isJoining 0 21 rfl) rfl
theorem dX8_isJoining_22 : decode cX8_isJoining 22 = .ok (.iconst 0, 1) := dz_3 (k_X8_isJoining 0 22 rfl)
theorem dX8_isJoining_23 : decode cX8_isJoining 23 = .ok (.ireturn, 1) := dz_172 (k_X8_isJoining 0 23 rfl)
def B_X8_isLeft : List (List Nat) := [[42, 27, 28, 182, 0, 135, 54, 4, 21, 4, 155, 0, 27, 42, 27, 4, 21, 4, 2, 29, 3, 42, 180, 0, 20, 29, 46, 182, 0, 128, 153, 0, 7, 4, 167, 0, 4, 3, 172]]
theorem k_X8_isLeft (j i : Nat) {b : Nat} (h : (B_X8_isLeft[j]?.bind fun c => c[i]?) = some b) : s_by cX8_isLeft (64 * j + i) b := s_byC (L := B_X8_isLeft) (by decide +kernel) (by decide +kernel) j i h
theorem dX8_isLeft_0 : decode cX8_isLeft 0 = .ok (.aload_n 0, 1) := dz_42 (k_X8_isLeft 0 0 rfl)
theorem dX8_isLeft_1 : decode cX8_isLeft 1 = .ok (.iload_n 1, 1) := dz_27 (k_X8_isLeft 0 1 rfl)
theorem dX8_isLeft_2 : decode cX8_isLeft 2 = .ok (.iload_n 2, 1) := dz_28 (k_X8_isLeft 0 2 rfl)
theorem dX8_isLeft_3 : decode cX8_isLeft 3 = .ok (.invokevirtual 135, 3) := dz_182 (k_X8_isLeft 0 3 rfl) (k_X8_isLeft 0 4 rfl) (k_X8_isLeft 0 5 rfl) rfl
theorem dX8_isLeft_6 : decode cX8_isLeft 6 = .ok (.istore 4, 2) := dz_54 (k_X8_isLeft 0 6 rfl) (k_X8_isLeft 0 7 rfl)
theorem dX8_isLeft_8 : decode cX8_isLeft 8 = .ok (.iload 4, 2) := dz_21 (k_X8_isLeft 0 8 rfl) (k_X8_isLeft 0 9 rfl)
theorem dX8_isLeft_10 : decode cX8_isLeft 10 = .ok (.ifCond .lt 27, 3) := dz_155 (k_X8_isLeft 0 10 rfl) (k_X8_isLeft 0 11 rfl) (k_X8_isLeft 0 12 rfl) rfl
theorem dX8_isLeft_13 : decode cX8_isLeft 13 = .ok (.aload_n 0, 1) := dz_42 (k_X8_isLeft 0 13 rfl)
theorem dX8_isLeft_14 : decode cX8_isLeft 14 = .ok (.iload_n 1, 1) := dz_27 (k_X8_isLeft 0 14 rfl)
theorem dX8_isLeft_15 : decode cX8_isLeft 15 = .ok (.iconst 1, 1) := dz_4 (k_X8_isLeft 0 15 rfl)
theorem dX8_isLeft_16 : decode cX8_isLeft 16 = .ok (.iload 4, 2) := dz_21 (k_X8_isLeft 0 16 rfl) (k_X8_isLeft 0 17 rfl)
theorem dX8_isLeft_18 : decode cX8_isLeft 18 = .ok (.iconst (-1), 1) := dz_2 (k_X8_isLeft 0 18 rfl)
theorem dX8_isLeft_19 : decode cX8_isLeft 19 = .ok (.iload_n 3, 1) := dz_29 (k_X8_isLeft 0 19 rfl)
theorem dX8_isLeft_20 : decode cX8_isLeft 20 = .ok (.iconst 0, 1) := dz_3 (k_X8_isLeft 0 20 rfl)
theorem dX8_isLeft_21 : decode cX8_isLeft 21 = .ok (.aload_n 0, 1) := dz_42 (k_X8_isLeft 0 21 rfl)
theorem dX8_isLeft_22 : decode cX8_isLeft 22 = .ok (.getfield 20, 3) := dz_180 (k_X8_isLeft 0 22 rfl) (k_X8_isLeft 0 23 rfl) (k_X8_isLeft 0 24 rfl) rfl
theorem dX8_isLeft_25 : decode cX8_isLeft 25 = .ok (.iload_n 3, 1) := dz_29 (k_X8_isLeft 0 25 rfl)
theorem dX8_isLeft_26 : decode cX8_isLeft 26 = .ok (.iaload, 1) := dz_46 (k_X8_isLeft 0 26 rfl)
theorem dX8_isLeft_27 : decode cX8_isLeft 27 = .ok (.invokevirtual 128, 3) := dz_182 (k_X8_isLeft 0 27 rfl) (k_X8_isLeft 0 28 rfl) (k_X8_isLeft 0 29 rfl) rfl
theorem dX8_isLeft_30 : decode cX8_isLeft 30 = .ok (.ifCond .eq 7, 3) := dz_153 (k_X8_isLeft 0 30 rfl) (k_X8_isLeft 0 31 rfl) (k_X8_isLeft 0 32 rfl) rfl
theorem dX8_isLeft_33 : decode cX8_isLeft 33 = .ok (.iconst 1, 1) := dz_4 (k_X8_isLeft 0 33 rfl)
theorem dX8_isLeft_34 : decode cX8_isLeft 34 = .ok (.goto 4, 3) := dz_167 (k_X8_isLeft 0 34 rfl) (k_X8_isLeft 0 35 rfl) (k_X8_isLeft 0 36 rfl) rfl
theorem dX8_isLeft_37 : decode cX8_isLeft 37 = .ok (.iconst 0, 1) := dz_3 (k_X8_isLeft 0 37 rfl)
theorem dX8_isLeft_38 : decode cX8_isLeft 38 = .ok (.ireturn, 1) := dz_172 (k_X8_isLeft 0 38 rfl)
def B_X8_isLone : List (List Nat) := [[26, 16, 12, 159, 0, 15, 26, 16, 16, 159, 0, 9, 26, 16, 17, 160, 0, 7, 4, 167, 0, 4, 3, 172]]
theorem k_X8_isLone (j i : Nat) {b : Nat} (h : (B_X8_isLone[j]?.bind fun c => c[i]?) = some b) : s_by cX8_isLone (64 * j + i) b := s_byC (L := B_X8_isLone) (by decide +kernel) (by decide +kernel) j i h
theorem dX8_isLone_0 : decode cX8_isLone 0 = .ok (.iload_n 0, 1) := dz_26 (k_X8_isLone 0 0 rfl)
theorem dX8_isLone_1 : decode cX8_isLone 1 = .ok (.bipush 12, 2) := dz_16 (k_X8_isLone 0 1 rfl) (k_X8_isLone 0 2 rfl) rfl
theorem dX8_isLone_3 : decode cX8_isLone 3 = .ok (.if_icmp .eq 15, 3) := dz_159 (k_X8_isLone 0 3 rfl) (k_X8_isLone 0 4 rfl) (k_X8_isLone 0 5 rfl) rfl
theorem dX8_isLone_6 : decode cX8_isLone 6 = .ok (.iload_n 0, 1) := dz_26 (k_X8_isLone 0 6 rfl)
theorem dX8_isLone_7 : decode cX8_isLone 7 = .ok (.bipush 16, 2) := dz_16 (k_X8_isLone 0 7 rfl) (k_X8_isLone 0 8 rfl) rfl
theorem dX8_isLone_9 : decode cX8_isLone 9 = .ok (.if_icmp .eq 9, 3) := dz_159 (k_X8_isLone 0 9 rfl) (k_X8_isLone 0 10 rfl) (k_X8_isLone 0 11 rfl) rfl
theorem dX8_isLone_12 : decode cX8_isLone 12 = .ok (.iload_n 0, 1) := dz_26 (k_X8_isLone 0 12 rfl)
theorem dX8_isLone_13 : decode cX8_isLone 13 = .ok (.bipush 17, 2) := dz_16 (k_X8_isLone 0 13 rfl) (k_X8_isLone 0 14 rfl) rfl
theorem dX8_isLone_15 : decode cX8_isLone 15 = .ok (.if_icmp .ne 7, 3) := dz_160 (k_X8_isLone 0 15 rfl) (k_X8_isLone 0 16 rfl) (k_X8_isLone 0 17 rfl) rfl
theorem dX8_isLone_18 : decode cX8_isLone 18 = .ok (.iconst 1, 1) := dz_4 (k_X8_isLone 0 18 rfl)
theorem dX8_isLone_19 : decode cX8_isLone 19 = .ok (.goto 4, 3) := dz_167 (k_X8_isLone 0 19 rfl) (k_X8_isLone 0 20 rfl) (k_X8_isLone 0 21 rfl) rfl
theorem dX8_isLone_22 : decode cX8_isLone 22 = .ok (.iconst 0, 1) := dz_3 (k_X8_isLone 0 22 rfl)
theorem dX8_isLone_23 : decode cX8_isLone 23 = .ok (.ireturn, 1) := dz_172 (k_X8_isLone 0 23 rfl)
def B_X8_isMinus : List (List Nat) := [[42, 27, 3, 182, 0, 114, 16, 12, 160, 0, 31, 42, 27, 4, 42, 180, 0, 20, 27, 46, 2, 28, 3, 42, 180, 0, 20, 28, 46, 182, 0, 128, 153, 0, 7, 4, 167, 0, 4, 3, 172]]
theorem k_X8_isMinus (j i : Nat) {b : Nat} (h : (B_X8_isMinus[j]?.bind fun c => c[i]?) = some b) : s_by cX8_isMinus (64 * j + i) b := s_byC (L := B_X8_isMinus) (by decide +kernel) (by decide +kernel) j i h
theorem dX8_isMinus_0 : decode cX8_isMinus 0 = .ok (.aload_n 0, 1) := dz_42 (k_X8_isMinus 0 0 rfl)
theorem dX8_isMinus_1 : decode cX8_isMinus 1 = .ok (.iload_n 1, 1) := dz_27 (k_X8_isMinus 0 1 rfl)
theorem dX8_isMinus_2 : decode cX8_isMinus 2 = .ok (.iconst 0, 1) := dz_3 (k_X8_isMinus 0 2 rfl)
theorem dX8_isMinus_3 : decode cX8_isMinus 3 = .ok (.invokevirtual 114, 3) := dz_182 (k_X8_isMinus 0 3 rfl) (k_X8_isMinus 0 4 rfl) (k_X8_isMinus 0 5 rfl) rfl
theorem dX8_isMinus_6 : decode cX8_isMinus 6 = .ok (.bipush 12, 2) := dz_16 (k_X8_isMinus 0 6 rfl) (k_X8_isMinus 0 7 rfl) rfl
theorem dX8_isMinus_8 : decode cX8_isMinus 8 = .ok (.if_icmp .ne 31, 3) := dz_160 (k_X8_isMinus 0 8 rfl) (k_X8_isMinus 0 9 rfl) (k_X8_isMinus 0 10 rfl) rfl
theorem dX8_isMinus_11 : decode cX8_isMinus 11 = .ok (.aload_n 0, 1) := dz_42 (k_X8_isMinus 0 11 rfl)
theorem dX8_isMinus_12 : decode cX8_isMinus 12 = .ok (.iload_n 1, 1) := dz_27 (k_X8_isMinus 0 12 rfl)
theorem dX8_isMinus_13 : decode cX8_isMinus 13 = .ok (.iconst 1, 1) := dz_4 (k_X8_isMinus 0 13 rfl)
theorem dX8_isMinus_14 : decode cX8_isMinus 14 = .ok (.aload_n 0, 1) := dz_42 (k_X8_isMinus 0 14 rfl)
theorem dX8_isMinus_15 : decode cX8_isMinus 15 = .ok (.getfield 20, 3) := dz_180 (k_X8_isMinus 0 15 rfl) (k_X8_isMinus 0 16 rfl) (k_X8_isMinus 0 17 rfl) rfl
theorem dX8_isMinus_18 : decode cX8_isMinus 18 = .ok (.iload_n 1, 1) := dz_27 (k_X8_isMinus 0 18 rfl)
theorem dX8_isMinus_19 : decode cX8_isMinus 19 = .ok (.iaload, 1) := dz_46 (k_X8_isMinus 0 19 rfl)
theorem dX8_isMinus_20 : decode cX8_isMinus 20 = .ok (.iconst (-1), 1) := dz_2 (k_X8_isMinus 0 20 rfl)
theorem dX8_isMinus_21 : decode cX8_isMinus 21 = .ok (.iload_n 2, 1) := dz_28 (k_X8_isMinus 0 21 rfl)
theorem dX8_isMinus_22 : decode cX8_isMinus 22 = .ok (.iconst 0, 1) := dz_3 (k_X8_isMinus 0 22 rfl)
theorem dX8_isMinus_23 : decode cX8_isMinus 23 = .ok (.aload_n 0, 1) := dz_42 (k_X8_isMinus 0 23 rfl)
theorem dX8_isMinus_24 : decode cX8_isMinus 24 = .ok (.getfield 20, 3) := dz_180 (k_X8_isMinus 0 24 rfl) (k_X8_isMinus 0 25 rfl) (k_X8_isMinus 0 26 rfl) rfl
theorem dX8_isMinus_27 : decode cX8_isMinus 27 = .ok (.iload_n 2, 1) := dz_28 (k_X8_isMinus 0 27 rfl)
theorem dX8_isMinus_28 : decode cX8_isMinus 28 = .ok (.iaload, 1) := dz_46 (k_X8_isMinus 0 28 rfl)
theorem dX8_isMinus_29 : decode cX8_isMinus 29 = .ok (.invokevirtual 128, 3) := dz_182 (k_X8_isMinus 0 29 rfl) (k_X8_isMinus 0 30 rfl) (k_X8_isMinus 0 31 rfl) rfl
theorem dX8_isMinus_32 : decode cX8_isMinus 32 = .ok (.ifCond .eq 7, 3) := dz_153 (k_X8_isMinus 0 32 rfl) (k_X8_isMinus 0 33 rfl) (k_X8_isMinus 0 34 rfl) rfl
theorem dX8_isMinus_35 : decode cX8_isMinus 35 = .ok (.iconst 1, 1) := dz_4 (k_X8_isMinus 0 35 rfl)
theorem dX8_isMinus_36 : decode cX8_isMinus 36 = .ok (.goto 4, 3) := dz_167 (k_X8_isMinus 0 36 rfl) (k_X8_isMinus 0 37 rfl) (k_X8_isMinus 0 38 rfl) rfl
theorem dX8_isMinus_39 : decode cX8_isMinus 39 = .ok (.iconst 0, 1) := dz_3 (k_X8_isMinus 0 39 rfl)
theorem dX8_isMinus_40 : decode cX8_isMinus 40 = .ok (.ireturn, 1) := dz_172 (k_X8_isMinus 0 40 rfl)
def B_X8_isOf : List (List Nat) := [[42, 27, 3, 182, 0, 114, 28, 160, 0, 32, 42, 27, 4, 42, 180, 0, 20, 27, 46, 21, 4, 29, 3, 42, 180, 0, 20, 29, 46, 182, 0, 128, 153, 0, 7, 4, 167, 0, 4, 3, 172]]
theorem k_X8_isOf (j i : Nat) {b : Nat} (h : (B_X8_isOf[j]?.bind fun c => c[i]?) = some b) : s_by cX8_isOf (64 * j + i) b := s_byC (L := B_X8_isOf) (by decide +kernel) (by decide +kernel) j i h
theorem dX8_isOf_0 : decode cX8_isOf 0 = .ok (.aload_n 0, 1) := dz_42 (k_X8_isOf 0 0 rfl)
theorem dX8_isOf_1 : decode cX8_isOf 1 = .ok (.iload_n 1, 1) := dz_27 (k_X8_isOf 0 1 rfl)
theorem dX8_isOf_2 : decode cX8_isOf 2 = .ok (.iconst 0, 1) := dz_3 (k_X8_isOf 0 2 rfl)
theorem dX8_isOf_3 : decode cX8_isOf 3 = .ok (.invokevirtual 114, 3) := dz_182 (k_X8_isOf 0 3 rfl) (k_X8_isOf 0 4 rfl) (k_X8_isOf 0 5 rfl) rfl
theorem dX8_isOf_6 : decode cX8_isOf 6 = .ok (.iload_n 2, 1) := dz_28 (k_X8_isOf 0 6 rfl)
theorem dX8_isOf_7 : decode cX8_isOf 7 = .ok (.if_icmp .ne 32, 3) := dz_160 (k_X8_isOf 0 7 rfl) (k_X8_isOf 0 8 rfl) (k_X8_isOf 0 9 rfl) rfl
theorem dX8_isOf_10 : decode cX8_isOf 10 = .ok (.aload_n 0, 1) := dz_42 (k_X8_isOf 0 10 rfl)
theorem dX8_isOf_11 : decode cX8_isOf 11 = .ok (.iload_n 1, 1) := dz_27 (k_X8_isOf 0 11 rfl)
theorem dX8_isOf_12 : decode cX8_isOf 12 = .ok (.iconst 1, 1) := dz_4 (k_X8_isOf 0 12 rfl)
theorem dX8_isOf_13 : decode cX8_isOf 13 = .ok (.aload_n 0, 1) := dz_42 (k_X8_isOf 0 13 rfl)
theorem dX8_isOf_14 : decode cX8_isOf 14 = .ok (.getfield 20, 3) := dz_180 (k_X8_isOf 0 14 rfl) (k_X8_isOf 0 15 rfl) (k_X8_isOf 0 16 rfl) rfl
theorem dX8_isOf_17 : decode cX8_isOf 17 = .ok (.iload_n 1, 1) := dz_27 (k_X8_isOf 0 17 rfl)
theorem dX8_isOf_18 : decode cX8_isOf 18 = .ok (.iaload, 1) := dz_46 (k_X8_isOf 0 18 rfl)
theorem dX8_isOf_19 : decode cX8_isOf 19 = .ok (.iload 4, 2) := dz_21 (k_X8_isOf 0 19 rfl) (k_X8_isOf 0 20 rfl)
theorem dX8_isOf_21 : decode cX8_isOf 21 = .ok (.iload_n 3, 1) := dz_29 (k_X8_isOf 0 21 rfl)
theorem dX8_isOf_22 : decode cX8_isOf 22 = .ok (.iconst 0, 1) := dz_3 (k_X8_isOf 0 22 rfl)
theorem dX8_isOf_23 : decode cX8_isOf 23 = .ok (.aload_n 0, 1) := dz_42 (k_X8_isOf 0 23 rfl)
theorem dX8_isOf_24 : decode cX8_isOf 24 = .ok (.getfield 20, 3) := dz_180 (k_X8_isOf 0 24 rfl) (k_X8_isOf 0 25 rfl) (k_X8_isOf 0 26 rfl) rfl
theorem dX8_isOf_27 : decode cX8_isOf 27 = .ok (.iload_n 3, 1) := dz_29 (k_X8_isOf 0 27 rfl)
theorem dX8_isOf_28 : decode cX8_isOf 28 = .ok (.iaload, 1) := dz_46 (k_X8_isOf 0 28 rfl)
theorem dX8_isOf_29 : decode cX8_isOf 29 = .ok (.invokevirtual 128, 3) := dz_182 (k_X8_isOf 0 29 rfl) (k_X8_isOf 0 30 rfl) (k_X8_isOf 0 31 rfl) rfl
theorem dX8_isOf_32 : decode cX8_isOf 32 = .ok (.ifCond .eq 7, 3) := dz_153 (k_X8_isOf 0 32 rfl) (k_X8_isOf 0 33 rfl) (k_X8_isOf 0 34 rfl) rfl
theorem dX8_isOf_35 : decode cX8_isOf 35 = .ok (.iconst 1, 1) := dz_4 (k_X8_isOf 0 35 rfl)
theorem dX8_isOf_36 : decode cX8_isOf 36 = .ok (.goto 4, 3) := dz_167 (k_X8_isOf 0 36 rfl) (k_X8_isOf 0 37 rfl) (k_X8_isOf 0 38 rfl) rfl
theorem dX8_isOf_39 : decode cX8_isOf 39 = .ok (.iconst 0, 1) := dz_3 (k_X8_isOf 0 39 rfl)
theorem dX8_isOf_40 : decode cX8_isOf 40 = .ok (.ireturn, 1) := dz_172 (k_X8_isOf 0 40 rfl)
def B_X8_isOfSome : List (List Nat) := [[3, 54, 4, 3, 54, 5, 21, 5, 42, 182, 0, 138, 162, 0, 33, 21, 4, 154, 0, 15, 42, 27, 28, 29, 21, 5, 182, 0, 141, 153, 0, 7, 4, 167, 0, 4, 3, 54, 4, 132, 5, 1, 167, 255, 220, 21, 4, 172]]
theorem k_X8_isOfSome (j i : Nat) {b : Nat} (h : (B_X8_isOfSome[j]?.bind fun c => c[i]?) = some b) : s_by cX8_isOfSome (64 * j + i) b := s_byC (L := B_X8_isOfSome) (by decide +kernel) (by decide +kernel) j i h
theorem dX8_isOfSome_0 : decode cX8_isOfSome 0 = .ok (.iconst 0, 1) := dz_3 (k_X8_isOfSome 0 0 rfl)
theorem dX8_isOfSome_1 : decode cX8_isOfSome 1 = .ok (.istore 4, 2) := dz_54 (k_X8_isOfSome 0 1 rfl) (k_X8_isOfSome 0 2 rfl)
theorem dX8_isOfSome_3 : decode cX8_isOfSome 3 = .ok (.iconst 0, 1) := dz_3 (k_X8_isOfSome 0 3 rfl)
theorem dX8_isOfSome_4 : decode cX8_isOfSome 4 = .ok (.istore 5, 2) := dz_54 (k_X8_isOfSome 0 4 rfl) (k_X8_isOfSome 0 5 rfl)
theorem dX8_isOfSome_6 : decode cX8_isOfSome 6 = .ok (.iload 5, 2) := dz_21 (k_X8_isOfSome 0 6 rfl) (k_X8_isOfSome 0 7 rfl)
theorem dX8_isOfSome_8 : decode cX8_isOfSome 8 = .ok (.aload_n 0, 1) := dz_42 (k_X8_isOfSome 0 8 rfl)
theorem dX8_isOfSome_9 : decode cX8_isOfSome 9 = .ok (.invokevirtual 138, 3) := dz_182 (k_X8_isOfSome 0 9 rfl) (k_X8_isOfSome 0 10 rfl) (k_X8_isOfSome 0 11 rfl) rfl
theorem dX8_isOfSome_12 : decode cX8_isOfSome 12 = .ok (.if_icmp .ge 33, 3) := dz_162 (k_X8_isOfSome 0 12 rfl) (k_X8_isOfSome 0 13 rfl) (k_X8_isOfSome 0 14 rfl) rfl
theorem dX8_isOfSome_15 : decode cX8_isOfSome 15 = .ok (.iload 4, 2) := dz_21 (k_X8_isOfSome 0 15 rfl) (k_X8_isOfSome 0 16 rfl)
theorem dX8_isOfSome_17 : decode cX8_isOfSome 17 = .ok (.ifCond .ne 15, 3) := dz_154 (k_X8_isOfSome 0 17 rfl) (k_X8_isOfSome 0 18 rfl) (k_X8_isOfSome 0 19 rfl) rfl
theorem dX8_isOfSome_20 : decode cX8_isOfSome 20 = .ok (.aload_n 0, 1) := dz_42 (k_X8_isOfSome 0 20 rfl)
theorem dX8_isOfSome_21 : decode cX8_isOfSome 21 = .ok (.iload_n 1, 1) := dz_27 (k_X8_isOfSome 0 21 rfl)
theorem dX8_isOfSome_22 : decode cX8_isOfSome 22 = .ok (.iload_n 2, 1) := dz_28 (k_X8_isOfSome 0 22 rfl)
theorem dX8_isOfSome_23 : decode cX8_isOfSome 23 = .ok (.iload_n 3, 1) := dz_29 (k_X8_isOfSome 0 23 rfl)
theorem dX8_isOfSome_24 : decode cX8_isOfSome 24 = .ok (.iload 5, 2) := dz_21 (k_X8_isOfSome 0 24 rfl) (k_X8_isOfSome 0 25 rfl)
theorem dX8_isOfSome_26 : decode cX8_isOfSome 26 = .ok (.invokevirtual 141, 3) := dz_182 (k_X8_isOfSome 0 26 rfl) (k_X8_isOfSome 0 27 rfl) (k_X8_isOfSome 0 28 rfl) rfl
theorem dX8_isOfSome_29 : decode cX8_isOfSome 29 = .ok (.ifCond .eq 7, 3) := dz_153 (k_X8_isOfSome 0 29 rfl) (k_X8_isOfSome 0 30 rfl) (k_X8_isOfSome 0 31 rfl) rfl
theorem dX8_isOfSome_32 : decode cX8_isOfSome 32 = .ok (.iconst 1, 1) := dz_4 (k_X8_isOfSome 0 32 rfl)
theorem dX8_isOfSome_33 : decode cX8_isOfSome 33 = .ok (.goto 4, 3) := dz_167 (k_X8_isOfSome 0 33 rfl) (k_X8_isOfSome 0 34 rfl) (k_X8_isOfSome 0 35 rfl) rfl
theorem dX8_isOfSome_36 : decode cX8_isOfSome 36 = .ok (.iconst 0, 1) := dz_3 (k_X8_isOfSome 0 36 rfl)
theorem dX8_isOfSome_37 : decode cX8_isOfSome 37 = .ok (.istore 4, 2) := dz_54 (k_X8_isOfSome 0 37 rfl) (k_X8_isOfSome 0 38 rfl)
theorem dX8_isOfSome_39 : decode cX8_isOfSome 39 = .ok (.iinc 5 1, 3) := dz_132 (k_X8_isOfSome 0 39 rfl) (k_X8_isOfSome 0 40 rfl) (k_X8_isOfSome 0 41 rfl) rfl
theorem dX8_isOfSome_42 : decode cX8_isOfSome 42 = .ok (.goto (-36), 3) := dz_167 (k_X8_isOfSome 0 42 rfl) (k_X8_isOfSome 0 43 rfl) (k_X8_isOfSome 0 44 rfl) rfl
theorem dX8_isOfSome_45 : decode cX8_isOfSome 45 = .ok (.iload 4, 2) := dz_21 (k_X8_isOfSome 0 45 rfl) (k_X8_isOfSome 0 46 rfl)
theorem dX8_isOfSome_47 : decode cX8_isOfSome 47 = .ok (.ireturn, 1) := dz_172 (k_X8_isOfSome 0 47 rfl)
def B_X8_isOpen : List (List Nat) := [[3, 61, 3, 62, 29, 42, 182, 0, 111, 162, 0, 44, 28, 154, 0, 28, 42, 180, 0, 43, 27, 47, 29, 123, 10, 127, 10, 148, 154, 0, 17, 42, 29, 5, 182, 1, 0, 4, 160, 0, 7, 4, 167, 0, 4, 3, 61, 132, 3, 1, 167, 255, 210, 28, 172]]
theorem k_X8_isOpen (j i : Nat) {b : Nat} (h : (B_X8_isOpen[j]?.bind fun c => c[i]?) = some b) : s_by cX8_isOpen (64 * j + i) b := s_byC (L := B_X8_isOpen) (by decide +kernel) (by decide +kernel) j i h
theorem dX8_isOpen_0 : decode cX8_isOpen 0 = .ok (.iconst 0, 1) := dz_3 (k_X8_isOpen 0 0 rfl)
theorem dX8_isOpen_1 : decode cX8_isOpen 1 = .ok (.istore_n 2, 1) := dz_61 (k_X8_isOpen 0 1 rfl)
theorem dX8_isOpen_2 : decode cX8_isOpen 2 = .ok (.iconst 0, 1) := dz_3 (k_X8_isOpen 0 2 rfl)
theorem dX8_isOpen_3 : decode cX8_isOpen 3 = .ok (.istore_n 3, 1) := dz_62 (k_X8_isOpen 0 3 rfl)
theorem dX8_isOpen_4 : decode cX8_isOpen 4 = .ok (.iload_n 3, 1) := dz_29 (k_X8_isOpen 0 4 rfl)
theorem dX8_isOpen_5 : decode cX8_isOpen 5 = .ok (.aload_n 0, 1) := dz_42 (k_X8_isOpen 0 5 rfl)
theorem dX8_isOpen_6 : decode cX8_isOpen 6 = .ok (.invokevirtual 111, 3) := dz_182 (k_X8_isOpen 0 6 rfl) (k_X8_isOpen 0 7 rfl) (k_X8_isOpen 0 8 rfl) rfl
theorem dX8_isOpen_9 : decode cX8_isOpen 9 = .ok (.if_icmp .ge 44, 3) := dz_162 (k_X8_isOpen 0 9 rfl) (k_X8_isOpen 0 10 rfl) (k_X8_isOpen 0 11 rfl) rfl
theorem dX8_isOpen_12 : decode cX8_isOpen 12 = .ok (.iload_n 2, 1) := dz_28 (k_X8_isOpen 0 12 rfl)
theorem dX8_isOpen_13 : decode cX8_isOpen 13 = .ok (.ifCond .ne 28, 3) := dz_154 (k_X8_isOpen 0 13 rfl) (k_X8_isOpen 0 14 rfl) (k_X8_isOpen 0 15 rfl) rfl
theorem dX8_isOpen_16 : decode cX8_isOpen 16 = .ok (.aload_n 0, 1) := dz_42 (k_X8_isOpen 0 16 rfl)
theorem dX8_isOpen_17 : decode cX8_isOpen 17 = .ok (.getfield 43, 3) := dz_180 (k_X8_isOpen 0 17 rfl) (k_X8_isOpen 0 18 rfl) (k_X8_isOpen 0 19 rfl) rfl
theorem dX8_isOpen_20 : decode cX8_isOpen 20 = .ok (.iload_n 1, 1) := dz_27 (k_X8_isOpen 0 20 rfl)
theorem dX8_isOpen_21 : decode cX8_isOpen 21 = .ok (.laload, 1) := dz_47 (k_X8_isOpen 0 21 rfl)
theorem dX8_isOpen_22 : decode cX8_isOpen 22 = .ok (.iload_n 3, 1) := dz_29 (k_X8_isOpen 0 22 rfl)
theorem dX8_isOpen_23 : decode cX8_isOpen 23 = .ok (.lshr, 1) := dz_123 (k_X8_isOpen 0 23 rfl)
theorem dX8_isOpen_24 : decode cX8_isOpen 24 = .ok (.lconst 1, 1) := dz_10 (k_X8_isOpen 0 24 rfl)
theorem dX8_isOpen_25 : decode cX8_isOpen 25 = .ok (.land, 1) := dz_127 (k_X8_isOpen 0 25 rfl)
theorem dX8_isOpen_26 : decode cX8_isOpen 26 = .ok (.lconst 1, 1) := dz_10 (k_X8_isOpen 0 26 rfl)
theorem dX8_isOpen_27 : decode cX8_isOpen 27 = .ok (.lcmp, 1) := dz_148 (k_X8_isOpen 0 27 rfl)
theorem dX8_isOpen_28 : decode cX8_isOpen 28 = .ok (.ifCond .ne 17, 3) := dz_154 (k_X8_isOpen 0 28 rfl) (k_X8_isOpen 0 29 rfl) (k_X8_isOpen 0 30 rfl) rfl
theorem dX8_isOpen_31 : decode cX8_isOpen 31 = .ok (.aload_n 0, 1) := dz_42 (k_X8_isOpen 0 31 rfl)
theorem dX8_isOpen_32 : decode cX8_isOpen 32 = .ok (.iload_n 3, 1) := dz_29 (k_X8_isOpen 0 32 rfl)
theorem dX8_isOpen_33 : decode cX8_isOpen 33 = .ok (.iconst 2, 1) := dz_5 (k_X8_isOpen 0 33 rfl)
theorem dX8_isOpen_34 : decode cX8_isOpen 34 = .ok (.invokevirtual 256, 3) := dz_182 (k_X8_isOpen 0 34 rfl) (k_X8_isOpen 0 35 rfl) (k_X8_isOpen 0 36 rfl) rfl
theorem dX8_isOpen_37 : decode cX8_isOpen 37 = .ok (.iconst 1, 1) := dz_4 (k_X8_isOpen 0 37 rfl)
theorem dX8_isOpen_38 : decode cX8_isOpen 38 = .ok (.if_icmp .ne 7, 3) := dz_160 (k_X8_isOpen 0 38 rfl) (k_X8_isOpen 0 39 rfl) (k_X8_isOpen 0 40 rfl) rfl
theorem dX8_isOpen_41 : decode cX8_isOpen 41 = .ok (.iconst 1, 1) := dz_4 (k_X8_isOpen 0 41 rfl)
theorem dX8_isOpen_42 : decode cX8_isOpen 42 = .ok (.goto 4, 3) := dz_167 (k_X8_isOpen 0 42 rfl) (k_X8_isOpen 0 43 rfl) (k_X8_isOpen 0 44 rfl) rfl
theorem dX8_isOpen_45 : decode cX8_isOpen 45 = .ok (.iconst 0, 1) := dz_3 (k_X8_isOpen 0 45 rfl)
theorem dX8_isOpen_46 : decode cX8_isOpen 46 = .ok (.istore_n 2, 1) := dz_61 (k_X8_isOpen 0 46 rfl)
theorem dX8_isOpen_47 : decode cX8_isOpen 47 = .ok (.iinc 3 1, 3) := dz_132 (k_X8_isOpen 0 47 rfl) (k_X8_isOpen 0 48 rfl) (k_X8_isOpen 0 49 rfl) rfl
theorem dX8_isOpen_50 : decode cX8_isOpen 50 = .ok (.goto (-46), 3) := dz_167 (k_X8_isOpen 0 50 rfl) (k_X8_isOpen 0 51 rfl) (k_X8_isOpen 0 52 rfl) rfl
theorem dX8_isOpen_53 : decode cX8_isOpen 53 = .ok (.iload_n 2, 1) := dz_28 (k_X8_isOpen 0 53 rfl)
theorem dX8_isOpen_54 : decode cX8_isOpen 54 = .ok (.ireturn, 1) := dz_172 (k_X8_isOpen 0 54 rfl)
def B_X8_isPart : List (List Nat) := [[29, 28, 100, 21, 7, 21, 6, 100, 160, 0, 7, 4, 167, 0, 4, 3, 54, 8, 3, 54, 9, 21, 8, 153, 0, 52, 21, 9, 29, 28, 100, 162, 0, 44, 42, 27, 28, 21, 9, 96, 182, 0, 114, 21, 4, 184, 0, 125, 42, 21, 5, 21, 6, 21, 9, 96, 182, 0, 114, 160, 0, 7, 4, 167], [0, 4, 3, 54, 8, 132, 9, 1, 167, 255, 205, 21, 8, 172]]
theorem k_X8_isPart (j i : Nat) {b : Nat} (h : (B_X8_isPart[j]?.bind fun c => c[i]?) = some b) : s_by cX8_isPart (64 * j + i) b := s_byC (L := B_X8_isPart) (by decide +kernel) (by decide +kernel) j i h
theorem dX8_isPart_0 : decode cX8_isPart 0 = .ok (.iload_n 3, 1) := dz_29 (k_X8_isPart 0 0 rfl)
theorem dX8_isPart_1 : decode cX8_isPart 1 = .ok (.iload_n 2, 1) := dz_28 (k_X8_isPart 0 1 rfl)
theorem dX8_isPart_2 : decode cX8_isPart 2 = .ok (.isub, 1) := dz_100 (k_X8_isPart 0 2 rfl)
theorem dX8_isPart_3 : decode cX8_isPart 3 = .ok (.iload 7, 2) := dz_21 (k_X8_isPart 0 3 rfl) (k_X8_isPart 0 4 rfl)
theorem dX8_isPart_5 : decode cX8_isPart 5 = .ok (.iload 6, 2) := dz_21 (k_X8_isPart 0 5 rfl) (k_X8_isPart 0 6 rfl)
theorem dX8_isPart_7 : decode cX8_isPart 7 = .ok (.isub, 1) := dz_100 (k_X8_isPart 0 7 rfl)
theorem dX8_isPart_8 : decode cX8_isPart 8 = .ok (.if_icmp .ne 7, 3) := dz_160 (k_X8_isPart 0 8 rfl) (k_X8_isPart 0 9 rfl) (k_X8_isPart 0 10 rfl) rfl
theorem dX8_isPart_11 : decode cX8_isPart 11 = .ok (.iconst 1, 1) := dz_4 (k_X8_isPart 0 11 rfl)
theorem dX8_isPart_12 : decode cX8_isPart 12 = .ok (.goto 4, 3) := dz_167 (k_X8_isPart 0 12 rfl) (k_X8_isPart 0 13 rfl) (k_X8_isPart 0 14 rfl) rfl
theorem dX8_isPart_15 : decode cX8_isPart 15 = .ok (.iconst 0, 1) := dz_3 (k_X8_isPart 0 15 rfl)
theorem dX8_isPart_16 : decode cX8_isPart 16 = .ok (.istore 8, 2) := dz_54 (k_X8_isPart 0 16 rfl) (k_X8_isPart 0 17 rfl)
theorem dX8_isPart_18 : decode cX8_isPart 18 = .ok (.iconst 0, 1) := dz_3 (k_X8_isPart 0 18 rfl)
theorem dX8_isPart_19 : decode cX8_isPart 19 = .ok (.istore 9, 2) := dz_54 (k_X8_isPart 0 19 rfl) (k_X8_isPart 0 20 rfl)
theorem dX8_isPart_21 : decode cX8_isPart 21 = .ok (.iload 8, 2) := dz_21 (k_X8_isPart 0 21 rfl) (k_X8_isPart 0 22 rfl)
theorem dX8_isPart_23 : decode cX8_isPart 23 = .ok (.ifCond .eq 52, 3) := dz_153 (k_X8_isPart 0 23 rfl) (k_X8_isPart 0 24 rfl) (k_X8_isPart 0 25 rfl) rfl
theorem dX8_isPart_26 : decode cX8_isPart 26 = .ok (.iload 9, 2) := dz_21 (k_X8_isPart 0 26 rfl) (k_X8_isPart 0 27 rfl)
theorem dX8_isPart_28 : decode cX8_isPart 28 = .ok (.iload_n 3, 1) := dz_29 (k_X8_isPart 0 28 rfl)
theorem dX8_isPart_29 : decode cX8_isPart 29 = .ok (.iload_n 2, 1) := dz_28 (k_X8_isPart 0 29 rfl)
theorem dX8_isPart_30 : decode cX8_isPart 30 = .ok (.isub, 1) := dz_100 (k_X8_isPart 0 30 rfl)
theorem dX8_isPart_31 : decode cX8_isPart 31 = .ok (.if_icmp .ge 44, 3) := dz_162 (k_X8_isPart 0 31 rfl) (k_X8_isPart 0 32 rfl) (k_X8_isPart 0 33 rfl) rfl
theorem dX8_isPart_34 : decode cX8_isPart 34 = .ok (.aload_n 0, 1) := dz_42 (k_X8_isPart 0 34 rfl)
theorem dX8_isPart_35 : decode cX8_isPart 35 = .ok (.iload_n 1, 1) := dz_27 (k_X8_isPart 0 35 rfl)
theorem dX8_isPart_36 : decode cX8_isPart 36 = .ok (.iload_n 2, 1) := dz_28 (k_X8_isPart 0 36 rfl)
theorem dX8_isPart_37 : decode cX8_isPart 37 = .ok (.iload 9, 2) := dz_21 (k_X8_isPart 0 37 rfl) (k_X8_isPart 0 38 rfl)
theorem dX8_isPart_39 : decode cX8_isPart 39 = .ok (.iadd, 1) := dz_96 (k_X8_isPart 0 39 rfl)
theorem dX8_isPart_40 : decode cX8_isPart 40 = .ok (.invokevirtual 114, 3) := dz_182 (k_X8_isPart 0 40 rfl) (k_X8_isPart 0 41 rfl) (k_X8_isPart 0 42 rfl) rfl
theorem dX8_isPart_43 : decode cX8_isPart 43 = .ok (.iload 4, 2) := dz_21 (k_X8_isPart 0 43 rfl) (k_X8_isPart 0 44 rfl)
theorem dX8_isPart_45 : decode cX8_isPart 45 = .ok (.invokestatic 125, 3) := dz_184 (k_X8_isPart 0 45 rfl) (k_X8_isPart 0 46 rfl) (k_X8_isPart 0 47 rfl) rfl
theorem dX8_isPart_48 : decode cX8_isPart 48 = .ok (.aload_n 0, 1) := dz_42 (k_X8_isPart 0 48 rfl)
theorem dX8_isPart_49 : decode cX8_isPart 49 = .ok (.iload 5, 2) := dz_21 (k_X8_isPart 0 49 rfl) (k_X8_isPart 0 50 rfl)
theorem dX8_isPart_51 : decode cX8_isPart 51 = .ok (.iload 6, 2) := dz_21 (k_X8_isPart 0 51 rfl) (k_X8_isPart 0 52 rfl)
theorem dX8_isPart_53 : decode cX8_isPart 53 = .ok (.iload 9, 2) := dz_21 (k_X8_isPart 0 53 rfl) (k_X8_isPart 0 54 rfl)
theorem dX8_isPart_55 : decode cX8_isPart 55 = .ok (.iadd, 1) := dz_96 (k_X8_isPart 0 55 rfl)
theorem dX8_isPart_56 : decode cX8_isPart 56 = .ok (.invokevirtual 114, 3) := dz_182 (k_X8_isPart 0 56 rfl) (k_X8_isPart 0 57 rfl) (k_X8_isPart 0 58 rfl) rfl
theorem dX8_isPart_59 : decode cX8_isPart 59 = .ok (.if_icmp .ne 7, 3) := dz_160 (k_X8_isPart 0 59 rfl) (k_X8_isPart 0 60 rfl) (k_X8_isPart 0 61 rfl) rfl
theorem dX8_isPart_62 : decode cX8_isPart 62 = .ok (.iconst 1, 1) := dz_4 (k_X8_isPart 0 62 rfl)
theorem dX8_isPart_63 : decode cX8_isPart 63 = .ok (.goto 4, 3) := dz_167 (k_X8_isPart 0 63 rfl) (k_X8_isPart 1 0 rfl) (k_X8_isPart 1 1 rfl) rfl
theorem dX8_isPart_66 : decode cX8_isPart 66 = .ok (.iconst 0, 1) := dz_3 (k_X8_isPart 1 2 rfl)
theorem dX8_isPart_67 : decode cX8_isPart 67 = .ok (.istore 8, 2) := dz_54 (k_X8_isPart 1 3 rfl) (k_X8_isPart 1 4 rfl)
theorem dX8_isPart_69 : decode cX8_isPart 69 = .ok (.iinc 9 1, 3) := dz_132 (k_X8_isPart 1 5 rfl) (k_X8_isPart 1 6 rfl) (k_X8_isPart 1 7 rfl) rfl
theorem dX8_isPart_72 : decode cX8_isPart 72 = .ok (.goto (-51), 3) := dz_167 (k_X8_isPart 1 8 rfl) (k_X8_isPart 1 9 rfl) (k_X8_isPart 1 10 rfl) rfl
theorem dX8_isPart_75 : decode cX8_isPart 75 = .ok (.iload 8, 2) := dz_21 (k_X8_isPart 1 11 rfl) (k_X8_isPart 1 12 rfl)
theorem dX8_isPart_77 : decode cX8_isPart 77 = .ok (.ireturn, 1) := dz_172 (k_X8_isPart 1 13 rfl)
def B_X8_isRight : List (List Nat) := [[42, 27, 28, 182, 0, 135, 54, 4, 21, 4, 155, 0, 32, 42, 27, 21, 4, 42, 180, 0, 20, 27, 46, 2, 29, 3, 42, 180, 0, 20, 29, 46, 182, 0, 128, 153, 0, 7, 4, 167, 0, 4, 3, 172]]
theorem k_X8_isRight (j i : Nat) {b : Nat} (h : (B_X8_isRight[j]?.bind fun c => c[i]?) = some b) : s_by cX8_isRight (64 * j + i) b := s_byC (L := B_X8_isRight) (by decide +kernel) (by decide +kernel) j i h
theorem dX8_isRight_0 : decode cX8_isRight 0 = .ok (.aload_n 0, 1) := dz_42 (k_X8_isRight 0 0 rfl)
theorem dX8_isRight_1 : decode cX8_isRight 1 = .ok (.iload_n 1, 1) := dz_27 (k_X8_isRight 0 1 rfl)
theorem dX8_isRight_2 : decode cX8_isRight 2 = .ok (.iload_n 2, 1) := dz_28 (k_X8_isRight 0 2 rfl)
theorem dX8_isRight_3 : decode cX8_isRight 3 = .ok (.invokevirtual 135, 3) := dz_182 (k_X8_isRight 0 3 rfl) (k_X8_isRight 0 4 rfl) (k_X8_isRight 0 5 rfl) rfl
theorem dX8_isRight_6 : decode cX8_isRight 6 = .ok (.istore 4, 2) := dz_54 (k_X8_isRight 0 6 rfl) (k_X8_isRight 0 7 rfl)
theorem dX8_isRight_8 : decode cX8_isRight 8 = .ok (.iload 4, 2) := dz_21 (k_X8_isRight 0 8 rfl) (k_X8_isRight 0 9 rfl)
theorem dX8_isRight_10 : decode cX8_isRight 10 = .ok (.ifCond .lt 32, 3) := dz_155 (k_X8_isRight 0 10 rfl) (k_X8_isRight 0 11 rfl) (k_X8_isRight 0 12 rfl) rfl
theorem dX8_isRight_13 : decode cX8_isRight 13 = .ok (.aload_n 0, 1) := dz_42 (k_X8_isRight 0 13 rfl)
theorem dX8_isRight_14 : decode cX8_isRight 14 = .ok (.iload_n 1, 1) := dz_27 (k_X8_isRight 0 14 rfl)
theorem dX8_isRight_15 : decode cX8_isRight 15 = .ok (.iload 4, 2) := dz_21 (k_X8_isRight 0 15 rfl) (k_X8_isRight 0 16 rfl)
theorem dX8_isRight_17 : decode cX8_isRight 17 = .ok (.aload_n 0, 1) := dz_42 (k_X8_isRight 0 17 rfl)
theorem dX8_isRight_18 : decode cX8_isRight 18 = .ok (.getfield 20, 3) := dz_180 (k_X8_isRight 0 18 rfl) (k_X8_isRight 0 19 rfl) (k_X8_isRight 0 20 rfl) rfl
theorem dX8_isRight_21 : decode cX8_isRight 21 = .ok (.iload_n 1, 1) := dz_27 (k_X8_isRight 0 21 rfl)
theorem dX8_isRight_22 : decode cX8_isRight 22 = .ok (.iaload, 1) := dz_46 (k_X8_isRight 0 22 rfl)
theorem dX8_isRight_23 : decode cX8_isRight 23 = .ok (.iconst (-1), 1) := dz_2 (k_X8_isRight 0 23 rfl)
theorem dX8_isRight_24 : decode cX8_isRight 24 = .ok (.iload_n 3, 1) := dz_29 (k_X8_isRight 0 24 rfl)
theorem dX8_isRight_25 : decode cX8_isRight 25 = .ok (.iconst 0, 1) := dz_3 (k_X8_isRight 0 25 rfl)
theorem dX8_isRight_26 : decode cX8_isRight 26 = .ok (.aload_n 0, 1) := dz_42 (k_X8_isRight 0 26 rfl)
theorem dX8_isRight_27 : decode cX8_isRight 27 = .ok (.getfield 20, 3) := dz_180 (k_X8_isRight 0 27 rfl) (k_X8_isRight 0 28 rfl) (k_X8_isRight 0 29 rfl) rfl
theorem dX8_isRight_30 : decode cX8_isRight 30 = .ok (.iload_n 3, 1) := dz_29 (k_X8_isRight 0 30 rfl)
theorem dX8_isRight_31 : decode cX8_isRight 31 = .ok (.iaload, 1) := dz_46 (k_X8_isRight 0 31 rfl)
theorem dX8_isRight_32 : decode cX8_isRight 32 = .ok (.invokevirtual 128, 3) := dz_182 (k_X8_isRight 0 32 rfl) (k_X8_isRight 0 33 rfl) (k_X8_isRight 0 34 rfl) rfl
theorem dX8_isRight_35 : decode cX8_isRight 35 = .ok (.ifCond .eq 7, 3) := dz_153 (k_X8_isRight 0 35 rfl) (k_X8_isRight 0 36 rfl) (k_X8_isRight 0 37 rfl) rfl
theorem dX8_isRight_38 : decode cX8_isRight 38 = .ok (.iconst 1, 1) := dz_4 (k_X8_isRight 0 38 rfl)
theorem dX8_isRight_39 : decode cX8_isRight 39 = .ok (.goto 4, 3) := dz_167 (k_X8_isRight 0 39 rfl) (k_X8_isRight 0 40 rfl) (k_X8_isRight 0 41 rfl) rfl
theorem dX8_isRight_42 : decode cX8_isRight 42 = .ok (.iconst 0, 1) := dz_3 (k_X8_isRight 0 42 rfl)
theorem dX8_isRight_43 : decode cX8_isRight 43 = .ok (.ireturn, 1) := dz_172 (k_X8_isRight 0 43 rfl)
def B_X8_isSame : List (List Nat) := [[42, 27, 3, 42, 180, 0, 20, 27, 46, 2, 28, 3, 42, 180, 0, 20, 28, 46, 182, 0, 128, 172]]
theorem k_X8_isSame (j i : Nat) {b : Nat} (h : (B_X8_isSame[j]?.bind fun c => c[i]?) = some b) : s_by cX8_isSame (64 * j + i) b := s_byC (L := B_X8_isSame) (by decide +kernel) (by decide +kernel) j i h
theorem dX8_isSame_0 : decode cX8_isSame 0 = .ok (.aload_n 0, 1) := dz_42 (k_X8_isSame 0 0 rfl)
theorem dX8_isSame_1 : decode cX8_isSame 1 = .ok (.iload_n 1, 1) := dz_27 (k_X8_isSame 0 1 rfl)
theorem dX8_isSame_2 : decode cX8_isSame 2 = .ok (.iconst 0, 1) := dz_3 (k_X8_isSame 0 2 rfl)
theorem dX8_isSame_3 : decode cX8_isSame 3 = .ok (.aload_n 0, 1) := dz_42 (k_X8_isSame 0 3 rfl)
theorem dX8_isSame_4 : decode cX8_isSame 4 = .ok (.getfield 20, 3) := dz_180 (k_X8_isSame 0 4 rfl) (k_X8_isSame 0 5 rfl) (k_X8_isSame 0 6 rfl) rfl
theorem dX8_isSame_7 : decode cX8_isSame 7 = .ok (.iload_n 1, 1) := dz_27 (k_X8_isSame 0 7 rfl)
theorem dX8_isSame_8 : decode cX8_isSame 8 = .ok (.iaload, 1) := dz_46 (k_X8_isSame 0 8 rfl)
theorem dX8_isSame_9 : decode cX8_isSame 9 = .ok (.iconst (-1), 1) := dz_2 (k_X8_isSame 0 9 rfl)
theorem dX8_isSame_10 : decode cX8_isSame 10 = .ok (.iload_n 2, 1) := dz_28 (k_X8_isSame 0 10 rfl)
theorem dX8_isSame_11 : decode cX8_isSame 11 = .ok (.iconst 0, 1) := dz_3 (k_X8_isSame 0 11 rfl)
theorem dX8_isSame_12 : decode cX8_isSame 12 = .ok (.aload_n 0, 1) := dz_42 (k_X8_isSame 0 12 rfl)
theorem dX8_isSame_13 : decode cX8_isSame 13 = .ok (.getfield 20, 3) := dz_180 (k_X8_isSame 0 13 rfl) (k_X8_isSame 0 14 rfl) (k_X8_isSame 0 15 rfl) rfl
theorem dX8_isSame_16 : decode cX8_isSame 16 = .ok (.iload_n 2, 1) := dz_28 (k_X8_isSame 0 16 rfl)
theorem dX8_isSame_17 : decode cX8_isSame 17 = .ok (.iaload, 1) := dz_46 (k_X8_isSame 0 17 rfl)
theorem dX8_isSame_18 : decode cX8_isSame 18 = .ok (.invokevirtual 128, 3) := dz_182 (k_X8_isSame 0 18 rfl) (k_X8_isSame 0 19 rfl) (k_X8_isSame 0 20 rfl) rfl
theorem dX8_isSame_21 : decode cX8_isSame 21 = .ok (.ireturn, 1) := dz_172 (k_X8_isSame 0 21 rfl)
def B_X8_isSaved : List (List Nat) := [[3, 61, 3, 62, 29, 42, 182, 0, 111, 162, 0, 76, 42, 27, 182, 1, 51, 153, 0, 68, 28, 154, 0, 64, 29, 27, 159, 0, 51, 42, 42, 29, 4, 182, 1, 0, 42, 27, 4, 182, 1, 0, 182, 0, 234, 153, 0, 32, 42, 180, 0, 39, 29, 51, 153, 0, 23, 42, 29, 182, 1, 54, 154, 0], [15, 42, 29, 182, 1, 51, 154, 0, 7, 4, 167, 0, 4, 3, 61, 132, 3, 1, 167, 255, 178, 28, 172]]
theorem k_X8_isSaved (j i : Nat) {b : Nat} (h : (B_X8_isSaved[j]?.bind fun c => c[i]?) = some b) : s_by cX8_isSaved (64 * j + i) b := s_byC (L := B_X8_isSaved) (by decide +kernel) (by decide +kernel) j i h
theorem dX8_isSaved_0 : decode cX8_isSaved 0 = .ok (.iconst 0, 1) := dz_3 (k_X8_isSaved 0 0 rfl)
theorem dX8_isSaved_1 : decode cX8_isSaved 1 = .ok (.istore_n 2, 1) := dz_61 (k_X8_isSaved 0 1 rfl)
theorem dX8_isSaved_2 : decode cX8_isSaved 2 = .ok (.iconst 0, 1) := dz_3 (k_X8_isSaved 0 2 rfl)
theorem dX8_isSaved_3 : decode cX8_isSaved 3 = .ok (.istore_n 3, 1) := dz_62 (k_X8_isSaved 0 3 rfl)
theorem dX8_isSaved_4 : decode cX8_isSaved 4 = .ok (.iload_n 3, 1) := dz_29 (k_X8_isSaved 0 4 rfl)
theorem dX8_isSaved_5 : decode cX8_isSaved 5 = .ok (.aload_n 0, 1) := dz_42 (k_X8_isSaved 0 5 rfl)
theorem dX8_isSaved_6 : decode cX8_isSaved 6 = .ok (.invokevirtual 111, 3) := dz_182 (k_X8_isSaved 0 6 rfl) (k_X8_isSaved 0 7 rfl) (k_X8_isSaved 0 8 rfl) rfl
theorem dX8_isSaved_9 : decode cX8_isSaved 9 = .ok (.if_icmp .ge 76, 3) := dz_162 (k_X8_isSaved 0 9 rfl) (k_X8_isSaved 0 10 rfl) (k_X8_isSaved 0 11 rfl) rfl
theorem dX8_isSaved_12 : decode cX8_isSaved 12 = .ok (.aload_n 0, 1) := dz_42 (k_X8_isSaved 0 12 rfl)
theorem dX8_isSaved_13 : decode cX8_isSaved 13 = .ok (.iload_n 1, 1) := dz_27 (k_X8_isSaved 0 13 rfl)
theorem dX8_isSaved_14 : decode cX8_isSaved 14 = .ok (.invokevirtual 307, 3) := dz_182 (k_X8_isSaved 0 14 rfl) (k_X8_isSaved 0 15 rfl) (k_X8_isSaved 0 16 rfl) rfl
theorem dX8_isSaved_17 : decode cX8_isSaved 17 = .ok (.ifCond .eq 68, 3) := dz_153 (k_X8_isSaved 0 17 rfl) (k_X8_isSaved 0 18 rfl) (k_X8_isSaved 0 19 rfl) rfl
theorem dX8_isSaved_20 : decode cX8_isSaved 20 = .ok (.iload_n 2, 1) := dz_28 (k_X8_isSaved 0 20 rfl)
theorem dX8_isSaved_21 : decode cX8_isSaved 21 = .ok (.ifCond .ne 64, 3) := dz_154 (k_X8_isSaved 0 21 rfl) (k_X8_isSaved 0 22 rfl) (k_X8_isSaved 0 23 rfl) rfl
theorem dX8_isSaved_24 : decode cX8_isSaved 24 = .ok (.iload_n 3, 1) := dz_29 (k_X8_isSaved 0 24 rfl)
theorem dX8_isSaved_25 : decode cX8_isSaved 25 = .ok (.iload_n 1, 1) := dz_27 (k_X8_isSaved 0 25 rfl)
theorem dX8_isSaved_26 : decode cX8_isSaved 26 = .ok (.if_icmp .eq 51, 3) := dz_159 (k_X8_isSaved 0 26 rfl) (k_X8_isSaved 0 27 rfl) (k_X8_isSaved 0 28 rfl) rfl
theorem dX8_isSaved_29 : decode cX8_isSaved 29 = .ok (.aload_n 0, 1) := dz_42 (k_X8_isSaved 0 29 rfl)
theorem dX8_isSaved_30 : decode cX8_isSaved 30 = .ok (.aload_n 0, 1) := dz_42 (k_X8_isSaved 0 30 rfl)
theorem dX8_isSaved_31 : decode cX8_isSaved 31 = .ok (.iload_n 3, 1) := dz_29 (k_X8_isSaved 0 31 rfl)
theorem dX8_isSaved_32 : decode cX8_isSaved 32 = .ok (.iconst 1, 1) := dz_4 (k_X8_isSaved 0 32 rfl)
theorem dX8_isSaved_33 : decode cX8_isSaved 33 = .ok (.invokevirtual 256, 3) := dz_182 (k_X8_isSaved 0 33 rfl) (k_X8_isSaved 0 34 rfl) (k_X8_isSaved 0 35 rfl) rfl
theorem dX8_isSaved_36 : decode cX8_isSaved 36 = .ok (.aload_n 0, 1) := dz_42 (k_X8_isSaved 0 36 rfl)
theorem dX8_isSaved_37 : decode cX8_isSaved 37 = .ok (.iload_n 1, 1) := dz_27 (k_X8_isSaved 0 37 rfl)
theorem dX8_isSaved_38 : decode cX8_isSaved 38 = .ok (.iconst 1, 1) := dz_4 (k_X8_isSaved 0 38 rfl)
theorem dX8_isSaved_39 : decode cX8_isSaved 39 = .ok (.invokevirtual 256, 3) := dz_182 (k_X8_isSaved 0 39 rfl) (k_X8_isSaved 0 40 rfl) (k_X8_isSaved 0 41 rfl) rfl
theorem dX8_isSaved_42 : decode cX8_isSaved 42 = .ok (.invokevirtual 234, 3) := dz_182 (k_X8_isSaved 0 42 rfl) (k_X8_isSaved 0 43 rfl) (k_X8_isSaved 0 44 rfl) rfl
theorem dX8_isSaved_45 : decode cX8_isSaved 45 = .ok (.ifCond .eq 32, 3) := dz_153 (k_X8_isSaved 0 45 rfl) (k_X8_isSaved 0 46 rfl) (k_X8_isSaved 0 47 rfl) rfl
theorem dX8_isSaved_48 : decode cX8_isSaved 48 = .ok (.aload_n 0, 1) := dz_42 (k_X8_isSaved 0 48 rfl)
theorem dX8_isSaved_49 : decode cX8_isSaved 49 = .ok (.getfield 39, 3) := dz_180 (k_X8_isSaved 0 49 rfl) (k_X8_isSaved 0 50 rfl) (k_X8_isSaved 0 51 rfl) rfl
theorem dX8_isSaved_52 : decode cX8_isSaved 52 = .ok (.iload_n 3, 1) := dz_29 (k_X8_isSaved 0 52 rfl)
theorem dX8_isSaved_53 : decode cX8_isSaved 53 = .ok (.baload, 1) := dz_51 (k_X8_isSaved 0 53 rfl)
theorem dX8_isSaved_54 : decode cX8_isSaved 54 = .ok (.ifCond .eq 23, 3) := dz_153 (k_X8_isSaved 0 54 rfl) (k_X8_isSaved 0 55 rfl) (k_X8_isSaved 0 56 rfl) rfl
theorem dX8_isSaved_57 : decode cX8_isSaved 57 = .ok (.aload_n 0, 1) := dz_42 (k_X8_isSaved 0 57 rfl)
theorem dX8_isSaved_58 : decode cX8_isSaved 58 = .ok (.iload_n 3, 1) := dz_29 (k_X8_isSaved 0 58 rfl)
theorem dX8_isSaved_59 : decode cX8_isSaved 59 = .ok (.invokevirtual 310, 3) := dz_182 (k_X8_isSaved 0 59 rfl) (k_X8_isSaved 0 60 rfl) (k_X8_isSaved 0 61 rfl) rfl
theorem dX8_isSaved_62 : decode cX8_isSaved 62 = .ok (.ifCond .ne 15, 3) := dz_154 (k_X8_isSaved 0 62 rfl) (k_X8_isSaved 0 63 rfl) (k_X8_isSaved 1 0 rfl) rfl
theorem dX8_isSaved_65 : decode cX8_isSaved 65 = .ok (.aload_n 0, 1) := dz_42 (k_X8_isSaved 1 1 rfl)
theorem dX8_isSaved_66 : decode cX8_isSaved 66 = .ok (.iload_n 3, 1) := dz_29 (k_X8_isSaved 1 2 rfl)
theorem dX8_isSaved_67 : decode cX8_isSaved 67 = .ok (.invokevirtual 307, 3) := dz_182 (k_X8_isSaved 1 3 rfl) (k_X8_isSaved 1 4 rfl) (k_X8_isSaved 1 5 rfl) rfl
theorem dX8_isSaved_70 : decode cX8_isSaved 70 = .ok (.ifCond .ne 7, 3) := dz_154 (k_X8_isSaved 1 6 rfl) (k_X8_isSaved 1 7 rfl) (k_X8_isSaved 1 8 rfl) rfl
theorem dX8_isSaved_73 : decode cX8_isSaved 73 = .ok (.iconst 1, 1) := dz_4 (k_X8_isSaved 1 9 rfl)
theorem dX8_isSaved_74 : decode cX8_isSaved 74 = .ok (.goto 4, 3) := dz_167 (k_X8_isSaved 1 10 rfl) (k_X8_isSaved 1 11 rfl) (k_X8_isSaved 1 12 rfl) rfl
theorem dX8_isSaved_77 : decode cX8_isSaved 77 = .ok (.iconst 0, 1) := dz_3 (k_X8_isSaved 1 13 rfl)
theorem dX8_isSaved_78 : decode cX8_isSaved 78 = .ok (.istore_n 2, 1) := dz_61 (k_X8_isSaved 1 14 rfl)
theorem dX8_isSaved_79 : decode cX8_isSaved 79 = .ok (.iinc 3 1, 3) := dz_132 (k_X8_isSaved 1 15 rfl) (k_X8_isSaved 1 16 rfl) (k_X8_isSaved 1 17 rfl) rfl
theorem dX8_isSaved_82 : decode cX8_isSaved 82 = .ok (.goto (-78), 3) := dz_167 (k_X8_isSaved 1 18 rfl) (k_X8_isSaved 1 19 rfl) (k_X8_isSaved 1 20 rfl) rfl
theorem dX8_isSaved_85 : decode cX8_isSaved 85 = .ok (.iload_n 2, 1) := dz_28 (k_X8_isSaved 1 21 rfl)
theorem dX8_isSaved_86 : decode cX8_isSaved 86 = .ok (.ireturn, 1) := dz_172 (k_X8_isSaved 1 22 rfl)
def B_X8_isStale : List (List Nat) := [[3, 61, 3, 62, 29, 42, 182, 0, 111, 162, 0, 66, 28, 154, 0, 50, 42, 180, 0, 43, 27, 47, 29, 123, 10, 127, 10, 148, 154, 0, 39, 42, 29, 5, 182, 1, 0, 154, 0, 30, 42, 42, 29, 4, 182, 1, 0, 42, 42, 29, 6, 182, 1, 0, 182, 0, 252, 182, 1, 25, 154, 0, 7, 4], [167, 0, 4, 3, 61, 132, 3, 1, 167, 255, 188, 28, 172]]
theorem k_X8_isStale (j i : Nat) {b : Nat} (h : (B_X8_isStale[j]?.bind fun c => c[i]?) = some b) : s_by cX8_isStale (64 * j + i) b := s_byC (L := B_X8_isStale) (by decide +kernel) (by decide +kernel) j i h
theorem dX8_isStale_0 : decode cX8_isStale 0 = .ok (.iconst 0, 1) := dz_3 (k_X8_isStale 0 0 rfl)
theorem dX8_isStale_1 : decode cX8_isStale 1 = .ok (.istore_n 2, 1) := dz_61 (k_X8_isStale 0 1 rfl)
theorem dX8_isStale_2 : decode cX8_isStale 2 = .ok (.iconst 0, 1) := dz_3 (k_X8_isStale 0 2 rfl)
theorem dX8_isStale_3 : decode cX8_isStale 3 = .ok (.istore_n 3, 1) := dz_62 (k_X8_isStale 0 3 rfl)
theorem dX8_isStale_4 : decode cX8_isStale 4 = .ok (.iload_n 3, 1) := dz_29 (k_X8_isStale 0 4 rfl)
theorem dX8_isStale_5 : decode cX8_isStale 5 = .ok (.aload_n 0, 1) := dz_42 (k_X8_isStale 0 5 rfl)
theorem dX8_isStale_6 : decode cX8_isStale 6 = .ok (.invokevirtual 111, 3) := dz_182 (k_X8_isStale 0 6 rfl) (k_X8_isStale 0 7 rfl) (k_X8_isStale 0 8 rfl) rfl
theorem dX8_isStale_9 : decode cX8_isStale 9 = .ok (.if_icmp .ge 66, 3) := dz_162 (k_X8_isStale 0 9 rfl) (k_X8_isStale 0 10 rfl) (k_X8_isStale 0 11 rfl) rfl
theorem dX8_isStale_12 : decode cX8_isStale 12 = .ok (.iload_n 2, 1) := dz_28 (k_X8_isStale 0 12 rfl)
theorem dX8_isStale_13 : decode cX8_isStale 13 = .ok (.ifCond .ne 50, 3) := dz_154 (k_X8_isStale 0 13 rfl) (k_X8_isStale 0 14 rfl) (k_X8_isStale 0 15 rfl) rfl
theorem dX8_isStale_16 : decode cX8_isStale 16 = .ok (.aload_n 0, 1) := dz_42 (k_X8_isStale 0 16 rfl)
theorem dX8_isStale_17 : decode cX8_isStale 17 = .ok (.getfield 43, 3) := dz_180 (k_X8_isStale 0 17 rfl) (k_X8_isStale 0 18 rfl) (k_X8_isStale 0 19 rfl) rfl
theorem dX8_isStale_20 : decode cX8_isStale 20 = .ok (.iload_n 1, 1) := dz_27 (k_X8_isStale 0 20 rfl)
theorem dX8_isStale_21 : decode cX8_isStale 21 = .ok (.laload, 1) := dz_47 (k_X8_isStale 0 21 rfl)
theorem dX8_isStale_22 : decode cX8_isStale 22 = .ok (.iload_n 3, 1) := dz_29 (k_X8_isStale 0 22 rfl)
theorem dX8_isStale_23 : decode cX8_isStale 23 = .ok (.lshr, 1) := dz_123 (k_X8_isStale 0 23 rfl)
theorem dX8_isStale_24 : decode cX8_isStale 24 = .ok (.lconst 1, 1) := dz_10 (k_X8_isStale 0 24 rfl)
theorem dX8_isStale_25 : decode cX8_isStale 25 = .ok (.land, 1) := dz_127 (k_X8_isStale 0 25 rfl)
theorem dX8_isStale_26 : decode cX8_isStale 26 = .ok (.lconst 1, 1) := dz_10 (k_X8_isStale 0 26 rfl)
theorem dX8_isStale_27 : decode cX8_isStale 27 = .ok (.lcmp, 1) := dz_148 (k_X8_isStale 0 27 rfl)
theorem dX8_isStale_28 : decode cX8_isStale 28 = .ok (.ifCond .ne 39, 3) := dz_154 (k_X8_isStale 0 28 rfl) (k_X8_isStale 0 29 rfl) (k_X8_isStale 0 30 rfl) rfl
theorem dX8_isStale_31 : decode cX8_isStale 31 = .ok (.aload_n 0, 1) := dz_42 (k_X8_isStale 0 31 rfl)
theorem dX8_isStale_32 : decode cX8_isStale 32 = .ok (.iload_n 3, 1) := dz_29 (k_X8_isStale 0 32 rfl)
theorem dX8_isStale_33 : decode cX8_isStale 33 = .ok (.iconst 2, 1) := dz_5 (k_X8_isStale 0 33 rfl)
theorem dX8_isStale_34 : decode cX8_isStale 34 = .ok (.invokevirtual 256, 3) := dz_182 (k_X8_isStale 0 34 rfl) (k_X8_isStale 0 35 rfl) (k_X8_isStale 0 36 rfl) rfl
theorem dX8_isStale_37 : decode cX8_isStale 37 = .ok (.ifCond .ne 30, 3) := dz_154 (k_X8_isStale 0 37 rfl) (k_X8_isStale 0 38 rfl) (k_X8_isStale 0 39 rfl) rfl
theorem dX8_isStale_40 : decode cX8_isStale 40 = .ok (.aload_n 0, 1) := dz_42 (k_X8_isStale 0 40 rfl)
theorem dX8_isStale_41 : decode cX8_isStale 41 = .ok (.aload_n 0, 1) := dz_42 (k_X8_isStale 0 41 rfl)
theorem dX8_isStale_42 : decode cX8_isStale 42 = .ok (.iload_n 3, 1) := dz_29 (k_X8_isStale 0 42 rfl)
theorem dX8_isStale_43 : decode cX8_isStale 43 = .ok (.iconst 1, 1) := dz_4 (k_X8_isStale 0 43 rfl)
theorem dX8_isStale_44 : decode cX8_isStale 44 = .ok (.invokevirtual 256, 3) := dz_182 (k_X8_isStale 0 44 rfl) (k_X8_isStale 0 45 rfl) (k_X8_isStale 0 46 rfl) rfl
theorem dX8_isStale_47 : decode cX8_isStale 47 = .ok (.aload_n 0, 1) := dz_42 (k_X8_isStale 0 47 rfl)
theorem dX8_isStale_48 : decode cX8_isStale 48 = .ok (.aload_n 0, 1) := dz_42 (k_X8_isStale 0 48 rfl)
theorem dX8_isStale_49 : decode cX8_isStale 49 = .ok (.iload_n 3, 1) := dz_29 (k_X8_isStale 0 49 rfl)
theorem dX8_isStale_50 : decode cX8_isStale 50 = .ok (.iconst 3, 1) := dz_6 (k_X8_isStale 0 50 rfl)
theorem dX8_isStale_51 : decode cX8_isStale 51 = .ok (.invokevirtual 256, 3) := dz_182 (k_X8_isStale 0 51 rfl) (k_X8_isStale 0 52 rfl) (k_X8_isStale 0 53 rfl) rfl
theorem dX8_isStale_54 : decode cX8_isStale 54 = .ok (.invokevirtual 252, 3) := dz_182 (k_X8_isStale 0 54 rfl) (k_X8_isStale 0 55 rfl) (k_X8_isStale 0 56 rfl) rfl
theorem dX8_isStale_57 : decode cX8_isStale 57 = .ok (.invokevirtual 281, 3) := dz_182 (k_X8_isStale 0 57 rfl) (k_X8_isStale 0 58 rfl) (k_X8_isStale 0 59 rfl) rfl
theorem dX8_isStale_60 : decode cX8_isStale 60 = .ok (.ifCond .ne 7, 3) := dz_154 (k_X8_isStale 0 60 rfl) (k_X8_isStale 0 61 rfl) (k_X8_isStale 0 62 rfl) rfl
theorem dX8_isStale_63 : decode cX8_isStale 63 = .ok (.iconst 1, 1) := dz_4 (k_X8_isStale 0 63 rfl)
theorem dX8_isStale_64 : decode cX8_isStale 64 = .ok (.goto 4, 3) := dz_167 (k_X8_isStale 1 0 rfl) (k_X8_isStale 1 1 rfl) (k_X8_isStale 1 2 rfl) rfl
theorem dX8_isStale_67 : decode cX8_isStale 67 = .ok (.iconst 0, 1) := dz_3 (k_X8_isStale 1 3 rfl)
theorem dX8_isStale_68 : decode cX8_isStale 68 = .ok (.istore_n 2, 1) := dz_61 (k_X8_isStale 1 4 rfl)
theorem dX8_isStale_69 : decode cX8_isStale 69 = .ok (.iinc 3 1, 3) := dz_132 (k_X8_isStale 1 5 rfl) (k_X8_isStale 1 6 rfl) (k_X8_isStale 1 7 rfl) rfl
theorem dX8_isStale_72 : decode cX8_isStale 72 = .ok (.goto (-68), 3) := dz_167 (k_X8_isStale 1 8 rfl) (k_X8_isStale 1 9 rfl) (k_X8_isStale 1 10 rfl) rfl
theorem dX8_isStale_75 : decode cX8_isStale 75 = .ok (.iload_n 2, 1) := dz_28 (k_X8_isStale 1 11 rfl)
theorem dX8_isStale_76 : decode cX8_isStale 76 = .ok (.ireturn, 1) := dz_172 (k_X8_isStale 1 12 rfl)
def B_X8_isTrue : List (List Nat) := [[4, 42, 182, 0, 138, 120, 4, 100, 62, 3, 54, 4, 42, 180, 0, 20, 27, 46, 4, 100, 54, 5, 21, 5, 155, 0, 192, 42, 27, 21, 5, 182, 0, 114, 54, 6, 21, 6, 184, 0, 118, 153, 0, 79, 42, 180, 0, 36, 21, 4, 4, 100, 46, 54, 7, 42, 180, 0, 36, 21, 4, 5, 100, 46], [54, 8, 132, 4, 255, 42, 180, 0, 36, 21, 4, 4, 100, 21, 6, 16, 13, 160, 0, 11, 21, 7, 21, 8, 126, 167, 0, 27, 21, 6, 16, 14, 160, 0, 11, 21, 7, 21, 8, 128, 167, 0, 12, 21, 7, 2, 130, 29, 126, 21, 8, 128, 79, 167, 0, 93, 21, 6, 184, 0, 122, 153, 0, 68], [42, 180, 0, 36, 21, 4, 4, 100, 46, 54, 7, 42, 180, 0, 36, 21, 4, 4, 100, 21, 6, 16, 12, 160, 0, 12, 21, 7, 2, 130, 29, 126, 167, 0, 29, 21, 6, 16, 17, 160, 0, 11, 21, 7, 153, 0, 16, 167, 0, 9, 21, 7, 29, 160, 0, 7, 29, 167, 0, 4, 3, 79, 167, 0], [20, 42, 180, 0, 36, 21, 4, 42, 21, 6, 28, 182, 0, 228, 79, 132, 4, 1, 132, 5, 255, 167, 255, 65, 42, 180, 0, 36, 3, 46, 153, 0, 7, 4, 167, 0, 4, 3, 172]]
theorem k_X8_isTrue (j i : Nat) {b : Nat} (h : (B_X8_isTrue[j]?.bind fun c => c[i]?) = some b) : s_by cX8_isTrue (64 * j + i) b := s_byC (L := B_X8_isTrue) (by decide +kernel) (by decide +kernel) j i h
theorem dX8_isTrue_0 : decode cX8_isTrue 0 = .ok (.iconst 1, 1) := dz_4 (k_X8_isTrue 0 0 rfl)
theorem dX8_isTrue_1 : decode cX8_isTrue 1 = .ok (.aload_n 0, 1) := dz_42 (k_X8_isTrue 0 1 rfl)
theorem dX8_isTrue_2 : decode cX8_isTrue 2 = .ok (.invokevirtual 138, 3) := dz_182 (k_X8_isTrue 0 2 rfl) (k_X8_isTrue 0 3 rfl) (k_X8_isTrue 0 4 rfl) rfl
theorem dX8_isTrue_5 : decode cX8_isTrue 5 = .ok (.ishl, 1) := dz_120 (k_X8_isTrue 0 5 rfl)
theorem dX8_isTrue_6 : decode cX8_isTrue 6 = .ok (.iconst 1, 1) := dz_4 (k_X8_isTrue 0 6 rfl)
theorem dX8_isTrue_7 : decode cX8_isTrue 7 = .ok (.isub, 1) := dz_100 (k_X8_isTrue 0 7 rfl)
theorem dX8_isTrue_8 : decode cX8_isTrue 8 = .ok (.istore_n 3, 1) := dz_62 (k_X8_isTrue 0 8 rfl)
theorem dX8_isTrue_9 : decode cX8_isTrue 9 = .ok (.iconst 0, 1) := dz_3 (k_X8_isTrue 0 9 rfl)
theorem dX8_isTrue_10 : decode cX8_isTrue 10 = .ok (.istore 4, 2) := dz_54 (k_X8_isTrue 0 10 rfl) (k_X8_isTrue 0 11 rfl)
theorem dX8_isTrue_12 : decode cX8_isTrue 12 = .ok (.aload_n 0, 1) := dz_42 (k_X8_isTrue 0 12 rfl)
theorem dX8_isTrue_13 : decode cX8_isTrue 13 = .ok (.getfield 20, 3) := dz_180 (k_X8_isTrue 0 13 rfl) (k_X8_isTrue 0 14 rfl) (k_X8_isTrue 0 15 rfl) rfl
theorem dX8_isTrue_16 : decode cX8_isTrue 16 = .ok (.iload_n 1, 1) := dz_27 (k_X8_isTrue 0 16 rfl)
theorem dX8_isTrue_17 : decode cX8_isTrue 17 = .ok (.iaload, 1) := dz_46 (k_X8_isTrue 0 17 rfl)
theorem dX8_isTrue_18 : decode cX8_isTrue 18 = .ok (.iconst 1, 1) := dz_4 (k_X8_isTrue 0 18 rfl)
theorem dX8_isTrue_19 : decode cX8_isTrue 19 = .ok (.isub, 1) := dz_100 (k_X8_isTrue 0 19 rfl)
theorem dX8_isTrue_20 : decode cX8_isTrue 20 = .ok (.istore 5, 2) := dz_54 (k_X8_isTrue 0 20 rfl) (k_X8_isTrue 0 21 rfl)
theorem dX8_isTrue_22 : decode cX8_isTrue 22 = .ok (.iload 5, 2) := dz_21 (k_X8_isTrue 0 22 rfl) (k_X8_isTrue 0 23 rfl)
theorem dX8_isTrue_24 : decode cX8_isTrue 24 = .ok (.ifCond .lt 192, 3) := dz_155 (k_X8_isTrue 0 24 rfl) (k_X8_isTrue 0 25 rfl) (k_X8_isTrue 0 26 rfl) rfl
theorem dX8_isTrue_27 : decode cX8_isTrue 27 = .ok (.aload_n 0, 1) := dz_42 (k_X8_isTrue 0 27 rfl)
theorem dX8_isTrue_28 : decode cX8_isTrue 28 = .ok (.iload_n 1, 1) := dz_27 (k_X8_isTrue 0 28 rfl)
theorem dX8_isTrue_29 : decode cX8_isTrue 29 = .ok (.iload 5, 2) := dz_21 (k_X8_isTrue 0 29 rfl) (k_X8_isTrue 0 30 rfl)
theorem dX8_isTrue_31 : decode cX8_isTrue 31 = .ok (.invokevirtual 114, 3) := dz_182 (k_X8_isTrue 0 31 rfl) (k_X8_isTrue 0 32 rfl) (k_X8_isTrue 0 33 rfl) rfl
theorem dX8_isTrue_34 : decode cX8_isTrue 34 = .ok (.istore 6, 2) := dz_54 (k_X8_isTrue 0 34 rfl) (k_X8_isTrue 0 35 rfl)
theorem dX8_isTrue_36 : decode cX8_isTrue 36 = .ok (.iload 6, 2) := dz_21 (k_X8_isTrue 0 36 rfl) (k_X8_isTrue 0 37 rfl)
theorem dX8_isTrue_38 : decode cX8_isTrue 38 = .ok (.invokestatic 118, 3) := dz_184 (k_X8_isTrue 0 38 rfl) (k_X8_isTrue 0 39 rfl) (k_X8_isTrue 0 40 rfl) rfl
theorem dX8_isTrue_41 : decode cX8_isTrue 41 = .ok (.ifCond .eq 79, 3) := dz_153 (k_X8_isTrue 0 41 rfl) (k_X8_isTrue 0 42 rfl) (k_X8_isTrue 0 43 rfl) rfl
theorem dX8_isTrue_44 : decode cX8_isTrue 44 = .ok (.aload_n 0, 1) := dz_42 (k_X8_isTrue 0 44 rfl)
theorem dX8_isTrue_45 : decode cX8_isTrue 45 = .ok (.getfield 36, 3) := dz_180 (k_X8_isTrue 0 45 rfl) (k_X8_isTrue 0 46 rfl) (k_X8_isTrue 0 47 rfl) rfl
theorem dX8_isTrue_48 : decode cX8_isTrue 48 = .ok (.iload 4, 2) := dz_21 (k_X8_isTrue 0 48 rfl) (k_X8_isTrue 0 49 rfl)
theorem dX8_isTrue_50 : decode cX8_isTrue 50 = .ok (.iconst 1, 1) := dz_4 (k_X8_isTrue 0 50 rfl)
theorem dX8_isTrue_51 : decode cX8_isTrue 51 = .ok (.isub, 1) := dz_100 (k_X8_isTrue 0 51 rfl)
theorem dX8_isTrue_52 : decode cX8_isTrue 52 = .ok (.iaload, 1) := dz_46 (k_X8_isTrue 0 52 rfl)
theorem dX8_isTrue_53 : decode cX8_isTrue 53 = .ok (.istore 7, 2) := dz_54 (k_X8_isTrue 0 53 rfl) (k_X8_isTrue 0 54 rfl)
theorem dX8_isTrue_55 : decode cX8_isTrue 55 = .ok (.aload_n 0, 1) := dz_42 (k_X8_isTrue 0 55 rfl)
theorem dX8_isTrue_56 : decode cX8_isTrue 56 = .ok (.getfield 36, 3) := dz_180 (k_X8_isTrue 0 56 rfl) (k_X8_isTrue 0 57 rfl) (k_X8_isTrue 0 58 rfl) rfl
theorem dX8_isTrue_59 : decode cX8_isTrue 59 = .ok (.iload 4, 2) := dz_21 (k_X8_isTrue 0 59 rfl) (k_X8_isTrue 0 60 rfl)
theorem dX8_isTrue_61 : decode cX8_isTrue 61 = .ok (.iconst 2, 1) := dz_5 (k_X8_isTrue 0 61 rfl)
theorem dX8_isTrue_62 : decode cX8_isTrue 62 = .ok (.isub, 1) := dz_100 (k_X8_isTrue 0 62 rfl)
theorem dX8_isTrue_63 : decode cX8_isTrue 63 = .ok (.iaload, 1) := dz_46 (k_X8_isTrue 0 63 rfl)
theorem dX8_isTrue_64 : decode cX8_isTrue 64 = .ok (.istore 8, 2) := dz_54 (k_X8_isTrue 1 0 rfl) (k_X8_isTrue 1 1 rfl)
theorem dX8_isTrue_66 : decode cX8_isTrue 66 = .ok (.iinc 4 (-1), 3) := dz_132 (k_X8_isTrue 1 2 rfl) (k_X8_isTrue 1 3 rfl) (k_X8_isTrue 1 4 rfl) rfl
theorem dX8_isTrue_69 : decode cX8_isTrue 69 = .ok (.aload_n 0, 1) := dz_42 (k_X8_isTrue 1 5 rfl)
theorem dX8_isTrue_70 : decode cX8_isTrue 70 = .ok (.getfield 36, 3) := dz_180 (k_X8_isTrue 1 6 rfl) (k_X8_isTrue 1 7 rfl) (k_X8_isTrue 1 8 rfl) rfl
theorem dX8_isTrue_73 : decode cX8_isTrue 73 = .ok (.iload 4, 2) := dz_21 (k_X8_isTrue 1 9 rfl) (k_X8_isTrue 1 10 rfl)
theorem dX8_isTrue_75 : decode cX8_isTrue 75 = .ok (.iconst 1, 1) := dz_4 (k_X8_isTrue 1 11 rfl)
theorem dX8_isTrue_76 : decode cX8_isTrue 76 = .ok (.isub, 1) := dz_100 (k_X8_isTrue 1 12 rfl)
theorem dX8_isTrue_77 : decode cX8_isTrue 77 = .ok (.iload 6, 2) := dz_21 (k_X8_isTrue 1 13 rfl) (k_X8_isTrue 1 14 rfl)
theorem dX8_isTrue_79 : decode cX8_isTrue 79 = .ok (.bipush 13, 2) := dz_16 (k_X8_isTrue 1 15 rfl) (k_X8_isTrue 1 16 rfl) rfl
theorem dX8_isTrue_81 : decode cX8_isTrue 81 = .ok (.if_icmp .ne 11, 3) := dz_160 (k_X8_isTrue 1 17 rfl) (k_X8_isTrue 1 18 rfl) (k_X8_isTrue 1 19 rfl) rfl
theorem dX8_isTrue_84 : decode cX8_isTrue 84 = .ok (.iload 7, 2) := dz_21 (k_X8_isTrue 1 20 rfl) (k_X8_isTrue 1 21 rfl)
theorem dX8_isTrue_86 : decode cX8_isTrue 86 = .ok (.iload 8, 2) := dz_21 (k_X8_isTrue 1 22 rfl) (k_X8_isTrue 1 23 rfl)
theorem dX8_isTrue_88 : decode cX8_isTrue 88 = .ok (.iand, 1) := dz_126 (k_X8_isTrue 1 24 rfl)
theorem dX8_isTrue_89 : decode cX8_isTrue 89 = .ok (.goto 27, 3) := dz_167 (k_X8_isTrue 1 25 rfl) (k_X8_isTrue 1 26 rfl) (k_X8_isTrue 1 27 rfl) rfl
theorem dX8_isTrue_92 : decode cX8_isTrue 92 = .ok (.iload 6, 2) := dz_21 (k_X8_isTrue 1 28 rfl) (k_X8_isTrue 1 29 rfl)
theorem dX8_isTrue_94 : decode cX8_isTrue 94 = .ok (.bipush 14, 2) := dz_16 (k_X8_isTrue 1 30 rfl) (k_X8_isTrue 1 31 rfl) rfl
theorem dX8_isTrue_96 : decode cX8_isTrue 96 = .ok (.if_icmp .ne 11, 3) := dz_160 (k_X8_isTrue 1 32 rfl) (k_X8_isTrue 1 33 rfl) (k_X8_isTrue 1 34 rfl) rfl
theorem dX8_isTrue_99 : decode cX8_isTrue 99 = .ok (.iload 7, 2) := dz_21 (k_X8_isTrue 1 35 rfl) (k_X8_isTrue 1 36 rfl)
theorem dX8_isTrue_101 : decode cX8_isTrue 101 = .ok (.iload 8, 2) := dz_21 (k_X8_isTrue 1 37 rfl) (k_X8_isTrue 1 38 rfl)
theorem dX8_isTrue_103 : decode cX8_isTrue 103 = .ok (.ior, 1) := dz_128 (k_X8_isTrue 1 39 rfl)
theorem dX8_isTrue_104 : decode cX8_isTrue 104 = .ok (.goto 12, 3) := dz_167 (k_X8_isTrue 1 40 rfl) (k_X8_isTrue 1 41 rfl) (k_X8_isTrue 1 42 rfl) rfl
theorem dX8_isTrue_107 : decode cX8_isTrue 107 = .ok (.iload 7, 2) := dz_21 (k_X8_isTrue 1 43 rfl) (k_X8_isTrue 1 44 rfl)
theorem dX8_isTrue_109 : decode cX8_isTrue 109 = .ok (.iconst (-1), 1) := dz_2 (k_X8_isTrue 1 45 rfl)
theorem dX8_isTrue_110 : decode cX8_isTrue 110 = .ok (.ixor, 1) := dz_130 (k_X8_isTrue 1 46 rfl)
theorem dX8_isTrue_111 : decode cX8_isTrue 111 = .ok (.iload_n 3, 1) := dz_29 (k_X8_isTrue 1 47 rfl)
theorem dX8_isTrue_112 : decode cX8_isTrue 112 = .ok (.iand, 1) := dz_126 (k_X8_isTrue 1 48 rfl)
theorem dX8_isTrue_113 : decode cX8_isTrue 113 = .ok (.iload 8, 2) := dz_21 (k_X8_isTrue 1 49 rfl) (k_X8_isTrue 1 50 rfl)
theorem dX8_isTrue_115 : decode cX8_isTrue 115 = .ok (.ior, 1) := dz_128 (k_X8_isTrue 1 51 rfl)
theorem dX8_isTrue_116 : decode cX8_isTrue 116 = .ok (.iastore, 1) := dz_79 (k_X8_isTrue 1 52 rfl)
theorem dX8_isTrue_117 : decode cX8_isTrue 117 = .ok (.goto 93, 3) := dz_167 (k_X8_isTrue 1 53 rfl) (k_X8_isTrue 1 54 rfl) (k_X8_isTrue 1 55 rfl) rfl
theorem dX8_isTrue_120 : decode cX8_isTrue 120 = .ok (.iload 6, 2) := dz_21 (k_X8_isTrue 1 56 rfl) (k_X8_isTrue 1 57 rfl)
theorem dX8_isTrue_122 : decode cX8_isTrue 122 = .ok (.invokestatic 122, 3) := dz_184 (k_X8_isTrue 1 58 rfl) (k_X8_isTrue 1 59 rfl) (k_X8_isTrue 1 60 rfl) rfl
theorem dX8_isTrue_125 : decode cX8_isTrue 125 = .ok (.ifCond .eq 68, 3) := dz_153 (k_X8_isTrue 1 61 rfl) (k_X8_isTrue 1 62 rfl) (k_X8_isTrue 1 63 rfl) rfl
theorem dX8_isTrue_128 : decode cX8_isTrue 128 = .ok (.aload_n 0, 1) := dz_42 (k_X8_isTrue 2 0 rfl)
theorem dX8_isTrue_129 : decode cX8_isTrue 129 = .ok (.getfield 36, 3) := dz_180 (k_X8_isTrue 2 1 rfl) (k_X8_isTrue 2 2 rfl) (k_X8_isTrue 2 3 rfl) rfl
theorem dX8_isTrue_132 : decode cX8_isTrue 132 = .ok (.iload 4, 2) := dz_21 (k_X8_isTrue 2 4 rfl) (k_X8_isTrue 2 5 rfl)
theorem dX8_isTrue_134 : decode cX8_isTrue 134 = .ok (.iconst 1, 1) := dz_4 (k_X8_isTrue 2 6 rfl)
theorem dX8_isTrue_135 : decode cX8_isTrue 135 = .ok (.isub, 1) := dz_100 (k_X8_isTrue 2 7 rfl)
theorem dX8_isTrue_136 : decode cX8_isTrue 136 = .ok (.iaload, 1) := dz_46 (k_X8_isTrue 2 8 rfl)
theorem dX8_isTrue_137 : decode cX8_isTrue 137 = .ok (.istore 7, 2) := dz_54 (k_X8_isTrue 2 9 rfl) (k_X8_isTrue 2 10 rfl)
theorem dX8_isTrue_139 : decode cX8_isTrue 139 = .ok (.aload_n 0, 1) := dz_42 (k_X8_isTrue 2 11 rfl)
theorem dX8_isTrue_140 : decode cX8_isTrue 140 = .ok (.getfield 36, 3) := dz_180 (k_X8_isTrue 2 12 rfl) (k_X8_isTrue 2 13 rfl) (k_X8_isTrue 2 14 rfl) rfl
theorem dX8_isTrue_143 : decode cX8_isTrue 143 = .ok (.iload 4, 2) := dz_21 (k_X8_isTrue 2 15 rfl) (k_X8_isTrue 2 16 rfl)
theorem dX8_isTrue_145 : decode cX8_isTrue 145 = .ok (.iconst 1, 1) := dz_4 (k_X8_isTrue 2 17 rfl)
theorem dX8_isTrue_146 : decode cX8_isTrue 146 = .ok (.isub, 1) := dz_100 (k_X8_isTrue 2 18 rfl)
theorem dX8_isTrue_147 : decode cX8_isTrue 147 = .ok (.iload 6, 2) := dz_21 (k_X8_isTrue 2 19 rfl) (k_X8_isTrue 2 20 rfl)
theorem dX8_isTrue_149 : decode cX8_isTrue 149 = .ok (.bipush 12, 2) := dz_16 (k_X8_isTrue 2 21 rfl) (k_X8_isTrue 2 22 rfl) rfl
theorem dX8_isTrue_151 : decode cX8_isTrue 151 = .ok (.if_icmp .ne 12, 3) := dz_160 (k_X8_isTrue 2 23 rfl) (k_X8_isTrue 2 24 rfl) (k_X8_isTrue 2 25 rfl) rfl
theorem dX8_isTrue_154 : decode cX8_isTrue 154 = .ok (.iload 7, 2) := dz_21 (k_X8_isTrue 2 26 rfl) (k_X8_isTrue 2 27 rfl)
theorem dX8_isTrue_156 : decode cX8_isTrue 156 = .ok (.iconst (-1), 1) := dz_2 (k_X8_isTrue 2 28 rfl)
theorem dX8_isTrue_157 : decode cX8_isTrue 157 = .ok (.ixor, 1) := dz_130 (k_X8_isTrue 2 29 rfl)
theorem dX8_isTrue_158 : decode cX8_isTrue 158 = .ok (.iload_n 3, 1) := dz_29 (k_X8_isTrue 2 30 rfl)
theorem dX8_isTrue_159 : decode cX8_isTrue 159 = .ok (.iand, 1) := dz_126 (k_X8_isTrue 2 31 rfl)
theorem dX8_isTrue_160 : decode cX8_isTrue 160 = .ok (.goto 29, 3) := dz_167 (k_X8_isTrue 2 32 rfl) (k_X8_isTrue 2 33 rfl) (k_X8_isTrue 2 34 rfl) rfl
theorem dX8_isTrue_163 : decode cX8_isTrue 163 = .ok (.iload 6, 2) := dz_21 (k_X8_isTrue 2 35 rfl) (k_X8_isTrue 2 36 rfl)
theorem dX8_isTrue_165 : decode cX8_isTrue 165 = .ok (.bipush 17, 2) := dz_16 (k_X8_isTrue 2 37 rfl) (k_X8_isTrue 2 38 rfl) rfl
theorem dX8_isTrue_167 : decode cX8_isTrue 167 = .ok (.if_icmp .ne 11, 3) := dz_160 (k_X8_isTrue 2 39 rfl) (k_X8_isTrue 2 40 rfl) (k_X8_isTrue 2 41 rfl) rfl
theorem dX8_isTrue_170 : decode cX8_isTrue 170 = .ok (.iload 7, 2) := dz_21 (k_X8_isTrue 2 42 rfl) (k_X8_isTrue 2 43 rfl)
theorem dX8_isTrue_172 : decode cX8_isTrue 172 = .ok (.ifCond .eq 16, 3) := dz_153 (k_X8_isTrue 2 44 rfl) (k_X8_isTrue 2 45 rfl) (k_X8_isTrue 2 46 rfl) rfl
theorem dX8_isTrue_175 : decode cX8_isTrue 175 = .ok (.goto 9, 3) := dz_167 (k_X8_isTrue 2 47 rfl) (k_X8_isTrue 2 48 rfl) (k_X8_isTrue 2 49 rfl) rfl
theorem dX8_isTrue_178 : decode cX8_isTrue 178 = .ok (.iload 7, 2) := dz_21 (k_X8_isTrue 2 50 rfl) (k_X8_isTrue 2 51 rfl)
theorem dX8_isTrue_180 : decode cX8_isTrue 180 = .ok (.iload_n 3, 1) := dz_29 (k_X8_isTrue 2 52 rfl)
theorem dX8_isTrue_181 : decode cX8_isTrue 181 = .ok (.if_icmp .ne 7, 3) := dz_160 (k_X8_isTrue 2 53 rfl) (k_X8_isTrue 2 54 rfl) (k_X8_isTrue 2 55 rfl) rfl
theorem dX8_isTrue_184 : decode cX8_isTrue 184 = .ok (.iload_n 3, 1) := dz_29 (k_X8_isTrue 2 56 rfl)
theorem dX8_isTrue_185 : decode cX8_isTrue 185 = .ok (.goto 4, 3) := dz_167 (k_X8_isTrue 2 57 rfl) (k_X8_isTrue 2 58 rfl) (k_X8_isTrue 2 59 rfl) rfl
theorem dX8_isTrue_188 : decode cX8_isTrue 188 = .ok (.iconst 0, 1) := dz_3 (k_X8_isTrue 2 60 rfl)
theorem dX8_isTrue_189 : decode cX8_isTrue 189 = .ok (.iastore, 1) := dz_79 (k_X8_isTrue 2 61 rfl)
theorem dX8_isTrue_190 : decode cX8_isTrue 190 = .ok (.goto 20, 3) := dz_167 (k_X8_isTrue 2 62 rfl) (k_X8_isTrue 2 63 rfl) (k_X8_isTrue 3 0 rfl) rfl
theorem dX8_isTrue_193 : decode cX8_isTrue 193 = .ok (.aload_n 0, 1) := dz_42 (k_X8_isTrue 3 1 rfl)
theorem dX8_isTrue_194 : decode cX8_isTrue 194 = .ok (.getfield 36, 3) := dz_180 (k_X8_isTrue 3 2 rfl) (k_X8_isTrue 3 3 rfl) (k_X8_isTrue 3 4 rfl) rfl
theorem dX8_isTrue_197 : decode cX8_isTrue 197 = .ok (.iload 4, 2) := dz_21 (k_X8_isTrue 3 5 rfl) (k_X8_isTrue 3 6 rfl)
theorem dX8_isTrue_199 : decode cX8_isTrue 199 = .ok (.aload_n 0, 1) := dz_42 (k_X8_isTrue 3 7 rfl)
theorem dX8_isTrue_200 : decode cX8_isTrue 200 = .ok (.iload 6, 2) := dz_21 (k_X8_isTrue 3 8 rfl) (k_X8_isTrue 3 9 rfl)
theorem dX8_isTrue_202 : decode cX8_isTrue 202 = .ok (.iload_n 2, 1) := dz_28 (k_X8_isTrue 3 10 rfl)
theorem dX8_isTrue_203 : decode cX8_isTrue 203 = .ok (.invokevirtual 228, 3) := dz_182 (k_X8_isTrue 3 11 rfl) (k_X8_isTrue 3 12 rfl) (k_X8_isTrue 3 13 rfl) rfl
theorem dX8_isTrue_206 : decode cX8_isTrue 206 = .ok (.iastore, 1) := dz_79 (k_X8_isTrue 3 14 rfl)
theorem dX8_isTrue_207 : decode cX8_isTrue 207 = .ok (.iinc 4 1, 3) := dz_132 (k_X8_isTrue 3 15 rfl) (k_X8_isTrue 3 16 rfl) (k_X8_isTrue 3 17 rfl) rfl
theorem dX8_isTrue_210 : decode cX8_isTrue 210 = .ok (.iinc 5 (-1), 3) := dz_132 (k_X8_isTrue 3 18 rfl) (k_X8_isTrue 3 19 rfl) (k_X8_isTrue 3 20 rfl) rfl
theorem dX8_isTrue_213 : decode cX8_isTrue 213 = .ok (.goto (-191), 3) := dz_167 (k_X8_isTrue 3 21 rfl) (k_X8_isTrue 3 22 rfl) (k_X8_isTrue 3 23 rfl) rfl
theorem dX8_isTrue_216 : decode cX8_isTrue 216 = .ok (.aload_n 0, 1) := dz_42 (k_X8_isTrue 3 24 rfl)
theorem dX8_isTrue_217 : decode cX8_isTrue 217 = .ok (.getfield 36, 3) := dz_180 (k_X8_isTrue 3 25 rfl) (k_X8_isTrue 3 26 rfl) (k_X8_isTrue 3 27 rfl) rfl
theorem dX8_isTrue_220 : decode cX8_isTrue 220 = .ok (.iconst 0, 1) := dz_3 (k_X8_isTrue 3 28 rfl)
theorem dX8_isTrue_221 : decode cX8_isTrue 221 = .ok (.iaload, 1) := dz_46 (k_X8_isTrue 3 29 rfl)
theorem dX8_isTrue_222 : decode cX8_isTrue 222 = .ok (.ifCond .eq 7, 3) := dz_153 (k_X8_isTrue 3 30 rfl) (k_X8_isTrue 3 31 rfl) (k_X8_isTrue 3 32 rfl) rfl
theorem dX8_isTrue_225 : decode cX8_isTrue 225 = .ok (.iconst 1, 1) := dz_4 (k_X8_isTrue 3 33 rfl)
theorem dX8_isTrue_226 : decode cX8_isTrue 226 = .ok (.goto 4, 3) := dz_167 (k_X8_isTrue 3 34 rfl) (k_X8_isTrue 3 35 rfl) (k_X8_isTrue 3 36 rfl) rfl
theorem dX8_isTrue_229 : decode cX8_isTrue 229 = .ok (.iconst 0, 1) := dz_3 (k_X8_isTrue 3 37 rfl)
theorem dX8_isTrue_230 : decode cX8_isTrue 230 = .ok (.ireturn, 1) := dz_172 (k_X8_isTrue 3 38 rfl)
def B_X8_isTwice : List (List Nat) := [[42, 27, 3, 182, 0, 114, 16, 12, 160, 0, 42, 42, 27, 4, 182, 0, 114, 16, 12, 160, 0, 31, 42, 27, 5, 42, 180, 0, 20, 27, 46, 2, 28, 3, 42, 180, 0, 20, 28, 46, 182, 0, 128, 153, 0, 7, 4, 167, 0, 4, 3, 172]]
theorem k_X8_isTwice (j i : Nat) {b : Nat} (h : (B_X8_isTwice[j]?.bind fun c => c[i]?) = some b) : s_by cX8_isTwice (64 * j + i) b := s_byC (L := B_X8_isTwice) (by decide +kernel) (by decide +kernel) j i h
theorem dX8_isTwice_0 : decode cX8_isTwice 0 = .ok (.aload_n 0, 1) := dz_42 (k_X8_isTwice 0 0 rfl)
theorem dX8_isTwice_1 : decode cX8_isTwice 1 = .ok (.iload_n 1, 1) := dz_27 (k_X8_isTwice 0 1 rfl)
theorem dX8_isTwice_2 : decode cX8_isTwice 2 = .ok (.iconst 0, 1) := dz_3 (k_X8_isTwice 0 2 rfl)
theorem dX8_isTwice_3 : decode cX8_isTwice 3 = .ok (.invokevirtual 114, 3) := dz_182 (k_X8_isTwice 0 3 rfl) (k_X8_isTwice 0 4 rfl) (k_X8_isTwice 0 5 rfl) rfl
theorem dX8_isTwice_6 : decode cX8_isTwice 6 = .ok (.bipush 12, 2) := dz_16 (k_X8_isTwice 0 6 rfl) (k_X8_isTwice 0 7 rfl) rfl
theorem dX8_isTwice_8 : decode cX8_isTwice 8 = .ok (.if_icmp .ne 42, 3) := dz_160 (k_X8_isTwice 0 8 rfl) (k_X8_isTwice 0 9 rfl) (k_X8_isTwice 0 10 rfl) rfl
theorem dX8_isTwice_11 : decode cX8_isTwice 11 = .ok (.aload_n 0, 1) := dz_42 (k_X8_isTwice 0 11 rfl)
theorem dX8_isTwice_12 : decode cX8_isTwice 12 = .ok (.iload_n 1, 1) := dz_27 (k_X8_isTwice 0 12 rfl)
theorem dX8_isTwice_13 : decode cX8_isTwice 13 = .ok (.iconst 1, 1) := dz_4 (k_X8_isTwice 0 13 rfl)
theorem dX8_isTwice_14 : decode cX8_isTwice 14 = .ok (.invokevirtual 114, 3) := dz_182 (k_X8_isTwice 0 14 rfl) (k_X8_isTwice 0 15 rfl) (k_X8_isTwice 0 16 rfl) rfl
theorem dX8_isTwice_17 : decode cX8_isTwice 17 = .ok (.bipush 12, 2) := dz_16 (k_X8_isTwice 0 17 rfl) (k_X8_isTwice 0 18 rfl) rfl
theorem dX8_isTwice_19 : decode cX8_isTwice 19 = .ok (.if_icmp .ne 31, 3) := dz_160 (k_X8_isTwice 0 19 rfl) (k_X8_isTwice 0 20 rfl) (k_X8_isTwice 0 21 rfl) rfl
theorem dX8_isTwice_22 : decode cX8_isTwice 22 = .ok (.aload_n 0, 1) := dz_42 (k_X8_isTwice 0 22 rfl)
theorem dX8_isTwice_23 : decode cX8_isTwice 23 = .ok (.iload_n 1, 1) := dz_27 (k_X8_isTwice 0 23 rfl)
theorem dX8_isTwice_24 : decode cX8_isTwice 24 = .ok (.iconst 2, 1) := dz_5 (k_X8_isTwice 0 24 rfl)
theorem dX8_isTwice_25 : decode cX8_isTwice 25 = .ok (.aload_n 0, 1) := dz_42 (k_X8_isTwice 0 25 rfl)
theorem dX8_isTwice_26 : decode cX8_isTwice 26 = .ok (.getfield 20, 3) := dz_180 (k_X8_isTwice 0 26 rfl) (k_X8_isTwice 0 27 rfl) (k_X8_isTwice 0 28 rfl) rfl
theorem dX8_isTwice_29 : decode cX8_isTwice 29 = .ok (.iload_n 1, 1) := dz_27 (k_X8_isTwice 0 29 rfl)
theorem dX8_isTwice_30 : decode cX8_isTwice 30 = .ok (.iaload, 1) := dz_46 (k_X8_isTwice 0 30 rfl)
theorem dX8_isTwice_31 : decode cX8_isTwice 31 = .ok (.iconst (-1), 1) := dz_2 (k_X8_isTwice 0 31 rfl)
theorem dX8_isTwice_32 : decode cX8_isTwice 32 = .ok (.iload_n 2, 1) := dz_28 (k_X8_isTwice 0 32 rfl)
theorem dX8_isTwice_33 : decode cX8_isTwice 33 = .ok (.iconst 0, 1) := dz_3 (k_X8_isTwice 0 33 rfl)
theorem dX8_isTwice_34 : decode cX8_isTwice 34 = .ok (.aload_n 0, 1) := dz_42 (k_X8_isTwice 0 34 rfl)
theorem dX8_isTwice_35 : decode cX8_isTwice 35 = .ok (.getfield 20, 3) := dz_180 (k_X8_isTwice 0 35 rfl) (k_X8_isTwice 0 36 rfl) (k_X8_isTwice 0 37 rfl) rfl
theorem dX8_isTwice_38 : decode cX8_isTwice 38 = .ok (.iload_n 2, 1) := dz_28 (k_X8_isTwice 0 38 rfl)
theorem dX8_isTwice_39 : decode cX8_isTwice 39 = .ok (.iaload, 1) := dz_46 (k_X8_isTwice 0 39 rfl)
theorem dX8_isTwice_40 : decode cX8_isTwice 40 = .ok (.invokevirtual 128, 3) := dz_182 (k_X8_isTwice 0 40 rfl) (k_X8_isTwice 0 41 rfl) (k_X8_isTwice 0 42 rfl) rfl
theorem dX8_isTwice_43 : decode cX8_isTwice 43 = .ok (.ifCond .eq 7, 3) := dz_153 (k_X8_isTwice 0 43 rfl) (k_X8_isTwice 0 44 rfl) (k_X8_isTwice 0 45 rfl) rfl
theorem dX8_isTwice_46 : decode cX8_isTwice 46 = .ok (.iconst 1, 1) := dz_4 (k_X8_isTwice 0 46 rfl)
theorem dX8_isTwice_47 : decode cX8_isTwice 47 = .ok (.goto 4, 3) := dz_167 (k_X8_isTwice 0 47 rfl) (k_X8_isTwice 0 48 rfl) (k_X8_isTwice 0 49 rfl) rfl
theorem dX8_isTwice_50 : decode cX8_isTwice 50 = .ok (.iconst 0, 1) := dz_3 (k_X8_isTwice 0 50 rfl)
theorem dX8_isTwice_51 : decode cX8_isTwice 51 = .ok (.ireturn, 1) := dz_172 (k_X8_isTwice 0 51 rfl)
def B_X8_isVoid : List (List Nat) := [[42, 27, 7, 182, 1, 178, 4, 160, 0, 7, 4, 167, 0, 4, 3, 172]]
theorem k_X8_isVoid (j i : Nat) {b : Nat} (h : (B_X8_isVoid[j]?.bind fun c => c[i]?) = some b) : s_by cX8_isVoid (64 * j + i) b := s_byC (L := B_X8_isVoid) (by decide +kernel) (by decide +kernel) j i h
theorem dX8_isVoid_0 : decode cX8_isVoid 0 = .ok (.aload_n 0, 1) := dz_42 (k_X8_isVoid 0 0 rfl)
theorem dX8_isVoid_1 : decode cX8_isVoid 1 = .ok (.iload_n 1, 1) := dz_27 (k_X8_isVoid 0 1 rfl)
theorem dX8_isVoid_2 : decode cX8_isVoid 2 = .ok (.iconst 4, 1) := dz_7 (k_X8_isVoid 0 2 rfl)
theorem dX8_isVoid_3 : decode cX8_isVoid 3 = .ok (.invokevirtual 434, 3) := dz_182 (k_X8_isVoid 0 3 rfl) (k_X8_isVoid 0 4 rfl) (k_X8_isVoid 0 5 rfl) rfl
theorem dX8_isVoid_6 : decode cX8_isVoid 6 = .ok (.iconst 1, 1) := dz_4 (k_X8_isVoid 0 6 rfl)
theorem dX8_isVoid_7 : decode cX8_isVoid 7 = .ok (.if_icmp .ne 7, 3) := dz_160 (k_X8_isVoid 0 7 rfl) (k_X8_isVoid 0 8 rfl) (k_X8_isVoid 0 9 rfl) rfl
theorem dX8_isVoid_10 : decode cX8_isVoid 10 = .ok (.iconst 1, 1) := dz_4 (k_X8_isVoid 0 10 rfl)
theorem dX8_isVoid_11 : decode cX8_isVoid 11 = .ok (.goto 4, 3) := dz_167 (k_X8_isVoid 0 11 rfl) (k_X8_isVoid 0 12 rfl) (k_X8_isVoid 0 13 rfl) rfl
theorem dX8_isVoid_14 : decode cX8_isVoid 14 = .ok (.iconst 0, 1) := dz_3 (k_X8_isVoid 0 14 rfl)
theorem dX8_isVoid_15 : decode cX8_isVoid 15 = .ok (.ireturn, 1) := dz_172 (k_X8_isVoid 0 15 rfl)
