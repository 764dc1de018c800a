def B_X4_listSteps : List (List Nat) := [[42, 180, 0, 11, 27, 46, 61, 42, 42, 180, 0, 30, 28, 182, 0, 92, 182, 0, 74, 62, 42, 42, 180, 0, 30, 28, 182, 0, 95, 182, 0, 74, 54, 4, 42, 180, 0, 30, 28, 182, 0, 82, 170, 0, 0, 0, 0, 135, 0, 0, 0, 1, 0, 0, 0, 6, 0, 0, 0, 38, 0, 0, 0, 86], [0, 0, 0, 97, 0, 0, 0, 108, 0, 0, 0, 119, 0, 0, 0, 127, 42, 180, 0, 30, 28, 182, 0, 92, 54, 5, 42, 180, 0, 30, 21, 5, 182, 0, 82, 4, 160, 0, 77, 42, 16, 8, 42, 42, 180, 0, 30, 21, 5, 182, 0, 92, 182, 0, 74, 27, 2, 2, 182, 0, 101, 167, 0, 52], [42, 27, 29, 21, 4, 182, 0, 105, 167, 0, 41, 42, 27, 29, 21, 4, 182, 0, 109, 167, 0, 30, 42, 27, 29, 21, 4, 182, 0, 112, 167, 0, 19, 42, 27, 182, 0, 115, 167, 0, 11, 42, 27, 182, 0, 118, 167, 0, 3, 177]]
theorem k_X4_listSteps (j i : Nat) {b : Nat} (h : (B_X4_listSteps[j]?.bind fun c => c[i]?) = some b) : s_by cX4_listSteps (64 * j + i) b := s_byC (L := B_X4_listSteps) (by decide +kernel) (by decide +kernel) j i h
theorem dX4_listSteps_0 : decode cX4_listSteps 0 = .ok (.aload_n 0, 1) := dz_42 (k_X4_listSteps 0 0 rfl)
theorem dX4_listSteps_1 : decode cX4_listSteps 1 = .ok (.getfield 11, 3) := dz_180 (k_X4_listSteps 0 1 rfl) (k_X4_listSteps 0 2 rfl) (k_X4_listSteps 0 3 rfl) rfl
theorem dX4_listSteps_4 : decode cX4_listSteps 4 = .ok (.iload_n 1, 1) := dz_27 (k_X4_listSteps 0 4 rfl)
theorem dX4_listSteps_5 : decode cX4_listSteps 5 = .ok (.iaload, 1) := dz_46 (k_X4_listSteps 0 5 rfl)
theorem dX4_listSteps_6 : decode cX4_listSteps 6 = .ok (.istore_n 2, 1) := dz_61 (k_X4_listSteps 0 6 rfl)
theorem dX4_listSteps_7 : decode cX4_listSteps 7 = .ok (.aload_n 0, 1) := dz_42 (k_X4_listSteps 0 7 rfl)
theorem dX4_listSteps_8 : decode cX4_listSteps 8 = .ok (.aload_n 0, 1) := dz_42 (k_X4_listSteps 0 8 rfl)
theorem dX4_listSteps_9 : decode cX4_listSteps 9 = .ok (.getfield 30, 3) := dz_180 (k_X4_listSteps 0 9 rfl) (k_X4_listSteps 0 10 rfl) (k_X4_listSteps 0 11 rfl) rfl
theorem dX4_listSteps_12 : decode cX4_listSteps 12 = .ok (.iload_n 2, 1) := dz_28 (k_X4_listSteps 0 12 rfl)
theorem dX4_listSteps_13 : decode cX4_listSteps 13 = .ok (.invokevirtual 92, 3) := dz_182 (k_X4_listSteps 0 13 rfl) (k_X4_listSteps 0 14 rfl) (k_X4_listSteps 0 15 rfl) rfl
theorem dX4_listSteps_16 : decode cX4_listSteps 16 = .ok (.invokevirtual 74, 3) := dz_182 (k_X4_listSteps 0 16 rfl) (k_X4_listSteps 0 17 rfl) (k_X4_listSteps 0 18 rfl) rfl
theorem dX4_listSteps_19 : decode cX4_listSteps 19 = .ok (.istore_n 3, 1) := dz_62 (k_X4_listSteps 0 19 rfl)
theorem dX4_listSteps_20 : decode cX4_listSteps 20 = .ok (.aload_n 0, 1) := dz_42 (k_X4_listSteps 0 20 rfl)
theorem dX4_listSteps_21 : decode cX4_listSteps 21 = .ok (.aload_n 0, 1) := dz_42 (k_X4_listSteps 0 21 rfl)
theorem dX4_listSteps_22 : decode cX4_listSteps 22 = .ok (.getfield 30, 3) := dz_180 (k_X4_listSteps 0 22 rfl) (k_X4_listSteps 0 23 rfl) (k_X4_listSteps 0 24 rfl) rfl
theorem dX4_listSteps_25 : decode cX4_listSteps 25 = .ok (.iload_n 2, 1) := dz_28 (k_X4_listSteps 0 25 rfl)
theorem dX4_listSteps_26 : decode cX4_listSteps 26 = .ok (.invokevirtual 95, 3) := dz_182 (k_X4_listSteps 0 26 rfl) (k_X4_listSteps 0 27 rfl) (k_X4_listSteps 0 28 rfl) rfl
theorem dX4_listSteps_29 : decode cX4_listSteps 29 = .ok (.invokevirtual 74, 3) := dz_182 (k_X4_listSteps 0 29 rfl) (k_X4_listSteps 0 30 rfl) (k_X4_listSteps 0 31 rfl) rfl
theorem dX4_listSteps_32 : decode cX4_listSteps 32 = .ok (.istore 4, 2) := dz_54 (k_X4_listSteps 0 32 rfl) (k_X4_listSteps 0 33 rfl)
theorem dX4_listSteps_34 : decode cX4_listSteps 34 = .ok (.aload_n 0, 1) := dz_42 (k_X4_listSteps 0 34 rfl)
theorem dX4_listSteps_35 : decode cX4_listSteps 35 = .ok (.getfield 30, 3) := dz_180 (k_X4_listSteps 0 35 rfl) (k_X4_listSteps 0 36 rfl) (k_X4_listSteps 0 37 rfl) rfl
theorem dX4_listSteps_38 : decode cX4_listSteps 38 = .ok (.iload_n 2, 1) := dz_28 (k_X4_listSteps 0 38 rfl)
theorem dX4_listSteps_39 : decode cX4_listSteps 39 = .ok (.invokevirtual 82, 3) := dz_182 (k_X4_listSteps 0 39 rfl) (k_X4_listSteps 0 40 rfl) (k_X4_listSteps 0 41 rfl) rfl
theorem dX4_listSteps_42 : decode cX4_listSteps 42 = .ok (.tableswitch 135 1 6 #[38, 86, 97, 108, 119, 127], 38) := by decide +kernel
theorem dX4_listSteps_80 : decode cX4_listSteps 80 = .ok (.aload_n 0, 1) := dz_42 (k_X4_listSteps 1 16 rfl)
theorem dX4_listSteps_81 : decode cX4_listSteps 81 = .ok (.getfield 30, 3) := dz_180 (k_X4_listSteps 1 17 rfl) (k_X4_listSteps 1 18 rfl) (k_X4_listSteps 1 19 rfl) rfl
theorem dX4_listSteps_84 : decode cX4_listSteps 84 = .ok (.iload_n 2, 1) := dz_28 (k_X4_listSteps 1 20 rfl)
theorem dX4_listSteps_85 : decode cX4_listSteps 85 = .ok (.invokevirtual 92, 3) := dz_182 (k_X4_listSteps 1 21 rfl) (k_X4_listSteps 1 22 rfl) (k_X4_listSteps 1 23 rfl) rfl
theorem dX4_listSteps_88 : decode cX4_listSteps 88 = .ok (.istore 5, 2) := dz_54 (k_X4_listSteps 1 24 rfl) (k_X4_listSteps 1 25 rfl)
theorem dX4_listSteps_90 : decode cX4_listSteps 90 = .ok (.aload_n 0, 1) := dz_42 (k_X4_listSteps 1 26 rfl)
theorem dX4_listSteps_91 : decode cX4_listSteps 91 = .ok (.getfield 30, 3) := dz_180 (k_X4_listSteps 1 27 rfl) (k_X4_listSteps 1 28 rfl) (k_X4_listSteps 1 29 rfl) rfl
theorem dX4_listSteps_94 : decode cX4_listSteps 94 = .ok (.iload 5, 2) := dz_21 (k_X4_listSteps 1 30 rfl) (k_X4_listSteps 1 31 rfl)
theorem dX4_listSteps_96 : decode cX4_listSteps 96 = .ok (.invokevirtual 82, 3) := dz_182 (k_X4_listSteps 1 32 rfl) (k_X4_listSteps 1 33 rfl) (k_X4_listSteps 1 34 rfl) rfl
theorem dX4_listSteps_99 : decode cX4_listSteps 99 = .ok (.iconst 1, 1) := dz_4 (k_X4_listSteps 1 35 rfl)
theorem dX4_listSteps_100 : decode cX4_listSteps 100 = .ok (.if_icmp .ne 77, 3) := dz_160 (k_X4_listSteps 1 36 rfl) (k_X4_listSteps 1 37 rfl) (k_X4_listSteps 1 38 rfl) rfl
theorem dX4_listSteps_103 : decode cX4_listSteps 103 = .ok (.aload_n 0, 1) := dz_42 (k_X4_listSteps 1 39 rfl)
theorem dX4_listSteps_104 : decode cX4_listSteps 104 = .ok (.bipush 8, 2) := dz_16 (k_X4_listSteps 1 40 rfl) (k_X4_listSteps 1 41 rfl) rfl
theorem dX4_listSteps_106 : decode cX4_listSteps 106 = .ok (.aload_n 0, 1) := dz_42 (k_X4_listSteps 1 42 rfl)
theorem dX4_listSteps_107 : decode cX4_listSteps 107 = .ok (.aload_n 0, 1) := dz_42 (k_X4_listSteps 1 43 rfl)
theorem dX4_listSteps_108 : decode cX4_listSteps 108 = .ok (.getfield 30, 3) := dz_180 (k_X4_listSteps 1 44 rfl) (k_X4_listSteps 1 45 rfl) (k_X4_listSteps 1 46 rfl) rfl
theorem dX4_listSteps_111 : decode cX4_listSteps 111 = .ok (.iload 5, 2) := dz_21 (k_X4_listSteps 1 47 rfl) (k_X4_listSteps 1 48 rfl)
theorem dX4_listSteps_113 : decode cX4_listSteps 113 = .ok (.invokevirtual 92, 3) := dz_182 (k_X4_listSteps 1 49 rfl) (k_X4_listSteps 1 50 rfl) (k_X4_listSteps 1 51 rfl) rfl
theorem dX4_listSteps_116 : decode cX4_listSteps 116 = .ok (.invokevirtual 74, 3) := dz_182 (k_X4_listSteps 1 52 rfl) (k_X4_listSteps 1 53 rfl) (k_X4_listSteps 1 54 rfl) rfl
theorem dX4_listSteps_119 : decode cX4_listSteps 119 = .ok (.iload_n 1, 1) := dz_27 (k_X4_listSteps 1 55 rfl)
theorem dX4_listSteps_120 : decode cX4_listSteps 120 = .ok (.iconst (-1), 1) := dz_2 (k_X4_listSteps 1 56 rfl)
theorem dX4_listSteps_121 : decode cX4_listSteps 121 = .ok (.iconst (-1), 1) := dz_2 (k_X4_listSteps 1 57 rfl)
theorem dX4_listSteps_122 : decode cX4_listSteps 122 = .ok (.invokevirtual 101, 3) := dz_182 (k_X4_listSteps 1 58 rfl) (k_X4_listSteps 1 59 rfl) (k_X4_listSteps 1 60 rfl) rfl
theorem dX4_listSteps_125 : decode cX4_listSteps 125 = .ok (.goto 52, 3) := dz_167 (k_X4_listSteps 1 61 rfl) (k_X4_listSteps 1 62 rfl) (k_X4_listSteps 1 63 rfl) rfl
theorem dX4_listSteps_128 : decode cX4_listSteps 128 = .ok (.aload_n 0, 1) := dz_42 (k_X4_listSteps 2 0 rfl)
theorem dX4_listSteps_129 : decode cX4_listSteps 129 = .ok (.iload_n 1, 1) := dz_27 (k_X4_listSteps 2 1 rfl)
theorem dX4_listSteps_130 : decode cX4_listSteps 130 = .ok (.iload_n 3, 1) := dz_29 (k_X4_listSteps 2 2 rfl)
theorem dX4_listSteps_131 : decode cX4_listSteps 131 = .ok (.iload 4, 2) := dz_21 (k_X4_listSteps 2 3 rfl) (k_X4_listSteps 2 4 rfl)
theorem dX4_listSteps_133 : decode cX4_listSteps 133 = .ok (.invokevirtual 105, 3) := dz_182 (k_X4_listSteps 2 5 rfl) (k_X4_listSteps 2 6 rfl) (k_X4_listSteps 2 7 rfl) rfl
theorem dX4_listSteps_136 : decode cX4_listSteps 136 = .ok (.goto 41, 3) := dz_167 (k_X4_listSteps 2 8 rfl) (k_X4_listSteps 2 9 rfl) (k_X4_listSteps 2 10 rfl) rfl
theorem dX4_listSteps_139 : decode cX4_listSteps 139 = .ok (.aload_n 0, 1) := dz_42 (k_X4_listSteps 2 11 rfl)
theorem dX4_listSteps_140 : decode cX4_listSteps 140 = .ok (.iload_n 1, 1) := dz_27 (k_X4_listSteps 2 12 rfl)
theorem dX4_listSteps_141 : decode cX4_listSteps 141 = .ok (.iload_n 3, 1) := dz_29 (k_X4_listSteps 2 13 rfl)
theorem dX4_listSteps_142 : decode cX4_listSteps 142 = .ok (.iload 4, 2) := dz_21 (k_X4_listSteps 2 14 rfl) (k_X4_listSteps 2 15 rfl)
theorem dX4_listSteps_144 : decode cX4_listSteps 144 = .ok (.invokevirtual 109, 3) := dz_182 (k_X4_listSteps 2 16 rfl) (k_X4_listSteps 2 17 rfl) (k_X4_listSteps 2 18 rfl) rfl
theorem dX4_listSteps_147 : decode cX4_listSteps 147 = .ok (.goto 30, 3) := dz_167 (k_X4_listSteps 2 19 rfl) (k_X4_listSteps 2 20 rfl) (k_X4_listSteps 2 21 rfl) rfl
theorem dX4_listSteps_150 : decode cX4_listSteps 150 = .ok (.aload_n 0, 1) := dz_42 (k_X4_listSteps 2 22 rfl)
theorem dX4_listSteps_151 : decode cX4_listSteps 151 = .ok (.iload_n 1, 1) := dz_27 (k_X4_listSteps 2 23 rfl)
theorem dX4_listSteps_152 : decode cX4_listSteps 152 = .ok (.iload_n 3, 1) := dz_29 (k_X4_listSteps 2 24 rfl)
theorem dX4_listSteps_153 : decode cX4_listSteps 153 = .ok (.iload 4, 2) := dz_21 (k_X4_listSteps 2 25 rfl) (k_X4_listSteps 2 26 rfl)
theorem dX4_listSteps_155 : decode cX4_listSteps 155 = .ok (.invokevirtual 112, 3) := dz_182 (k_X4_listSteps 2 27 rfl) (k_X4_listSteps 2 28 rfl) (k_X4_listSteps 2 29 rfl) rfl
theorem dX4_listSteps_158 : decode cX4_listSteps 158 = .ok (.goto 19, 3) := dz_167 (k_X4_listSteps 2 30 rfl) (k_X4_listSteps 2 31 rfl) (k_X4_listSteps 2 32 rfl) rfl
theorem dX4_listSteps_161 : decode cX4_listSteps 161 = .ok (.aload_n 0, 1) := dz_42 (k_X4_listSteps 2 33 rfl)
theorem dX4_listSteps_162 : decode cX4_listSteps 162 = .ok (.iload_n 1, 1) := dz_27 (k_X4_listSteps 2 34 rfl)
theorem dX4_listSteps_163 : decode cX4_listSteps 163 = .ok (.invokevirtual 115, 3) := dz_182 (k_X4_listSteps 2 35 rfl) (k_X4_listSteps 2 36 rfl) (k_X4_listSteps 2 37 rfl) rfl
theorem dX4_listSteps_166 : decode cX4_listSteps 166 = .ok (.goto 11, 3) := dz_167 (k_X4_listSteps 2 38 rfl) (k_X4_listSteps 2 39 rfl) (k_X4_listSteps 2 40 rfl) rfl
theorem dX4_listSteps_169 : decode cX4_listSteps 169 = .ok (.aload_n 0, 1) := dz_42 (k_X4_listSteps 2 41 rfl)
theorem dX4_listSteps_170 : decode cX4_listSteps 170 = .ok (.iload_n 1, 1) := dz_27 (k_X4_listSteps 2 42 rfl)
theorem dX4_listSteps_171 : decode cX4_listSteps 171 = .ok (.invokevirtual 118, 3) := dz_182 (k_X4_listSteps 2 43 rfl) (k_X4_listSteps 2 44 rfl) (k_X4_listSteps 2 45 rfl) rfl
theorem dX4_listSteps_174 : decode cX4_listSteps 174 = .ok (.goto 3, 3) := dz_167 (k_X4_listSteps 2 46 rfl) (k_X4_listSteps 2 47 rfl) (k_X4_listSteps 2 48 rfl) rfl
theorem dX4_listSteps_177 : decode cX4_listSteps 177 = .ok (.return_, 1) := dz_177 (k_X4_listSteps 2 49 rfl)
def B_X4_lookAt : List (List Nat) := [[42, 180, 0, 48, 16, 40, 162, 0, 23, 28, 16, 48, 163, 0, 17, 27, 2, 159, 0, 12, 42, 27, 182, 0, 74, 2, 159, 0, 4, 177, 42, 180, 0, 11, 42, 180, 0, 48, 27, 79, 42, 180, 0, 15, 42, 180, 0, 48, 42, 180, 0, 30, 27, 182, 0, 77, 79, 42, 89, 180, 0, 48, 4, 96], [181, 0, 48, 42, 180, 0, 30, 27, 182, 0, 82, 62, 29, 8, 159, 0, 9, 29, 16, 6, 160, 0, 44, 3, 54, 4, 21, 4, 42, 180, 0, 34, 180, 0, 85, 162, 0, 26, 42, 42, 180, 0, 30, 27, 21, 4, 182, 0, 88, 28, 4, 96, 182, 0, 57, 132, 4, 1, 167, 255, 224, 167, 0, 37], [29, 153, 0, 33, 42, 42, 180, 0, 30, 27, 182, 0, 92, 28, 4, 96, 182, 0, 57, 42, 42, 180, 0, 30, 27, 182, 0, 95, 28, 4, 96, 182, 0, 57, 177]]
theorem k_X4_lookAt (j i : Nat) {b : Nat} (h : (B_X4_lookAt[j]?.bind fun c => c[i]?) = some b) : s_by cX4_lookAt (64 * j + i) b := s_byC (L := B_X4_lookAt) (by decide +kernel) (by decide +kernel) j i h
theorem dX4_lookAt_0 : decode cX4_lookAt 0 = .ok (.aload_n 0, 1) := dz_42 (k_X4_lookAt 0 0 rfl)
theorem dX4_lookAt_1 : decode cX4_lookAt 1 = .ok (.getfield 48, 3) := dz_180 (k_X4_lookAt 0 1 rfl) (k_X4_lookAt 0 2 rfl) (k_X4_lookAt 0 3 rfl) rfl
theorem dX4_lookAt_4 : decode cX4_lookAt 4 = .ok (.bipush 40, 2) := dz_16 (k_X4_lookAt 0 4 rfl) (k_X4_lookAt 0 5 rfl) rfl
theorem dX4_lookAt_6 : decode cX4_lookAt 6 = .ok (.if_icmp .ge 23, 3) := dz_162 (k_X4_lookAt 0 6 rfl) (k_X4_lookAt 0 7 rfl) (k_X4_lookAt 0 8 rfl) rfl
theorem dX4_lookAt_9 : decode cX4_lookAt 9 = .ok (.iload_n 2, 1) := dz_28 (k_X4_lookAt 0 9 rfl)
theorem dX4_lookAt_10 : decode cX4_lookAt 10 = .ok (.bipush 48, 2) := dz_16 (k_X4_lookAt 0 10 rfl) (k_X4_lookAt 0 11 rfl) rfl
theorem dX4_lookAt_12 : decode cX4_lookAt 12 = .ok (.if_icmp .gt 17, 3) := dz_163 (k_X4_lookAt 0 12 rfl) (k_X4_lookAt 0 13 rfl) (k_X4_lookAt 0 14 rfl) rfl
theorem dX4_lookAt_15 : decode cX4_lookAt 15 = .ok (.iload_n 1, 1) := dz_27 (k_X4_lookAt 0 15 rfl)
theorem dX4_lookAt_16 : decode cX4_lookAt 16 = .ok (.iconst (-1), 1) := dz_2 (k_X4_lookAt 0 16 rfl)
theorem dX4_lookAt_17 : decode cX4_lookAt 17 = .ok (.if_icmp .eq 12, 3) := dz_159 (k_X4_lookAt 0 17 rfl) (k_X4_lookAt 0 18 rfl) (k_X4_lookAt 0 19 rfl) rfl
theorem dX4_lookAt_20 : decode cX4_lookAt 20 = .ok (.aload_n 0, 1) := dz_42 (k_X4_lookAt 0 20 rfl)
theorem dX4_lookAt_21 : decode cX4_lookAt 21 = .ok (.iload_n 1, 1) := dz_27 (k_X4_lookAt 0 21 rfl)
theorem dX4_lookAt_22 : decode cX4_lookAt 22 = .ok (.invokevirtual 74, 3) := dz_182 (k_X4_lookAt 0 22 rfl) (k_X4_lookAt 0 23 rfl) (k_X4_lookAt 0 24 rfl) rfl
theorem dX4_lookAt_25 : decode cX4_lookAt 25 = .ok (.iconst (-1), 1) := dz_2 (k_X4_lookAt 0 25 rfl)
theorem dX4_lookAt_26 : decode cX4_lookAt 26 = .ok (.if_icmp .eq 4, 3) := dz_159 (k_X4_lookAt 0 26 rfl) (k_X4_lookAt 0 27 rfl) (k_X4_lookAt 0 28 rfl) rfl
theorem dX4_lookAt_29 : decode cX4_lookAt 29 = .ok (.return_, 1) := dz_177 (k_X4_lookAt 0 29 rfl)
theorem dX4_lookAt_30 : decode cX4_lookAt 30 = .ok (.aload_n 0, 1) := dz_42 (k_X4_lookAt 0 30 rfl)
theorem dX4_lookAt_31 : decode cX4_lookAt 31 = .ok (.getfield 11, 3) := dz_180 (k_X4_lookAt 0 31 rfl) (k_X4_lookAt 0 32 rfl) (k_X4_lookAt 0 33 rfl) rfl
theorem dX4_lookAt_34 : decode cX4_lookAt 34 = .ok (.aload_n 0, 1) := dz_42 (k_X4_lookAt 0 34 rfl)
theorem dX4_lookAt_35 : decode cX4_lookAt 35 = .ok (.getfield 48, 3) := dz_180 (k_X4_lookAt 0 35 rfl) (k_X4_lookAt 0 36 rfl) (k_X4_lookAt 0 37 rfl) rfl
theorem dX4_lookAt_38 : decode cX4_lookAt 38 = .ok (.iload_n 1, 1) := dz_27 (k_X4_lookAt 0 38 rfl)
theorem dX4_lookAt_39 : decode cX4_lookAt 39 = .ok (.iastore, 1) := dz_79 (k_X4_lookAt 0 39 rfl)
theorem dX4_lookAt_40 : decode cX4_lookAt 40 = .ok (.aload_n 0, 1) := dz_42 (k_X4_lookAt 0 40 rfl)
theorem dX4_lookAt_41 : decode cX4_lookAt 41 = .ok (.getfield 15, 3) := dz_180 (k_X4_lookAt 0 41 rfl) (k_X4_lookAt 0 42 rfl) (k_X4_lookAt 0 43 rfl) rfl
theorem dX4_lookAt_44 : decode cX4_lookAt 44 = .ok (.aload_n 0, 1) := dz_42 (k_X4_lookAt 0 44 rfl)
theorem dX4_lookAt_45 : decode cX4_lookAt 45 = .ok (.getfield 48, 3) := dz_180 (k_X4_lookAt 0 45 rfl) (k_X4_lookAt 0 46 rfl) (k_X4_lookAt 0 47 rfl) rfl
theorem dX4_lookAt_48 : decode cX4_lookAt 48 = .ok (.aload_n 0, 1) := dz_42 (k_X4_lookAt 0 48 rfl)
theorem dX4_lookAt_49 : decode cX4_lookAt 49 = .ok (.getfield 30, 3) := dz_180 (k_X4_lookAt 0 49 rfl) (k_X4_lookAt 0 50 rfl) (k_X4_lookAt 0 51 rfl) rfl
theorem dX4_lookAt_52 : decode cX4_lookAt 52 = .ok (.iload_n 1, 1) := dz_27 (k_X4_lookAt 0 52 rfl)
theorem dX4_lookAt_53 : decode cX4_lookAt 53 = .ok (.invokevirtual 77, 3) := dz_182 (k_X4_lookAt 0 53 rfl) (k_X4_lookAt 0 54 rfl) (k_X4_lookAt 0 55 rfl) rfl
theorem dX4_lookAt_56 : decode cX4_lookAt 56 = .ok (.iastore, 1) := dz_79 (k_X4_lookAt 0 56 rfl)
theorem dX4_lookAt_57 : decode cX4_lookAt 57 = .ok (.aload_n 0, 1) := dz_42 (k_X4_lookAt 0 57 rfl)
theorem dX4_lookAt_58 : decode cX4_lookAt 58 = .ok (.dup, 1) := dz_89 (k_X4_lookAt 0 58 rfl)
theorem dX4_lookAt_59 : decode cX4_lookAt 59 = .ok (.getfield 48, 3) := dz_180 (k_X4_lookAt 0 59 rfl) (k_X4_lookAt 0 60 rfl) (k_X4_lookAt 0 61 rfl) rfl
theorem dX4_lookAt_62 : decode cX4_lookAt 62 = .ok (.iconst 1, 1) := dz_4 (k_X4_lookAt 0 62 rfl)
theorem dX4_lookAt_63 : decode cX4_lookAt 63 = .ok (.iadd, 1) := dz_96 (k_X4_lookAt 0 63 rfl)
theorem dX4_lookAt_64 : decode cX4_lookAt 64 = .ok (.putfield 48, 3) := dz_181 (k_X4_lookAt 1 0 rfl) (k_X4_lookAt 1 1 rfl) (k_X4_lookAt 1 2 rfl) rfl
theorem dX4_lookAt_67 : decode cX4_lookAt 67 = .ok (.aload_n 0, 1) := dz_42 (k_X4_lookAt 1 3 rfl)
theorem dX4_lookAt_68 : decode cX4_lookAt 68 = .ok (.getfield 30, 3) := dz_180 (k_X4_lookAt 1 4 rfl) (k_X4_lookAt 1 5 rfl) (k_X4_lookAt 1 6 rfl) rfl
theorem dX4_lookAt_71 : decode cX4_lookAt 71 = .ok (.iload_n 1, 1) := dz_27 (k_X4_lookAt 1 7 rfl)
theorem dX4_lookAt_72 : decode cX4_lookAt 72 = .ok (.invokevirtual 82, 3) := dz_182 (k_X4_lookAt 1 8 rfl) (k_X4_lookAt 1 9 rfl) (k_X4_lookAt 1 10 rfl) rfl
theorem dX4_lookAt_75 : decode cX4_lookAt 75 = .ok (.istore_n 3, 1) := dz_62 (k_X4_lookAt 1 11 rfl)
theorem dX4_lookAt_76 : decode cX4_lookAt 76 = .ok (.iload_n 3, 1) := dz_29 (k_X4_lookAt 1 12 rfl)
theorem dX4_lookAt_77 : decode cX4_lookAt 77 = .ok (.iconst 5, 1) := dz_8 (k_X4_lookAt 1 13 rfl)
theorem dX4_lookAt_78 : decode cX4_lookAt 78 = .ok (.if_icmp .eq 9, 3) := dz_159 (k_X4_lookAt 1 14 rfl) (k_X4_lookAt 1 15 rfl) (k_X4_lookAt 1 16 rfl) rfl
theorem dX4_lookAt_81 : decode cX4_lookAt 81 = .ok (.iload_n 3, 1) := dz_29 (k_X4_lookAt 1 17 rfl)
theorem dX4_lookAt_82 : decode cX4_lookAt 82 = .ok (.bipush 6, 2) := dz_16 (k_X4_lookAt 1 18 rfl) (k_X4_lookAt 1 19 rfl) rfl
theorem dX4_lookAt_84 : decode cX4_lookAt 84 = .ok (.if_icmp .ne 44, 3) := dz_160 (k_X4_lookAt 1 20 rfl) (k_X4_lookAt 1 21 rfl) (k_X4_lookAt 1 22 rfl) rfl
theorem dX4_lookAt_87 : decode cX4_lookAt 87 = .ok (.iconst 0, 1) := dz_3 (k_X4_lookAt 1 23 rfl)
theorem dX4_lookAt_88 : decode cX4_lookAt 88 = .ok (.istore 4, 2) := dz_54 (k_X4_lookAt 1 24 rfl) (k_X4_lookAt 1 25 rfl)
theorem dX4_lookAt_90 : decode cX4_lookAt 90 = .ok (.iload 4, 2) := dz_21 (k_X4_lookAt 1 26 rfl) (k_X4_lookAt 1 27 rfl)
theorem dX4_lookAt_92 : decode cX4_lookAt 92 = .ok (.aload_n 0, 1) := dz_42 (k_X4_lookAt 1 28 rfl)
theorem dX4_lookAt_93 : decode cX4_lookAt 93 = .ok (.getfield 34, 3) := dz_180 (k_X4_lookAt 1 29 rfl) (k_X4_lookAt 1 30 rfl) (k_X4_lookAt 1 31 rfl) rfl
theorem dX4_lookAt_96 : decode cX4_lookAt 96 = .ok (.getfield 85, 3) := dz_180 (k_X4_lookAt 1 32 rfl) (k_X4_lookAt 1 33 rfl) (k_X4_lookAt 1 34 rfl) rfl
theorem dX4_lookAt_99 : decode cX4_lookAt 99 = .ok (.if_icmp .ge 26, 3) := dz_162 (k_X4_lookAt 1 35 rfl) (k_X4_lookAt 1 36 rfl) (k_X4_lookAt 1 37 rfl) rfl
theorem dX4_lookAt_102 : decode cX4_lookAt 102 = .ok (.aload_n 0, 1) := dz_42 (k_X4_lookAt 1 38 rfl)
theorem dX4_lookAt_103 : decode cX4_lookAt 103 = .ok (.aload_n 0, 1) := dz_42 (k_X4_lookAt 1 39 rfl)
theorem dX4_lookAt_104 : decode cX4_lookAt 104 = .ok (.getfield 30, 3) := dz_180 (k_X4_lookAt 1 40 rfl) (k_X4_lookAt 1 41 rfl) (k_X4_lookAt 1 42 rfl) rfl
theorem dX4_lookAt_107 : decode cX4_lookAt 107 = .ok (.iload_n 1, 1) := dz_27 (k_X4_lookAt 1 43 rfl)
theorem dX4_lookAt_108 : decode cX4_lookAt 108 = .ok (.iload 4, 2) := dz_21 (k_X4_lookAt 1 44 rfl) (k_X4_lookAt 1 45 rfl)
theorem dX4_lookAt_110 : decode cX4_lookAt 110 = .ok (.invokevirtual 88, 3) := dz_182 (k_X4_lookAt 1 46 rfl) (k_X4_lookAt 1 47 rfl) (k_X4_lookAt 1 48 rfl) rfl
theorem dX4_lookAt_113 : decode cX4_lookAt 113 = .ok (.iload_n 2, 1) := dz_28 (k_X4_lookAt 1 49 rfl)
theorem dX4_lookAt_114 : decode cX4_lookAt 114 = .ok (.iconst 1, 1) := dz_4 (k_X4_lookAt 1 50 rfl)
theorem dX4_lookAt_115 : decode cX4_lookAt 115 = .ok (.iadd, 1) := dz_96 (k_X4_lookAt 1 51 rfl)
theorem dX4_lookAt_116 : decode cX4_lookAt 116 = .ok (.invokevirtual 57, 3) := dz_182 (k_X4_lookAt 1 52 rfl) (k_X4_lookAt 1 53 rfl) (k_X4_lookAt 1 54 rfl) rfl
theorem dX4_lookAt_119 : decode cX4_lookAt 119 = .ok (.iinc 4 1, 3) := dz_132 (k_X4_lookAt 1 55 rfl) (k_X4_lookAt 1 56 rfl) (k_X4_lookAt 1 57 rfl) rfl
theorem dX4_lookAt_122 : decode cX4_lookAt 122 = .ok (.goto (-32), 3) := dz_167 (k_X4_lookAt 1 58 rfl) (k_X4_lookAt 1 59 rfl) (k_X4_lookAt 1 60 rfl) rfl
theorem dX4_lookAt_125 : decode cX4_lookAt 125 = .ok (.goto 37, 3) := dz_167 (k_X4_lookAt 1 61 rfl) (k_X4_lookAt 1 62 rfl) (k_X4_lookAt 1 63 rfl) rfl
theorem dX4_lookAt_128 : decode cX4_lookAt 128 = .ok (.iload_n 3, 1) := dz_29 (k_X4_lookAt 2 0 rfl)
theorem dX4_lookAt_129 : decode cX4_lookAt 129 = .ok (.ifCond .eq 33, 3) := dz_153 (k_X4_lookAt 2 1 rfl) (k_X4_lookAt 2 2 rfl) (k_X4_lookAt 2 3 rfl) rfl
theorem dX4_lookAt_132 : decode cX4_lookAt 132 = .ok (.aload_n 0, 1) := dz_42 (k_X4_lookAt 2 4 rfl)
theorem dX4_lookAt_133 : decode cX4_lookAt 133 = .ok (.aload_n 0, 1) := dz_42 (k_X4_lookAt 2 5 rfl)
theorem dX4_lookAt_134 : decode cX4_lookAt 134 = .ok (.getfield 30, 3) := dz_180 (k_X4_lookAt 2 6 rfl) (k_X4_lookAt 2 7 rfl) (k_X4_lookAt 2 8 rfl) rfl
theorem dX4_lookAt_137 : decode cX4_lookAt 137 = .ok (.iload_n 1, 1) := dz_27 (k_X4_lookAt 2 9 rfl)
theorem dX4_lookAt_138 : decode cX4_lookAt 138 = .ok (.invokevirtual 92, 3) := dz_182 (k_X4_lookAt 2 10 rfl) (k_X4_lookAt 2 11 rfl) (k_X4_lookAt 2 12 rfl) rfl
theorem dX4_lookAt_141 : decode cX4_lookAt 141 = .ok (.iload_n 2, 1) := dz_28 (k_X4_lookAt 2 13 rfl)
theorem dX4_lookAt_142 : decode cX4_lookAt 142 = .ok (.iconst 1, 1) := dz_4 (k_X4_lookAt 2 14 rfl)
theorem dX4_lookAt_143 : decode cX4_lookAt 143 = .ok (.iadd, 1) := dz_96 (k_X4_lookAt 2 15 rfl)
theorem dX4_lookAt_144 : decode cX4_lookAt 144 = .ok (.invokevirtual 57, 3) := dz_182 (k_X4_lookAt 2 16 rfl) (k_X4_lookAt 2 17 rfl) (k_X4_lookAt 2 18 rfl) rfl
theorem dX4_lookAt_147 : decode cX4_lookAt 147 = .ok (.aload_n 0, 1) := dz_42 (k_X4_lookAt 2 19 rfl)
theorem dX4_lookAt_148 : decode cX4_lookAt 148 = .ok (.aload_n 0, 1) := dz_42 (k_X4_lookAt 2 20 rfl)
theorem dX4_lookAt_149 : decode cX4_lookAt 149 = .ok (.getfield 30, 3) := dz_180 (k_X4_lookAt 2 21 rfl) (k_X4_lookAt 2 22 rfl) (k_X4_lookAt 2 23 rfl) rfl
theorem dX4_lookAt_152 : decode cX4_lookAt 152 = .ok (.iload_n 1, 1) := dz_27 (k_X4_lookAt 2 24 rfl)
theorem dX4_lookAt_153 : decode cX4_lookAt 153 = .ok (.invokevirtual 95, 3) := dz_182 (k_X4_lookAt 2 25 rfl) (k_X4_lookAt 2 26 rfl) (k_X4_lookAt 2 27 rfl) rfl
theorem dX4_lookAt_156 : decode cX4_lookAt 156 = .ok (.iload_n 2, 1) := dz_28 (k_X4_lookAt 2 28 rfl)
theorem dX4_lookAt_157 : decode cX4_lookAt 157 = .ok (.iconst 1, 1) := dz_4 (k_X4_lookAt 2 29 rfl)
theorem dX4_lookAt_158 : decode cX4_lookAt 158 = .ok (.iadd, 1) := dz_96 (k_X4_lookAt 2 30 rfl)
theorem dX4_lookAt_159 : decode cX4_lookAt 159 = .ok (.invokevirtual 57, 3) := dz_182 (k_X4_lookAt 2 31 rfl) (k_X4_lookAt 2 32 rfl) (k_X4_lookAt 2 33 rfl) rfl
theorem dX4_lookAt_162 : decode cX4_lookAt 162 = .ok (.return_, 1) := dz_177 (k_X4_lookAt 2 34 rfl)
def B_X4_placeOf : List (List Nat) := [[3, 61, 28, 42, 180, 0, 48, 162, 0, 21, 42, 180, 0, 11, 28, 46, 27, 160, 0, 5, 28, 172, 132, 2, 1, 167, 255, 233, 2, 172]]
theorem k_X4_placeOf (j i : Nat) {b : Nat} (h : (B_X4_placeOf[j]?.bind fun c => c[i]?) = some b) : s_by cX4_placeOf (64 * j + i) b := s_byC (L := B_X4_placeOf) (by decide +kernel) (by decide +kernel) j i h
theorem dX4_placeOf_0 : decode cX4_placeOf 0 = .ok (.iconst 0, 1) := dz_3 (k_X4_placeOf 0 0 rfl)
theorem dX4_placeOf_1 : decode cX4_placeOf 1 = .ok (.istore_n 2, 1) := dz_61 (k_X4_placeOf 0 1 rfl)
theorem dX4_placeOf_2 : decode cX4_placeOf 2 = .ok (.iload_n 2, 1) := dz_28 (k_X4_placeOf 0 2 rfl)
theorem dX4_placeOf_3 : decode cX4_placeOf 3 = .ok (.aload_n 0, 1) := dz_42 (k_X4_placeOf 0 3 rfl)
theorem dX4_placeOf_4 : decode cX4_placeOf 4 = .ok (.getfield 48, 3) := dz_180 (k_X4_placeOf 0 4 rfl) (k_X4_placeOf 0 5 rfl) (k_X4_placeOf 0 6 rfl) rfl
theorem dX4_placeOf_7 : decode cX4_placeOf 7 = .ok (.if_icmp .ge 21, 3) := dz_162 (k_X4_placeOf 0 7 rfl) (k_X4_placeOf 0 8 rfl) (k_X4_placeOf 0 9 rfl) rfl
theorem dX4_placeOf_10 : decode cX4_placeOf 10 = .ok (.aload_n 0, 1) := dz_42 (k_X4_placeOf 0 10 rfl)
theorem dX4_placeOf_11 : decode cX4_placeOf 11 = .ok (.getfield 11, 3) := dz_180 (k_X4_placeOf 0 11 rfl) (k_X4_placeOf 0 12 rfl) (k_X4_placeOf 0 13 rfl) rfl
theorem dX4_placeOf_14 : decode cX4_placeOf 14 = .ok (.iload_n 2, 1) := dz_28 (k_X4_placeOf 0 14 rfl)
theorem dX4_placeOf_15 : decode cX4_placeOf 15 = .ok (.iaload, 1) := dz_46 (k_X4_placeOf 0 15 rfl)
theorem dX4_placeOf_16 : decode cX4_placeOf 16 = .ok (.iload_n 1, 1) := dz_27 (k_X4_placeOf 0 16 rfl)
theorem dX4_placeOf_17 : decode cX4_placeOf 17 = .ok (.if_icmp .ne 5, 3) := dz_160 (k_X4_placeOf 0 17 rfl) (k_X4_placeOf 0 18 rfl) (k_X4_placeOf 0 19 rfl) rfl
theorem dX4_placeOf_20 : decode cX4_placeOf 20 = .ok (.iload_n 2, 1) := dz_28 (k_X4_placeOf 0 20 rfl)
theorem dX4_placeOf_21 : decode cX4_placeOf 21 = .ok (.ireturn, 1) := dz_172 (k_X4_placeOf 0 21 rfl)
theorem dX4_placeOf_22 : decode cX4_placeOf 22 = .ok (.iinc 2 1, 3) := dz_132 (k_X4_placeOf 0 22 rfl) (k_X4_placeOf 0 23 rfl) (k_X4_placeOf 0 24 rfl) rfl
theorem dX4_placeOf_25 : decode cX4_placeOf 25 = .ok (.goto (-23), 3) := dz_167 (k_X4_placeOf 0 25 rfl) (k_X4_placeOf 0 26 rfl) (k_X4_placeOf 0 27 rfl) rfl
theorem dX4_placeOf_28 : decode cX4_placeOf 28 = .ok (.iconst (-1), 1) := dz_2 (k_X4_placeOf 0 28 rfl)
theorem dX4_placeOf_29 : decode cX4_placeOf 29 = .ok (.ireturn, 1) := dz_172 (k_X4_placeOf 0 29 rfl)
def B_X4_placeOfIf : List (List Nat) := [[3, 62, 29, 42, 180, 0, 48, 162, 0, 30, 42, 180, 0, 30, 42, 180, 0, 11, 29, 46, 7, 27, 28, 182, 0, 124, 153, 0, 5, 29, 172, 132, 3, 1, 167, 255, 224, 2, 172]]
theorem k_X4_placeOfIf (j i : Nat) {b : Nat} (h : (B_X4_placeOfIf[j]?.bind fun c => c[i]?) = some b) : s_by cX4_placeOfIf (64 * j + i) b := s_byC (L := B_X4_placeOfIf) (by decide +kernel) (by decide +kernel) j i h
theorem dX4_placeOfIf_0 : decode cX4_placeOfIf 0 = .ok (.iconst 0, 1) := dz_3 (k_X4_placeOfIf 0 0 rfl)
theorem dX4_placeOfIf_1 : decode cX4_placeOfIf 1 = .ok (.istore_n 3, 1) := dz_62 (k_X4_placeOfIf 0 1 rfl)
theorem dX4_placeOfIf_2 : decode cX4_placeOfIf 2 = .ok (.iload_n 3, 1) := dz_29 (k_X4_placeOfIf 0 2 rfl)
theorem dX4_placeOfIf_3 : decode cX4_placeOfIf 3 = .ok (.aload_n 0, 1) := dz_42 (k_X4_placeOfIf 0 3 rfl)
theorem dX4_placeOfIf_4 : decode cX4_placeOfIf 4 = .ok (.getfield 48, 3) := dz_180 (k_X4_placeOfIf 0 4 rfl) (k_X4_placeOfIf 0 5 rfl) (k_X4_placeOfIf 0 6 rfl) rfl
theorem dX4_placeOfIf_7 : decode cX4_placeOfIf 7 = .ok (.if_icmp .ge 30, 3) := dz_162 (k_X4_placeOfIf 0 7 rfl) (k_X4_placeOfIf 0 8 rfl) (k_X4_placeOfIf 0 9 rfl) rfl
theorem dX4_placeOfIf_10 : decode cX4_placeOfIf 10 = .ok (.aload_n 0, 1) := dz_42 (k_X4_placeOfIf 0 10 rfl)
theorem dX4_placeOfIf_11 : decode cX4_placeOfIf 11 = .ok (.getfield 30, 3) := dz_180 (k_X4_placeOfIf 0 11 rfl) (k_X4_placeOfIf 0 12 rfl) (k_X4_placeOfIf 0 13 rfl) rfl
theorem dX4_placeOfIf_14 : decode cX4_placeOfIf 14 = .ok (.aload_n 0, 1) := dz_42 (k_X4_placeOfIf 0 14 rfl)
theorem dX4_placeOfIf_15 : decode cX4_placeOfIf 15 = .ok (.getfield 11, 3) := dz_180 (k_X4_placeOfIf 0 15 rfl) (k_X4_placeOfIf 0 16 rfl) (k_X4_placeOfIf 0 17 rfl) rfl
theorem dX4_placeOfIf_18 : decode cX4_placeOfIf 18 = .ok (.iload_n 3, 1) := dz_29 (k_X4_placeOfIf 0 18 rfl)
theorem dX4_placeOfIf_19 : decode cX4_placeOfIf 19 = .ok (.iaload, 1) := dz_46 (k_X4_placeOfIf 0 19 rfl)
theorem dX4_placeOfIf_20 : decode cX4_placeOfIf 20 = .ok (.iconst 4, 1) := dz_7 (k_X4_placeOfIf 0 20 rfl)
theorem dX4_placeOfIf_21 : decode cX4_placeOfIf 21 = .ok (.iload_n 1, 1) := dz_27 (k_X4_placeOfIf 0 21 rfl)
theorem dX4_placeOfIf_22 : decode cX4_placeOfIf 22 = .ok (.iload_n 2, 1) := dz_28 (k_X4_placeOfIf 0 22 rfl)
theorem dX4_placeOfIf_23 : decode cX4_placeOfIf 23 = .ok (.invokevirtual 124, 3) := dz_182 (k_X4_placeOfIf 0 23 rfl) (k_X4_placeOfIf 0 24 rfl) (k_X4_placeOfIf 0 25 rfl) rfl
theorem dX4_placeOfIf_26 : decode cX4_placeOfIf 26 = .ok (.ifCond .eq 5, 3) := dz_153 (k_X4_placeOfIf 0 26 rfl) (k_X4_placeOfIf 0 27 rfl) (k_X4_placeOfIf 0 28 rfl) rfl
theorem dX4_placeOfIf_29 : decode cX4_placeOfIf 29 = .ok (.iload_n 3, 1) := dz_29 (k_X4_placeOfIf 0 29 rfl)
theorem dX4_placeOfIf_30 : decode cX4_placeOfIf 30 = .ok (.ireturn, 1) := dz_172 (k_X4_placeOfIf 0 30 rfl)
theorem dX4_placeOfIf_31 : decode cX4_placeOfIf 31 = .ok (.iinc 3 1, 3) := dz_132 (k_X4_placeOfIf 0 31 rfl) (k_X4_placeOfIf 0 32 rfl) (k_X4_placeOfIf 0 33 rfl) rfl
theorem dX4_placeOfIf_34 : decode cX4_placeOfIf 34 = .ok (.goto (-32), 3) := dz_167 (k_X4_placeOfIf 0 34 rfl) (k_X4_placeOfIf 0 35 rfl) (k_X4_placeOfIf 0 36 rfl) rfl
theorem dX4_placeOfIf_37 : decode cX4_placeOfIf 37 = .ok (.iconst (-1), 1) := dz_2 (k_X4_placeOfIf 0 37 rfl)
theorem dX4_placeOfIf_38 : decode cX4_placeOfIf 38 = .ok (.ireturn, 1) := dz_172 (k_X4_placeOfIf 0 38 rfl)
def B_X4_prepare : List (List Nat) := [[42, 42, 180, 0, 34, 27, 182, 0, 38, 181, 0, 44, 42, 3, 181, 0, 48, 42, 3, 181, 0, 51, 42, 3, 181, 0, 54, 42, 28, 3, 182, 0, 57, 3, 62, 29, 42, 180, 0, 34, 180, 0, 61, 162, 0, 33, 42, 180, 0, 44, 29, 122, 4, 126, 153, 0, 16, 42, 42, 180, 0, 34, 29, 182], [0, 64, 3, 182, 0, 57, 132, 3, 1, 167, 255, 218, 3, 62, 29, 42, 180, 0, 48, 162, 0, 19, 42, 42, 180, 0, 11, 29, 46, 182, 0, 67, 132, 3, 1, 167, 255, 235, 3, 62, 29, 42, 180, 0, 48, 162, 0, 14, 42, 29, 182, 0, 71, 132, 3, 1, 167, 255, 240, 177]]
theorem k_X4_prepare (j i : Nat) {b : Nat} (h : (B_X4_prepare[j]?.bind fun c => c[i]?) = some b) : s_by cX4_prepare (64 * j + i) b := s_byC (L := B_X4_prepare) (by decide +kernel) (by decide +kernel) j i h
theorem dX4_prepare_0 : decode cX4_prepare 0 = .ok (.aload_n 0, 1) := dz_42 (k_X4_prepare 0 0 rfl)
theorem dX4_prepare_1 : decode cX4_prepare 1 = .ok (.aload_n 0, 1) := dz_42 (k_X4_prepare 0 1 rfl)
theorem dX4_prepare_2 : decode cX4_prepare 2 = .ok (.getfield 34, 3) := dz_180 (k_X4_prepare 0 2 rfl) (k_X4_prepare 0 3 rfl) (k_X4_prepare 0 4 rfl) rfl
theorem dX4_prepare_5 : decode cX4_prepare 5 = .ok (.iload_n 1, 1) := dz_27 (k_X4_prepare 0 5 rfl)
theorem dX4_prepare_6 : decode cX4_prepare 6 = .ok (.invokevirtual 38, 3) := dz_182 (k_X4_prepare 0 6 rfl) (k_X4_prepare 0 7 rfl) (k_X4_prepare 0 8 rfl) rfl
theorem dX4_prepare_9 : decode cX4_prepare 9 = .ok (.putfield 44, 3) := dz_181 (k_X4_prepare 0 9 rfl) (k_X4_prepare 0 10 rfl) (k_X4_prepare 0 11 rfl) rfl
theorem dX4_prepare_12 : decode cX4_prepare 12 = .ok (.aload_n 0, 1) := dz_42 (k_X4_prepare 0 12 rfl)
theorem dX4_prepare_13 : decode cX4_prepare 13 = .ok (.iconst 0, 1) := dz_3 (k_X4_prepare 0 13 rfl)
theorem dX4_prepare_14 : decode cX4_prepare 14 = .ok (.putfield 48, 3) := dz_181 (k_X4_prepare 0 14 rfl) (k_X4_prepare 0 15 rfl) (k_X4_prepare 0 16 rfl) rfl
theorem dX4_prepare_17 : decode cX4_prepare 17 = .ok (.aload_n 0, 1) := dz_42 (k_X4_prepare 0 17 rfl)
theorem dX4_prepare_18 : decode cX4_prepare 18 = .ok (.iconst 0, 1) := dz_3 (k_X4_prepare 0 18 rfl)
theorem dX4_prepare_19 : decode cX4_prepare 19 = .ok (.putfield 51, 3) := dz_181 (k_X4_prepare 0 19 rfl) (k_X4_prepare 0 20 rfl) (k_X4_prepare 0 21 rfl) rfl
theorem dX4_prepare_22 : decode cX4_prepare 22 = .ok (.aload_n 0, 1) := dz_42 (k_X4_prepare 0 22 rfl)
theorem dX4_prepare_23 : decode cX4_prepare 23 = .ok (.iconst 0, 1) := dz_3 (k_X4_prepare 0 23 rfl)
theorem dX4_prepare_24 : decode cX4_prepare 24 = .ok (.putfield 54, 3) := dz_181 (k_X4_prepare 0 24 rfl) (k_X4_prepare 0 25 rfl) (k_X4_prepare 0 26 rfl) rfl
theorem dX4_prepare_27 : decode cX4_prepare 27 = .ok (.aload_n 0, 1) := dz_42 (k_X4_prepare 0 27 rfl)
theorem dX4_prepare_28 : decode cX4_prepare 28 = .ok (.iload_n 2, 1) := dz_28 (k_X4_prepare 0 28 rfl)
theorem dX4_prepare_29 : decode cX4_prepare 29 = .ok (.iconst 0, 1) := dz_3 (k_X4_prepare 0 29 rfl)
theorem dX4_prepare_30 : decode cX4_prepare 30 = .ok (.invokevirtual 57, 3) := dz_182 (k_X4_prepare 0 30 rfl) (k_X4_prepare 0 31 rfl) (k_X4_prepare 0 32 rfl) rfl
theorem dX4_prepare_33 : decode cX4_prepare 33 = .ok (.iconst 0, 1) := dz_3 (k_X4_prepare 0 33 rfl)
theorem dX4_prepare_34 : decode cX4_prepare 34 = .ok (.istore_n 3, 1) := dz_62 (k_X4_prepare 0 34 rfl)
theorem dX4_prepare_35 : decode cX4_prepare 35 = .ok (.iload_n 3, 1) := dz_29 (k_X4_prepare 0 35 rfl)
theorem dX4_prepare_36 : decode cX4_prepare 36 = .ok (.aload_n 0, 1) := dz_42 (k_X4_prepare 0 36 rfl)
theorem dX4_prepare_37 : decode cX4_prepare 37 = .ok (.getfield 34, 3) := dz_180 (k_X4_prepare 0 37 rfl) (k_X4_prepare 0 38 rfl) (k_X4_prepare 0 39 rfl) rfl
theorem dX4_prepare_40 : decode cX4_prepare 40 = .ok (.getfield 61, 3) := dz_180 (k_X4_prepare 0 40 rfl) (k_X4_prepare 0 41 rfl) (k_X4_prepare 0 42 rfl) rfl
theorem dX4_prepare_43 : decode cX4_prepare 43 = .ok (.if_icmp .ge 33, 3) := dz_162 (k_X4_prepare 0 43 rfl) (k_X4_prepare 0 44 rfl) (k_X4_prepare 0 45 rfl) rfl
theorem dX4_prepare_46 : decode cX4_prepare 46 = .ok (.aload_n 0, 1) := dz_42 (k_X4_prepare 0 46 rfl)
theorem dX4_prepare_47 : decode cX4_prepare 47 = .ok (.getfield 44, 3) := dz_180 (k_X4_prepare 0 47 rfl) (k_X4_prepare 0 48 rfl) (k_X4_prepare 0 49 rfl) rfl
theorem dX4_prepare_50 : decode cX4_prepare 50 = .ok (.iload_n 3, 1) := dz_29 (k_X4_prepare 0 50 rfl)
theorem dX4_prepare_51 : decode cX4_prepare 51 = .ok (.ishr, 1) := dz_122 (k_X4_prepare 0 51 rfl)
theorem dX4_prepare_52 : decode cX4_prepare 52 = .ok (.iconst 1, 1) := dz_4 (k_X4_prepare 0 52 rfl)
theorem dX4_prepare_53 : decode cX4_prepare 53 = .ok (.iand, 1) := dz_126 (k_X4_prepare 0 53 rfl)
theorem dX4_prepare_54 : decode cX4_prepare 54 = .ok (.ifCond .eq 16, 3) := dz_153 (k_X4_prepare 0 54 rfl) (k_X4_prepare 0 55 rfl) (k_X4_prepare 0 56 rfl) rfl
theorem dX4_prepare_57 : decode cX4_prepare 57 = .ok (.aload_n 0, 1) := dz_42 (k_X4_prepare 0 57 rfl)
theorem dX4_prepare_58 : decode cX4_prepare 58 = .ok (.aload_n 0, 1) := dz_42 (k_X4_prepare 0 58 rfl)
theorem dX4_prepare_59 : decode cX4_prepare 59 = .ok (.getfield 34, 3) := dz_180 (k_X4_prepare 0 59 rfl) (k_X4_prepare 0 60 rfl) (k_X4_prepare 0 61 rfl) rfl
theorem dX4_prepare_62 : decode cX4_prepare 62 = .ok (.iload_n 3, 1) := dz_29 (k_X4_prepare 0 62 rfl)
theorem dX4_prepare_63 : decode cX4_prepare 63 = .ok (.invokevirtual 64, 3) := dz_182 (k_X4_prepare 0 63 rfl) (k_X4_prepare 1 0 rfl) (k_X4_prepare 1 1 rfl) rfl
theorem dX4_prepare_66 : decode cX4_prepare 66 = .ok (.iconst 0, 1) := dz_3 (k_X4_prepare 1 2 rfl)
theorem dX4_prepare_67 : decode cX4_prepare 67 = .ok (.invokevirtual 57, 3) := dz_182 (k_X4_prepare 1 3 rfl) (k_X4_prepare 1 4 rfl) (k_X4_prepare 1 5 rfl) rfl
theorem dX4_prepare_70 : decode cX4_prepare 70 = .ok (.iinc 3 1, 3) := dz_132 (k_X4_prepare 1 6 rfl) (k_X4_prepare 1 7 rfl) (k_X4_prepare 1 8 rfl) rfl
theorem dX4_prepare_73 : decode cX4_prepare 73 = .ok (.goto (-38), 3) := dz_167 (k_X4_prepare 1 9 rfl) (k_X4_prepare 1 10 rfl) (k_X4_prepare 1 11 rfl) rfl
theorem dX4_prepare_76 : decode cX4_prepare 76 = .ok (.iconst 0, 1) := dz_3 (k_X4_prepare 1 12 rfl)
theorem dX4_prepare_77 : decode cX4_prepare 77 = .ok (.istore_n 3, 1) := dz_62 (k_X4_prepare 1 13 rfl)
theorem dX4_prepare_78 : decode cX4_prepare 78 = .ok (.iload_n 3, 1) := dz_29 (k_X4_prepare 1 14 rfl)
theorem dX4_prepare_79 : decode cX4_prepare 79 = .ok (.aload_n 0, 1) := dz_42 (k_X4_prepare 1 15 rfl)
theorem dX4_prepare_80 : decode cX4_prepare 80 = .ok (.getfield 48, 3) := dz_180 (k_X4_prepare 1 16 rfl) (k_X4_prepare 1 17 rfl) (k_X4_prepare 1 18 rfl) rfl
theorem dX4_prepare_83 : decode cX4_prepare 83 = .ok (.if_icmp .ge 19, 3) := dz_162 (k_X4_prepare 1 19 rfl) (k_X4_prepare 1 20 rfl) (k_X4_prepare 1 21 rfl) rfl
theorem dX4_prepare_86 : decode cX4_prepare 86 = .ok (.aload_n 0, 1) := dz_42 (k_X4_prepare 1 22 rfl)
theorem dX4_prepare_87 : decode cX4_prepare 87 = .ok (.aload_n 0, 1) := dz_42 (k_X4_prepare 1 23 rfl)
theorem dX4_prepare_88 : decode cX4_prepare 88 = .ok (.getfield 11, 3) := dz_180 (k_X4_prepare 1 24 rfl) (k_X4_prepare 1 25 rfl) (k_X4_prepare 1 26 rfl) rfl
theorem dX4_prepare_91 : decode cX4_prepare 91 = .ok (.iload_n 3, 1) := dz_29 (k_X4_prepare 1 27 rfl)
theorem dX4_prepare_92 : decode cX4_prepare 92 = .ok (.iaload, 1) := dz_46 (k_X4_prepare 1 28 rfl)
theorem dX4_prepare_93 : decode cX4_prepare 93 = .ok (.invokevirtual 67, 3) := dz_182 (k_X4_prepare 1 29 rfl) (k_X4_prepare 1 30 rfl) (k_X4_prepare 1 31 rfl) rfl
theorem dX4_prepare_96 : decode cX4_prepare 96 = .ok (.iinc 3 1, 3) := dz_132 (k_X4_prepare 1 32 rfl) (k_X4_prepare 1 33 rfl) (k_X4_prepare 1 34 rfl) rfl
theorem dX4_prepare_99 : decode cX4_prepare 99 = .ok (.goto (-21), 3) := dz_167 (k_X4_prepare 1 35 rfl) (k_X4_prepare 1 36 rfl) (k_X4_prepare 1 37 rfl) rfl
theorem dX4_prepare_102 : decode cX4_prepare 102 = .ok (.iconst 0, 1) := dz_3 (k_X4_prepare 1 38 rfl)
theorem dX4_prepare_103 : decode cX4_prepare 103 = .ok (.istore_n 3, 1) := dz_62 (k_X4_prepare 1 39 rfl)
theorem dX4_prepare_104 : decode cX4_prepare 104 = .ok (.iload_n 3, 1) := dz_29 (k_X4_prepare 1 40 rfl)
theorem dX4_prepare_105 : decode cX4_prepare 105 = .ok (.aload_n 0, 1) := dz_42 (k_X4_prepare 1 41 rfl)
theorem dX4_prepare_106 : decode cX4_prepare 106 = .ok (.getfield 48, 3) := dz_180 (k_X4_prepare 1 42 rfl) (k_X4_prepare 1 43 rfl) (k_X4_prepare 1 44 rfl) rfl
theorem dX4_prepare_109 : decode cX4_prepare 109 = .ok (.if_icmp .ge 14, 3) := dz_162 (k_X4_prepare 1 45 rfl) (k_X4_prepare 1 46 rfl) (k_X4_prepare 1 47 rfl) rfl
theorem dX4_prepare_112 : decode cX4_prepare 112 = .ok (.aload_n 0, 1) := dz_42 (k_X4_prepare 1 48 rfl)
theorem dX4_prepare_113 : decode cX4_prepare 113 = .ok (.iload_n 3, 1) := dz_29 (k_X4_prepare 1 49 rfl)
theorem dX4_prepare_114 : decode cX4_prepare 114 = .ok (.invokevirtual 71, 3) := dz_182 (k_X4_prepare 1 50 rfl) (k_X4_prepare 1 51 rfl) (k_X4_prepare 1 52 rfl) rfl
theorem dX4_prepare_117 : decode cX4_prepare 117 = .ok (.iinc 3 1, 3) := dz_132 (k_X4_prepare 1 53 rfl) (k_X4_prepare 1 54 rfl) (k_X4_prepare 1 55 rfl) rfl
theorem dX4_prepare_120 : decode cX4_prepare 120 = .ok (.goto (-16), 3) := dz_167 (k_X4_prepare 1 56 rfl) (k_X4_prepare 1 57 rfl) (k_X4_prepare 1 58 rfl) rfl
theorem dX4_prepare_123 : decode cX4_prepare 123 = .ok (.return_, 1) := dz_177 (k_X4_prepare 1 59 rfl)
def B_X4_settle : List (List Nat) := [[3, 61, 28, 42, 180, 0, 48, 162, 0, 26, 42, 180, 0, 27, 27, 16, 40, 104, 28, 96, 42, 27, 28, 182, 0, 142, 79, 132, 2, 1, 167, 255, 228, 4, 61, 3, 62, 29, 16, 40, 163, 0, 112, 28, 153, 0, 108, 3, 61, 3, 54, 4, 21, 4, 42, 180, 0, 54, 162, 0, 37, 42, 27, 42], [180, 0, 24, 21, 4, 8, 104, 4, 96, 46, 42, 27, 21, 4, 182, 0, 145, 182, 0, 148, 153, 0, 5, 4, 61, 132, 4, 1, 167, 255, 216, 42, 27, 182, 0, 152, 54, 4, 3, 54, 5, 21, 5, 42, 180, 0, 48, 162, 0, 35, 42, 27, 21, 5, 42, 16, 14, 21, 5, 182, 0, 155, 21, 4], [96, 184, 0, 158, 182, 0, 148, 153, 0, 5, 4, 61, 132, 5, 1, 167, 255, 218, 132, 3, 1, 167, 255, 144, 177]]
theorem k_X4_settle (j i : Nat) {b : Nat} (h : (B_X4_settle[j]?.bind fun c => c[i]?) = some b) : s_by cX4_settle (64 * j + i) b := s_byC (L := B_X4_settle) (by decide +kernel) (by decide +kernel) j i h
theorem dX4_settle_0 : decode cX4_settle 0 = .ok (.iconst 0, 1) := dz_3 (k_X4_settle 0 0 rfl)
theorem dX4_settle_1 : decode cX4_settle 1 = .ok (.istore_n 2, 1) := dz_61 (k_X4_settle 0 1 rfl)
theorem dX4_settle_2 : decode cX4_settle 2 = .ok (.iload_n 2, 1) := dz_28 (k_X4_settle 0 2 rfl)
theorem dX4_settle_3 : decode cX4_settle 3 = .ok (.aload_n 0, 1) := dz_42 (k_X4_settle 0 3 rfl)
theorem dX4_settle_4 : decode cX4_settle 4 = .ok (.getfield 48, 3) := dz_180 (k_X4_settle 0 4 rfl) (k_X4_settle 0 5 rfl) (k_X4_settle 0 6 rfl) rfl
theorem dX4_settle_7 : decode cX4_settle 7 = .ok (.if_icmp .ge 26, 3) := dz_162 (k_X4_settle 0 7 rfl) (k_X4_settle 0 8 rfl) (k_X4_settle 0 9 rfl) rfl
theorem dX4_settle_10 : decode cX4_settle 10 = .ok (.aload_n 0, 1) := dz_42 (k_X4_settle 0 10 rfl)
theorem dX4_settle_11 : decode cX4_settle 11 = .ok (.getfield 27, 3) := dz_180 (k_X4_settle 0 11 rfl) (k_X4_settle 0 12 rfl) (k_X4_settle 0 13 rfl) rfl
theorem dX4_settle_14 : decode cX4_settle 14 = .ok (.iload_n 1, 1) := dz_27 (k_X4_settle 0 14 rfl)
theorem dX4_settle_15 : decode cX4_settle 15 = .ok (.bipush 40, 2) := dz_16 (k_X4_settle 0 15 rfl) (k_X4_settle 0 16 rfl) rfl
theorem dX4_settle_17 : decode cX4_settle 17 = .ok (.imul, 1) := dz_104 (k_X4_settle 0 17 rfl)
theorem dX4_settle_18 : decode cX4_settle 18 = .ok (.iload_n 2, 1) := dz_28 (k_X4_settle 0 18 rfl)
theorem dX4_settle_19 : decode cX4_settle 19 = .ok (.iadd, 1) := dz_96 (k_X4_settle 0 19 rfl)
theorem dX4_settle_20 : decode cX4_settle 20 = .ok (.aload_n 0, 1) := dz_42 (k_X4_settle 0 20 rfl)
theorem dX4_settle_21 : decode cX4_settle 21 = .ok (.iload_n 1, 1) := dz_27 (k_X4_settle 0 21 rfl)
theorem dX4_settle_22 : decode cX4_settle 22 = .ok (.iload_n 2, 1) := dz_28 (k_X4_settle 0 22 rfl)
theorem dX4_settle_23 : decode cX4_settle 23 = .ok (.invokevirtual 142, 3) := dz_182 (k_X4_settle 0 23 rfl) (k_X4_settle 0 24 rfl) (k_X4_settle 0 25 rfl) rfl
theorem dX4_settle_26 : decode cX4_settle 26 = .ok (.iastore, 1) := dz_79 (k_X4_settle 0 26 rfl)
theorem dX4_settle_27 : decode cX4_settle 27 = .ok (.iinc 2 1, 3) := dz_132 (k_X4_settle 0 27 rfl) (k_X4_settle 0 28 rfl) (k_X4_settle 0 29 rfl) rfl
theorem dX4_settle_30 : decode cX4_settle 30 = .ok (.goto (-28), 3) := dz_167 (k_X4_settle 0 30 rfl) (k_X4_settle 0 31 rfl) (k_X4_settle 0 32 rfl) rfl
theorem dX4_settle_33 : decode cX4_settle 33 = .ok (.iconst 1, 1) := dz_4 (k_X4_settle 0 33 rfl)
theorem dX4_settle_34 : decode cX4_settle 34 = .ok (.istore_n 2, 1) := dz_61 (k_X4_settle 0 34 rfl)
theorem dX4_settle_35 : decode cX4_settle 35 = .ok (.iconst 0, 1) := dz_3 (k_X4_settle 0 35 rfl)
theorem dX4_settle_36 : decode cX4_settle 36 = .ok (.istore_n 3, 1) := dz_62 (k_X4_settle 0 36 rfl)
theorem dX4_settle_37 : decode cX4_settle 37 = .ok (.iload_n 3, 1) := dz_29 (k_X4_settle 0 37 rfl)
theorem dX4_settle_38 : decode cX4_settle 38 = .ok (.bipush 40, 2) := dz_16 (k_X4_settle 0 38 rfl) (k_X4_settle 0 39 rfl) rfl
theorem dX4_settle_40 : decode cX4_settle 40 = .ok (.if_icmp .gt 112, 3) := dz_163 (k_X4_settle 0 40 rfl) (k_X4_settle 0 41 rfl) (k_X4_settle 0 42 rfl) rfl
theorem dX4_settle_43 : decode cX4_settle 43 = .ok (.iload_n 2, 1) := dz_28 (k_X4_settle 0 43 rfl)
theorem dX4_settle_44 : decode cX4_settle 44 = .ok (.ifCond .eq 108, 3) := dz_153 (k_X4_settle 0 44 rfl) (k_X4_settle 0 45 rfl) (k_X4_settle 0 46 rfl) rfl
theorem dX4_settle_47 : decode cX4_settle 47 = .ok (.iconst 0, 1) := dz_3 (k_X4_settle 0 47 rfl)
theorem dX4_settle_48 : decode cX4_settle 48 = .ok (.istore_n 2, 1) := dz_61 (k_X4_settle 0 48 rfl)
theorem dX4_settle_49 : decode cX4_settle 49 = .ok (.iconst 0, 1) := dz_3 (k_X4_settle 0 49 rfl)
theorem dX4_settle_50 : decode cX4_settle 50 = .ok (.istore 4, 2) := dz_54 (k_X4_settle 0 50 rfl) (k_X4_settle 0 51 rfl)
theorem dX4_settle_52 : decode cX4_settle 52 = .ok (.iload 4, 2) := dz_21 (k_X4_settle 0 52 rfl) (k_X4_settle 0 53 rfl)
theorem dX4_settle_54 : decode cX4_settle 54 = .ok (.aload_n 0, 1) := dz_42 (k_X4_settle 0 54 rfl)
theorem dX4_settle_55 : decode cX4_settle 55 = .ok (.getfield 54, 3) := dz_180 (k_X4_settle 0 55 rfl) (k_X4_settle 0 56 rfl) (k_X4_settle 0 57 rfl) rfl
theorem dX4_settle_58 : decode cX4_settle 58 = .ok (.if_icmp .ge 37, 3) := dz_162 (k_X4_settle 0 58 rfl) (k_X4_settle 0 59 rfl) (k_X4_settle 0 60 rfl) rfl
theorem dX4_settle_61 : decode cX4_settle 61 = .ok (.aload_n 0, 1) := dz_42 (k_X4_settle 0 61 rfl)
theorem dX4_settle_62 : decode cX4_settle 62 = .ok (.iload_n 1, 1) := dz_27 (k_X4_settle 0 62 rfl)
theorem dX4_settle_63 : decode cX4_settle 63 = .ok (.aload_n 0, 1) := dz_42 (k_X4_settle 0 63 rfl)
theorem dX4_settle_64 : decode cX4_settle 64 = .ok (.getfield 24, 3) := dz_180 (k_X4_settle 1 0 rfl) (k_X4_settle 1 1 rfl) (k_X4_settle 1 2 rfl) rfl
theorem dX4_settle_67 : decode cX4_settle 67 = .ok (.iload 4, 2) := dz_21 (k_X4_settle 1 3 rfl) (k_X4_settle 1 4 rfl)
theorem dX4_settle_69 : decode cX4_settle 69 = .ok (.iconst 5, 1) := dz_8 (k_X4_settle 1 5 rfl)
theorem dX4_settle_70 : decode cX4_settle 70 = .ok (.imul, 1) := dz_104 (k_X4_settle 1 6 rfl)
theorem dX4_settle_71 : decode cX4_settle 71 = .ok (.iconst 1, 1) := dz_4 (k_X4_settle 1 7 rfl)
theorem dX4_settle_72 : decode cX4_settle 72 = .ok (.iadd, 1) := dz_96 (k_X4_settle 1 8 rfl)
theorem dX4_settle_73 : decode cX4_settle 73 = .ok (.iaload, 1) := dz_46 (k_X4_settle 1 9 rfl)
theorem dX4_settle_74 : decode cX4_settle 74 = .ok (.aload_n 0, 1) := dz_42 (k_X4_settle 1 10 rfl)
theorem dX4_settle_75 : decode cX4_settle 75 = .ok (.iload_n 1, 1) := dz_27 (k_X4_settle 1 11 rfl)
theorem dX4_settle_76 : decode cX4_settle 76 = .ok (.iload 4, 2) := dz_21 (k_X4_settle 1 12 rfl) (k_X4_settle 1 13 rfl)
theorem dX4_settle_78 : decode cX4_settle 78 = .ok (.invokevirtual 145, 3) := dz_182 (k_X4_settle 1 14 rfl) (k_X4_settle 1 15 rfl) (k_X4_settle 1 16 rfl) rfl
theorem dX4_settle_81 : decode cX4_settle 81 = .ok (.invokevirtual 148, 3) := dz_182 (k_X4_settle 1 17 rfl) (k_X4_settle 1 18 rfl) (k_X4_settle 1 19 rfl) rfl
theorem dX4_settle_84 : decode cX4_settle 84 = .ok (.ifCond .eq 5, 3) := dz_153 (k_X4_settle 1 20 rfl) (k_X4_settle 1 21 rfl) (k_X4_settle 1 22 rfl) rfl
theorem dX4_settle_87 : decode cX4_settle 87 = .ok (.iconst 1, 1) := dz_4 (k_X4_settle 1 23 rfl)
theorem dX4_settle_88 : decode cX4_settle 88 = .ok (.istore_n 2, 1) := dz_61 (k_X4_settle 1 24 rfl)
theorem dX4_settle_89 : decode cX4_settle 89 = .ok (.iinc 4 1, 3) := dz_132 (k_X4_settle 1 25 rfl) (k_X4_settle 1 26 rfl) (k_X4_settle 1 27 rfl) rfl
theorem dX4_settle_92 : decode cX4_settle 92 = .ok (.goto (-40), 3) := dz_167 (k_X4_settle 1 28 rfl) (k_X4_settle 1 29 rfl) (k_X4_settle 1 30 rfl) rfl
theorem dX4_settle_95 : decode cX4_settle 95 = .ok (.aload_n 0, 1) := dz_42 (k_X4_settle 1 31 rfl)
theorem dX4_settle_96 : decode cX4_settle 96 = .ok (.iload_n 1, 1) := dz_27 (k_X4_settle 1 32 rfl)
theorem dX4_settle_97 : decode cX4_settle 97 = .ok (.invokevirtual 152, 3) := dz_182 (k_X4_settle 1 33 rfl) (k_X4_settle 1 34 rfl) (k_X4_settle 1 35 rfl) rfl
theorem dX4_settle_100 : decode cX4_settle 100 = .ok (.istore 4, 2) := dz_54 (k_X4_settle 1 36 rfl) (k_X4_settle 1 37 rfl)
theorem dX4_settle_102 : decode cX4_settle 102 = .ok (.iconst 0, 1) := dz_3 (k_X4_settle 1 38 rfl)
theorem dX4_settle_103 : decode cX4_settle 103 = .ok (.istore 5, 2) := dz_54 (k_X4_settle 1 39 rfl) (k_X4_settle 1 40 rfl)
theorem dX4_settle_105 : decode cX4_settle 105 = .ok (.iload 5, 2) := dz_21 (k_X4_settle 1 41 rfl) (k_X4_settle 1 42 rfl)
theorem dX4_settle_107 : decode cX4_settle 107 = .ok (.aload_n 0, 1) := dz_42 (k_X4_settle 1 43 rfl)
theorem dX4_settle_108 : decode cX4_settle 108 = .ok (.getfield 48, 3) := dz_180 (k_X4_settle 1 44 rfl) (k_X4_settle 1 45 rfl) (k_X4_settle 1 46 rfl) rfl
theorem dX4_settle_111 : decode cX4_settle 111 = .ok (.if_icmp .ge 35, 3) := dz_162 (k_X4_settle 1 47 rfl) (k_X4_settle 1 48 rfl) (k_X4_settle 1 49 rfl) rfl
theorem dX4_settle_114 : decode cX4_settle 114 = .ok (.aload_n 0, 1) := dz_42 (k_X4_settle 1 50 rfl)
theorem dX4_settle_115 : decode cX4_settle 115 = .ok (.iload_n 1, 1) := dz_27 (k_X4_settle 1 51 rfl)
theorem dX4_settle_116 : decode cX4_settle 116 = .ok (.iload 5, 2) := dz_21 (k_X4_settle 1 52 rfl) (k_X4_settle 1 53 rfl)
theorem dX4_settle_118 : decode cX4_settle 118 = .ok (.aload_n 0, 1) := dz_42 (k_X4_settle 1 54 rfl)
theorem dX4_settle_119 : decode cX4_settle 119 = .ok (.bipush 14, 2) := dz_16 (k_X4_settle 1 55 rfl) (k_X4_settle 1 56 rfl) rfl
theorem dX4_settle_121 : decode cX4_settle 121 = .ok (.iload 5, 2) := dz_21 (k_X4_settle 1 57 rfl) (k_X4_settle 1 58 rfl)
theorem dX4_settle_123 : decode cX4_settle 123 = .ok (.invokevirtual 155, 3) := dz_182 (k_X4_settle 1 59 rfl) (k_X4_settle 1 60 rfl) (k_X4_settle 1 61 rfl) rfl
theorem dX4_settle_126 : decode cX4_settle 126 = .ok (.iload 4, 2) := dz_21 (k_X4_settle 1 62 rfl) (k_X4_settle 1 63 rfl)
theorem dX4_settle_128 : decode cX4_settle 128 = .ok (.iadd, 1) := dz_96 (k_X4_settle 2 0 rfl)
theorem dX4_settle_129 : decode cX4_settle 129 = .ok (.invokestatic 158, 3) := dz_184 (k_X4_settle 2 1 rfl) (k_X4_settle 2 2 rfl) (k_X4_settle 2 3 rfl) rfl
theorem dX4_settle_132 : decode cX4_settle 132 = .ok (.invokevirtual 148, 3) := dz_182 (k_X4_settle 2 4 rfl) (k_X4_settle 2 5 rfl) (k_X4_settle 2 6 rfl) rfl
theorem dX4_settle_135 : decode cX4_settle 135 = .ok (.ifCond .eq 5, 3) := dz_153 (k_X4_settle 2 7 rfl) (k_X4_settle 2 8 rfl) (k_X4_settle 2 9 rfl) rfl
theorem dX4_settle_138 : decode cX4_settle 138 = .ok (.iconst 1, 1) := dz_4 (k_X4_settle 2 10 rfl)
theorem dX4_settle_139 : decode cX4_settle 139 = .ok (.istore_n 2, 1) := dz_61 (k_X4_settle 2 11 rfl)
theorem dX4_settle_140 : decode cX4_settle 140 = .ok (.iinc 5 1, 3) := dz_132 (k_X4_settle 2 12 rfl) (k_X4_settle 2 13 rfl) (k_X4_settle 2 14 rfl) rfl
theorem dX4_settle_143 : decode cX4_settle 143 = .ok (.goto (-38), 3) := dz_167 (k_X4_settle 2 15 rfl) (k_X4_settle 2 16 rfl) (k_X4_settle 2 17 rfl) rfl
theorem dX4_settle_146 : decode cX4_settle 146 = .ok (.iinc 3 1, 3) := dz_132 (k_X4_settle 2 18 rfl) (k_X4_settle 2 19 rfl) (k_X4_settle 2 20 rfl) rfl
theorem dX4_settle_149 : decode cX4_settle 149 = .ok (.goto (-112), 3) := dz_167 (k_X4_settle 2 21 rfl) (k_X4_settle 2 22 rfl) (k_X4_settle 2 23 rfl) rfl
theorem dX4_settle_152 : decode cX4_settle 152 = .ok (.return_, 1) := dz_177 (k_X4_settle 2 24 rfl)
def B_X4_slotOf : List (List Nat) := [[3, 61, 28, 42, 180, 0, 51, 162, 0, 21, 42, 180, 0, 21, 28, 46, 27, 160, 0, 5, 28, 172, 132, 2, 1, 167, 255, 233, 2, 172]]
theorem k_X4_slotOf (j i : Nat) {b : Nat} (h : (B_X4_slotOf[j]?.bind fun c => c[i]?) = some b) : s_by cX4_slotOf (64 * j + i) b := s_byC (L := B_X4_slotOf) (by decide +kernel) (by decide +kernel) j i h
theorem dX4_slotOf_0 : decode cX4_slotOf 0 = .ok (.iconst 0, 1) := dz_3 (k_X4_slotOf 0 0 rfl)
theorem dX4_slotOf_1 : decode cX4_slotOf 1 = .ok (.istore_n 2, 1) := dz_61 (k_X4_slotOf 0 1 rfl)
theorem dX4_slotOf_2 : decode cX4_slotOf 2 = .ok (.iload_n 2, 1) := dz_28 (k_X4_slotOf 0 2 rfl)
theorem dX4_slotOf_3 : decode cX4_slotOf 3 = .ok (.aload_n 0, 1) := dz_42 (k_X4_slotOf 0 3 rfl)
theorem dX4_slotOf_4 : decode cX4_slotOf 4 = .ok (.getfield 51, 3) := dz_180 (k_X4_slotOf 0 4 rfl) (k_X4_slotOf 0 5 rfl) (k_X4_slotOf 0 6 rfl) rfl
theorem dX4_slotOf_7 : decode cX4_slotOf 7 = .ok (.if_icmp .ge 21, 3) := dz_162 (k_X4_slotOf 0 7 rfl) (k_X4_slotOf 0 8 rfl) (k_X4_slotOf 0 9 rfl) rfl
theorem dX4_slotOf_10 : decode cX4_slotOf 10 = .ok (.aload_n 0, 1) := dz_42 (k_X4_slotOf 0 10 rfl)
theorem dX4_slotOf_11 : decode cX4_slotOf 11 = .ok (.getfield 21, 3) := dz_180 (k_X4_slotOf 0 11 rfl) (k_X4_slotOf 0 12 rfl) (k_X4_slotOf 0 13 rfl) rfl
theorem dX4_slotOf_14 : decode cX4_slotOf 14 = .ok (.iload_n 2, 1) := dz_28 (k_X4_slotOf 0 14 rfl)
theorem dX4_slotOf_15 : decode cX4_slotOf 15 = .ok (.iaload, 1) := dz_46 (k_X4_slotOf 0 15 rfl)
theorem dX4_slotOf_16 : decode cX4_slotOf 16 = .ok (.iload_n 1, 1) := dz_27 (k_X4_slotOf 0 16 rfl)
theorem dX4_slotOf_17 : decode cX4_slotOf 17 = .ok (.if_icmp .ne 5, 3) := dz_160 (k_X4_slotOf 0 17 rfl) (k_X4_slotOf 0 18 rfl) (k_X4_slotOf 0 19 rfl) rfl
theorem dX4_slotOf_20 : decode cX4_slotOf 20 = .ok (.iload_n 2, 1) := dz_28 (k_X4_slotOf 0 20 rfl)
theorem dX4_slotOf_21 : decode cX4_slotOf 21 = .ok (.ireturn, 1) := dz_172 (k_X4_slotOf 0 21 rfl)
theorem dX4_slotOf_22 : decode cX4_slotOf 22 = .ok (.iinc 2 1, 3) := dz_132 (k_X4_slotOf 0 22 rfl) (k_X4_slotOf 0 23 rfl) (k_X4_slotOf 0 24 rfl) rfl
theorem dX4_slotOf_25 : decode cX4_slotOf 25 = .ok (.goto (-23), 3) := dz_167 (k_X4_slotOf 0 25 rfl) (k_X4_slotOf 0 26 rfl) (k_X4_slotOf 0 27 rfl) rfl
theorem dX4_slotOf_28 : decode cX4_slotOf 28 = .ok (.iconst (-1), 1) := dz_2 (k_X4_slotOf 0 28 rfl)
theorem dX4_slotOf_29 : decode cX4_slotOf 29 = .ok (.ireturn, 1) := dz_172 (k_X4_slotOf 0 29 rfl)
def B_X5_byteAt : List (List Nat) := [[27, 155, 0, 31, 27, 42, 180, 0, 23, 162, 0, 23, 27, 17, 1, 144, 162, 0, 16, 42, 180, 0, 15, 27, 51, 17, 0, 255, 126, 167, 0, 4, 2, 172]]
theorem k_X5_byteAt (j i : Nat) {b : Nat} (h : (B_X5_byteAt[j]?.bind fun c => c[i]?) = some b) : s_by cX5_byteAt (64 * j + i) b := s_byC (L := B_X5_byteAt) (by decide +kernel) (by decide +kernel) j i h
theorem dX5_byteAt_0 : decode cX5_byteAt 0 = .ok (.iload_n 1, 1) := dz_27 (k_X5_byteAt 0 0 rfl)
theorem dX5_byteAt_1 : decode cX5_byteAt 1 = .ok (.ifCond .lt 31, 3) := dz_155 (k_X5_byteAt 0 1 rfl) (k_X5_byteAt 0 2 rfl) (k_X5_byteAt 0 3 rfl) rfl
theorem dX5_byteAt_4 : decode cX5_byteAt 4 = .ok (.iload_n 1, 1) := dz_27 (k_X5_byteAt 0 4 rfl)
theorem dX5_byteAt_5 : decode cX5_byteAt 5 = .ok (.aload_n 0, 1) := dz_42 (k_X5_byteAt 0 5 rfl)
theorem dX5_byteAt_6 : decode cX5_byteAt 6 = .ok (.getfield 23, 3) := dz_180 (k_X5_byteAt 0 6 rfl) (k_X5_byteAt 0 7 rfl) (k_X5_byteAt 0 8 rfl) rfl
theorem dX5_byteAt_9 : decode cX5_byteAt 9 = .ok (.if_icmp .ge 23, 3) := dz_162 (k_X5_byteAt 0 9 rfl) (k_X5_byteAt 0 10 rfl) (k_X5_byteAt 0 11 rfl) rfl
theorem dX5_byteAt_12 : decode cX5_byteAt 12 = .ok (.iload_n 1, 1) := dz_27 (k_X5_byteAt 0 12 rfl)
theorem dX5_byteAt_13 : decode cX5_byteAt 13 = .ok (.sipush 400, 3) := dz_17 (k_X5_byteAt 0 13 rfl) (k_X5_byteAt 0 14 rfl) (k_X5_byteAt 0 15 rfl) rfl
theorem dX5_byteAt_16 : decode cX5_byteAt 16 = .ok (.if_icmp .ge 16, 3) := dz_162 (k_X5_byteAt 0 16 rfl) (k_X5_byteAt 0 17 rfl) (k_X5_byteAt 0 18 rfl) rfl
theorem dX5_byteAt_19 : decode cX5_byteAt 19 = .ok (.aload_n 0, 1) := dz_42 (k_X5_byteAt 0 19 rfl)
theorem dX5_byteAt_20 : decode cX5_byteAt 20 = .ok (.getfield 15, 3) := dz_180 (k_X5_byteAt 0 20 rfl) (k_X5_byteAt 0 21 rfl) (k_X5_byteAt 0 22 rfl) rfl
theorem dX5_byteAt_23 : decode cX5_byteAt 23 = .ok (.iload_n 1, 1) := dz_27 (k_X5_byteAt 0 23 rfl)
theorem dX5_byteAt_24 : decode cX5_byteAt 24 = .ok (.baload, 1) := dz_51 (k_X5_byteAt 0 24 rfl)
theorem dX5_byteAt_25 : decode cX5_byteAt 25 = .ok (.sipush 255, 3) := dz_17 (k_X5_byteAt 0 25 rfl) (k_X5_byteAt 0 26 rfl) (k_X5_byteAt 0 27 rfl) rfl
theorem dX5_byteAt_28 : decode cX5_byteAt 28 = .ok (.iand, 1) := dz_126 (k_X5_byteAt 0 28 rfl)
theorem dX5_byteAt_29 : decode cX5_byteAt 29 = .ok (.goto 4, 3) := dz_167 (k_X5_byteAt 0 29 rfl) (k_X5_byteAt 0 30 rfl) (k_X5_byteAt 0 31 rfl) rfl
theorem dX5_byteAt_32 : decode cX5_byteAt 32 = .ok (.iconst (-1), 1) := dz_2 (k_X5_byteAt 0 32 rfl)
theorem dX5_byteAt_33 : decode cX5_byteAt 33 = .ok (.ireturn, 1) := dz_172 (k_X5_byteAt 0 33 rfl)
def B_X5_cut : List (List Nat) := [[27, 155, 0, 11, 27, 42, 180, 0, 23, 164, 0, 5, 3, 172, 42, 27, 181, 0, 23, 4, 172]]
theorem k_X5_cut (j i : Nat) {b : Nat} (h : (B_X5_cut[j]?.bind fun c => c[i]?) = some b) : s_by cX5_cut (64 * j + i) b := s_byC (L := B_X5_cut) (by decide +kernel) (by decide +kernel) j i h
theorem dX5_cut_0 : decode cX5_cut 0 = .ok (.iload_n 1, 1) := dz_27 (k_X5_cut 0 0 rfl)
theorem dX5_cut_1 : decode cX5_cut 1 = .ok (.ifCond .lt 11, 3) := dz_155 (k_X5_cut 0 1 rfl) (k_X5_cut 0 2 rfl) (k_X5_cut 0 3 rfl) rfl
theorem dX5_cut_4 : decode cX5_cut 4 = .ok (.iload_n 1, 1) := dz_27 (k_X5_cut 0 4 rfl)
theorem dX5_cut_5 : decode cX5_cut 5 = .ok (.aload_n 0, 1) := dz_42 (k_X5_cut 0 5 rfl)
theorem dX5_cut_6 : decode cX5_cut 6 = .ok (.getfield 23, 3) := dz_180 (k_X5_cut 0 6 rfl) (k_X5_cut 0 7 rfl) (k_X5_cut 0 8 rfl) rfl
theorem dX5_cut_9 : decode cX5_cut 9 = .ok (.if_icmp .le 5, 3) := dz_164 (k_X5_cut 0 9 rfl) (k_X5_cut 0 10 rfl) (k_X5_cut 0 11 rfl) rfl
theorem dX5_cut_12 : decode cX5_cut 12 = .ok (.iconst 0, 1) := dz_3 (k_X5_cut 0 12 rfl)
theorem dX5_cut_13 : decode cX5_cut 13 = .ok (.ireturn, 1) := dz_172 (k_X5_cut 0 13 rfl)
theorem dX5_cut_14 : decode cX5_cut 14 = .ok (.aload_n 0, 1) := dz_42 (k_X5_cut 0 14 rfl)
theorem dX5_cut_15 : decode cX5_cut 15 = .ok (.iload_n 1, 1) := dz_27 (k_X5_cut 0 15 rfl)
theorem dX5_cut_16 : decode cX5_cut 16 = .ok (.putfield 23, 3) := dz_181 (k_X5_cut 0 16 rfl) (k_X5_cut 0 17 rfl) (k_X5_cut 0 18 rfl) rfl
theorem dX5_cut_19 : decode cX5_cut 19 = .ok (.iconst 1, 1) := dz_4 (k_X5_cut 0 19 rfl)
theorem dX5_cut_20 : decode cX5_cut 20 = .ok (.ireturn, 1) := dz_172 (k_X5_cut 0 20 rfl)
def B_X5_fail : List (List Nat) := [[42, 180, 0, 9, 2, 160, 0, 8, 42, 27, 181, 0, 9, 2, 172]]
theorem k_X5_fail (j i : Nat) {b : Nat} (h : (B_X5_fail[j]?.bind fun c => c[i]?) = some b) : s_by cX5_fail (64 * j + i) b := s_byC (L := B_X5_fail) (by decide +kernel) (by decide +kernel) j i h
theorem dX5_fail_0 : decode cX5_fail 0 = .ok (.aload_n 0, 1) := dz_42 (k_X5_fail 0 0 rfl)
theorem dX5_fail_1 : decode cX5_fail 1 = .ok (.getfield 9, 3) := dz_180 (k_X5_fail 0 1 rfl) (k_X5_fail 0 2 rfl) (k_X5_fail 0 3 rfl) rfl
theorem dX5_fail_4 : decode cX5_fail 4 = .ok (.iconst (-1), 1) := dz_2 (k_X5_fail 0 4 rfl)
theorem dX5_fail_5 : decode cX5_fail 5 = .ok (.if_icmp .ne 8, 3) := dz_160 (k_X5_fail 0 5 rfl) (k_X5_fail 0 6 rfl) (k_X5_fail 0 7 rfl) rfl
theorem dX5_fail_8 : decode cX5_fail 8 = .ok (.aload_n 0, 1) := dz_42 (k_X5_fail 0 8 rfl)
theorem dX5_fail_9 : decode cX5_fail 9 = .ok (.iload_n 1, 1) := dz_27 (k_X5_fail 0 9 rfl)
theorem dX5_fail_10 : decode cX5_fail 10 = .ok (.putfield 9, 3) := dz_181 (k_X5_fail 0 10 rfl) (k_X5_fail 0 11 rfl) (k_X5_fail 0 12 rfl) rfl
theorem dX5_fail_13 : decode cX5_fail 13 = .ok (.iconst (-1), 1) := dz_2 (k_X5_fail 0 13 rfl)
theorem dX5_fail_14 : decode cX5_fail 14 = .ok (.ireturn, 1) := dz_172 (k_X5_fail 0 14 rfl)
def B_X5_hasRoom : List (List Nat) := [[42, 180, 0, 23, 27, 96, 17, 1, 144, 163, 0, 7, 4, 167, 0, 4, 3, 172]]
theorem k_X5_hasRoom (j i : Nat) {b : Nat} (h : (B_X5_hasRoom[j]?.bind fun c => c[i]?) = some b) : s_by cX5_hasRoom (64 * j + i) b := s_byC (L := B_X5_hasRoom) (by decide +kernel) (by decide +kernel) j i h
theorem dX5_hasRoom_0 : decode cX5_hasRoom 0 = .ok (.aload_n 0, 1) := dz_42 (k_X5_hasRoom 0 0 rfl)
theorem dX5_hasRoom_1 : decode cX5_hasRoom 1 = .ok (.getfield 23, 3) := dz_180 (k_X5_hasRoom 0 1 rfl) (k_X5_hasRoom 0 2 rfl) (k_X5_hasRoom 0 3 rfl) rfl
theorem dX5_hasRoom_4 : decode cX5_hasRoom 4 = .ok (.iload_n 1, 1) := dz_27 (k_X5_hasRoom 0 4 rfl)
theorem dX5_hasRoom_5 : decode cX5_hasRoom 5 = .ok (.iadd, 1) := dz_96 (k_X5_hasRoom 0 5 rfl)
theorem dX5_hasRoom_6 : decode cX5_hasRoom 6 = .ok (.sipush 400, 3) := dz_17 (k_X5_hasRoom 0 6 rfl) (k_X5_hasRoom 0 7 rfl) (k_X5_hasRoom 0 8 rfl) rfl
theorem dX5_hasRoom_9 : decode cX5_hasRoom 9 = .ok (.if_icmp .gt 7, 3) := dz_163 (k_X5_hasRoom 0 9 rfl) (k_X5_hasRoom 0 10 rfl) (k_X5_hasRoom 0 11 rfl) rfl
theorem dX5_hasRoom_12 : decode cX5_hasRoom 12 = .ok (.iconst 1, 1) := dz_4 (k_X5_hasRoom 0 12 rfl)
theorem dX5_hasRoom_13 : decode cX5_hasRoom 13 = .ok (.goto 4, 3) := dz_167 (k_X5_hasRoom 0 13 rfl) (k_X5_hasRoom 0 14 rfl) (k_X5_hasRoom 0 15 rfl) rfl
theorem dX5_hasRoom_16 : decode cX5_hasRoom 16 = .ok (.iconst 0, 1) := dz_3 (k_X5_hasRoom 0 16 rfl)
theorem dX5_hasRoom_17 : decode cX5_hasRoom 17 = .ok (.ireturn, 1) := dz_172 (k_X5_hasRoom 0 17 rfl)
def B_X5_init : List (List Nat) := [[42, 183, 0, 3, 42, 2, 181, 0, 9, 42, 17, 1, 144, 188, 8, 181, 0, 15, 42, 43, 181, 0, 19, 177]]
theorem k_X5_init (j i : Nat) {b : Nat} (h : (B_X5_init[j]?.bind fun c => c[i]?) = some b) : s_by cX5_init (64 * j + i) b := s_byC (L := B_X5_init) (by decide +kernel) (by decide +kernel) j i h
theorem dX5_init_0 : decode cX5_init 0 = .ok (.aload_n 0, 1) := dz_42 (k_X5_init 0 0 rfl)
theorem dX5_init_1 : decode cX5_init 1 = .ok (.invokespecial 3, 3) := dz_183 (k_X5_init 0 1 rfl) (k_X5_init 0 2 rfl) (k_X5_init 0 3 rfl) rfl
theorem dX5_init_4 : decode cX5_init 4 = .ok (.aload_n 0, 1) := dz_42 (k_X5_init 0 4 rfl)
theorem dX5_init_5 : decode cX5_init 5 = .ok (.iconst (-1), 1) := dz_2 (k_X5_init 0 5 rfl)
theorem dX5_init_6 : decode cX5_init 6 = .ok (.putfield 9, 3) := dz_181 (k_X5_init 0 6 rfl) (k_X5_init 0 7 rfl) (k_X5_init 0 8 rfl) rfl
theorem dX5_init_9 : decode cX5_init 9 = .ok (.aload_n 0, 1) := dz_42 (k_X5_init 0 9 rfl)
theorem dX5_init_10 : decode cX5_init 10 = .ok (.sipush 400, 3) := dz_17 (k_X5_init 0 10 rfl) (k_X5_init 0 11 rfl) (k_X5_init 0 12 rfl) rfl
theorem dX5_init_13 : decode cX5_init 13 = .ok (.newarray .byte, 2) := by decide +kernel
theorem dX5_init_15 : decode cX5_init 15 = .ok (.putfield 15, 3) := dz_181 (k_X5_init 0 15 rfl) (k_X5_init 0 16 rfl) (k_X5_init 0 17 rfl) rfl
theorem dX5_init_18 : decode cX5_init 18 = .ok (.aload_n 0, 1) := dz_42 (k_X5_init 0 18 rfl)
theorem dX5_init_19 : decode cX5_init 19 = .ok (.aload_n 1, 1) := dz_43 (k_X5_init 0 19 rfl)
theorem dX5_init_20 : decode cX5_init 20 = .ok (.putfield 19, 3) := dz_181 (k_X5_init 0 20 rfl) (k_X5_init 0 21 rfl) (k_X5_init 0 22 rfl) rfl
theorem dX5_init_23 : decode cX5_init 23 = .ok (.return_, 1) := dz_177 (k_X5_init 0 23 rfl)
def B_X5_isLetter : List (List Nat) := [[42, 27, 182, 0, 96, 61, 28, 16, 97, 161, 0, 13, 28, 16, 122, 163, 0, 7, 4, 167, 0, 4, 3, 172]]
theorem k_X5_isLetter (j i : Nat) {b : Nat} (h : (B_X5_isLetter[j]?.bind fun c => c[i]?) = some b) : s_by cX5_isLetter (64 * j + i) b := s_byC (L := B_X5_isLetter) (by decide +kernel) (by decide +kernel) j i h
theorem dX5_isLetter_0 : decode cX5_isLetter 0 = .ok (.aload_n 0, 1) := dz_42 (k_X5_isLetter 0 0 rfl)
theorem dX5_isLetter_1 : decode cX5_isLetter 1 = .ok (.iload_n 1, 1) := dz_27 (k_X5_isLetter 0 1 rfl)
theorem dX5_isLetter_2 : decode cX5_isLetter 2 = .ok (.invokevirtual 96, 3) := dz_182 (k_X5_isLetter 0 2 rfl) (k_X5_isLetter 0 3 rfl) (k_X5_isLetter 0 4 rfl) rfl
theorem dX5_isLetter_5 : decode cX5_isLetter 5 = .ok (.istore_n 2, 1) := dz_61 (k_X5_isLetter 0 5 rfl)
theorem dX5_isLetter_6 : decode cX5_isLetter 6 = .ok (.iload_n 2, 1) := dz_28 (k_X5_isLetter 0 6 rfl)
theorem dX5_isLetter_7 : decode cX5_isLetter 7 = .ok (.bipush 97, 2) := dz_16 (k_X5_isLetter 0 7 rfl) (k_X5_isLetter 0 8 rfl) rfl
theorem dX5_isLetter_9 : decode cX5_isLetter 9 = .ok (.if_icmp .lt 13, 3) := dz_161 (k_X5_isLetter 0 9 rfl) (k_X5_isLetter 0 10 rfl) (k_X5_isLetter 0 11 rfl) rfl
theorem dX5_isLetter_12 : decode cX5_isLetter 12 = .ok (.iload_n 2, 1) := dz_28 (k_X5_isLetter 0 12 rfl)
theorem dX5_isLetter_13 : decode cX5_isLetter 13 = .ok (.bipush 122, 2) := dz_16 (k_X5_isLetter 0 13 rfl) (k_X5_isLetter 0 14 rfl) rfl
theorem dX5_isLetter_15 : decode cX5_isLetter 15 = .ok (.if_icmp .gt 7, 3) := dz_163 (k_X5_isLetter 0 15 rfl) (k_X5_isLetter 0 16 rfl) (k_X5_isLetter 0 17 rfl) rfl
theorem dX5_isLetter_18 : decode cX5_isLetter 18 = .ok (.iconst 1, 1) := dz_4 (k_X5_isLetter 0 18 rfl)
theorem dX5_isLetter_19 : decode cX5_isLetter 19 = .ok (.goto 4, 3) := dz_167 (k_X5_isLetter 0 19 rfl) (k_X5_isLetter 0 20 rfl) (k_X5_isLetter 0 21 rfl) rfl
theorem dX5_isLetter_22 : decode cX5_isLetter 22 = .ok (.iconst 0, 1) := dz_3 (k_X5_isLetter 0 22 rfl)
theorem dX5_isLetter_23 : decode cX5_isLetter 23 = .ok (.ireturn, 1) := dz_172 (k_X5_isLetter 0 23 rfl)
def B_X5_isWord : List (List Nat) := [[28, 27, 100, 45, 182, 0, 119, 159, 0, 5, 3, 172, 3, 54, 4, 21, 4, 45, 182, 0, 119, 162, 0, 28, 42, 27, 21, 4, 96, 182, 0, 96, 45, 21, 4, 182, 0, 124, 159, 0, 5, 3, 172, 132, 4, 1, 167, 255, 225, 4, 172]]
theorem k_X5_isWord (j i : Nat) {b : Nat} (h : (B_X5_isWord[j]?.bind fun c => c[i]?) = some b) : s_by cX5_isWord (64 * j + i) b := s_byC (L := B_X5_isWord) (by decide +kernel) (by decide +kernel) j i h
theorem dX5_isWord_0 : decode cX5_isWord 0 = .ok (.iload_n 2, 1) := dz_28 (k_X5_isWord 0 0 rfl)
theorem dX5_isWord_1 : decode cX5_isWord 1 = .ok (.iload_n 1, 1) := dz_27 (k_X5_isWord 0 1 rfl)
theorem dX5_isWord_2 : decode cX5_isWord 2 = .ok (.isub, 1) := dz_100 (k_X5_isWord 0 2 rfl)
theorem dX5_isWord_3 : decode cX5_isWord 3 = .ok (.aload_n 3, 1) := dz_45 (k_X5_isWord 0 3 rfl)
theorem dX5_isWord_4 : decode cX5_isWord 4 = .ok (.invokevirtual 119, 3) := dz_182 (k_X5_isWord 0 4 rfl) (k_X5_isWord 0 5 rfl) (k_X5_isWord 0 6 rfl) rfl
theorem dX5_isWord_7 : decode cX5_isWord 7 = .ok (.if_icmp .eq 5, 3) := dz_159 (k_X5_isWord 0 7 rfl) (k_X5_isWord 0 8 rfl) (k_X5_isWord 0 9 rfl) rfl
theorem dX5_isWord_10 : decode cX5_isWord 10 = .ok (.iconst 0, 1) := dz_3 (k_X5_isWord 0 10 rfl)
theorem dX5_isWord_11 : decode cX5_isWord 11 = .ok (.ireturn, 1) := dz_172 (k_X5_isWord 0 11 rfl)
theorem dX5_isWord_12 : decode cX5_isWord 12 = .ok (.iconst 0, 1) := dz_3 (k_X5_isWord 0 12 rfl)
theorem dX5_isWord_13 : decode cX5_isWord 13 = .ok (.istore 4, 2) := dz_54 (k_X5_isWord 0 13 rfl) (k_X5_isWord 0 14 rfl)
theorem dX5_isWord_15 : decode cX5_isWord 15 = .ok (.iload 4, 2) := dz_21 (k_X5_isWord 0 15 rfl) (k_X5_isWord 0 16 rfl)
theorem dX5_isWord_17 : decode cX5_isWord 17 = .ok (.aload_n 3, 1) := dz_45 (k_X5_isWord 0 17 rfl)
theorem dX5_isWord_18 : decode cX5_isWord 18 = .ok (.invokevirtual 119, 3) := dz_182 (k_X5_isWord 0 18 rfl) (k_X5_isWord 0 19 rfl) (k_X5_isWord 0 20 rfl) rfl
theorem dX5_isWord_21 : decode cX5_isWord 21 = .ok (.if_icmp .ge 28, 3) := dz_162 (k_X5_isWord 0 21 rfl) (k_X5_isWord 0 22 rfl) (k_X5_isWord 0 23 rfl) rfl
theorem dX5_isWord_24 : decode cX5_isWord 24 = .ok (.aload_n 0, 1) := dz_42 (k_X5_isWord 0 24 rfl)
theorem dX5_isWord_25 : decode cX5_isWord 25 = .ok (.iload_n 1, 1) := dz_27 (k_X5_isWord 0 25 rfl)
theorem dX5_isWord_26 : decode cX5_isWord 26 = .ok (.iload 4, 2) := dz_21 (k_X5_isWord 0 26 rfl) (k_X5_isWord 0 27 rfl)
theorem dX5_isWord_28 : decode cX5_isWord 28 = .ok (.iadd, 1) := dz_96 (k_X5_isWord 0 28 rfl)
theorem dX5_isWord_29 : decode cX5_isWord 29 = .ok (.invokevirtual 96, 3) := dz_182 (k_X5_isWord 0 29 rfl) (k_X5_isWord 0 30 rfl) (k_X5_isWord 0 31 rfl) rfl
theorem dX5_isWord_32 : decode cX5_isWord 32 = .ok (.aload_n 3, 1) := dz_45 (k_X5_isWord 0 32 rfl)
theorem dX5_isWord_33 : decode cX5_isWord 33 = .ok (.iload 4, 2) := dz_21 (k_X5_isWord 0 33 rfl) (k_X5_isWord 0 34 rfl)
theorem dX5_isWord_35 : decode cX5_isWord 35 = .ok (.invokevirtual 124, 3) := dz_182 (k_X5_isWord 0 35 rfl) (k_X5_isWord 0 36 rfl) (k_X5_isWord 0 37 rfl) rfl
theorem dX5_isWord_38 : decode cX5_isWord 38 = .ok (.if_icmp .eq 5, 3) := dz_159 (k_X5_isWord 0 38 rfl) (k_X5_isWord 0 39 rfl) (k_X5_isWord 0 40 rfl) rfl
theorem dX5_isWord_41 : decode cX5_isWord 41 = .ok (.iconst 0, 1) := dz_3 (k_X5_isWord 0 41 rfl)
theorem dX5_isWord_42 : decode cX5_isWord 42 = .ok (.ireturn, 1) := dz_172 (k_X5_isWord 0 42 rfl)
theorem dX5_isWord_43 : decode cX5_isWord 43 = .ok (.iinc 4 1, 3) := dz_132 (k_X5_isWord 0 43 rfl) (k_X5_isWord 0 44 rfl) (k_X5_isWord 0 45 rfl) rfl
theorem dX5_isWord_46 : decode cX5_isWord 46 = .ok (.goto (-31), 3) := dz_167 (k_X5_isWord 0 46 rfl) (k_X5_isWord 0 47 rfl) (k_X5_isWord 0 48 rfl) rfl
theorem dX5_isWord_49 : decode cX5_isWord 49 = .ok (.iconst 1, 1) := dz_4 (k_X5_isWord 0 49 rfl)
theorem dX5_isWord_50 : decode cX5_isWord 50 = .ok (.ireturn, 1) := dz_172 (k_X5_isWord 0 50 rfl)
def B_X5_join : List (List Nat) := [[42, 180, 0, 9, 2, 160, 0, 16, 42, 180, 0, 19, 27, 28, 29, 182, 0, 116, 167, 0, 4, 2, 172]]
theorem k_X5_join (j i : Nat) {b : Nat} (h : (B_X5_join[j]?.bind fun c => c[i]?) = some b) : s_by cX5_join (64 * j + i) b := s_byC (L := B_X5_join) (by decide +kernel) (by decide +kernel) j i h
theorem dX5_join_0 : decode cX5_join 0 = .ok (.aload_n 0, 1) := dz_42 (k_X5_join 0 0 rfl)
theorem dX5_join_1 : decode cX5_join 1 = .ok (.getfield 9, 3) := dz_180 (k_X5_join 0 1 rfl) (k_X5_join 0 2 rfl) (k_X5_join 0 3 rfl) rfl
theorem dX5_join_4 : decode cX5_join 4 = .ok (.iconst (-1), 1) := dz_2 (k_X5_join 0 4 rfl)
theorem dX5_join_5 : decode cX5_join 5 = .ok (.if_icmp .ne 16, 3) := dz_160 (k_X5_join 0 5 rfl) (k_X5_join 0 6 rfl) (k_X5_join 0 7 rfl) rfl
theorem dX5_join_8 : decode cX5_join 8 = .ok (.aload_n 0, 1) := dz_42 (k_X5_join 0 8 rfl)
theorem dX5_join_9 : decode cX5_join 9 = .ok (.getfield 19, 3) := dz_180 (k_X5_join 0 9 rfl) (k_X5_join 0 10 rfl) (k_X5_join 0 11 rfl) rfl
theorem dX5_join_12 : decode cX5_join 12 = .ok (.iload_n 1, 1) := dz_27 (k_X5_join 0 12 rfl)
theorem dX5_join_13 : decode cX5_join 13 = .ok (.iload_n 2, 1) := dz_28 (k_X5_join 0 13 rfl)
theorem dX5_join_14 : decode cX5_join 14 = .ok (.iload_n 3, 1) := dz_29 (k_X5_join 0 14 rfl)
theorem dX5_join_15 : decode cX5_join 15 = .ok (.invokevirtual 116, 3) := dz_182 (k_X5_join 0 15 rfl) (k_X5_join 0 16 rfl) (k_X5_join 0 17 rfl) rfl
theorem dX5_join_18 : decode cX5_join 18 = .ok (.goto 4, 3) := dz_167 (k_X5_join 0 18 rfl) (k_X5_join 0 19 rfl) (k_X5_join 0 20 rfl) rfl
theorem dX5_join_21 : decode cX5_join 21 = .ok (.iconst (-1), 1) := dz_2 (k_X5_join 0 21 rfl)
theorem dX5_join_22 : decode cX5_join 22 = .ok (.ireturn, 1) := dz_172 (k_X5_join 0 22 rfl)
def B_X5_letterOf : List (List Nat) := [[26, 170, 0, 0, 0, 0, 0, 83, 0, 0, 0, 102, 0, 0, 0, 115, 0, 0, 0, 79, 0, 0, 0, 81, 0, 0, 0, 83, 0, 0, 0, 83, 0, 0, 0, 83, 0, 0, 0, 83, 0, 0, 0, 83, 0, 0, 0, 83, 0, 0, 0, 83, 0, 0, 0, 83, 0, 0, 0, 71, 0, 0, 0, 73], [0, 0, 0, 75, 0, 0, 0, 77, 3, 172, 4, 172, 5, 172, 6, 172, 7, 172, 8, 172, 2, 172]]
theorem k_X5_letterOf (j i : Nat) {b : Nat} (h : (B_X5_letterOf[j]?.bind fun c => c[i]?) = some b) : s_by cX5_letterOf (64 * j + i) b := s_byC (L := B_X5_letterOf) (by decide +kernel) (by decide +kernel) j i h
theorem dX5_letterOf_0 : decode cX5_letterOf 0 = .ok (.iload_n 0, 1) := dz_26 (k_X5_letterOf 0 0 rfl)
theorem dX5_letterOf_1 : decode cX5_letterOf 1 = .ok (.tableswitch 83 102 115 #[79, 81, 83, 83, 83, 83, 83, 83, 83, 83, 71, 73, 75, 77], 71) := by decide +kernel
theorem dX5_letterOf_72 : decode cX5_letterOf 72 = .ok (.iconst 0, 1) := dz_3 (k_X5_letterOf 1 8 rfl)
theorem dX5_letterOf_73 : decode cX5_letterOf 73 = .ok (.ireturn, 1) := dz_172 (k_X5_letterOf 1 9 rfl)
theorem dX5_letterOf_74 : decode cX5_letterOf 74 = .ok (.iconst 1, 1) := dz_4 (k_X5_letterOf 1 10 rfl)
theorem dX5_letterOf_75 : decode cX5_letterOf 75 = .ok (.ireturn, 1) := dz_172 (k_X5_letterOf 1 11 rfl)
theorem dX5_letterOf_76 : decode cX5_letterOf 76 = .ok (.iconst 2, 1) := dz_5 (k_X5_letterOf 1 12 rfl)
theorem dX5_letterOf_77 : decode cX5_letterOf 77 = .ok (.ireturn, 1) := dz_172 (k_X5_letterOf 1 13 rfl)
theorem dX5_letterOf_78 : decode cX5_letterOf 78 = .ok (.iconst 3, 1) := dz_6 (k_X5_letterOf 1 14 rfl)
theorem dX5_letterOf_79 : decode cX5_letterOf 79 = .ok (.ireturn, 1) := dz_172 (k_X5_letterOf 1 15 rfl)
theorem dX5_letterOf_80 : decode cX5_letterOf 80 = .ok (.iconst 4, 1) := dz_7 (k_X5_letterOf 1 16 rfl)
theorem dX5_letterOf_81 : decode cX5_letterOf 81 = .ok (.ireturn, 1) := dz_172 (k_X5_letterOf 1 17 rfl)
theorem dX5_letterOf_82 : decode cX5_letterOf 82 = .ok (.iconst 5, 1) := dz_8 (k_X5_letterOf 1 18 rfl)
theorem dX5_letterOf_83 : decode cX5_letterOf 83 = .ok (.ireturn, 1) := dz_172 (k_X5_letterOf 1 19 rfl)
theorem dX5_letterOf_84 : decode cX5_letterOf 84 = .ok (.iconst (-1), 1) := dz_2 (k_X5_letterOf 1 20 rfl)
theorem dX5_letterOf_85 : decode cX5_letterOf 85 = .ok (.ireturn, 1) := dz_172 (k_X5_letterOf 1 21 rfl)
def B_X5_mayGoDeeper : List (List Nat) := [[27, 16, 8, 161, 0, 14, 42, 42, 180, 0, 29, 182, 0, 43, 87, 3, 172, 4, 172]]
theorem k_X5_mayGoDeeper (j i : Nat) {b : Nat} (h : (B_X5_mayGoDeeper[j]?.bind fun c => c[i]?) = some b) : s_by cX5_mayGoDeeper (64 * j + i) b := s_byC (L := B_X5_mayGoDeeper) (by decide +kernel) (by decide +kernel) j i h
theorem dX5_mayGoDeeper_0 : decode cX5_mayGoDeeper 0 = .ok (.iload_n 1, 1) := dz_27 (k_X5_mayGoDeeper 0 0 rfl)
theorem dX5_mayGoDeeper_1 : decode cX5_mayGoDeeper 1 = .ok (.bipush 8, 2) := dz_16 (k_X5_mayGoDeeper 0 1 rfl) (k_X5_mayGoDeeper 0 2 rfl) rfl
theorem dX5_mayGoDeeper_3 : decode cX5_mayGoDeeper 3 = .ok (.if_icmp .lt 14, 3) := dz_161 (k_X5_mayGoDeeper 0 3 rfl) (k_X5_mayGoDeeper 0 4 rfl) (k_X5_mayGoDeeper 0 5 rfl) rfl
theorem dX5_mayGoDeeper_6 : decode cX5_mayGoDeeper 6 = .ok (.aload_n 0, 1) := dz_42 (k_X5_mayGoDeeper 0 6 rfl)
theorem dX5_mayGoDeeper_7 : decode cX5_mayGoDeeper 7 = .ok (.aload_n 0, 1) := dz_42 (k_X5_mayGoDeeper 0 7 rfl)
theorem dX5_mayGoDeeper_8 : decode cX5_mayGoDeeper 8 = .ok (.getfield 29, 3) := dz_180 (k_X5_mayGoDeeper 0 8 rfl) (k_X5_mayGoDeeper 0 9 rfl) (k_X5_mayGoDeeper 0 10 rfl) rfl
theorem dX5_mayGoDeeper_11 : decode cX5_mayGoDeeper 11 = .ok (.invokevirtual 43, 3) := dz_182 (k_X5_mayGoDeeper 0 11 rfl) (k_X5_mayGoDeeper 0 12 rfl) (k_X5_mayGoDeeper 0 13 rfl) rfl
theorem dX5_mayGoDeeper_14 : decode cX5_mayGoDeeper 14 = .ok (.pop, 1) := dz_87 (k_X5_mayGoDeeper 0 14 rfl)
theorem dX5_mayGoDeeper_15 : decode cX5_mayGoDeeper 15 = .ok (.iconst 0, 1) := dz_3 (k_X5_mayGoDeeper 0 15 rfl)
theorem dX5_mayGoDeeper_16 : decode cX5_mayGoDeeper 16 = .ok (.ireturn, 1) := dz_172 (k_X5_mayGoDeeper 0 16 rfl)
theorem dX5_mayGoDeeper_17 : decode cX5_mayGoDeeper 17 = .ok (.iconst 1, 1) := dz_4 (k_X5_mayGoDeeper 0 17 rfl)
theorem dX5_mayGoDeeper_18 : decode cX5_mayGoDeeper 18 = .ok (.ireturn, 1) := dz_172 (k_X5_mayGoDeeper 0 18 rfl)
def B_X5_mayTakeSign : List (List Nat) := [[42, 180, 0, 32, 16, 40, 161, 0, 11, 42, 27, 182, 0, 43, 87, 3, 172, 42, 89, 180, 0, 32, 4, 96, 181, 0, 32, 4, 172]]
theorem k_X5_mayTakeSign (j i : Nat) {b : Nat} (h : (B_X5_mayTakeSign[j]?.bind fun c => c[i]?) = some b) : s_by cX5_mayTakeSign (64 * j + i) b := s_byC (L := B_X5_mayTakeSign) (by decide +kernel) (by decide +kernel) j i h
theorem dX5_mayTakeSign_0 : decode cX5_mayTakeSign 0 = .ok (.aload_n 0, 1) := dz_42 (k_X5_mayTakeSign 0 0 rfl)
theorem dX5_mayTakeSign_1 : decode cX5_mayTakeSign 1 = .ok (.getfield 32, 3) := dz_180 (k_X5_mayTakeSign 0 1 rfl) (k_X5_mayTakeSign 0 2 rfl) (k_X5_mayTakeSign 0 3 rfl) rfl
theorem dX5_mayTakeSign_4 : decode cX5_mayTakeSign 4 = .ok (.bipush 40, 2) := dz_16 (k_X5_mayTakeSign 0 4 rfl) (k_X5_mayTakeSign 0 5 rfl) rfl
theorem dX5_mayTakeSign_6 : decode cX5_mayTakeSign 6 = .ok (.if_icmp .lt 11, 3) := dz_161 (k_X5_mayTakeSign 0 6 rfl) (k_X5_mayTakeSign 0 7 rfl) (k_X5_mayTakeSign 0 8 rfl) rfl
theorem dX5_mayTakeSign_9 : decode cX5_mayTakeSign 9 = .ok (.aload_n 0, 1) := dz_42 (k_X5_mayTakeSign 0 9 rfl)
theorem dX5_mayTakeSign_10 : decode cX5_mayTakeSign 10 = .ok (.iload_n 1, 1) := dz_27 (k_X5_mayTakeSign 0 10 rfl)
theorem dX5_mayTakeSign_11 : decode cX5_mayTakeSign 11 = .ok (.invokevirtual 43, 3) := dz_182 (k_X5_mayTakeSign 0 11 rfl) (k_X5_mayTakeSign 0 12 rfl) (k_X5_mayTakeSign 0 13 rfl) rfl
theorem dX5_mayTakeSign_14 : decode cX5_mayTakeSign 14 = .ok (.pop, 1) := dz_87 (k_X5_mayTakeSign 0 14 rfl)
theorem dX5_mayTakeSign_15 : decode cX5_mayTakeSign 15 = .ok (.iconst 0, 1) := dz_3 (k_X5_mayTakeSign 0 15 rfl)
theorem dX5_mayTakeSign_16 : decode cX5_mayTakeSign 16 = .ok (.ireturn, 1) := dz_172 (k_X5_mayTakeSign 0 16 rfl)
theorem dX5_mayTakeSign_17 : decode cX5_mayTakeSign 17 = .ok (.aload_n 0, 1) := dz_42 (k_X5_mayTakeSign 0 17 rfl)
theorem dX5_mayTakeSign_18 : decode cX5_mayTakeSign 18 = .ok (.dup, 1) := dz_89 (k_X5_mayTakeSign 0 18 rfl)
theorem dX5_mayTakeSign_19 : decode cX5_mayTakeSign 19 = .ok (.getfield 32, 3) := dz_180 (k_X5_mayTakeSign 0 19 rfl) (k_X5_mayTakeSign 0 20 rfl) (k_X5_mayTakeSign 0 21 rfl) rfl
theorem dX5_mayTakeSign_22 : decode cX5_mayTakeSign 22 = .ok (.iconst 1, 1) := dz_4 (k_X5_mayTakeSign 0 22 rfl)
theorem dX5_mayTakeSign_23 : decode cX5_mayTakeSign 23 = .ok (.iadd, 1) := dz_96 (k_X5_mayTakeSign 0 23 rfl)
theorem dX5_mayTakeSign_24 : decode cX5_mayTakeSign 24 = .ok (.putfield 32, 3) := dz_181 (k_X5_mayTakeSign 0 24 rfl) (k_X5_mayTakeSign 0 25 rfl) (k_X5_mayTakeSign 0 26 rfl) rfl
theorem dX5_mayTakeSign_27 : decode cX5_mayTakeSign 27 = .ok (.iconst 1, 1) := dz_4 (k_X5_mayTakeSign 0 27 rfl)
theorem dX5_mayTakeSign_28 : decode cX5_mayTakeSign 28 = .ok (.ireturn, 1) := dz_172 (k_X5_mayTakeSign 0 28 rfl)
def B_X5_peek : List (List Nat) := [[3, 60, 27, 17, 1, 144, 162, 0, 32, 42, 42, 180, 0, 29, 182, 0, 96, 16, 32, 160, 0, 19, 42, 89, 180, 0, 29, 4, 96, 181, 0, 29, 132, 1, 1, 167, 255, 223, 42, 180, 0, 9, 2, 160, 0, 14, 42, 42, 180, 0, 29, 182, 0, 96, 167, 0, 4, 2, 172]]
theorem k_X5_peek (j i : Nat) {b : Nat} (h : (B_X5_peek[j]?.bind fun c => c[i]?) = some b) : s_by cX5_peek (64 * j + i) b := s_byC (L := B_X5_peek) (by decide +kernel) (by decide +kernel) j i h
theorem dX5_peek_0 : decode cX5_peek 0 = .ok (.iconst 0, 1) := dz_3 (k_X5_peek 0 0 rfl)
theorem dX5_peek_1 : decode cX5_peek 1 = .ok (.istore_n 1, 1) := dz_60 (k_X5_peek 0 1 rfl)
theorem dX5_peek_2 : decode cX5_peek 2 = .ok (.iload_n 1, 1) := dz_27 (k_X5_peek 0 2 rfl)
theorem dX5_peek_3 : decode cX5_peek 3 = .ok (.sipush 400, 3) := dz_17 (k_X5_peek 0 3 rfl) (k_X5_peek 0 4 rfl) (k_X5_peek 0 5 rfl) rfl
theorem dX5_peek_6 : decode cX5_peek 6 = .ok (.if_icmp .ge 32, 3) := dz_162 (k_X5_peek 0 6 rfl) (k_X5_peek 0 7 rfl) (k_X5_peek 0 8 rfl) rfl
theorem dX5_peek_9 : decode cX5_peek 9 = .ok (.aload_n 0, 1) := dz_42 (k_X5_peek 0 9 rfl)
theorem dX5_peek_10 : decode cX5_peek 10 = .ok (.aload_n 0, 1) := dz_42 (k_X5_peek 0 10 rfl)
theorem dX5_peek_11 : decode cX5_peek 11 = .ok (.getfield 29, 3) := dz_180 (k_X5_peek 0 11 rfl) (k_X5_peek 0 12 rfl) (k_X5_peek 0 13 rfl) rfl
theorem dX5_peek_14 : decode cX5_peek 14 = .ok (.invokevirtual 96, 3) := dz_182 (k_X5_peek 0 14 rfl) (k_X5_peek 0 15 rfl) (k_X5_peek 0 16 rfl) rfl
theorem dX5_peek_17 : decode cX5_peek 17 = .ok (.bipush 32, 2) := dz_16 (k_X5_peek 0 17 rfl) (k_X5_peek 0 18 rfl) rfl
theorem dX5_peek_19 : decode cX5_peek 19 = .ok (.if_icmp .ne 19, 3) := dz_160 (k_X5_peek 0 19 rfl) (k_X5_peek 0 20 rfl) (k_X5_peek 0 21 rfl) rfl
theorem dX5_peek_22 : decode cX5_peek 22 = .ok (.aload_n 0, 1) := dz_42 (k_X5_peek 0 22 rfl)
theorem dX5_peek_23 : decode cX5_peek 23 = .ok (.dup, 1) := dz_89 (k_X5_peek 0 23 rfl)
theorem dX5_peek_24 : decode cX5_peek 24 = .ok (.getfield 29, 3) := dz_180 (k_X5_peek 0 24 rfl) (k_X5_peek 0 25 rfl) (k_X5_peek 0 26 rfl) rfl
theorem dX5_peek_27 : decode cX5_peek 27 = .ok (.iconst 1, 1) := dz_4 (k_X5_peek 0 27 rfl)
theorem dX5_peek_28 : decode cX5_peek 28 = .ok (.iadd, 1) := dz_96 (k_X5_peek 0 28 rfl)
theorem dX5_peek_29 : decode cX5_peek 29 = .ok (.putfield 29, 3) := dz_181 (k_X5_peek 0 29 rfl) (k_X5_peek 0 30 rfl) (k_X5_peek 0 31 rfl) rfl
theorem dX5_peek_32 : decode cX5_peek 32 = .ok (.iinc 1 1, 3) := dz_132 (k_X5_peek 0 32 rfl) (k_X5_peek 0 33 rfl) (k_X5_peek 0 34 rfl) rfl
theorem dX5_peek_35 : decode cX5_peek 35 = .ok (.goto (-33), 3) := dz_167 (k_X5_peek 0 35 rfl) (k_X5_peek 0 36 rfl) (k_X5_peek 0 37 rfl) rfl
theorem dX5_peek_38 : decode cX5_peek 38 = .ok (.aload_n 0, 1) := dz_42 (k_X5_peek 0 38 rfl)
theorem dX5_peek_39 : decode cX5_peek 39 = .ok (.getfield 9, 3) := dz_180 (k_X5_peek 0 39 rfl) (k_X5_peek 0 40 rfl) (k_X5_peek 0 41 rfl) rfl
theorem dX5_peek_42 : decode cX5_peek 42 = .ok (.iconst (-1), 1) := dz_2 (k_X5_peek 0 42 rfl)
theorem dX5_peek_43 : decode cX5_peek 43 = .ok (.if_icmp .ne 14, 3) := dz_160 (k_X5_peek 0 43 rfl) (k_X5_peek 0 44 rfl) (k_X5_peek 0 45 rfl) rfl
theorem dX5_peek_46 : decode cX5_peek 46 = .ok (.aload_n 0, 1) := dz_42 (k_X5_peek 0 46 rfl)
theorem dX5_peek_47 : decode cX5_peek 47 = .ok (.aload_n 0, 1) := dz_42 (k_X5_peek 0 47 rfl)
theorem dX5_peek_48 : decode cX5_peek 48 = .ok (.getfield 29, 3) := dz_180 (k_X5_peek 0 48 rfl) (k_X5_peek 0 49 rfl) (k_X5_peek 0 50 rfl) rfl
theorem dX5_peek_51 : decode cX5_peek 51 = .ok (.invokevirtual 96, 3) := dz_182 (k_X5_peek 0 51 rfl) (k_X5_peek 0 52 rfl) (k_X5_peek 0 53 rfl) rfl
theorem dX5_peek_54 : decode cX5_peek 54 = .ok (.goto 4, 3) := dz_167 (k_X5_peek 0 54 rfl) (k_X5_peek 0 55 rfl) (k_X5_peek 0 56 rfl) rfl
theorem dX5_peek_57 : decode cX5_peek 57 = .ok (.iconst (-1), 1) := dz_2 (k_X5_peek 0 57 rfl)
theorem dX5_peek_58 : decode cX5_peek 58 = .ok (.ireturn, 1) := dz_172 (k_X5_peek 0 58 rfl)
def B_X5_put : List (List Nat) := [[16, 24, 61, 28, 155, 0, 42, 42, 180, 0, 23, 17, 1, 144, 162, 0, 32, 42, 180, 0, 15, 42, 180, 0, 23, 27, 28, 122, 145, 84, 42, 89, 180, 0, 23, 4, 96, 181, 0, 23, 132, 2, 248, 167, 255, 216, 177]]
theorem k_X5_put (j i : Nat) {b : Nat} (h : (B_X5_put[j]?.bind fun c => c[i]?) = some b) : s_by cX5_put (64 * j + i) b := s_byC (L := B_X5_put) (by decide +kernel) (by decide +kernel) j i h
theorem dX5_put_0 : decode cX5_put 0 = .ok (.bipush 24, 2) := dz_16 (k_X5_put 0 0 rfl) (k_X5_put 0 1 rfl) rfl
theorem dX5_put_2 : decode cX5_put 2 = .ok (.istore_n 2, 1) := dz_61 (k_X5_put 0 2 rfl)
theorem dX5_put_3 : decode cX5_put 3 = .ok (.iload_n 2, 1) := dz_28 (k_X5_put 0 3 rfl)
theorem dX5_put_4 : decode cX5_put 4 = .ok (.ifCond .lt 42, 3) := dz_155 (k_X5_put 0 4 rfl) (k_X5_put 0 5 rfl) (k_X5_put 0 6 rfl) rfl
theorem dX5_put_7 : decode cX5_put 7 = .ok (.aload_n 0, 1) := dz_42 (k_X5_put 0 7 rfl)
theorem dX5_put_8 : decode cX5_put 8 = .ok (.getfield 23, 3) := dz_180 (k_X5_put 0 8 rfl) (k_X5_put 0 9 rfl) (k_X5_put 0 10 rfl) rfl
theorem dX5_put_11 : decode cX5_put 11 = .ok (.sipush 400, 3) := dz_17 (k_X5_put 0 11 rfl) (k_X5_put 0 12 rfl) (k_X5_put 0 13 rfl) rfl
theorem dX5_put_14 : decode cX5_put 14 = .ok (.if_icmp .ge 32, 3) := dz_162 (k_X5_put 0 14 rfl) (k_X5_put 0 15 rfl) (k_X5_put 0 16 rfl) rfl
theorem dX5_put_17 : decode cX5_put 17 = .ok (.aload_n 0, 1) := dz_42 (k_X5_put 0 17 rfl)
theorem dX5_put_18 : decode cX5_put 18 = .ok (.getfield 15, 3) := dz_180 (k_X5_put 0 18 rfl) (k_X5_put 0 19 rfl) (k_X5_put 0 20 rfl) rfl
theorem dX5_put_21 : decode cX5_put 21 = .ok (.aload_n 0, 1) := dz_42 (k_X5_put 0 21 rfl)
theorem dX5_put_22 : decode cX5_put 22 = .ok (.getfield 23, 3) := dz_180 (k_X5_put 0 22 rfl) (k_X5_put 0 23 rfl) (k_X5_put 0 24 rfl) rfl
theorem dX5_put_25 : decode cX5_put 25 = .ok (.iload_n 1, 1) := dz_27 (k_X5_put 0 25 rfl)
theorem dX5_put_26 : decode cX5_put 26 = .ok (.iload_n 2, 1) := dz_28 (k_X5_put 0 26 rfl)
theorem dX5_put_27 : decode cX5_put 27 = .ok (.ishr, 1) := dz_122 (k_X5_put 0 27 rfl)
theorem dX5_put_28 : decode cX5_put 28 = .ok (.i2b, 1) := dz_145 (k_X5_put 0 28 rfl)
theorem dX5_put_29 : decode cX5_put 29 = .ok (.bastore, 1) := dz_84 (k_X5_put 0 29 rfl)
theorem dX5_put_30 : decode cX5_put 30 = .ok (.aload_n 0, 1) := dz_42 (k_X5_put 0 30 rfl)
theorem dX5_put_31 : decode cX5_put 31 = .ok (.dup, 1) := dz_89 (k_X5_put 0 31 rfl)
theorem dX5_put_32 : decode cX5_put 32 = .ok (.getfield 23, 3) := dz_180 (k_X5_put 0 32 rfl) (k_X5_put 0 33 rfl) (k_X5_put 0 34 rfl) rfl
theorem dX5_put_35 : decode cX5_put 35 = .ok (.iconst 1, 1) := dz_4 (k_X5_put 0 35 rfl)
theorem dX5_put_36 : decode cX5_put 36 = .ok (.iadd, 1) := dz_96 (k_X5_put 0 36 rfl)
theorem dX5_put_37 : decode cX5_put 37 = .ok (.putfield 23, 3) := dz_181 (k_X5_put 0 37 rfl) (k_X5_put 0 38 rfl) (k_X5_put 0 39 rfl) rfl
theorem dX5_put_40 : decode cX5_put 40 = .ok (.iinc 2 (-8), 3) := dz_132 (k_X5_put 0 40 rfl) (k_X5_put 0 41 rfl) (k_X5_put 0 42 rfl) rfl
theorem dX5_put_43 : decode cX5_put 43 = .ok (.goto (-40), 3) := dz_167 (k_X5_put 0 43 rfl) (k_X5_put 0 44 rfl) (k_X5_put 0 45 rfl) rfl
theorem dX5_put_46 : decode cX5_put 46 = .ok (.return_, 1) := dz_177 (k_X5_put 0 46 rfl)
def B_X5_read : List (List Nat) := [[42, 27, 181, 0, 26, 42, 3, 181, 0, 29, 42, 3, 181, 0, 32, 42, 2, 181, 0, 9, 42, 3, 3, 182, 0, 35, 61, 42, 182, 0, 39, 2, 159, 0, 12, 42, 42, 180, 0, 29, 182, 0, 43, 87, 42, 3, 181, 0, 23, 42, 180, 0, 9, 2, 160, 0, 7, 28, 167, 0, 4, 2, 172]]
theorem k_X5_read (j i : Nat) {b : Nat} (h : (B_X5_read[j]?.bind fun c => c[i]?) = some b) : s_by cX5_read (64 * j + i) b := s_byC (L := B_X5_read) (by decide +kernel) (by decide +kernel) j i h
theorem dX5_read_0 : decode cX5_read 0 = .ok (.aload_n 0, 1) := dz_42 (k_X5_read 0 0 rfl)
theorem dX5_read_1 : decode cX5_read 1 = .ok (.iload_n 1, 1) := dz_27 (k_X5_read 0 1 rfl)
theorem dX5_read_2 : decode cX5_read 2 = .ok (.putfield 26, 3) := dz_181 (k_X5_read 0 2 rfl) (k_X5_read 0 3 rfl) (k_X5_read 0 4 rfl) rfl
theorem dX5_read_5 : decode cX5_read 5 = .ok (.aload_n 0, 1) := dz_42 (k_X5_read 0 5 rfl)
theorem dX5_read_6 : decode cX5_read 6 = .ok (.iconst 0, 1) := dz_3 (k_X5_read 0 6 rfl)
theorem dX5_read_7 : decode cX5_read 7 = .ok (.putfield 29, 3) := dz_181 (k_X5_read 0 7 rfl) (k_X5_read 0 8 rfl) (k_X5_read 0 9 rfl) rfl
theorem dX5_read_10 : decode cX5_read 10 = .ok (.aload_n 0, 1) := dz_42 (k_X5_read 0 10 rfl)
theorem dX5_read_11 : decode cX5_read 11 = .ok (.iconst 0, 1) := dz_3 (k_X5_read 0 11 rfl)
theorem dX5_read_12 : decode cX5_read 12 = .ok (.putfield 32, 3) := dz_181 (k_X5_read 0 12 rfl) (k_X5_read 0 13 rfl) (k_X5_read 0 14 rfl) rfl
theorem dX5_read_15 : decode cX5_read 15 = .ok (.aload_n 0, 1) := dz_42 (k_X5_read 0 15 rfl)
theorem dX5_read_16 : decode cX5_read 16 = .ok (.iconst (-1), 1) := dz_2 (k_X5_read 0 16 rfl)
theorem dX5_read_17 : decode cX5_read 17 = .ok (.putfield 9, 3) := dz_181 (k_X5_read 0 17 rfl) (k_X5_read 0 18 rfl) (k_X5_read 0 19 rfl) rfl
theorem dX5_read_20 : decode cX5_read 20 = .ok (.aload_n 0, 1) := dz_42 (k_X5_read 0 20 rfl)
theorem dX5_read_21 : decode cX5_read 21 = .ok (.iconst 0, 1) := dz_3 (k_X5_read 0 21 rfl)
theorem dX5_read_22 : decode cX5_read 22 = .ok (.iconst 0, 1) := dz_3 (k_X5_read 0 22 rfl)
theorem dX5_read_23 : decode cX5_read 23 = .ok (.invokevirtual 35, 3) := dz_182 (k_X5_read 0 23 rfl) (k_X5_read 0 24 rfl) (k_X5_read 0 25 rfl) rfl
theorem dX5_read_26 : decode cX5_read 26 = .ok (.istore_n 2, 1) := dz_61 (k_X5_read 0 26 rfl)
theorem dX5_read_27 : decode cX5_read 27 = .ok (.aload_n 0, 1) := dz_42 (k_X5_read 0 27 rfl)
theorem dX5_read_28 : decode cX5_read 28 = .ok (.invokevirtual 39, 3) := dz_182 (k_X5_read 0 28 rfl) (k_X5_read 0 29 rfl) (k_X5_read 0 30 rfl) rfl
theorem dX5_read_31 : decode cX5_read 31 = .ok (.iconst (-1), 1) := dz_2 (k_X5_read 0 31 rfl)
theorem dX5_read_32 : decode cX5_read 32 = .ok (.if_icmp .eq 12, 3) := dz_159 (k_X5_read 0 32 rfl) (k_X5_read 0 33 rfl) (k_X5_read 0 34 rfl) rfl
theorem dX5_read_35 : decode cX5_read 35 = .ok (.aload_n 0, 1) := dz_42 (k_X5_read 0 35 rfl)
theorem dX5_read_36 : decode cX5_read 36 = .ok (.aload_n 0, 1) := dz_42 (k_X5_read 0 36 rfl)
theorem dX5_read_37 : decode cX5_read 37 = .ok (.getfield 29, 3) := dz_180 (k_X5_read 0 37 rfl) (k_X5_read 0 38 rfl) (k_X5_read 0 39 rfl) rfl
theorem dX5_read_40 : decode cX5_read 40 = .ok (.invokevirtual 43, 3) := dz_182 (k_X5_read 0 40 rfl) (k_X5_read 0 41 rfl) (k_X5_read 0 42 rfl) rfl
theorem dX5_read_43 : decode cX5_read 43 = .ok (.pop, 1) := dz_87 (k_X5_read 0 43 rfl)
theorem dX5_read_44 : decode cX5_read 44 = .ok (.aload_n 0, 1) := dz_42 (k_X5_read 0 44 rfl)
theorem dX5_read_45 : decode cX5_read 45 = .ok (.iconst 0, 1) := dz_3 (k_X5_read 0 45 rfl)
theorem dX5_read_46 : decode cX5_read 46 = .ok (.putfield 23, 3) := dz_181 (k_X5_read 0 46 rfl) (k_X5_read 0 47 rfl) (k_X5_read 0 48 rfl) rfl
theorem dX5_read_49 : decode cX5_read 49 = .ok (.aload_n 0, 1) := dz_42 (k_X5_read 0 49 rfl)
theorem dX5_read_50 : decode cX5_read 50 = .ok (.getfield 9, 3) := dz_180 (k_X5_read 0 50 rfl) (k_X5_read 0 51 rfl) (k_X5_read 0 52 rfl) rfl
theorem dX5_read_53 : decode cX5_read 53 = .ok (.iconst (-1), 1) := dz_2 (k_X5_read 0 53 rfl)
theorem dX5_read_54 : decode cX5_read 54 = .ok (.if_icmp .ne 7, 3) := dz_160 (k_X5_read 0 54 rfl) (k_X5_read 0 55 rfl) (k_X5_read 0 56 rfl) rfl
theorem dX5_read_57 : decode cX5_read 57 = .ok (.iload_n 2, 1) := dz_28 (k_X5_read 0 57 rfl)
theorem dX5_read_58 : decode cX5_read 58 = .ok (.goto 4, 3) := dz_167 (k_X5_read 0 58 rfl) (k_X5_read 0 59 rfl) (k_X5_read 0 60 rfl) rfl
theorem dX5_read_61 : decode cX5_read 61 = .ok (.iconst (-1), 1) := dz_2 (k_X5_read 0 61 rfl)
theorem dX5_read_62 : decode cX5_read 62 = .ok (.ireturn, 1) := dz_172 (k_X5_read 0 62 rfl)
def B_X5_readAnd : List (List Nat) := [[42, 27, 28, 182, 0, 66, 62, 3, 54, 4, 21, 4, 17, 1, 144, 162, 0, 52, 42, 182, 0, 39, 16, 38, 160, 0, 43, 42, 42, 180, 0, 29, 182, 0, 54, 153, 0, 32, 42, 89, 180, 0, 29, 4, 96, 181, 0, 29, 42, 5, 29, 42, 27, 28, 182, 0, 66, 182, 0, 59, 62, 132, 4, 1], [167, 255, 202, 29, 172]]
theorem k_X5_readAnd (j i : Nat) {b : Nat} (h : (B_X5_readAnd[j]?.bind fun c => c[i]?) = some b) : s_by cX5_readAnd (64 * j + i) b := s_byC (L := B_X5_readAnd) (by decide +kernel) (by decide +kernel) j i h
theorem dX5_readAnd_0 : decode cX5_readAnd 0 = .ok (.aload_n 0, 1) := dz_42 (k_X5_readAnd 0 0 rfl)
theorem dX5_readAnd_1 : decode cX5_readAnd 1 = .ok (.iload_n 1, 1) := dz_27 (k_X5_readAnd 0 1 rfl)
theorem dX5_readAnd_2 : decode cX5_readAnd 2 = .ok (.iload_n 2, 1) := dz_28 (k_X5_readAnd 0 2 rfl)
theorem dX5_readAnd_3 : decode cX5_readAnd 3 = .ok (.invokevirtual 66, 3) := dz_182 (k_X5_readAnd 0 3 rfl) (k_X5_readAnd 0 4 rfl) (k_X5_readAnd 0 5 rfl) rfl
theorem dX5_readAnd_6 : decode cX5_readAnd 6 = .ok (.istore_n 3, 1) := dz_62 (k_X5_readAnd 0 6 rfl)
theorem dX5_readAnd_7 : decode cX5_readAnd 7 = .ok (.iconst 0, 1) := dz_3 (k_X5_readAnd 0 7 rfl)
theorem dX5_readAnd_8 : decode cX5_readAnd 8 = .ok (.istore 4, 2) := dz_54 (k_X5_readAnd 0 8 rfl) (k_X5_readAnd 0 9 rfl)
theorem dX5_readAnd_10 : decode cX5_readAnd 10 = .ok (.iload 4, 2) := dz_21 (k_X5_readAnd 0 10 rfl) (k_X5_readAnd 0 11 rfl)
theorem dX5_readAnd_12 : decode cX5_readAnd 12 = .ok (.sipush 400, 3) := dz_17 (k_X5_readAnd 0 12 rfl) (k_X5_readAnd 0 13 rfl) (k_X5_readAnd 0 14 rfl) rfl
theorem dX5_readAnd_15 : decode cX5_readAnd 15 = .ok (.if_icmp .ge 52, 3) := dz_162 (k_X5_readAnd 0 15 rfl) (k_X5_readAnd 0 16 rfl) (k_X5_readAnd 0 17 rfl) rfl
theorem dX5_readAnd_18 : decode cX5_readAnd 18 = .ok (.aload_n 0, 1) := dz_42 (k_X5_readAnd 0 18 rfl)
theorem dX5_readAnd_19 : decode cX5_readAnd 19 = .ok (.invokevirtual 39, 3) := dz_182 (k_X5_readAnd 0 19 rfl) (k_X5_readAnd 0 20 rfl) (k_X5_readAnd 0 21 rfl) rfl
theorem dX5_readAnd_22 : decode cX5_readAnd 22 = .ok (.bipush 38, 2) := dz_16 (k_X5_readAnd 0 22 rfl) (k_X5_readAnd 0 23 rfl) rfl
theorem dX5_readAnd_24 : decode cX5_readAnd 24 = .ok (.if_icmp .ne 43, 3) := dz_160 (k_X5_readAnd 0 24 rfl) (k_X5_readAnd 0 25 rfl) (k_X5_readAnd 0 26 rfl) rfl
theorem dX5_readAnd_27 : decode cX5_readAnd 27 = .ok (.aload_n 0, 1) := dz_42 (k_X5_readAnd 0 27 rfl)
theorem dX5_readAnd_28 : decode cX5_readAnd 28 = .ok (.aload_n 0, 1) := dz_42 (k_X5_readAnd 0 28 rfl)
theorem dX5_readAnd_29 : decode cX5_readAnd 29 = .ok (.getfield 29, 3) := dz_180 (k_X5_readAnd 0 29 rfl) (k_X5_readAnd 0 30 rfl) (k_X5_readAnd 0 31 rfl) rfl
theorem dX5_readAnd_32 : decode cX5_readAnd 32 = .ok (.invokevirtual 54, 3) := dz_182 (k_X5_readAnd 0 32 rfl) (k_X5_readAnd 0 33 rfl) (k_X5_readAnd 0 34 rfl) rfl
theorem dX5_readAnd_35 : decode cX5_readAnd 35 = .ok (.ifCond .eq 32, 3) := dz_153 (k_X5_readAnd 0 35 rfl) (k_X5_readAnd 0 36 rfl) (k_X5_readAnd 0 37 rfl) rfl
theorem dX5_readAnd_38 : decode cX5_readAnd 38 = .ok (.aload_n 0, 1) := dz_42 (k_X5_readAnd 0 38 rfl)
theorem dX5_readAnd_39 : decode cX5_readAnd 39 = .ok (.dup, 1) := dz_89 (k_X5_readAnd 0 39 rfl)
theorem dX5_readAnd_40 : decode cX5_readAnd 40 = .ok (.getfield 29, 3) := dz_180 (k_X5_readAnd 0 40 rfl) (k_X5_readAnd 0 41 rfl) (k_X5_readAnd 0 42 rfl) rfl
theorem dX5_readAnd_43 : decode cX5_readAnd 43 = .ok (.iconst 1, 1) := dz_4 (k_X5_readAnd 0 43 rfl)
theorem dX5_readAnd_44 : decode cX5_readAnd 44 = .ok (.iadd, 1) := dz_96 (k_X5_readAnd 0 44 rfl)
theorem dX5_readAnd_45 : decode cX5_readAnd 45 = .ok (.putfield 29, 3) := dz_181 (k_X5_readAnd 0 45 rfl) (k_X5_readAnd 0 46 rfl) (k_X5_readAnd 0 47 rfl) rfl
theorem dX5_readAnd_48 : decode cX5_readAnd 48 = .ok (.aload_n 0, 1) := dz_42 (k_X5_readAnd 0 48 rfl)
theorem dX5_readAnd_49 : decode cX5_readAnd 49 = .ok (.iconst 2, 1) := dz_5 (k_X5_readAnd 0 49 rfl)
theorem dX5_readAnd_50 : decode cX5_readAnd 50 = .ok (.iload_n 3, 1) := dz_29 (k_X5_readAnd 0 50 rfl)
theorem dX5_readAnd_51 : decode cX5_readAnd 51 = .ok (.aload_n 0, 1) := dz_42 (k_X5_readAnd 0 51 rfl)
theorem dX5_readAnd_52 : decode cX5_readAnd 52 = .ok (.iload_n 1, 1) := dz_27 (k_X5_readAnd 0 52 rfl)
theorem dX5_readAnd_53 : decode cX5_readAnd 53 = .ok (.iload_n 2, 1) := dz_28 (k_X5_readAnd 0 53 rfl)
theorem dX5_readAnd_54 : decode cX5_readAnd 54 = .ok (.invokevirtual 66, 3) := dz_182 (k_X5_readAnd 0 54 rfl) (k_X5_readAnd 0 55 rfl) (k_X5_readAnd 0 56 rfl) rfl
theorem dX5_readAnd_57 : decode cX5_readAnd 57 = .ok (.invokevirtual 59, 3) := dz_182 (k_X5_readAnd 0 57 rfl) (k_X5_readAnd 0 58 rfl) (k_X5_readAnd 0 59 rfl) rfl
theorem dX5_readAnd_60 : decode cX5_readAnd 60 = .ok (.istore_n 3, 1) := dz_62 (k_X5_readAnd 0 60 rfl)
theorem dX5_readAnd_61 : decode cX5_readAnd 61 = .ok (.iinc 4 1, 3) := dz_132 (k_X5_readAnd 0 61 rfl) (k_X5_readAnd 0 62 rfl) (k_X5_readAnd 0 63 rfl) rfl
theorem dX5_readAnd_64 : decode cX5_readAnd 64 = .ok (.goto (-54), 3) := dz_167 (k_X5_readAnd 1 0 rfl) (k_X5_readAnd 1 1 rfl) (k_X5_readAnd 1 2 rfl) rfl
theorem dX5_readAnd_67 : decode cX5_readAnd 67 = .ok (.iload_n 3, 1) := dz_29 (k_X5_readAnd 1 3 rfl)
theorem dX5_readAnd_68 : decode cX5_readAnd 68 = .ok (.ireturn, 1) := dz_172 (k_X5_readAnd 1 4 rfl)
def B_X5_readBinder : List (List Nat) := [[21, 4, 153, 0, 12, 42, 42, 180, 0, 29, 182, 0, 43, 172, 42, 29, 182, 0, 50, 153, 0, 14, 42, 42, 180, 0, 29, 182, 0, 54, 154, 0, 5, 2, 172, 42, 28, 181, 0, 29, 42, 29, 4, 96, 4, 182, 0, 66, 54, 5, 42, 180, 0, 9, 2, 160, 0, 20, 42, 180, 0, 19, 27, 21], [5, 42, 180, 0, 26, 182, 0, 113, 167, 0, 4, 2, 172]]
theorem k_X5_readBinder (j i : Nat) {b : Nat} (h : (B_X5_readBinder[j]?.bind fun c => c[i]?) = some b) : s_by cX5_readBinder (64 * j + i) b := s_byC (L := B_X5_readBinder) (by decide +kernel) (by decide +kernel) j i h
theorem dX5_readBinder_0 : decode cX5_readBinder 0 = .ok (.iload 4, 2) := dz_21 (k_X5_readBinder 0 0 rfl) (k_X5_readBinder 0 1 rfl)
theorem dX5_readBinder_2 : decode cX5_readBinder 2 = .ok (.ifCond .eq 12, 3) := dz_153 (k_X5_readBinder 0 2 rfl) (k_X5_readBinder 0 3 rfl) (k_X5_readBinder 0 4 rfl) rfl
theorem dX5_readBinder_5 : decode cX5_readBinder 5 = .ok (.aload_n 0, 1) := dz_42 (k_X5_readBinder 0 5 rfl)
theorem dX5_readBinder_6 : decode cX5_readBinder 6 = .ok (.aload_n 0, 1) := dz_42 (k_X5_readBinder 0 6 rfl)
theorem dX5_readBinder_7 : decode cX5_readBinder 7 = .ok (.getfield 29, 3) := dz_180 (k_X5_readBinder 0 7 rfl) (k_X5_readBinder 0 8 rfl) (k_X5_readBinder 0 9 rfl) rfl
theorem dX5_readBinder_10 : decode cX5_readBinder 10 = .ok (.invokevirtual 43, 3) := dz_182 (k_X5_readBinder 0 10 rfl) (k_X5_readBinder 0 11 rfl) (k_X5_readBinder 0 12 rfl) rfl
theorem dX5_readBinder_13 : decode cX5_readBinder 13 = .ok (.ireturn, 1) := dz_172 (k_X5_readBinder 0 13 rfl)
theorem dX5_readBinder_14 : decode cX5_readBinder 14 = .ok (.aload_n 0, 1) := dz_42 (k_X5_readBinder 0 14 rfl)
theorem dX5_readBinder_15 : decode cX5_readBinder 15 = .ok (.iload_n 3, 1) := dz_29 (k_X5_readBinder 0 15 rfl)
theorem dX5_readBinder_16 : decode cX5_readBinder 16 = .ok (.invokevirtual 50, 3) := dz_182 (k_X5_readBinder 0 16 rfl) (k_X5_readBinder 0 17 rfl) (k_X5_readBinder 0 18 rfl) rfl
theorem dX5_readBinder_19 : decode cX5_readBinder 19 = .ok (.ifCond .eq 14, 3) := dz_153 (k_X5_readBinder 0 19 rfl) (k_X5_readBinder 0 20 rfl) (k_X5_readBinder 0 21 rfl) rfl
theorem dX5_readBinder_22 : decode cX5_readBinder 22 = .ok (.aload_n 0, 1) := dz_42 (k_X5_readBinder 0 22 rfl)
theorem dX5_readBinder_23 : decode cX5_readBinder 23 = .ok (.aload_n 0, 1) := dz_42 (k_X5_readBinder 0 23 rfl)
theorem dX5_readBinder_24 : decode cX5_readBinder 24 = .ok (.getfield 29, 3) := dz_180 (k_X5_readBinder 0 24 rfl) (k_X5_readBinder 0 25 rfl) (k_X5_readBinder 0 26 rfl) rfl
theorem dX5_readBinder_27 : decode cX5_readBinder 27 = .ok (.invokevirtual 54, 3) := dz_182 (k_X5_readBinder 0 27 rfl) (k_X5_readBinder 0 28 rfl) (k_X5_readBinder 0 29 rfl) rfl
theorem dX5_readBinder_30 : decode cX5_readBinder 30 = .ok (.ifCond .ne 5, 3) := dz_154 (k_X5_readBinder 0 30 rfl) (k_X5_readBinder 0 31 rfl) (k_X5_readBinder 0 32 rfl) rfl
theorem dX5_readBinder_33 : decode cX5_readBinder 33 = .ok (.iconst (-1), 1) := dz_2 (k_X5_readBinder 0 33 rfl)
theorem dX5_readBinder_34 : decode cX5_readBinder 34 = .ok (.ireturn, 1) := dz_172 (k_X5_readBinder 0 34 rfl)
theorem dX5_readBinder_35 : decode cX5_readBinder 35 = .ok (.aload_n 0, 1) := dz_42 (k_X5_readBinder 0 35 rfl)
theorem dX5_readBinder_36 : decode cX5_readBinder 36 = .ok (.iload_n 2, 1) := dz_28 (k_X5_readBinder 0 36 rfl)
theorem dX5_readBinder_37 : decode cX5_readBinder 37 = .ok (.putfield 29, 3) := dz_181 (k_X5_readBinder 0 37 rfl) (k_X5_readBinder 0 38 rfl) (k_X5_readBinder 0 39 rfl) rfl
theorem dX5_readBinder_40 : decode cX5_readBinder 40 = .ok (.aload_n 0, 1) := dz_42 (k_X5_readBinder 0 40 rfl)
theorem dX5_readBinder_41 : decode cX5_readBinder 41 = .ok (.iload_n 3, 1) := dz_29 (k_X5_readBinder 0 41 rfl)
theorem dX5_readBinder_42 : decode cX5_readBinder 42 = .ok (.iconst 1, 1) := dz_4 (k_X5_readBinder 0 42 rfl)
theorem dX5_readBinder_43 : decode cX5_readBinder 43 = .ok (.iadd, 1) := dz_96 (k_X5_readBinder 0 43 rfl)
theorem dX5_readBinder_44 : decode cX5_readBinder 44 = .ok (.iconst 1, 1) := dz_4 (k_X5_readBinder 0 44 rfl)
theorem dX5_readBinder_45 : decode cX5_readBinder 45 = .ok (.invokevirtual 66, 3) := dz_182 (k_X5_readBinder 0 45 rfl) (k_X5_readBinder 0 46 rfl) (k_X5_readBinder 0 47 rfl) rfl
theorem dX5_readBinder_48 : decode cX5_readBinder 48 = .ok (.istore 5, 2) := dz_54 (k_X5_readBinder 0 48 rfl) (k_X5_readBinder 0 49 rfl)
theorem dX5_readBinder_50 : decode cX5_readBinder 50 = .ok (.aload_n 0, 1) := dz_42 (k_X5_readBinder 0 50 rfl)
theorem dX5_readBinder_51 : decode cX5_readBinder 51 = .ok (.getfield 9, 3) := dz_180 (k_X5_readBinder 0 51 rfl) (k_X5_readBinder 0 52 rfl) (k_X5_readBinder 0 53 rfl) rfl
theorem dX5_readBinder_54 : decode cX5_readBinder 54 = .ok (.iconst (-1), 1) := dz_2 (k_X5_readBinder 0 54 rfl)
theorem dX5_readBinder_55 : decode cX5_readBinder 55 = .ok (.if_icmp .ne 20, 3) := dz_160 (k_X5_readBinder 0 55 rfl) (k_X5_readBinder 0 56 rfl) (k_X5_readBinder 0 57 rfl) rfl
theorem dX5_readBinder_58 : decode cX5_readBinder 58 = .ok (.aload_n 0, 1) := dz_42 (k_X5_readBinder 0 58 rfl)
theorem dX5_readBinder_59 : decode cX5_readBinder 59 = .ok (.getfield 19, 3) := dz_180 (k_X5_readBinder 0 59 rfl) (k_X5_readBinder 0 60 rfl) (k_X5_readBinder 0 61 rfl) rfl
theorem dX5_readBinder_62 : decode cX5_readBinder 62 = .ok (.iload_n 1, 1) := dz_27 (k_X5_readBinder 0 62 rfl)
theorem dX5_readBinder_63 : decode cX5_readBinder 63 = .ok (.iload 5, 2) := dz_21 (k_X5_readBinder 0 63 rfl) (k_X5_readBinder 1 0 rfl)
theorem dX5_readBinder_65 : decode cX5_readBinder 65 = .ok (.aload_n 0, 1) := dz_42 (k_X5_readBinder 1 1 rfl)
theorem dX5_readBinder_66 : decode cX5_readBinder 66 = .ok (.getfield 26, 3) := dz_180 (k_X5_readBinder 1 2 rfl) (k_X5_readBinder 1 3 rfl) (k_X5_readBinder 1 4 rfl) rfl
theorem dX5_readBinder_69 : decode cX5_readBinder 69 = .ok (.invokevirtual 113, 3) := dz_182 (k_X5_readBinder 1 5 rfl) (k_X5_readBinder 1 6 rfl) (k_X5_readBinder 1 7 rfl) rfl
theorem dX5_readBinder_72 : decode cX5_readBinder 72 = .ok (.goto 4, 3) := dz_167 (k_X5_readBinder 1 8 rfl) (k_X5_readBinder 1 9 rfl) (k_X5_readBinder 1 10 rfl) rfl
theorem dX5_readBinder_75 : decode cX5_readBinder 75 = .ok (.iconst (-1), 1) := dz_2 (k_X5_readBinder 1 11 rfl)
theorem dX5_readBinder_76 : decode cX5_readBinder 76 = .ok (.ireturn, 1) := dz_172 (k_X5_readBinder 1 12 rfl)
def B_X5_readIf : List (List Nat) := [[42, 27, 28, 182, 0, 47, 62, 42, 182, 0, 39, 16, 62, 160, 0, 22, 42, 27, 182, 0, 50, 153, 0, 14, 42, 42, 180, 0, 29, 182, 0, 54, 154, 0, 5, 29, 172, 42, 89, 180, 0, 29, 4, 96, 181, 0, 29, 42, 27, 4, 96, 28, 182, 0, 35, 54, 4, 42, 7, 29, 21, 4, 182, 0], [59, 172]]
theorem k_X5_readIf (j i : Nat) {b : Nat} (h : (B_X5_readIf[j]?.bind fun c => c[i]?) = some b) : s_by cX5_readIf (64 * j + i) b := s_byC (L := B_X5_readIf) (by decide +kernel) (by decide +kernel) j i h
theorem dX5_readIf_0 : decode cX5_readIf 0 = .ok (.aload_n 0, 1) := dz_42 (k_X5_readIf 0 0 rfl)
theorem dX5_readIf_1 : decode cX5_readIf 1 = .ok (.iload_n 1, 1) := dz_27 (k_X5_readIf 0 1 rfl)
theorem dX5_readIf_2 : decode cX5_readIf 2 = .ok (.iload_n 2, 1) := dz_28 (k_X5_readIf 0 2 rfl)
theorem dX5_readIf_3 : decode cX5_readIf 3 = .ok (.invokevirtual 47, 3) := dz_182 (k_X5_readIf 0 3 rfl) (k_X5_readIf 0 4 rfl) (k_X5_readIf 0 5 rfl) rfl
theorem dX5_readIf_6 : decode cX5_readIf 6 = .ok (.istore_n 3, 1) := dz_62 (k_X5_readIf 0 6 rfl)
theorem dX5_readIf_7 : decode cX5_readIf 7 = .ok (.aload_n 0, 1) := dz_42 (k_X5_readIf 0 7 rfl)
theorem dX5_readIf_8 : decode cX5_readIf 8 = .ok (.invokevirtual 39, 3) := dz_182 (k_X5_readIf 0 8 rfl) (k_X5_readIf 0 9 rfl) (k_X5_readIf 0 10 rfl) rfl
theorem dX5_readIf_11 : decode cX5_readIf 11 = .ok (.bipush 62, 2) := dz_16 (k_X5_readIf 0 11 rfl) (k_X5_readIf 0 12 rfl) rfl
theorem dX5_readIf_13 : decode cX5_readIf 13 = .ok (.if_icmp .ne 22, 3) := dz_160 (k_X5_readIf 0 13 rfl) (k_X5_readIf 0 14 rfl) (k_X5_readIf 0 15 rfl) rfl
theorem dX5_readIf_16 : decode cX5_readIf 16 = .ok (.aload_n 0, 1) := dz_42 (k_X5_readIf 0 16 rfl)
theorem dX5_readIf_17 : decode cX5_readIf 17 = .ok (.iload_n 1, 1) := dz_27 (k_X5_readIf 0 17 rfl)
theorem dX5_readIf_18 : decode cX5_readIf 18 = .ok (.invokevirtual 50, 3) := dz_182 (k_X5_readIf 0 18 rfl) (k_X5_readIf 0 19 rfl) (k_X5_readIf 0 20 rfl) rfl
theorem dX5_readIf_21 : decode cX5_readIf 21 = .ok (.ifCond .eq 14, 3) := dz_153 (k_X5_readIf 0 21 rfl) (k_X5_readIf 0 22 rfl) (k_X5_readIf 0 23 rfl) rfl
theorem dX5_readIf_24 : decode cX5_readIf 24 = .ok (.aload_n 0, 1) := dz_42 (k_X5_readIf 0 24 rfl)
theorem dX5_readIf_25 : decode cX5_readIf 25 = .ok (.aload_n 0, 1) := dz_42 (k_X5_readIf 0 25 rfl)
theorem dX5_readIf_26 : decode cX5_readIf 26 = .ok (.getfield 29, 3) := dz_180 (k_X5_readIf 0 26 rfl) (k_X5_readIf 0 27 rfl) (k_X5_readIf 0 28 rfl) rfl
theorem dX5_readIf_29 : decode cX5_readIf 29 = .ok (.invokevirtual 54, 3) := dz_182 (k_X5_readIf 0 29 rfl) (k_X5_readIf 0 30 rfl) (k_X5_readIf 0 31 rfl) rfl
theorem dX5_readIf_32 : decode cX5_readIf 32 = .ok (.ifCond .ne 5, 3) := dz_154 (k_X5_readIf 0 32 rfl) (k_X5_readIf 0 33 rfl) (k_X5_readIf 0 34 rfl) rfl
theorem dX5_readIf_35 : decode cX5_readIf 35 = .ok (.iload_n 3, 1) := dz_29 (k_X5_readIf 0 35 rfl)
theorem dX5_readIf_36 : decode cX5_readIf 36 = .ok (.ireturn, 1) := dz_172 (k_X5_readIf 0 36 rfl)
theorem dX5_readIf_37 : decode cX5_readIf 37 = .ok (.aload_n 0, 1) := dz_42 (k_X5_readIf 0 37 rfl)
theorem dX5_readIf_38 : decode cX5_readIf 38 = .ok (.dup, 1) := dz_89 (k_X5_readIf 0 38 rfl)
theorem dX5_readIf_39 : decode cX5_readIf 39 = .ok (.getfield 29, 3) := dz_180 (k_X5_readIf 0 39 rfl) (k_X5_readIf 0 40 rfl) (k_X5_readIf 0 41 rfl) rfl
theorem dX5_readIf_42 : decode cX5_readIf 42 = .ok (.iconst 1, 1) := dz_4 (k_X5_readIf 0 42 rfl)
theorem dX5_readIf_43 : decode cX5_readIf 43 = .ok (.iadd, 1) := dz_96 (k_X5_readIf 0 43 rfl)
theorem dX5_readIf_44 : decode cX5_readIf 44 = .ok (.putfield 29, 3) := dz_181 (k_X5_readIf 0 44 rfl) (k_X5_readIf 0 45 rfl) (k_X5_readIf 0 46 rfl) rfl
theorem dX5_readIf_47 : decode cX5_readIf 47 = .ok (.aload_n 0, 1) := dz_42 (k_X5_readIf 0 47 rfl)
theorem dX5_readIf_48 : decode cX5_readIf 48 = .ok (.iload_n 1, 1) := dz_27 (k_X5_readIf 0 48 rfl)
theorem dX5_readIf_49 : decode cX5_readIf 49 = .ok (.iconst 1, 1) := dz_4 (k_X5_readIf 0 49 rfl)
theorem dX5_readIf_50 : decode cX5_readIf 50 = .ok (.iadd, 1) := dz_96 (k_X5_readIf 0 50 rfl)
theorem dX5_readIf_51 : decode cX5_readIf 51 = .ok (.iload_n 2, 1) := dz_28 (k_X5_readIf 0 51 rfl)
theorem dX5_readIf_52 : decode cX5_readIf 52 = .ok (.invokevirtual 35, 3) := dz_182 (k_X5_readIf 0 52 rfl) (k_X5_readIf 0 53 rfl) (k_X5_readIf 0 54 rfl) rfl
theorem dX5_readIf_55 : decode cX5_readIf 55 = .ok (.istore 4, 2) := dz_54 (k_X5_readIf 0 55 rfl) (k_X5_readIf 0 56 rfl)
theorem dX5_readIf_57 : decode cX5_readIf 57 = .ok (.aload_n 0, 1) := dz_42 (k_X5_readIf 0 57 rfl)
theorem dX5_readIf_58 : decode cX5_readIf 58 = .ok (.iconst 4, 1) := dz_7 (k_X5_readIf 0 58 rfl)
theorem dX5_readIf_59 : decode cX5_readIf 59 = .ok (.iload_n 3, 1) := dz_29 (k_X5_readIf 0 59 rfl)
theorem dX5_readIf_60 : decode cX5_readIf 60 = .ok (.iload 4, 2) := dz_21 (k_X5_readIf 0 60 rfl) (k_X5_readIf 0 61 rfl)
theorem dX5_readIf_62 : decode cX5_readIf 62 = .ok (.invokevirtual 59, 3) := dz_182 (k_X5_readIf 0 62 rfl) (k_X5_readIf 0 63 rfl) (k_X5_readIf 1 0 rfl) rfl
theorem dX5_readIf_65 : decode cX5_readIf 65 = .ok (.ireturn, 1) := dz_172 (k_X5_readIf 1 1 rfl)
def B_X5_readInner : List (List Nat) := [[42, 27, 182, 0, 50, 154, 0, 5, 2, 172, 42, 89, 180, 0, 29, 4, 96, 181, 0, 29, 42, 27, 4, 96, 28, 182, 0, 35, 62, 42, 182, 0, 39, 54, 4, 21, 4, 2, 160, 0, 12, 42, 42, 180, 0, 23, 182, 0, 43, 172, 21, 4, 16, 41, 159, 0, 12, 42, 42, 180, 0, 29, 182, 0], [43, 172, 42, 89, 180, 0, 29, 4, 96, 181, 0, 29, 29, 172]]
theorem k_X5_readInner (j i : Nat) {b : Nat} (h : (B_X5_readInner[j]?.bind fun c => c[i]?) = some b) : s_by cX5_readInner (64 * j + i) b := s_byC (L := B_X5_readInner) (by decide +kernel) (by decide +kernel) j i h
theorem dX5_readInner_0 : decode cX5_readInner 0 = .ok (.aload_n 0, 1) := dz_42 (k_X5_readInner 0 0 rfl)
theorem dX5_readInner_1 : decode cX5_readInner 1 = .ok (.iload_n 1, 1) := dz_27 (k_X5_readInner 0 1 rfl)
theorem dX5_readInner_2 : decode cX5_readInner 2 = .ok (.invokevirtual 50, 3) := dz_182 (k_X5_readInner 0 2 rfl) (k_X5_readInner 0 3 rfl) (k_X5_readInner 0 4 rfl) rfl
theorem dX5_readInner_5 : decode cX5_readInner 5 = .ok (.ifCond .ne 5, 3) := dz_154 (k_X5_readInner 0 5 rfl) (k_X5_readInner 0 6 rfl) (k_X5_readInner 0 7 rfl) rfl
theorem dX5_readInner_8 : decode cX5_readInner 8 = .ok (.iconst (-1), 1) := dz_2 (k_X5_readInner 0 8 rfl)
theorem dX5_readInner_9 : decode cX5_readInner 9 = .ok (.ireturn, 1) := dz_172 (k_X5_readInner 0 9 rfl)
theorem dX5_readInner_10 : decode cX5_readInner 10 = .ok (.aload_n 0, 1) := dz_42 (k_X5_readInner 0 10 rfl)
theorem dX5_readInner_11 : decode cX5_readInner 11 = .ok (.dup, 1) := dz_89 (k_X5_readInner 0 11 rfl)
theorem dX5_readInner_12 : decode cX5_readInner 12 = .ok (.getfield 29, 3) := dz_180 (k_X5_readInner 0 12 rfl) (k_X5_readInner 0 13 rfl) (k_X5_readInner 0 14 rfl) rfl
theorem dX5_readInner_15 : decode cX5_readInner 15 = .ok (.iconst 1, 1) := dz_4 (k_X5_readInner 0 15 rfl)
theorem dX5_readInner_16 : decode cX5_readInner 16 = .ok (.iadd, 1) := dz_96 (k_X5_readInner 0 16 rfl)
theorem dX5_readInner_17 : decode cX5_readInner 17 = .ok (.putfield 29, 3) := dz_181 (k_X5_readInner 0 17 rfl) (k_X5_readInner 0 18 rfl) (k_X5_readInner 0 19 rfl) rfl
theorem dX5_readInner_20 : decode cX5_readInner 20 = .ok (.aload_n 0, 1) := dz_42 (k_X5_readInner 0 20 rfl)
theorem dX5_readInner_21 : decode cX5_readInner 21 = .ok (.iload_n 1, 1) := dz_27 (k_X5_readInner 0 21 rfl)
theorem dX5_readInner_22 : decode cX5_readInner 22 = .ok (.iconst 1, 1) := dz_4 (k_X5_readInner 0 22 rfl)
theorem dX5_readInner_23 : decode cX5_readInner 23 = .ok (.iadd, 1) := dz_96 (k_X5_readInner 0 23 rfl)
theorem dX5_readInner_24 : decode cX5_readInner 24 = .ok (.iload_n 2, 1) := dz_28 (k_X5_readInner 0 24 rfl)
theorem dX5_readInner_25 : decode cX5_readInner 25 = .ok (.invokevirtual 35, 3) := dz_182 (k_X5_readInner 0 25 rfl) (k_X5_readInner 0 26 rfl) (k_X5_readInner 0 27 rfl) rfl
theorem dX5_readInner_28 : decode cX5_readInner 28 = .ok (.istore_n 3, 1) := dz_62 (k_X5_readInner 0 28 rfl)
theorem dX5_readInner_29 : decode cX5_readInner 29 = .ok (.aload_n 0, 1) := dz_42 (k_X5_readInner 0 29 rfl)
theorem dX5_readInner_30 : decode cX5_readInner 30 = .ok (.invokevirtual 39, 3) := dz_182 (k_X5_readInner 0 30 rfl) (k_X5_readInner 0 31 rfl) (k_X5_readInner 0 32 rfl) rfl
theorem dX5_readInner_33 : decode cX5_readInner 33 = .ok (.istore 4, 2) := dz_54 (k_X5_readInner 0 33 rfl) (k_X5_readInner 0 34 rfl)
theorem dX5_readInner_35 : decode cX5_readInner 35 = .ok (.iload 4, 2) := dz_21 (k_X5_readInner 0 35 rfl) (k_X5_readInner 0 36 rfl)
theorem dX5_readInner_37 : decode cX5_readInner 37 = .ok (.iconst (-1), 1) := dz_2 (k_X5_readInner 0 37 rfl)
theorem dX5_readInner_38 : decode cX5_readInner 38 = .ok (.if_icmp .ne 12, 3) := dz_160 (k_X5_readInner 0 38 rfl) (k_X5_readInner 0 39 rfl) (k_X5_readInner 0 40 rfl) rfl
theorem dX5_readInner_41 : decode cX5_readInner 41 = .ok (.aload_n 0, 1) := dz_42 (k_X5_readInner 0 41 rfl)
theorem dX5_readInner_42 : decode cX5_readInner 42 = .ok (.aload_n 0, 1) := dz_42 (k_X5_readInner 0 42 rfl)
theorem dX5_readInner_43 : decode cX5_readInner 43 = .ok (.getfield 23, 3) := dz_180 (k_X5_readInner 0 43 rfl) (k_X5_readInner 0 44 rfl) (k_X5_readInner 0 45 rfl) rfl
theorem dX5_readInner_46 : decode cX5_readInner 46 = .ok (.invokevirtual 43, 3) := dz_182 (k_X5_readInner 0 46 rfl) (k_X5_readInner 0 47 rfl) (k_X5_readInner 0 48 rfl) rfl
theorem dX5_readInner_49 : decode cX5_readInner 49 = .ok (.ireturn, 1) := dz_172 (k_X5_readInner 0 49 rfl)
theorem dX5_readInner_50 : decode cX5_readInner 50 = .ok (.iload 4, 2) := dz_21 (k_X5_readInner 0 50 rfl) (k_X5_readInner 0 51 rfl)
theorem dX5_readInner_52 : decode cX5_readInner 52 = .ok (.bipush 41, 2) := dz_16 (k_X5_readInner 0 52 rfl) (k_X5_readInner 0 53 rfl) rfl
theorem dX5_readInner_54 : decode cX5_readInner 54 = .ok (.if_icmp .eq 12, 3) := dz_159 (k_X5_readInner 0 54 rfl) (k_X5_readInner 0 55 rfl) (k_X5_readInner 0 56 rfl) rfl
theorem dX5_readInner_57 : decode cX5_readInner 57 = .ok (.aload_n 0, 1) := dz_42 (k_X5_readInner 0 57 rfl)
theorem dX5_readInner_58 : decode cX5_readInner 58 = .ok (.aload_n 0, 1) := dz_42 (k_X5_readInner 0 58 rfl)
theorem dX5_readInner_59 : decode cX5_readInner 59 = .ok (.getfield 29, 3) := dz_180 (k_X5_readInner 0 59 rfl) (k_X5_readInner 0 60 rfl) (k_X5_readInner 0 61 rfl) rfl
theorem dX5_readInner_62 : decode cX5_readInner 62 = .ok (.invokevirtual 43, 3) := dz_182 (k_X5_readInner 0 62 rfl) (k_X5_readInner 0 63 rfl) (k_X5_readInner 1 0 rfl) rfl
theorem dX5_readInner_65 : decode cX5_readInner 65 = .ok (.ireturn, 1) := dz_172 (k_X5_readInner 1 1 rfl)
theorem dX5_readInner_66 : decode cX5_readInner 66 = .ok (.aload_n 0, 1) := dz_42 (k_X5_readInner 1 2 rfl)
theorem dX5_readInner_67 : decode cX5_readInner 67 = .ok (.dup, 1) := dz_89 (k_X5_readInner 1 3 rfl)
theorem dX5_readInner_68 : decode cX5_readInner 68 = .ok (.getfield 29, 3) := dz_180 (k_X5_readInner 1 4 rfl) (k_X5_readInner 1 5 rfl) (k_X5_readInner 1 6 rfl) rfl
theorem dX5_readInner_71 : decode cX5_readInner 71 = .ok (.iconst 1, 1) := dz_4 (k_X5_readInner 1 7 rfl)
theorem dX5_readInner_72 : decode cX5_readInner 72 = .ok (.iadd, 1) := dz_96 (k_X5_readInner 1 8 rfl)
theorem dX5_readInner_73 : decode cX5_readInner 73 = .ok (.putfield 29, 3) := dz_181 (k_X5_readInner 1 9 rfl) (k_X5_readInner 1 10 rfl) (k_X5_readInner 1 11 rfl) rfl
theorem dX5_readInner_76 : decode cX5_readInner 76 = .ok (.iload_n 3, 1) := dz_29 (k_X5_readInner 1 12 rfl)
theorem dX5_readInner_77 : decode cX5_readInner 77 = .ok (.ireturn, 1) := dz_172 (k_X5_readInner 1 13 rfl)
def B_X5_readNot : List (List Nat) := [[42, 27, 182, 0, 50, 153, 0, 14, 42, 42, 180, 0, 29, 182, 0, 54, 154, 0, 5, 2, 172, 42, 89, 180, 0, 29, 4, 96, 181, 0, 29, 42, 4, 42, 27, 4, 96, 28, 182, 0, 66, 2, 182, 0, 59, 172]]
theorem k_X5_readNot (j i : Nat) {b : Nat} (h : (B_X5_readNot[j]?.bind fun c => c[i]?) = some b) : s_by cX5_readNot (64 * j + i) b := s_byC (L := B_X5_readNot) (by decide +kernel) (by decide +kernel) j i h
theorem dX5_readNot_0 : decode cX5_readNot 0 = .ok (.aload_n 0, 1) := dz_42 (k_X5_readNot 0 0 rfl)
theorem dX5_readNot_1 : decode cX5_readNot 1 = .ok (.iload_n 1, 1) := dz_27 (k_X5_readNot 0 1 rfl)
theorem dX5_readNot_2 : decode cX5_readNot 2 = .ok (.invokevirtual 50, 3) := dz_182 (k_X5_readNot 0 2 rfl) (k_X5_readNot 0 3 rfl) (k_X5_readNot 0 4 rfl) rfl
theorem dX5_readNot_5 : decode cX5_readNot 5 = .ok (.ifCond .eq 14, 3) := dz_153 (k_X5_readNot 0 5 rfl) (k_X5_readNot 0 6 rfl) (k_X5_readNot 0 7 rfl) rfl
theorem dX5_readNot_8 : decode cX5_readNot 8 = .ok (.aload_n 0, 1) := dz_42 (k_X5_readNot 0 8 rfl)
theorem dX5_readNot_9 : decode cX5_readNot 9 = .ok (.aload_n 0, 1) := dz_42 (k_X5_readNot 0 9 rfl)
theorem dX5_readNot_10 : decode cX5_readNot 10 = .ok (.getfield 29, 3) := dz_180 (k_X5_readNot 0 10 rfl) (k_X5_readNot 0 11 rfl) (k_X5_readNot 0 12 rfl) rfl
theorem dX5_readNot_13 : decode cX5_readNot 13 = .ok (.invokevirtual 54, 3) := dz_182 (k_X5_readNot 0 13 rfl) (k_X5_readNot 0 14 rfl) (k_X5_readNot 0 15 rfl) rfl
theorem dX5_readNot_16 : decode cX5_readNot 16 = .ok (.ifCond .ne 5, 3) := dz_154 (k_X5_readNot 0 16 rfl) (k_X5_readNot 0 17 rfl) (k_X5_readNot 0 18 rfl) rfl
theorem dX5_readNot_19 : decode cX5_readNot 19 = .ok (.iconst (-1), 1) := dz_2 (k_X5_readNot 0 19 rfl)
theorem dX5_readNot_20 : decode cX5_readNot 20 = .ok (.ireturn, 1) := dz_172 (k_X5_readNot 0 20 rfl)
theorem dX5_readNot_21 : decode cX5_readNot 21 = .ok (.aload_n 0, 1) := dz_42 (k_X5_readNot 0 21 rfl)
theorem dX5_readNot_22 : decode cX5_readNot 22 = .ok (.dup, 1) := dz_89 (k_X5_readNot 0 22 rfl)
theorem dX5_readNot_23 : decode cX5_readNot 23 = .ok (.getfield 29, 3) := dz_180 (k_X5_readNot 0 23 rfl) (k_X5_readNot 0 24 rfl) (k_X5_readNot 0 25 rfl) rfl
theorem dX5_readNot_26 : decode cX5_readNot 26 = .ok (.iconst 1, 1) := dz_4 (k_X5_readNot 0 26 rfl)
theorem dX5_readNot_27 : decode cX5_readNot 27 = .ok (.iadd, 1) := dz_96 (k_X5_readNot 0 27 rfl)
theorem dX5_readNot_28 : decode cX5_readNot 28 = .ok (.putfield 29, 3) := dz_181 (k_X5_readNot 0 28 rfl) (k_X5_readNot 0 29 rfl) (k_X5_readNot 0 30 rfl) rfl
theorem dX5_readNot_31 : decode cX5_readNot 31 = .ok (.aload_n 0, 1) := dz_42 (k_X5_readNot 0 31 rfl)
theorem dX5_readNot_32 : decode cX5_readNot 32 = .ok (.iconst 1, 1) := dz_4 (k_X5_readNot 0 32 rfl)
theorem dX5_readNot_33 : decode cX5_readNot 33 = .ok (.aload_n 0, 1) := dz_42 (k_X5_readNot 0 33 rfl)
theorem dX5_readNot_34 : decode cX5_readNot 34 = .ok (.iload_n 1, 1) := dz_27 (k_X5_readNot 0 34 rfl)
theorem dX5_readNot_35 : decode cX5_readNot 35 = .ok (.iconst 1, 1) := dz_4 (k_X5_readNot 0 35 rfl)
theorem dX5_readNot_36 : decode cX5_readNot 36 = .ok (.iadd, 1) := dz_96 (k_X5_readNot 0 36 rfl)
theorem dX5_readNot_37 : decode cX5_readNot 37 = .ok (.iload_n 2, 1) := dz_28 (k_X5_readNot 0 37 rfl)
theorem dX5_readNot_38 : decode cX5_readNot 38 = .ok (.invokevirtual 66, 3) := dz_182 (k_X5_readNot 0 38 rfl) (k_X5_readNot 0 39 rfl) (k_X5_readNot 0 40 rfl) rfl
theorem dX5_readNot_41 : decode cX5_readNot 41 = .ok (.iconst (-1), 1) := dz_2 (k_X5_readNot 0 41 rfl)
theorem dX5_readNot_42 : decode cX5_readNot 42 = .ok (.invokevirtual 59, 3) := dz_182 (k_X5_readNot 0 42 rfl) (k_X5_readNot 0 43 rfl) (k_X5_readNot 0 44 rfl) rfl
theorem dX5_readNot_45 : decode cX5_readNot 45 = .ok (.ireturn, 1) := dz_172 (k_X5_readNot 0 45 rfl)
def B_X5_readOr : List (List Nat) := [[42, 27, 28, 182, 0, 63, 62, 3, 54, 4, 21, 4, 17, 1, 144, 162, 0, 52, 42, 182, 0, 39, 16, 124, 160, 0, 43, 42, 42, 180, 0, 29, 182, 0, 54, 153, 0, 32, 42, 89, 180, 0, 29, 4, 96, 181, 0, 29, 42, 6, 29, 42, 27, 28, 182, 0, 63, 182, 0, 59, 62, 132, 4, 1], [167, 255, 202, 29, 172]]
theorem k_X5_readOr (j i : Nat) {b : Nat} (h : (B_X5_readOr[j]?.bind fun c => c[i]?) = some b) : s_by cX5_readOr (64 * j + i) b := s_byC (L := B_X5_readOr) (by decide +kernel) (by decide +kernel) j i h
theorem dX5_readOr_0 : decode cX5_readOr 0 = .ok (.aload_n 0, 1) := dz_42 (k_X5_readOr 0 0 rfl)
theorem dX5_readOr_1 : decode cX5_readOr 1 = .ok (.iload_n 1, 1) := dz_27 (k_X5_readOr 0 1 rfl)
theorem dX5_readOr_2 : decode cX5_readOr 2 = .ok (.iload_n 2, 1) := dz_28 (k_X5_readOr 0 2 rfl)
theorem dX5_readOr_3 : decode cX5_readOr 3 = .ok (.invokevirtual 63, 3) := dz_182 (k_X5_readOr 0 3 rfl) (k_X5_readOr 0 4 rfl) (k_X5_readOr 0 5 rfl) rfl
theorem dX5_readOr_6 : decode cX5_readOr 6 = .ok (.istore_n 3, 1) := dz_62 (k_X5_readOr 0 6 rfl)
theorem dX5_readOr_7 : decode cX5_readOr 7 = .ok (.iconst 0, 1) := dz_3 (k_X5_readOr 0 7 rfl)
theorem dX5_readOr_8 : decode cX5_readOr 8 = .ok (.istore 4, 2) := dz_54 (k_X5_readOr 0 8 rfl) (k_X5_readOr 0 9 rfl)
theorem dX5_readOr_10 : decode cX5_readOr 10 = .ok (.iload 4, 2) := dz_21 (k_X5_readOr 0 10 rfl) (k_X5_readOr 0 11 rfl)
theorem dX5_readOr_12 : decode cX5_readOr 12 = .ok (.sipush 400, 3) := dz_17 (k_X5_readOr 0 12 rfl) (k_X5_readOr 0 13 rfl) (k_X5_readOr 0 14 rfl) rfl
theorem dX5_readOr_15 : decode cX5_readOr 15 = .ok (.if_icmp .ge 52, 3) := dz_162 (k_X5_readOr 0 15 rfl) (k_X5_readOr 0 16 rfl) (k_X5_readOr 0 17 rfl) rfl
theorem dX5_readOr_18 : decode cX5_readOr 18 = .ok (.aload_n 0, 1) := dz_42 (k_X5_readOr 0 18 rfl)
theorem dX5_readOr_19 : decode cX5_readOr 19 = .ok (.invokevirtual 39, 3) := dz_182 (k_X5_readOr 0 19 rfl) (k_X5_readOr 0 20 rfl) (k_X5_readOr 0 21 rfl) rfl
theorem dX5_readOr_22 : decode cX5_readOr 22 = .ok (.bipush 124, 2) := dz_16 (k_X5_readOr 0 22 rfl) (k_X5_readOr 0 23 rfl) rfl
theorem dX5_readOr_24 : decode cX5_readOr 24 = .ok (.if_icmp .ne 43, 3) := dz_160 (k_X5_readOr 0 24 rfl) (k_X5_readOr 0 25 rfl) (k_X5_readOr 0 26 rfl) rfl
theorem dX5_readOr_27 : decode cX5_readOr 27 = .ok (.aload_n 0, 1) := dz_42 (k_X5_readOr 0 27 rfl)
theorem dX5_readOr_28 : decode cX5_readOr 28 = .ok (.aload_n 0, 1) := dz_42 (k_X5_readOr 0 28 rfl)
theorem dX5_readOr_29 : decode cX5_readOr 29 = .ok (.getfield 29, 3) := dz_180 (k_X5_readOr 0 29 rfl) (k_X5_readOr 0 30 rfl) (k_X5_readOr 0 31 rfl) rfl
theorem dX5_readOr_32 : decode cX5_readOr 32 = .ok (.invokevirtual 54, 3) := dz_182 (k_X5_readOr 0 32 rfl) (k_X5_readOr 0 33 rfl) (k_X5_readOr 0 34 rfl) rfl
theorem dX5_readOr_35 : decode cX5_readOr 35 = .ok (.ifCond .eq 32, 3) := dz_153 (k_X5_readOr 0 35 rfl) (k_X5_readOr 0 36 rfl) (k_X5_readOr 0 37 rfl) rfl
theorem dX5_readOr_38 : decode cX5_readOr 38 = .ok (.aload_n 0, 1) := dz_42 (k_X5_readOr 0 38 rfl)
theorem dX5_readOr_39 : decode cX5_readOr 39 = .ok (.dup, 1) := dz_89 (k_X5_readOr 0 39 rfl)
theorem dX5_readOr_40 : decode cX5_readOr 40 = .ok (.getfield 29, 3) := dz_180 (k_X5_readOr 0 40 rfl) (k_X5_readOr 0 41 rfl) (k_X5_readOr 0 42 rfl) rfl
theorem dX5_readOr_43 : decode cX5_readOr 43 = .ok (.iconst 1, 1) := dz_4 (k_X5_readOr 0 43 rfl)
theorem dX5_readOr_44 : decode cX5_readOr 44 = .ok (.iadd, 1) := dz_96 (k_X5_readOr 0 44 rfl)
theorem dX5_readOr_45 : decode cX5_readOr 45 = .ok (.putfield 29, 3) := dz_181 (k_X5_readOr 0 45 rfl) (k_X5_readOr 0 46 rfl) (k_X5_readOr 0 47 rfl) rfl
theorem dX5_readOr_48 : decode cX5_readOr 48 = .ok (.aload_n 0, 1) := dz_42 (k_X5_readOr 0 48 rfl)
theorem dX5_readOr_49 : decode cX5_readOr 49 = .ok (.iconst 3, 1) := dz_6 (k_X5_readOr 0 49 rfl)
theorem dX5_readOr_50 : decode cX5_readOr 50 = .ok (.iload_n 3, 1) := dz_29 (k_X5_readOr 0 50 rfl)
theorem dX5_readOr_51 : decode cX5_readOr 51 = .ok (.aload_n 0, 1) := dz_42 (k_X5_readOr 0 51 rfl)
theorem dX5_readOr_52 : decode cX5_readOr 52 = .ok (.iload_n 1, 1) := dz_27 (k_X5_readOr 0 52 rfl)
theorem dX5_readOr_53 : decode cX5_readOr 53 = .ok (.iload_n 2, 1) := dz_28 (k_X5_readOr 0 53 rfl)
theorem dX5_readOr_54 : decode cX5_readOr 54 = .ok (.invokevirtual 63, 3) := dz_182 (k_X5_readOr 0 54 rfl) (k_X5_readOr 0 55 rfl) (k_X5_readOr 0 56 rfl) rfl
theorem dX5_readOr_57 : decode cX5_readOr 57 = .ok (.invokevirtual 59, 3) := dz_182 (k_X5_readOr 0 57 rfl) (k_X5_readOr 0 58 rfl) (k_X5_readOr 0 59 rfl) rfl
theorem dX5_readOr_60 : decode cX5_readOr 60 = .ok (.istore_n 3, 1) := dz_62 (k_X5_readOr 0 60 rfl)
theorem dX5_readOr_61 : decode cX5_readOr 61 = .ok (.iinc 4 1, 3) := dz_132 (k_X5_readOr 0 61 rfl) (k_X5_readOr 0 62 rfl) (k_X5_readOr 0 63 rfl) rfl
theorem dX5_readOr_64 : decode cX5_readOr 64 = .ok (.goto (-54), 3) := dz_167 (k_X5_readOr 1 0 rfl) (k_X5_readOr 1 1 rfl) (k_X5_readOr 1 2 rfl) rfl
theorem dX5_readOr_67 : decode cX5_readOr 67 = .ok (.iload_n 3, 1) := dz_29 (k_X5_readOr 1 3 rfl)
theorem dX5_readOr_68 : decode cX5_readOr 68 = .ok (.ireturn, 1) := dz_172 (k_X5_readOr 1 4 rfl)
def B_X5_readShort : List (List Nat) := [[27, 184, 0, 106, 61, 28, 2, 160, 0, 12, 42, 42, 180, 0, 29, 182, 0, 43, 172, 28, 7, 162, 0, 36, 42, 42, 180, 0, 29, 182, 0, 54, 154, 0, 5, 2, 172, 42, 89, 180, 0, 29, 4, 96, 181, 0, 29, 42, 180, 0, 19, 28, 3, 182, 0, 109, 172, 42, 42, 180, 0, 29, 4, 96], [182, 0, 96, 16, 48, 100, 62, 29, 155, 0, 9, 29, 16, 9, 164, 0, 12, 42, 42, 180, 0, 29, 182, 0, 43, 172, 42, 42, 180, 0, 29, 182, 0, 54, 154, 0, 5, 2, 172, 29, 42, 180, 0, 26, 161, 0, 14, 42, 42, 180, 0, 29, 4, 96, 182, 0, 43, 172, 42, 89, 180, 0, 29, 5], [96, 181, 0, 29, 42, 180, 0, 19, 28, 29, 182, 0, 109, 172]]
theorem k_X5_readShort (j i : Nat) {b : Nat} (h : (B_X5_readShort[j]?.bind fun c => c[i]?) = some b) : s_by cX5_readShort (64 * j + i) b := s_byC (L := B_X5_readShort) (by decide +kernel) (by decide +kernel) j i h
theorem dX5_readShort_0 : decode cX5_readShort 0 = .ok (.iload_n 1, 1) := dz_27 (k_X5_readShort 0 0 rfl)
theorem dX5_readShort_1 : decode cX5_readShort 1 = .ok (.invokestatic 106, 3) := dz_184 (k_X5_readShort 0 1 rfl) (k_X5_readShort 0 2 rfl) (k_X5_readShort 0 3 rfl) rfl
theorem dX5_readShort_4 : decode cX5_readShort 4 = .ok (.istore_n 2, 1) := dz_61 (k_X5_readShort 0 4 rfl)
theorem dX5_readShort_5 : decode cX5_readShort 5 = .ok (.iload_n 2, 1) := dz_28 (k_X5_readShort 0 5 rfl)
theorem dX5_readShort_6 : decode cX5_readShort 6 = .ok (.iconst (-1), 1) := dz_2 (k_X5_readShort 0 6 rfl)
theorem dX5_readShort_7 : decode cX5_readShort 7 = .ok (.if_icmp .ne 12, 3) := dz_160 (k_X5_readShort 0 7 rfl) (k_X5_readShort 0 8 rfl) (k_X5_readShort 0 9 rfl) rfl
theorem dX5_readShort_10 : decode cX5_readShort 10 = .ok (.aload_n 0, 1) := dz_42 (k_X5_readShort 0 10 rfl)
theorem dX5_readShort_11 : decode cX5_readShort 11 = .ok (.aload_n 0, 1) := dz_42 (k_X5_readShort 0 11 rfl)
theorem dX5_readShort_12 : decode cX5_readShort 12 = .ok (.getfield 29, 3) := dz_180 (k_X5_readShort 0 12 rfl) (k_X5_readShort 0 13 rfl) (k_X5_readShort 0 14 rfl) rfl
theorem dX5_readShort_15 : decode cX5_readShort 15 = .ok (.invokevirtual 43, 3) := dz_182 (k_X5_readShort 0 15 rfl) (k_X5_readShort 0 16 rfl) (k_X5_readShort 0 17 rfl) rfl
theorem dX5_readShort_18 : decode cX5_readShort 18 = .ok (.ireturn, 1) := dz_172 (k_X5_readShort 0 18 rfl)
theorem dX5_readShort_19 : decode cX5_readShort 19 = .ok (.iload_n 2, 1) := dz_28 (k_X5_readShort 0 19 rfl)
theorem dX5_readShort_20 : decode cX5_readShort 20 = .ok (.iconst 4, 1) := dz_7 (k_X5_readShort 0 20 rfl)
theorem dX5_readShort_21 : decode cX5_readShort 21 = .ok (.if_icmp .ge 36, 3) := dz_162 (k_X5_readShort 0 21 rfl) (k_X5_readShort 0 22 rfl) (k_X5_readShort 0 23 rfl) rfl
theorem dX5_readShort_24 : decode cX5_readShort 24 = .ok (.aload_n 0, 1) := dz_42 (k_X5_readShort 0 24 rfl)
theorem dX5_readShort_25 : decode cX5_readShort 25 = .ok (.aload_n 0, 1) := dz_42 (k_X5_readShort 0 25 rfl)
theorem dX5_readShort_26 : decode cX5_readShort 26 = .ok (.getfield 29, 3) := dz_180 (k_X5_readShort 0 26 rfl) (k_X5_readShort 0 27 rfl) (k_X5_readShort 0 28 rfl) rfl
theorem dX5_readShort_29 : decode cX5_readShort 29 = .ok (.invokevirtual 54, 3) := dz_182 (k_X5_readShort 0 29 rfl) (k_X5_readShort 0 30 rfl) (k_X5_readShort 0 31 rfl) rfl
theorem dX5_readShort_32 : decode cX5_readShort 32 = .ok (.ifCond .ne 5, 3) := dz_154 (k_X5_readShort 0 32 rfl) (k_X5_readShort 0 33 rfl) (k_X5_readShort 0 34 rfl) rfl
theorem dX5_readShort_35 : decode cX5_readShort 35 = .ok (.iconst (-1), 1) := dz_2 (k_X5_readShort 0 35 rfl)
theorem dX5_readShort_36 : decode cX5_readShort 36 = .ok (.ireturn, 1) := dz_172 (k_X5_readShort 0 36 rfl)
theorem dX5_readShort_37 : decode cX5_readShort 37 = .ok (.aload_n 0, 1) := dz_42 (k_X5_readShort 0 37 rfl)
theorem dX5_readShort_38 : decode cX5_readShort 38 = .ok (.dup, 1) := dz_89 (k_X5_readShort 0 38 rfl)
theorem dX5_readShort_39 : decode cX5_readShort 39 = .ok (.getfield 29, 3) := dz_180 (k_X5_readShort 0 39 rfl) (k_X5_readShort 0 40 rfl) (k_X5_readShort 0 41 rfl) rfl
theorem dX5_readShort_42 : decode cX5_readShort 42 = .ok (.iconst 1, 1) := dz_4 (k_X5_readShort 0 42 rfl)
theorem dX5_readShort_43 : decode cX5_readShort 43 = .ok (.iadd, 1) := dz_96 (k_X5_readShort 0 43 rfl)
theorem dX5_readShort_44 : decode cX5_readShort 44 = .ok (.putfield 29, 3) := dz_181 (k_X5_readShort 0 44 rfl) (k_X5_readShort 0 45 rfl) (k_X5_readShort 0 46 rfl) rfl
theorem dX5_readShort_47 : decode cX5_readShort 47 = .ok (.aload_n 0, 1) := dz_42 (k_X5_readShort 0 47 rfl)
theorem dX5_readShort_48 : decode cX5_readShort 48 = .ok (.getfield 19, 3) := dz_180 (k_X5_readShort 0 48 rfl) (k_X5_readShort 0 49 rfl) (k_X5_readShort 0 50 rfl) rfl
theorem dX5_readShort_51 : decode cX5_readShort 51 = .ok (.iload_n 2, 1) := dz_28 (k_X5_readShort 0 51 rfl)
theorem dX5_readShort_52 : decode cX5_readShort 52 = .ok (.iconst 0, 1) := dz_3 (k_X5_readShort 0 52 rfl)
theorem dX5_readShort_53 : decode cX5_readShort 53 = .ok (.invokevirtual 109, 3) := dz_182 (k_X5_readShort 0 53 rfl) (k_X5_readShort 0 54 rfl) (k_X5_readShort 0 55 rfl) rfl
theorem dX5_readShort_56 : decode cX5_readShort 56 = .ok (.ireturn, 1) := dz_172 (k_X5_readShort 0 56 rfl)
theorem dX5_readShort_57 : decode cX5_readShort 57 = .ok (.aload_n 0, 1) := dz_42 (k_X5_readShort 0 57 rfl)
theorem dX5_readShort_58 : decode cX5_readShort 58 = .ok (.aload_n 0, 1) := dz_42 (k_X5_readShort 0 58 rfl)
theorem dX5_readShort_59 : decode cX5_readShort 59 = .ok (.getfield 29, 3) := dz_180 (k_X5_readShort 0 59 rfl) (k_X5_readShort 0 60 rfl) (k_X5_readShort 0 61 rfl) rfl
theorem dX5_readShort_62 : decode cX5_readShort 62 = .ok (.iconst 1, 1) := dz_4 (k_X5_readShort 0 62 rfl)
theorem dX5_readShort_63 : decode cX5_readShort 63 = .ok (.iadd, 1) := dz_96 (k_X5_readShort 0 63 rfl)
theorem dX5_readShort_64 : decode cX5_readShort 64 = .ok (.invokevirtual 96, 3) := dz_182 (k_X5_readShort 1 0 rfl) (k_X5_readShort 1 1 rfl) (k_X5_readShort 1 2 rfl) rfl
theorem dX5_readShort_67 : decode cX5_readShort 67 = .ok (.bipush 48, 2) := dz_16 (k_X5_readShort 1 3 rfl) (k_X5_readShort 1 4 rfl) rfl
theorem dX5_readShort_69 : decode cX5_readShort 69 = .ok (.isub, 1) := dz_100 (k_X5_readShort 1 5 rfl)
theorem dX5_readShort_70 : decode cX5_readShort 70 = .ok (.istore_n 3, 1) := dz_62 (k_X5_readShort 1 6 rfl)
theorem dX5_readShort_71 : decode cX5_readShort 71 = .ok (.iload_n 3, 1) := dz_29 (k_X5_readShort 1 7 rfl)
theorem dX5_readShort_72 : decode cX5_readShort 72 = .ok (.ifCond .lt 9, 3) := dz_155 (k_X5_readShort 1 8 rfl) (k_X5_readShort 1 9 rfl) (k_X5_readShort 1 10 rfl) rfl
theorem dX5_readShort_75 : decode cX5_readShort 75 = .ok (.iload_n 3, 1) := dz_29 (k_X5_readShort 1 11 rfl)
theorem dX5_readShort_76 : decode cX5_readShort 76 = .ok (.bipush 9, 2) := dz_16 (k_X5_readShort 1 12 rfl) (k_X5_readShort 1 13 rfl) rfl
theorem dX5_readShort_78 : decode cX5_readShort 78 = .ok (.if_icmp .le 12, 3) := dz_164 (k_X5_readShort 1 14 rfl) (k_X5_readShort 1 15 rfl) (k_X5_readShort 1 16 rfl) rfl
theorem dX5_readShort_81 : decode cX5_readShort 81 = .ok (.aload_n 0, 1) := dz_42 (k_X5_readShort 1 17 rfl)
theorem dX5_readShort_82 : decode cX5_readShort 82 = .ok (.aload_n 0, 1) := dz_42 (k_X5_readShort 1 18 rfl)
theorem dX5_readShort_83 : decode cX5_readShort 83 = .ok (.getfield 29, 3) := dz_180 (k_X5_readShort 1 19 rfl) (k_X5_readShort 1 20 rfl) (k_X5_readShort 1 21 rfl) rfl
theorem dX5_readShort_86 : decode cX5_readShort 86 = .ok (.invokevirtual 43, 3) := dz_182 (k_X5_readShort 1 22 rfl) (k_X5_readShort 1 23 rfl) (k_X5_readShort 1 24 rfl) rfl
theorem dX5_readShort_89 : decode cX5_readShort 89 = .ok (.ireturn, 1) := dz_172 (k_X5_readShort 1 25 rfl)
theorem dX5_readShort_90 : decode cX5_readShort 90 = .ok (.aload_n 0, 1) := dz_42 (k_X5_readShort 1 26 rfl)
theorem dX5_readShort_91 : decode cX5_readShort 91 = .ok (.aload_n 0, 1) := dz_42 (k_X5_readShort 1 27 rfl)
theorem dX5_readShort_92 : decode cX5_readShort 92 = .ok (.getfield 29, 3) := dz_180 (k_X5_readShort 1 28 rfl) (k_X5_readShort 1 29 rfl) (k_X5_readShort 1 30 rfl) rfl
theorem dX5_readShort_95 : decode cX5_readShort 95 = .ok (.invokevirtual 54, 3) := dz_182 (k_X5_readShort 1 31 rfl) (k_X5_readShort 1 32 rfl) (k_X5_readShort 1 33 rfl) rfl
theorem dX5_readShort_98 : decode cX5_readShort 98 = .ok (.ifCond .ne 5, 3) := dz_154 (k_X5_readShort 1 34 rfl) (k_X5_readShort 1 35 rfl) (k_X5_readShort 1 36 rfl) rfl
theorem dX5_readShort_101 : decode cX5_readShort 101 = .ok (.iconst (-1), 1) := dz_2 (k_X5_readShort 1 37 rfl)
theorem dX5_readShort_102 : decode cX5_readShort 102 = .ok (.ireturn, 1) := dz_172 (k_X5_readShort 1 38 rfl)
theorem dX5_readShort_103 : decode cX5_readShort 103 = .ok (.iload_n 3, 1) := dz_29 (k_X5_readShort 1 39 rfl)
theorem dX5_readShort_104 : decode cX5_readShort 104 = .ok (.aload_n 0, 1) := dz_42 (k_X5_readShort 1 40 rfl)
theorem dX5_readShort_105 : decode cX5_readShort 105 = .ok (.getfield 26, 3) := dz_180 (k_X5_readShort 1 41 rfl) (k_X5_readShort 1 42 rfl) (k_X5_readShort 1 43 rfl) rfl
theorem dX5_readShort_108 : decode cX5_readShort 108 = .ok (.if_icmp .lt 14, 3) := dz_161 (k_X5_readShort 1 44 rfl) (k_X5_readShort 1 45 rfl) (k_X5_readShort 1 46 rfl) rfl
theorem dX5_readShort_111 : decode cX5_readShort 111 = .ok (.aload_n 0, 1) := dz_42 (k_X5_readShort 1 47 rfl)
theorem dX5_readShort_112 : decode cX5_readShort 112 = .ok (.aload_n 0, 1) := dz_42 (k_X5_readShort 1 48 rfl)
theorem dX5_readShort_113 : decode cX5_readShort 113 = .ok (.getfield 29, 3) := dz_180 (k_X5_readShort 1 49 rfl) (k_X5_readShort 1 50 rfl) (k_X5_readShort 1 51 rfl) rfl
theorem dX5_readShort_116 : decode cX5_readShort 116 = .ok (.iconst 1, 1) := dz_4 (k_X5_readShort 1 52 rfl)
theorem dX5_readShort_117 : decode cX5_readShort 117 = .ok (.iadd, 1) := dz_96 (k_X5_readShort 1 53 rfl)
theorem dX5_readShort_118 : decode cX5_readShort 118 = .ok (.invokevirtual 43, 3) := dz_182 (k_X5_readShort 1 54 rfl) (k_X5_readShort 1 55 rfl) (k_X5_readShort 1 56 rfl) rfl
theorem dX5_readShort_121 : decode cX5_readShort 121 = .ok (.ireturn, 1) := dz_172 (k_X5_readShort 1 57 rfl)
theorem dX5_readShort_122 : decode cX5_readShort 122 = .ok (.aload_n 0, 1) := dz_42 (k_X5_readShort 1 58 rfl)
theorem dX5_readShort_123 : decode cX5_readShort 123 = .ok (.dup, 1) := dz_89 (k_X5_readShort 1 59 rfl)
theorem dX5_readShort_124 : decode cX5_readShort 124 = .ok (.getfield 29, 3) := dz_180 (k_X5_readShort 1 60 rfl) (k_X5_readShort 1 61 rfl) (k_X5_readShort 1 62 rfl) rfl
theorem dX5_readShort_127 : decode cX5_readShort 127 = .ok (.iconst 2, 1) := dz_5 (k_X5_readShort 1 63 rfl)
theorem dX5_readShort_128 : decode cX5_readShort 128 = .ok (.iadd, 1) := dz_96 (k_X5_readShort 2 0 rfl)
theorem dX5_readShort_129 : decode cX5_readShort 129 = .ok (.putfield 29, 3) := dz_181 (k_X5_readShort 2 1 rfl) (k_X5_readShort 2 2 rfl) (k_X5_readShort 2 3 rfl) rfl
theorem dX5_readShort_132 : decode cX5_readShort 132 = .ok (.aload_n 0, 1) := dz_42 (k_X5_readShort 2 4 rfl)
theorem dX5_readShort_133 : decode cX5_readShort 133 = .ok (.getfield 19, 3) := dz_180 (k_X5_readShort 2 5 rfl) (k_X5_readShort 2 6 rfl) (k_X5_readShort 2 7 rfl) rfl
theorem dX5_readShort_136 : decode cX5_readShort 136 = .ok (.iload_n 2, 1) := dz_28 (k_X5_readShort 2 8 rfl)
theorem dX5_readShort_137 : decode cX5_readShort 137 = .ok (.iload_n 3, 1) := dz_29 (k_X5_readShort 2 9 rfl)
theorem dX5_readShort_138 : decode cX5_readShort 138 = .ok (.invokevirtual 109, 3) := dz_182 (k_X5_readShort 2 10 rfl) (k_X5_readShort 2 11 rfl) (k_X5_readShort 2 12 rfl) rfl
theorem dX5_readShort_141 : decode cX5_readShort 141 = .ok (.ireturn, 1) := dz_172 (k_X5_readShort 2 13 rfl)
def B_X5_readUnit : List (List Nat) := [[42, 182, 0, 39, 62, 29, 2, 160, 0, 12, 42, 42, 180, 0, 23, 182, 0, 43, 172, 29, 16, 45, 160, 0, 10, 42, 27, 28, 182, 0, 69, 172, 29, 16, 40, 160, 0, 10, 42, 27, 28, 182, 0, 72, 172, 42, 42, 180, 0, 29, 182, 0, 75, 153, 0, 10, 42, 27, 28, 182, 0, 78, 172, 42], [42, 180, 0, 29, 182, 0, 43, 172]]
theorem k_X5_readUnit (j i : Nat) {b : Nat} (h : (B_X5_readUnit[j]?.bind fun c => c[i]?) = some b) : s_by cX5_readUnit (64 * j + i) b := s_byC (L := B_X5_readUnit) (by decide +kernel) (by decide +kernel) j i h
theorem dX5_readUnit_0 : decode cX5_readUnit 0 = .ok (.aload_n 0, 1) := dz_42 (k_X5_readUnit 0 0 rfl)
theorem dX5_readUnit_1 : decode cX5_readUnit 1 = .ok (.invokevirtual 39, 3) := dz_182 (k_X5_readUnit 0 1 rfl) (k_X5_readUnit 0 2 rfl) (k_X5_readUnit 0 3 rfl) rfl
theorem dX5_readUnit_4 : decode cX5_readUnit 4 = .ok (.istore_n 3, 1) := dz_62 (k_X5_readUnit 0 4 rfl)
theorem dX5_readUnit_5 : decode cX5_readUnit 5 = .ok (.iload_n 3, 1) := dz_29 (k_X5_readUnit 0 5 rfl)
theorem dX5_readUnit_6 : decode cX5_readUnit 6 = .ok (.iconst (-1), 1) := dz_2 (k_X5_readUnit 0 6 rfl)
theorem dX5_readUnit_7 : decode cX5_readUnit 7 = .ok (.if_icmp .ne 12, 3) := dz_160 (k_X5_readUnit 0 7 rfl) (k_X5_readUnit 0 8 rfl) (k_X5_readUnit 0 9 rfl) rfl
theorem dX5_readUnit_10 : decode cX5_readUnit 10 = .ok (.aload_n 0, 1) := dz_42 (k_X5_readUnit 0 10 rfl)
theorem dX5_readUnit_11 : decode cX5_readUnit 11 = .ok (.aload_n 0, 1) := dz_42 (k_X5_readUnit 0 11 rfl)
theorem dX5_readUnit_12 : decode cX5_readUnit 12 = .ok (.getfield 23, 3) := dz_180 (k_X5_readUnit 0 12 rfl) (k_X5_readUnit 0 13 rfl) (k_X5_readUnit 0 14 rfl) rfl
theorem dX5_readUnit_15 : decode cX5_readUnit 15 = .ok (.invokevirtual 43, 3) := dz_182 (k_X5_readUnit 0 15 rfl) (k_X5_readUnit 0 16 rfl) (k_X5_readUnit 0 17 rfl) rfl
theorem dX5_readUnit_18 : decode cX5_readUnit 18 = .ok (.ireturn, 1) := dz_172 (k_X5_readUnit 0 18 rfl)
theorem dX5_readUnit_19 : decode cX5_readUnit 19 = .ok (.iload_n 3, 1) := dz_29 (k_X5_readUnit 0 19 rfl)
theorem dX5_readUnit_20 : decode cX5_readUnit 20 = .ok (.bipush 45, 2) := dz_16 (k_X5_readUnit 0 20 rfl) (k_X5_readUnit 0 21 rfl) rfl
theorem dX5_readUnit_22 : decode cX5_readUnit 22 = .ok (.if_icmp .ne 10, 3) := dz_160 (k_X5_readUnit 0 22 rfl) (k_X5_readUnit 0 23 rfl) (k_X5_readUnit 0 24 rfl) rfl
theorem dX5_readUnit_25 : decode cX5_readUnit 25 = .ok (.aload_n 0, 1) := dz_42 (k_X5_readUnit 0 25 rfl)
theorem dX5_readUnit_26 : decode cX5_readUnit 26 = .ok (.iload_n 1, 1) := dz_27 (k_X5_readUnit 0 26 rfl)
theorem dX5_readUnit_27 : decode cX5_readUnit 27 = .ok (.iload_n 2, 1) := dz_28 (k_X5_readUnit 0 27 rfl)
theorem dX5_readUnit_28 : decode cX5_readUnit 28 = .ok (.invokevirtual 69, 3) := dz_182 (k_X5_readUnit 0 28 rfl) (k_X5_readUnit 0 29 rfl) (k_X5_readUnit 0 30 rfl) rfl
theorem dX5_readUnit_31 : decode cX5_readUnit 31 = .ok (.ireturn, 1) := dz_172 (k_X5_readUnit 0 31 rfl)
theorem dX5_readUnit_32 : decode cX5_readUnit 32 = .ok (.iload_n 3, 1) := dz_29 (k_X5_readUnit 0 32 rfl)
theorem dX5_readUnit_33 : decode cX5_readUnit 33 = .ok (.bipush 40, 2) := dz_16 (k_X5_readUnit 0 33 rfl) (k_X5_readUnit 0 34 rfl) rfl
theorem dX5_readUnit_35 : decode cX5_readUnit 35 = .ok (.if_icmp .ne 10, 3) := dz_160 (k_X5_readUnit 0 35 rfl) (k_X5_readUnit 0 36 rfl) (k_X5_readUnit 0 37 rfl) rfl
theorem dX5_readUnit_38 : decode cX5_readUnit 38 = .ok (.aload_n 0, 1) := dz_42 (k_X5_readUnit 0 38 rfl)
theorem dX5_readUnit_39 : decode cX5_readUnit 39 = .ok (.iload_n 1, 1) := dz_27 (k_X5_readUnit 0 39 rfl)
theorem dX5_readUnit_40 : decode cX5_readUnit 40 = .ok (.iload_n 2, 1) := dz_28 (k_X5_readUnit 0 40 rfl)
theorem dX5_readUnit_41 : decode cX5_readUnit 41 = .ok (.invokevirtual 72, 3) := dz_182 (k_X5_readUnit 0 41 rfl) (k_X5_readUnit 0 42 rfl) (k_X5_readUnit 0 43 rfl) rfl
theorem dX5_readUnit_44 : decode cX5_readUnit 44 = .ok (.ireturn, 1) := dz_172 (k_X5_readUnit 0 44 rfl)
theorem dX5_readUnit_45 : decode cX5_readUnit 45 = .ok (.aload_n 0, 1) := dz_42 (k_X5_readUnit 0 45 rfl)
theorem dX5_readUnit_46 : decode cX5_readUnit 46 = .ok (.aload_n 0, 1) := dz_42 (k_X5_readUnit 0 46 rfl)
theorem dX5_readUnit_47 : decode cX5_readUnit 47 = .ok (.getfield 29, 3) := dz_180 (k_X5_readUnit 0 47 rfl) (k_X5_readUnit 0 48 rfl) (k_X5_readUnit 0 49 rfl) rfl
theorem dX5_readUnit_50 : decode cX5_readUnit 50 = .ok (.invokevirtual 75, 3) := dz_182 (k_X5_readUnit 0 50 rfl) (k_X5_readUnit 0 51 rfl) (k_X5_readUnit 0 52 rfl) rfl
theorem dX5_readUnit_53 : decode cX5_readUnit 53 = .ok (.ifCond .eq 10, 3) := dz_153 (k_X5_readUnit 0 53 rfl) (k_X5_readUnit 0 54 rfl) (k_X5_readUnit 0 55 rfl) rfl
theorem dX5_readUnit_56 : decode cX5_readUnit 56 = .ok (.aload_n 0, 1) := dz_42 (k_X5_readUnit 0 56 rfl)
theorem dX5_readUnit_57 : decode cX5_readUnit 57 = .ok (.iload_n 1, 1) := dz_27 (k_X5_readUnit 0 57 rfl)
theorem dX5_readUnit_58 : decode cX5_readUnit 58 = .ok (.iload_n 2, 1) := dz_28 (k_X5_readUnit 0 58 rfl)
theorem dX5_readUnit_59 : decode cX5_readUnit 59 = .ok (.invokevirtual 78, 3) := dz_182 (k_X5_readUnit 0 59 rfl) (k_X5_readUnit 0 60 rfl) (k_X5_readUnit 0 61 rfl) rfl
theorem dX5_readUnit_62 : decode cX5_readUnit 62 = .ok (.ireturn, 1) := dz_172 (k_X5_readUnit 0 62 rfl)
theorem dX5_readUnit_63 : decode cX5_readUnit 63 = .ok (.aload_n 0, 1) := dz_42 (k_X5_readUnit 0 63 rfl)
theorem dX5_readUnit_64 : decode cX5_readUnit 64 = .ok (.aload_n 0, 1) := dz_42 (k_X5_readUnit 1 0 rfl)
theorem dX5_readUnit_65 : decode cX5_readUnit 65 = .ok (.getfield 29, 3) := dz_180 (k_X5_readUnit 1 1 rfl) (k_X5_readUnit 1 2 rfl) (k_X5_readUnit 1 3 rfl) rfl
theorem dX5_readUnit_68 : decode cX5_readUnit 68 = .ok (.invokevirtual 43, 3) := dz_182 (k_X5_readUnit 1 4 rfl) (k_X5_readUnit 1 5 rfl) (k_X5_readUnit 1 6 rfl) rfl
theorem dX5_readUnit_71 : decode cX5_readUnit 71 = .ok (.ireturn, 1) := dz_172 (k_X5_readUnit 1 7 rfl)
def B_X5_readWord : List (List Nat) := [[42, 180, 0, 29, 62, 42, 182, 0, 81, 54, 4, 42, 29, 21, 4, 18, 84, 182, 0, 86, 153, 0, 13, 42, 8, 21, 4, 27, 28, 182, 0, 90, 172, 42, 29, 21, 4, 18, 94, 182, 0, 86, 153, 0, 14, 42, 16, 6, 21, 4, 27, 28, 182, 0, 90, 172, 21, 4, 29, 100, 4, 160, 0, 13], [42, 42, 29, 182, 0, 96, 182, 0, 99, 172, 42, 29, 21, 4, 18, 102, 182, 0, 86, 154, 0, 15, 42, 29, 21, 4, 18, 104, 182, 0, 86, 153, 0, 7, 4, 167, 0, 4, 3, 54, 5, 21, 5, 153, 0, 15, 28, 153, 0, 11, 42, 29, 182, 0, 54, 154, 0, 9, 42, 29, 182, 0, 43, 172], [42, 21, 4, 181, 0, 29, 42, 180, 0, 19, 42, 29, 182, 0, 96, 184, 0, 106, 6, 182, 0, 109, 172]]
theorem k_X5_readWord (j i : Nat) {b : Nat} (h : (B_X5_readWord[j]?.bind fun c => c[i]?) = some b) : s_by cX5_readWord (64 * j + i) b := s_byC (L := B_X5_readWord) (by decide +kernel) (by decide +kernel) j i h
theorem dX5_readWord_0 : decode cX5_readWord 0 = .ok (.aload_n 0, 1) := dz_42 (k_X5_readWord 0 0 rfl)
theorem dX5_readWord_1 : decode cX5_readWord 1 = .ok (.getfield 29, 3) := dz_180 (k_X5_readWord 0 1 rfl) (k_X5_readWord 0 2 rfl) (k_X5_readWord 0 3 rfl) rfl
theorem dX5_readWord_4 : decode cX5_readWord 4 = .ok (.istore_n 3, 1) := dz_62 (k_X5_readWord 0 4 rfl)
theorem dX5_readWord_5 : decode cX5_readWord 5 = .ok (.aload_n 0, 1) := dz_42 (k_X5_readWord 0 5 rfl)
theorem dX5_readWord_6 : decode cX5_readWord 6 = .ok (.invokevirtual 81, 3) := dz_182 (k_X5_readWord 0 6 rfl) (k_X5_readWord 0 7 rfl) (k_X5_readWord 0 8 rfl) rfl
theorem dX5_readWord_9 : decode cX5_readWord 9 = .ok (.istore 4, 2) := dz_54 (k_X5_readWord 0 9 rfl) (k_X5_readWord 0 10 rfl)
theorem dX5_readWord_11 : decode cX5_readWord 11 = .ok (.aload_n 0, 1) := dz_42 (k_X5_readWord 0 11 rfl)
theorem dX5_readWord_12 : decode cX5_readWord 12 = .ok (.iload_n 3, 1) := dz_29 (k_X5_readWord 0 12 rfl)
theorem dX5_readWord_13 : decode cX5_readWord 13 = .ok (.iload 4, 2) := dz_21 (k_X5_readWord 0 13 rfl) (k_X5_readWord 0 14 rfl)
theorem dX5_readWord_15 : decode cX5_readWord 15 = .ok (.ldc 84, 2) := dz_18 (k_X5_readWord 0 15 rfl) (k_X5_readWord 0 16 rfl)
theorem dX5_readWord_17 : decode cX5_readWord 17 = .ok (.invokevirtual 86, 3) := dz_182 (k_X5_readWord 0 17 rfl) (k_X5_readWord 0 18 rfl) (k_X5_readWord 0 19 rfl) rfl
theorem dX5_readWord_20 : decode cX5_readWord 20 = .ok (.ifCond .eq 13, 3) := dz_153 (k_X5_readWord 0 20 rfl) (k_X5_readWord 0 21 rfl) (k_X5_readWord 0 22 rfl) rfl
theorem dX5_readWord_23 : decode cX5_readWord 23 = .ok (.aload_n 0, 1) := dz_42 (k_X5_readWord 0 23 rfl)
theorem dX5_readWord_24 : decode cX5_readWord 24 = .ok (.iconst 5, 1) := dz_8 (k_X5_readWord 0 24 rfl)
theorem dX5_readWord_25 : decode cX5_readWord 25 = .ok (.iload 4, 2) := dz_21 (k_X5_readWord 0 25 rfl) (k_X5_readWord 0 26 rfl)
theorem dX5_readWord_27 : decode cX5_readWord 27 = .ok (.iload_n 1, 1) := dz_27 (k_X5_readWord 0 27 rfl)
theorem dX5_readWord_28 : decode cX5_readWord 28 = .ok (.iload_n 2, 1) := dz_28 (k_X5_readWord 0 28 rfl)
theorem dX5_readWord_29 : decode cX5_readWord 29 = .ok (.invokevirtual 90, 3) := dz_182 (k_X5_readWord 0 29 rfl) (k_X5_readWord 0 30 rfl) (k_X5_readWord 0 31 rfl) rfl
theorem dX5_readWord_32 : decode cX5_readWord 32 = .ok (.ireturn, 1) := dz_172 (k_X5_readWord 0 32 rfl)
theorem dX5_readWord_33 : decode cX5_readWord 33 = .ok (.aload_n 0, 1) := dz_42 (k_X5_readWord 0 33 rfl)
theorem dX5_readWord_34 : decode cX5_readWord 34 = .ok (.iload_n 3, 1) := dz_29 (k_X5_readWord 0 34 rfl)
theorem dX5_readWord_35 : decode cX5_readWord 35 = .ok (.iload 4, 2) := dz_21 (k_X5_readWord 0 35 rfl) (k_X5_readWord 0 36 rfl)
theorem dX5_readWord_37 : decode cX5_readWord 37 = .ok (.ldc 94, 2) := dz_18 (k_X5_readWord 0 37 rfl) (k_X5_readWord 0 38 rfl)
theorem dX5_readWord_39 : decode cX5_readWord 39 = .ok (.invokevirtual 86, 3) := dz_182 (k_X5_readWord 0 39 rfl) (k_X5_readWord 0 40 rfl) (k_X5_readWord 0 41 rfl) rfl
theorem dX5_readWord_42 : decode cX5_readWord 42 = .ok (.ifCond .eq 14, 3) := dz_153 (k_X5_readWord 0 42 rfl) (k_X5_readWord 0 43 rfl) (k_X5_readWord 0 44 rfl) rfl
theorem dX5_readWord_45 : decode cX5_readWord 45 = .ok (.aload_n 0, 1) := dz_42 (k_X5_readWord 0 45 rfl)
theorem dX5_readWord_46 : decode cX5_readWord 46 = .ok (.bipush 6, 2) := dz_16 (k_X5_readWord 0 46 rfl) (k_X5_readWord 0 47 rfl) rfl
theorem dX5_readWord_48 : decode cX5_readWord 48 = .ok (.iload 4, 2) := dz_21 (k_X5_readWord 0 48 rfl) (k_X5_readWord 0 49 rfl)
theorem dX5_readWord_50 : decode cX5_readWord 50 = .ok (.iload_n 1, 1) := dz_27 (k_X5_readWord 0 50 rfl)
theorem dX5_readWord_51 : decode cX5_readWord 51 = .ok (.iload_n 2, 1) := dz_28 (k_X5_readWord 0 51 rfl)
theorem dX5_readWord_52 : decode cX5_readWord 52 = .ok (.invokevirtual 90, 3) := dz_182 (k_X5_readWord 0 52 rfl) (k_X5_readWord 0 53 rfl) (k_X5_readWord 0 54 rfl) rfl
theorem dX5_readWord_55 : decode cX5_readWord 55 = .ok (.ireturn, 1) := dz_172 (k_X5_readWord 0 55 rfl)
theorem dX5_readWord_56 : decode cX5_readWord 56 = .ok (.iload 4, 2) := dz_21 (k_X5_readWord 0 56 rfl) (k_X5_readWord 0 57 rfl)
theorem dX5_readWord_58 : decode cX5_readWord 58 = .ok (.iload_n 3, 1) := dz_29 (k_X5_readWord 0 58 rfl)
theorem dX5_readWord_59 : decode cX5_readWord 59 = .ok (.isub, 1) := dz_100 (k_X5_readWord 0 59 rfl)
theorem dX5_readWord_60 : decode cX5_readWord 60 = .ok (.iconst 1, 1) := dz_4 (k_X5_readWord 0 60 rfl)
theorem dX5_readWord_61 : decode cX5_readWord 61 = .ok (.if_icmp .ne 13, 3) := dz_160 (k_X5_readWord 0 61 rfl) (k_X5_readWord 0 62 rfl) (k_X5_readWord 0 63 rfl) rfl
theorem dX5_readWord_64 : decode cX5_readWord 64 = .ok (.aload_n 0, 1) := dz_42 (k_X5_readWord 1 0 rfl)
theorem dX5_readWord_65 : decode cX5_readWord 65 = .ok (.aload_n 0, 1) := dz_42 (k_X5_readWord 1 1 rfl)
theorem dX5_readWord_66 : decode cX5_readWord 66 = .ok (.iload_n 3, 1) := dz_29 (k_X5_readWord 1 2 rfl)
theorem dX5_readWord_67 : decode cX5_readWord 67 = .ok (.invokevirtual 96, 3) := dz_182 (k_X5_readWord 1 3 rfl) (k_X5_readWord 1 4 rfl) (k_X5_readWord 1 5 rfl) rfl
theorem dX5_readWord_70 : decode cX5_readWord 70 = .ok (.invokevirtual 99, 3) := dz_182 (k_X5_readWord 1 6 rfl) (k_X5_readWord 1 7 rfl) (k_X5_readWord 1 8 rfl) rfl
theorem dX5_readWord_73 : decode cX5_readWord 73 = .ok (.ireturn, 1) := dz_172 (k_X5_readWord 1 9 rfl)
theorem dX5_readWord_74 : decode cX5_readWord 74 = .ok (.aload_n 0, 1) := dz_42 (k_X5_readWord 1 10 rfl)
theorem dX5_readWord_75 : decode cX5_readWord 75 = .ok (.iload_n 3, 1) := dz_29 (k_X5_readWord 1 11 rfl)
theorem dX5_readWord_76 : decode cX5_readWord 76 = .ok (.iload 4, 2) := dz_21 (k_X5_readWord 1 12 rfl) (k_X5_readWord 1 13 rfl)
theorem dX5_readWord_78 : decode cX5_readWord 78 = .ok (.ldc 102, 2) := dz_18 (k_X5_readWord 1 14 rfl) (k_X5_readWord 1 15 rfl)
theorem dX5_readWord_80 : decode cX5_readWord 80 = .ok (.invokevirtual 86, 3) := dz_182 (k_X5_readWord 1 16 rfl) (k_X5_readWord 1 17 rfl) (k_X5_readWord 1 18 rfl) rfl
theorem dX5_readWord_83 : decode cX5_readWord 83 = .ok (.ifCond .ne 15, 3) := dz_154 (k_X5_readWord 1 19 rfl) (k_X5_readWord 1 20 rfl) (k_X5_readWord 1 21 rfl) rfl
theorem dX5_readWord_86 : decode cX5_readWord 86 = .ok (.aload_n 0, 1) := dz_42 (k_X5_readWord 1 22 rfl)
theorem dX5_readWord_87 : decode cX5_readWord 87 = .ok (.iload_n 3, 1) := dz_29 (k_X5_readWord 1 23 rfl)
theorem dX5_readWord_88 : decode cX5_readWord 88 = .ok (.iload 4, 2) := dz_21 (k_X5_readWord 1 24 rfl) (k_X5_readWord 1 25 rfl)
theorem dX5_readWord_90 : decode cX5_readWord 90 = .ok (.ldc 104, 2) := dz_18 (k_X5_readWord 1 26 rfl) (k_X5_readWord 1 27 rfl)
theorem dX5_readWord_92 : decode cX5_readWord 92 = .ok (.invokevirtual 86, 3) := dz_182 (k_X5_readWord 1 28 rfl) (k_X5_readWord 1 29 rfl) (k_X5_readWord 1 30 rfl) rfl
theorem dX5_readWord_95 : decode cX5_readWord 95 = .ok (.ifCond .eq 7, 3) := dz_153 (k_X5_readWord 1 31 rfl) (k_X5_readWord 1 32 rfl) (k_X5_readWord 1 33 rfl) rfl
theorem dX5_readWord_98 : decode cX5_readWord 98 = .ok (.iconst 1, 1) := dz_4 (k_X5_readWord 1 34 rfl)
theorem dX5_readWord_99 : decode cX5_readWord 99 = .ok (.goto 4, 3) := dz_167 (k_X5_readWord 1 35 rfl) (k_X5_readWord 1 36 rfl) (k_X5_readWord 1 37 rfl) rfl
theorem dX5_readWord_102 : decode cX5_readWord 102 = .ok (.iconst 0, 1) := dz_3 (k_X5_readWord 1 38 rfl)
theorem dX5_readWord_103 : decode cX5_readWord 103 = .ok (.istore 5, 2) := dz_54 (k_X5_readWord 1 39 rfl) (k_X5_readWord 1 40 rfl)
theorem dX5_readWord_105 : decode cX5_readWord 105 = .ok (.iload 5, 2) := dz_21 (k_X5_readWord 1 41 rfl) (k_X5_readWord 1 42 rfl)
theorem dX5_readWord_107 : decode cX5_readWord 107 = .ok (.ifCond .eq 15, 3) := dz_153 (k_X5_readWord 1 43 rfl) (k_X5_readWord 1 44 rfl) (k_X5_readWord 1 45 rfl) rfl
theorem dX5_readWord_110 : decode cX5_readWord 110 = .ok (.iload_n 2, 1) := dz_28 (k_X5_readWord 1 46 rfl)
theorem dX5_readWord_111 : decode cX5_readWord 111 = .ok (.ifCond .eq 11, 3) := dz_153 (k_X5_readWord 1 47 rfl) (k_X5_readWord 1 48 rfl) (k_X5_readWord 1 49 rfl) rfl
theorem dX5_readWord_114 : decode cX5_readWord 114 = .ok (.aload_n 0, 1) := dz_42 (k_X5_readWord 1 50 rfl)
theorem dX5_readWord_115 : decode cX5_readWord 115 = .ok (.iload_n 3, 1) := dz_29 (k_X5_readWord 1 51 rfl)
theorem dX5_readWord_116 : decode cX5_readWord 116 = .ok (.invokevirtual 54, 3) := dz_182 (k_X5_readWord 1 52 rfl) (k_X5_readWord 1 53 rfl) (k_X5_readWord 1 54 rfl) rfl
theorem dX5_readWord_119 : decode cX5_readWord 119 = .ok (.ifCond .ne 9, 3) := dz_154 (k_X5_readWord 1 55 rfl) (k_X5_readWord 1 56 rfl) (k_X5_readWord 1 57 rfl) rfl
theorem dX5_readWord_122 : decode cX5_readWord 122 = .ok (.aload_n 0, 1) := dz_42 (k_X5_readWord 1 58 rfl)
theorem dX5_readWord_123 : decode cX5_readWord 123 = .ok (.iload_n 3, 1) := dz_29 (k_X5_readWord 1 59 rfl)
theorem dX5_readWord_124 : decode cX5_readWord 124 = .ok (.invokevirtual 43, 3) := dz_182 (k_X5_readWord 1 60 rfl) (k_X5_readWord 1 61 rfl) (k_X5_readWord 1 62 rfl) rfl
theorem dX5_readWord_127 : decode cX5_readWord 127 = .ok (.ireturn, 1) := dz_172 (k_X5_readWord 1 63 rfl)
theorem dX5_readWord_128 : decode cX5_readWord 128 = .ok (.aload_n 0, 1) := dz_42 (k_X5_readWord 2 0 rfl)
theorem dX5_readWord_129 : decode cX5_readWord 129 = .ok (.iload 4, 2) := dz_21 (k_X5_readWord 2 1 rfl) (k_X5_readWord 2 2 rfl)
theorem dX5_readWord_131 : decode cX5_readWord 131 = .ok (.putfield 29, 3) := dz_181 (k_X5_readWord 2 3 rfl) (k_X5_readWord 2 4 rfl) (k_X5_readWord 2 5 rfl) rfl
theorem dX5_readWord_134 : decode cX5_readWord 134 = .ok (.aload_n 0, 1) := dz_42 (k_X5_readWord 2 6 rfl)
theorem dX5_readWord_135 : decode cX5_readWord 135 = .ok (.getfield 19, 3) := dz_180 (k_X5_readWord 2 7 rfl) (k_X5_readWord 2 8 rfl) (k_X5_readWord 2 9 rfl) rfl
theorem dX5_readWord_138 : decode cX5_readWord 138 = .ok (.aload_n 0, 1) := dz_42 (k_X5_readWord 2 10 rfl)
theorem dX5_readWord_139 : decode cX5_readWord 139 = .ok (.iload_n 3, 1) := dz_29 (k_X5_readWord 2 11 rfl)
theorem dX5_readWord_140 : decode cX5_readWord 140 = .ok (.invokevirtual 96, 3) := dz_182 (k_X5_readWord 2 12 rfl) (k_X5_readWord 2 13 rfl) (k_X5_readWord 2 14 rfl) rfl
theorem dX5_readWord_143 : decode cX5_readWord 143 = .ok (.invokestatic 106, 3) := dz_184 (k_X5_readWord 2 15 rfl) (k_X5_readWord 2 16 rfl) (k_X5_readWord 2 17 rfl) rfl
theorem dX5_readWord_146 : decode cX5_readWord 146 = .ok (.iconst 3, 1) := dz_6 (k_X5_readWord 2 18 rfl)
theorem dX5_readWord_147 : decode cX5_readWord 147 = .ok (.invokevirtual 109, 3) := dz_182 (k_X5_readWord 2 19 rfl) (k_X5_readWord 2 20 rfl) (k_X5_readWord 2 21 rfl) rfl
theorem dX5_readWord_150 : decode cX5_readWord 150 = .ok (.ireturn, 1) := dz_172 (k_X5_readWord 2 22 rfl)
def B_X5_wordEnd : List (List Nat) := [[42, 180, 0, 29, 60, 3, 61, 28, 17, 1, 144, 162, 0, 20, 42, 27, 182, 0, 75, 153, 0, 12, 132, 1, 1, 132, 2, 1, 167, 255, 235, 27, 172]]
theorem k_X5_wordEnd (j i : Nat) {b : Nat} (h : (B_X5_wordEnd[j]?.bind fun c => c[i]?) = some b) : s_by cX5_wordEnd (64 * j + i) b := s_byC (L := B_X5_wordEnd) (by decide +kernel) (by decide +kernel) j i h
theorem dX5_wordEnd_0 : decode cX5_wordEnd 0 = .ok (.aload_n 0, 1) := dz_42 (k_X5_wordEnd 0 0 rfl)
theorem dX5_wordEnd_1 : decode cX5_wordEnd 1 = .ok (.getfield 29, 3) := dz_180 (k_X5_wordEnd 0 1 rfl) (k_X5_wordEnd 0 2 rfl) (k_X5_wordEnd 0 3 rfl) rfl
theorem dX5_wordEnd_4 : decode cX5_wordEnd 4 = .ok (.istore_n 1, 1) := dz_60 (k_X5_wordEnd 0 4 rfl)
theorem dX5_wordEnd_5 : decode cX5_wordEnd 5 = .ok (.iconst 0, 1) := dz_3 (k_X5_wordEnd 0 5 rfl)
theorem dX5_wordEnd_6 : decode cX5_wordEnd 6 = .ok (.istore_n 2, 1) := dz_61 (k_X5_wordEnd 0 6 rfl)
theorem dX5_wordEnd_7 : decode cX5_wordEnd 7 = .ok (.iload_n 2, 1) := dz_28 (k_X5_wordEnd 0 7 rfl)
theorem dX5_wordEnd_8 : decode cX5_wordEnd 8 = .ok (.sipush 400, 3) := dz_17 (k_X5_wordEnd 0 8 rfl) (k_X5_wordEnd 0 9 rfl) (k_X5_wordEnd 0 10 rfl) rfl
theorem dX5_wordEnd_11 : decode cX5_wordEnd 11 = .ok (.if_icmp .ge 20, 3) := dz_162 (k_X5_wordEnd 0 11 rfl) (k_X5_wordEnd 0 12 rfl) (k_X5_wordEnd 0 13 rfl) rfl
theorem dX5_wordEnd_14 : decode cX5_wordEnd 14 = .ok (.aload_n 0, 1) := dz_42 (k_X5_wordEnd 0 14 rfl)
theorem dX5_wordEnd_15 : decode cX5_wordEnd 15 = .ok (.iload_n 1, 1) := dz_27 (k_X5_wordEnd 0 15 rfl)
theorem dX5_wordEnd_16 : decode cX5_wordEnd 16 = .ok (.invokevirtual 75, 3) := dz_182 (k_X5_wordEnd 0 16 rfl) (k_X5_wordEnd 0 17 rfl) (k_X5_wordEnd 0 18 rfl) rfl
theorem dX5_wordEnd_19 : decode cX5_wordEnd 19 = .ok (.ifCond .eq 12, 3) := dz_153 (k_X5_wordEnd 0 19 rfl) (k_X5_wordEnd 0 20 rfl) (k_X5_wordEnd 0 21 rfl) rfl
theorem dX5_wordEnd_22 : decode cX5_wordEnd 22 = .ok (.iinc 1 1, 3) := dz_132 (k_X5_wordEnd 0 22 rfl) (k_X5_wordEnd 0 23 rfl) (k_X5_wordEnd 0 24 rfl) rfl
theorem dX5_wordEnd_25 : decode cX5_wordEnd 25 = .ok (.iinc 2 1, 3) := dz_132 (k_X5_wordEnd 0 25 rfl) (k_X5_wordEnd 0 26 rfl) (k_X5_wordEnd 0 27 rfl) rfl
theorem dX5_wordEnd_28 : decode cX5_wordEnd 28 = .ok (.goto (-21), 3) := dz_167 (k_X5_wordEnd 0 28 rfl) (k_X5_wordEnd 0 29 rfl) (k_X5_wordEnd 0 30 rfl) rfl
theorem dX5_wordEnd_31 : decode cX5_wordEnd 31 = .ok (.iload_n 1, 1) := dz_27 (k_X5_wordEnd 0 31 rfl)
theorem dX5_wordEnd_32 : decode cX5_wordEnd 32 = .ok (.ireturn, 1) := dz_172 (k_X5_wordEnd 0 32 rfl)
def B_X6_coinsOfAll : List (List Nat) := [[3, 60, 3, 61, 28, 42, 180, 0, 9, 180, 0, 19, 162, 0, 32, 42, 180, 0, 9, 28, 182, 0, 25, 154, 0, 15, 27, 42, 180, 0, 9, 28, 5, 182, 0, 33, 96, 60, 132, 2, 1, 167, 255, 219, 27, 172]]
theorem k_X6_coinsOfAll (j i : Nat) {b : Nat} (h : (B_X6_coinsOfAll[j]?.bind fun c => c[i]?) = some b) : s_by cX6_coinsOfAll (64 * j + i) b := s_byC (L := B_X6_coinsOfAll) (by decide +kernel) (by decide +kernel) j i h
theorem dX6_coinsOfAll_0 : decode cX6_coinsOfAll 0 = .ok (.iconst 0, 1) := dz_3 (k_X6_coinsOfAll 0 0 rfl)
theorem dX6_coinsOfAll_1 : decode cX6_coinsOfAll 1 = .ok (.istore_n 1, 1) := dz_60 (k_X6_coinsOfAll 0 1 rfl)
theorem dX6_coinsOfAll_2 : decode cX6_coinsOfAll 2 = .ok (.iconst 0, 1) := dz_3 (k_X6_coinsOfAll 0 2 rfl)
theorem dX6_coinsOfAll_3 : decode cX6_coinsOfAll 3 = .ok (.istore_n 2, 1) := dz_61 (k_X6_coinsOfAll 0 3 rfl)
theorem dX6_coinsOfAll_4 : decode cX6_coinsOfAll 4 = .ok (.iload_n 2, 1) := dz_28 (k_X6_coinsOfAll 0 4 rfl)
theorem dX6_coinsOfAll_5 : decode cX6_coinsOfAll 5 = .ok (.aload_n 0, 1) := dz_42 (k_X6_coinsOfAll 0 5 rfl)
theorem dX6_coinsOfAll_6 : decode cX6_coinsOfAll 6 = .ok (.getfield 9, 3) := dz_180 (k_X6_coinsOfAll 0 6 rfl) (k_X6_coinsOfAll 0 7 rfl) (k_X6_coinsOfAll 0 8 rfl) rfl
theorem dX6_coinsOfAll_9 : decode cX6_coinsOfAll 9 = .ok (.getfield 19, 3) := dz_180 (k_X6_coinsOfAll 0 9 rfl) (k_X6_coinsOfAll 0 10 rfl) (k_X6_coinsOfAll 0 11 rfl) rfl
theorem dX6_coinsOfAll_12 : decode cX6_coinsOfAll 12 = .ok (.if_icmp .ge 32, 3) := dz_162 (k_X6_coinsOfAll 0 12 rfl) (k_X6_coinsOfAll 0 13 rfl) (k_X6_coinsOfAll 0 14 rfl) rfl
theorem dX6_coinsOfAll_15 : decode cX6_coinsOfAll 15 = .ok (.aload_n 0, 1) := dz_42 (k_X6_coinsOfAll 0 15 rfl)
theorem dX6_coinsOfAll_16 : decode cX6_coinsOfAll 16 = .ok (.getfield 9, 3) := dz_180 (k_X6_coinsOfAll 0 16 rfl) (k_X6_coinsOfAll 0 17 rfl) (k_X6_coinsOfAll 0 18 rfl) rfl
theorem dX6_coinsOfAll_19 : decode cX6_coinsOfAll 19 = .ok (.iload_n 2, 1) := dz_28 (k_X6_coinsOfAll 0 19 rfl)
theorem dX6_coinsOfAll_20 : decode cX6_coinsOfAll 20 = .ok (.invokevirtual 25, 3) := dz_182 (k_X6_coinsOfAll 0 20 rfl) (k_X6_coinsOfAll 0 21 rfl) (k_X6_coinsOfAll 0 22 rfl) rfl
theorem dX6_coinsOfAll_23 : decode cX6_coinsOfAll 23 = .ok (.ifCond .ne 15, 3) := dz_154 (k_X6_coinsOfAll 0 23 rfl) (k_X6_coinsOfAll 0 24 rfl) (k_X6_coinsOfAll 0 25 rfl) rfl
theorem dX6_coinsOfAll_26 : decode cX6_coinsOfAll 26 = .ok (.iload_n 1, 1) := dz_27 (k_X6_coinsOfAll 0 26 rfl)
theorem dX6_coinsOfAll_27 : decode cX6_coinsOfAll 27 = .ok (.aload_n 0, 1) := dz_42 (k_X6_coinsOfAll 0 27 rfl)
theorem dX6_coinsOfAll_28 : decode cX6_coinsOfAll 28 = .ok (.getfield 9, 3) := dz_180 (k_X6_coinsOfAll 0 28 rfl) (k_X6_coinsOfAll 0 29 rfl) (k_X6_coinsOfAll 0 30 rfl) rfl
theorem dX6_coinsOfAll_31 : decode cX6_coinsOfAll 31 = .ok (.iload_n 2, 1) := dz_28 (k_X6_coinsOfAll 0 31 rfl)
theorem dX6_coinsOfAll_32 : decode cX6_coinsOfAll 32 = .ok (.iconst 2, 1) := dz_5 (k_X6_coinsOfAll 0 32 rfl)
theorem dX6_coinsOfAll_33 : decode cX6_coinsOfAll 33 = .ok (.invokevirtual 33, 3) := dz_182 (k_X6_coinsOfAll 0 33 rfl) (k_X6_coinsOfAll 0 34 rfl) (k_X6_coinsOfAll 0 35 rfl) rfl
theorem dX6_coinsOfAll_36 : decode cX6_coinsOfAll 36 = .ok (.iadd, 1) := dz_96 (k_X6_coinsOfAll 0 36 rfl)
theorem dX6_coinsOfAll_37 : decode cX6_coinsOfAll 37 = .ok (.istore_n 1, 1) := dz_60 (k_X6_coinsOfAll 0 37 rfl)
theorem dX6_coinsOfAll_38 : decode cX6_coinsOfAll 38 = .ok (.iinc 2 1, 3) := dz_132 (k_X6_coinsOfAll 0 38 rfl) (k_X6_coinsOfAll 0 39 rfl) (k_X6_coinsOfAll 0 40 rfl) rfl
theorem dX6_coinsOfAll_41 : decode cX6_coinsOfAll 41 = .ok (.goto (-37), 3) := dz_167 (k_X6_coinsOfAll 0 41 rfl) (k_X6_coinsOfAll 0 42 rfl) (k_X6_coinsOfAll 0 43 rfl) rfl
theorem dX6_coinsOfAll_44 : decode cX6_coinsOfAll 44 = .ok (.iload_n 1, 1) := dz_27 (k_X6_coinsOfAll 0 44 rfl)
theorem dX6_coinsOfAll_45 : decode cX6_coinsOfAll 45 = .ok (.ireturn, 1) := dz_172 (k_X6_coinsOfAll 0 45 rfl)
def B_X6_dearerOnes : List (List Nat) := [[3, 60, 3, 61, 28, 42, 180, 0, 9, 180, 0, 19, 162, 0, 71, 42, 180, 0, 9, 28, 3, 182, 0, 33, 62, 42, 180, 0, 9, 29, 5, 182, 0, 52, 16, 15, 160, 0, 7, 4, 167, 0, 4, 3, 54, 4, 21, 4, 153, 0, 29, 42, 180, 0, 9, 28, 5, 182, 0, 33, 42, 180, 0, 15], [29, 182, 0, 61, 164, 0, 9, 27, 4, 28, 120, 128, 60, 132, 2, 1, 167, 255, 180, 27, 172]]
theorem k_X6_dearerOnes (j i : Nat) {b : Nat} (h : (B_X6_dearerOnes[j]?.bind fun c => c[i]?) = some b) : s_by cX6_dearerOnes (64 * j + i) b := s_byC (L := B_X6_dearerOnes) (by decide +kernel) (by decide +kernel) j i h
theorem dX6_dearerOnes_0 : decode cX6_dearerOnes 0 = .ok (.iconst 0, 1) := dz_3 (k_X6_dearerOnes 0 0 rfl)
theorem dX6_dearerOnes_1 : decode cX6_dearerOnes 1 = .ok (.istore_n 1, 1) := dz_60 (k_X6_dearerOnes 0 1 rfl)
theorem dX6_dearerOnes_2 : decode cX6_dearerOnes 2 = .ok (.iconst 0, 1) := dz_3 (k_X6_dearerOnes 0 2 rfl)
theorem dX6_dearerOnes_3 : decode cX6_dearerOnes 3 = .ok (.istore_n 2, 1) := dz_61 (k_X6_dearerOnes 0 3 rfl)
theorem dX6_dearerOnes_4 : decode cX6_dearerOnes 4 = .ok (.iload_n 2, 1) := dz_28 (k_X6_dearerOnes 0 4 rfl)
theorem dX6_dearerOnes_5 : decode cX6_dearerOnes 5 = .ok (.aload_n 0, 1) := dz_42 (k_X6_dearerOnes 0 5 rfl)
theorem dX6_dearerOnes_6 : decode cX6_dearerOnes 6 = .ok (.getfield 9, 3) := dz_180 (k_X6_dearerOnes 0 6 rfl) (k_X6_dearerOnes 0 7 rfl) (k_X6_dearerOnes 0 8 rfl) rfl
theorem dX6_dearerOnes_9 : decode cX6_dearerOnes 9 = .ok (.getfield 19, 3) := dz_180 (k_X6_dearerOnes 0 9 rfl) (k_X6_dearerOnes 0 10 rfl) (k_X6_dearerOnes 0 11 rfl) rfl
theorem dX6_dearerOnes_12 : decode cX6_dearerOnes 12 = .ok (.if_icmp .ge 71, 3) := dz_162 (k_X6_dearerOnes 0 12 rfl) (k_X6_dearerOnes 0 13 rfl) (k_X6_dearerOnes 0 14 rfl) rfl
theorem dX6_dearerOnes_15 : decode cX6_dearerOnes 15 = .ok (.aload_n 0, 1) := dz_42 (k_X6_dearerOnes 0 15 rfl)
theorem dX6_dearerOnes_16 : decode cX6_dearerOnes 16 = .ok (.getfield 9, 3) := dz_180 (k_X6_dearerOnes 0 16 rfl) (k_X6_dearerOnes 0 17 rfl) (k_X6_dearerOnes 0 18 rfl) rfl
theorem dX6_dearerOnes_19 : decode cX6_dearerOnes 19 = .ok (.iload_n 2, 1) := dz_28 (k_X6_dearerOnes 0 19 rfl)
theorem dX6_dearerOnes_20 : decode cX6_dearerOnes 20 = .ok (.iconst 0, 1) := dz_3 (k_X6_dearerOnes 0 20 rfl)
theorem dX6_dearerOnes_21 : decode cX6_dearerOnes 21 = .ok (.invokevirtual 33, 3) := dz_182 (k_X6_dearerOnes 0 21 rfl) (k_X6_dearerOnes 0 22 rfl) (k_X6_dearerOnes 0 23 rfl) rfl
theorem dX6_dearerOnes_24 : decode cX6_dearerOnes 24 = .ok (.istore_n 3, 1) := dz_62 (k_X6_dearerOnes 0 24 rfl)
theorem dX6_dearerOnes_25 : decode cX6_dearerOnes 25 = .ok (.aload_n 0, 1) := dz_42 (k_X6_dearerOnes 0 25 rfl)
theorem dX6_dearerOnes_26 : decode cX6_dearerOnes 26 = .ok (.getfield 9, 3) := dz_180 (k_X6_dearerOnes 0 26 rfl) (k_X6_dearerOnes 0 27 rfl) (k_X6_dearerOnes 0 28 rfl) rfl
theorem dX6_dearerOnes_29 : decode cX6_dearerOnes 29 = .ok (.iload_n 3, 1) := dz_29 (k_X6_dearerOnes 0 29 rfl)
theorem dX6_dearerOnes_30 : decode cX6_dearerOnes 30 = .ok (.iconst 2, 1) := dz_5 (k_X6_dearerOnes 0 30 rfl)
theorem dX6_dearerOnes_31 : decode cX6_dearerOnes 31 = .ok (.invokevirtual 52, 3) := dz_182 (k_X6_dearerOnes 0 31 rfl) (k_X6_dearerOnes 0 32 rfl) (k_X6_dearerOnes 0 33 rfl) rfl
theorem dX6_dearerOnes_34 : decode cX6_dearerOnes 34 = .ok (.bipush 15, 2) := dz_16 (k_X6_dearerOnes 0 34 rfl) (k_X6_dearerOnes 0 35 rfl) rfl
theorem dX6_dearerOnes_36 : decode cX6_dearerOnes 36 = .ok (.if_icmp .ne 7, 3) := dz_160 (k_X6_dearerOnes 0 36 rfl) (k_X6_dearerOnes 0 37 rfl) (k_X6_dearerOnes 0 38 rfl) rfl
theorem dX6_dearerOnes_39 : decode cX6_dearerOnes 39 = .ok (.iconst 1, 1) := dz_4 (k_X6_dearerOnes 0 39 rfl)
theorem dX6_dearerOnes_40 : decode cX6_dearerOnes 40 = .ok (.goto 4, 3) := dz_167 (k_X6_dearerOnes 0 40 rfl) (k_X6_dearerOnes 0 41 rfl) (k_X6_dearerOnes 0 42 rfl) rfl
theorem dX6_dearerOnes_43 : decode cX6_dearerOnes 43 = .ok (.iconst 0, 1) := dz_3 (k_X6_dearerOnes 0 43 rfl)
theorem dX6_dearerOnes_44 : decode cX6_dearerOnes 44 = .ok (.istore 4, 2) := dz_54 (k_X6_dearerOnes 0 44 rfl) (k_X6_dearerOnes 0 45 rfl)
theorem dX6_dearerOnes_46 : decode cX6_dearerOnes 46 = .ok (.iload 4, 2) := dz_21 (k_X6_dearerOnes 0 46 rfl) (k_X6_dearerOnes 0 47 rfl)
theorem dX6_dearerOnes_48 : decode cX6_dearerOnes 48 = .ok (.ifCond .eq 29, 3) := dz_153 (k_X6_dearerOnes 0 48 rfl) (k_X6_dearerOnes 0 49 rfl) (k_X6_dearerOnes 0 50 rfl) rfl
theorem dX6_dearerOnes_51 : decode cX6_dearerOnes 51 = .ok (.aload_n 0, 1) := dz_42 (k_X6_dearerOnes 0 51 rfl)
theorem dX6_dearerOnes_52 : decode cX6_dearerOnes 52 = .ok (.getfield 9, 3) := dz_180 (k_X6_dearerOnes 0 52 rfl) (k_X6_dearerOnes 0 53 rfl) (k_X6_dearerOnes 0 54 rfl) rfl
theorem dX6_dearerOnes_55 : decode cX6_dearerOnes 55 = .ok (.iload_n 2, 1) := dz_28 (k_X6_dearerOnes 0 55 rfl)
theorem dX6_dearerOnes_56 : decode cX6_dearerOnes 56 = .ok (.iconst 2, 1) := dz_5 (k_X6_dearerOnes 0 56 rfl)
theorem dX6_dearerOnes_57 : decode cX6_dearerOnes 57 = .ok (.invokevirtual 33, 3) := dz_182 (k_X6_dearerOnes 0 57 rfl) (k_X6_dearerOnes 0 58 rfl) (k_X6_dearerOnes 0 59 rfl) rfl
theorem dX6_dearerOnes_60 : decode cX6_dearerOnes 60 = .ok (.aload_n 0, 1) := dz_42 (k_X6_dearerOnes 0 60 rfl)
theorem dX6_dearerOnes_61 : decode cX6_dearerOnes 61 = .ok (.getfield 15, 3) := dz_180 (k_X6_dearerOnes 0 61 rfl) (k_X6_dearerOnes 0 62 rfl) (k_X6_dearerOnes 0 63 rfl) rfl
theorem dX6_dearerOnes_64 : decode cX6_dearerOnes 64 = .ok (.iload_n 3, 1) := dz_29 (k_X6_dearerOnes 1 0 rfl)
theorem dX6_dearerOnes_65 : decode cX6_dearerOnes 65 = .ok (.invokevirtual 61, 3) := dz_182 (k_X6_dearerOnes 1 1 rfl) (k_X6_dearerOnes 1 2 rfl) (k_X6_dearerOnes 1 3 rfl) rfl
theorem dX6_dearerOnes_68 : decode cX6_dearerOnes 68 = .ok (.if_icmp .le 9, 3) := dz_164 (k_X6_dearerOnes 1 4 rfl) (k_X6_dearerOnes 1 5 rfl) (k_X6_dearerOnes 1 6 rfl) rfl
theorem dX6_dearerOnes_71 : decode cX6_dearerOnes 71 = .ok (.iload_n 1, 1) := dz_27 (k_X6_dearerOnes 1 7 rfl)
theorem dX6_dearerOnes_72 : decode cX6_dearerOnes 72 = .ok (.iconst 1, 1) := dz_4 (k_X6_dearerOnes 1 8 rfl)
theorem dX6_dearerOnes_73 : decode cX6_dearerOnes 73 = .ok (.iload_n 2, 1) := dz_28 (k_X6_dearerOnes 1 9 rfl)
theorem dX6_dearerOnes_74 : decode cX6_dearerOnes 74 = .ok (.ishl, 1) := dz_120 (k_X6_dearerOnes 1 10 rfl)
theorem dX6_dearerOnes_75 : decode cX6_dearerOnes 75 = .ok (.ior, 1) := dz_128 (k_X6_dearerOnes 1 11 rfl)
theorem dX6_dearerOnes_76 : decode cX6_dearerOnes 76 = .ok (.istore_n 1, 1) := dz_60 (k_X6_dearerOnes 1 12 rfl)
theorem dX6_dearerOnes_77 : decode cX6_dearerOnes 77 = .ok (.iinc 2 1, 3) := dz_132 (k_X6_dearerOnes 1 13 rfl) (k_X6_dearerOnes 1 14 rfl) (k_X6_dearerOnes 1 15 rfl) rfl
theorem dX6_dearerOnes_80 : decode cX6_dearerOnes 80 = .ok (.goto (-76), 3) := dz_167 (k_X6_dearerOnes 1 16 rfl) (k_X6_dearerOnes 1 17 rfl) (k_X6_dearerOnes 1 18 rfl) rfl
theorem dX6_dearerOnes_83 : decode cX6_dearerOnes 83 = .ok (.iload_n 1, 1) := dz_27 (k_X6_dearerOnes 1 19 rfl)
theorem dX6_dearerOnes_84 : decode cX6_dearerOnes 84 = .ok (.ireturn, 1) := dz_172 (k_X6_dearerOnes 1 20 rfl)
def B_X6_gainOf : List (List Nat) := [[42, 28, 182, 0, 55, 62, 3, 54, 4, 3, 54, 5, 21, 5, 42, 180, 0, 9, 180, 0, 19, 162, 0, 82, 42, 180, 0, 9, 21, 5, 182, 0, 25, 154, 0, 64, 29, 21, 5, 122, 4, 126, 154, 0, 55, 42, 180, 0, 9, 21, 5, 5, 182, 0, 33, 54, 6, 42, 21, 5, 182, 0, 58, 27], [160, 0, 10, 21, 4, 21, 6, 96, 54, 4, 42, 180, 0, 9, 21, 5, 4, 182, 0, 33, 7, 27, 96, 160, 0, 10, 21, 4, 21, 6, 100, 54, 4, 132, 5, 1, 167, 255, 168, 21, 4, 172]]
theorem k_X6_gainOf (j i : Nat) {b : Nat} (h : (B_X6_gainOf[j]?.bind fun c => c[i]?) = some b) : s_by cX6_gainOf (64 * j + i) b := s_byC (L := B_X6_gainOf) (by decide +kernel) (by decide +kernel) j i h
theorem dX6_gainOf_0 : decode cX6_gainOf 0 = .ok (.aload_n 0, 1) := dz_42 (k_X6_gainOf 0 0 rfl)
theorem dX6_gainOf_1 : decode cX6_gainOf 1 = .ok (.iload_n 2, 1) := dz_28 (k_X6_gainOf 0 1 rfl)
theorem dX6_gainOf_2 : decode cX6_gainOf 2 = .ok (.invokevirtual 55, 3) := dz_182 (k_X6_gainOf 0 2 rfl) (k_X6_gainOf 0 3 rfl) (k_X6_gainOf 0 4 rfl) rfl
theorem dX6_gainOf_5 : decode cX6_gainOf 5 = .ok (.istore_n 3, 1) := dz_62 (k_X6_gainOf 0 5 rfl)
theorem dX6_gainOf_6 : decode cX6_gainOf 6 = .ok (.iconst 0, 1) := dz_3 (k_X6_gainOf 0 6 rfl)
theorem dX6_gainOf_7 : decode cX6_gainOf 7 = .ok (.istore 4, 2) := dz_54 (k_X6_gainOf 0 7 rfl) (k_X6_gainOf 0 8 rfl)
theorem dX6_gainOf_9 : decode cX6_gainOf 9 = .ok (.iconst 0, 1) := dz_3 (k_X6_gainOf 0 9 rfl)
theorem dX6_gainOf_10 : decode cX6_gainOf 10 = .ok (.istore 5, 2) := dz_54 (k_X6_gainOf 0 10 rfl) (k_X6_gainOf 0 11 rfl)
theorem dX6_gainOf_12 : decode cX6_gainOf 12 = .ok (.iload 5, 2) := dz_21 (k_X6_gainOf 0 12 rfl) (k_X6_gainOf 0 13 rfl)
theorem dX6_gainOf_14 : decode cX6_gainOf 14 = .ok (.aload_n 0, 1) := dz_42 (k_X6_gainOf 0 14 rfl)
theorem dX6_gainOf_15 : decode cX6_gainOf 15 = .ok (.getfield 9, 3) := dz_180 (k_X6_gainOf 0 15 rfl) (k_X6_gainOf 0 16 rfl) (k_X6_gainOf 0 17 rfl) rfl
theorem dX6_gainOf_18 : decode cX6_gainOf 18 = .ok (.getfield 19, 3) := dz_180 (k_X6_gainOf 0 18 rfl) (k_X6_gainOf 0 19 rfl) (k_X6_gainOf 0 20 rfl) rfl
theorem dX6_gainOf_21 : decode cX6_gainOf 21 = .ok (.if_icmp .ge 82, 3) := dz_162 (k_X6_gainOf 0 21 rfl) (k_X6_gainOf 0 22 rfl) (k_X6_gainOf 0 23 rfl) rfl
theorem dX6_gainOf_24 : decode cX6_gainOf 24 = .ok (.aload_n 0, 1) := dz_42 (k_X6_gainOf 0 24 rfl)
theorem dX6_gainOf_25 : decode cX6_gainOf 25 = .ok (.getfield 9, 3) := dz_180 (k_X6_gainOf 0 25 rfl) (k_X6_gainOf 0 26 rfl) (k_X6_gainOf 0 27 rfl) rfl
theorem dX6_gainOf_28 : decode cX6_gainOf 28 = .ok (.iload 5, 2) := dz_21 (k_X6_gainOf 0 28 rfl) (k_X6_gainOf 0 29 rfl)
theorem dX6_gainOf_30 : decode cX6_gainOf 30 = .ok (.invokevirtual 25, 3) := dz_182 (k_X6_gainOf 0 30 rfl) (k_X6_gainOf 0 31 rfl) (k_X6_gainOf 0 32 rfl) rfl
theorem dX6_gainOf_33 : decode cX6_gainOf 33 = .ok (.ifCond .ne 64, 3) := dz_154 (k_X6_gainOf 0 33 rfl) (k_X6_gainOf 0 34 rfl) (k_X6_gainOf 0 35 rfl) rfl
theorem dX6_gainOf_36 : decode cX6_gainOf 36 = .ok (.iload_n 3, 1) := dz_29 (k_X6_gainOf 0 36 rfl)
theorem dX6_gainOf_37 : decode cX6_gainOf 37 = .ok (.iload 5, 2) := dz_21 (k_X6_gainOf 0 37 rfl) (k_X6_gainOf 0 38 rfl)
theorem dX6_gainOf_39 : decode cX6_gainOf 39 = .ok (.ishr, 1) := dz_122 (k_X6_gainOf 0 39 rfl)
theorem dX6_gainOf_40 : decode cX6_gainOf 40 = .ok (.iconst 1, 1) := dz_4 (k_X6_gainOf 0 40 rfl)
theorem dX6_gainOf_41 : decode cX6_gainOf 41 = .ok (.iand, 1) := dz_126 (k_X6_gainOf 0 41 rfl)
theorem dX6_gainOf_42 : decode cX6_gainOf 42 = .ok (.ifCond .ne 55, 3) := dz_154 (k_X6_gainOf 0 42 rfl) (k_X6_gainOf 0 43 rfl) (k_X6_gainOf 0 44 rfl) rfl
theorem dX6_gainOf_45 : decode cX6_gainOf 45 = .ok (.aload_n 0, 1) := dz_42 (k_X6_gainOf 0 45 rfl)
theorem dX6_gainOf_46 : decode cX6_gainOf 46 = .ok (.getfield 9, 3) := dz_180 (k_X6_gainOf 0 46 rfl) (k_X6_gainOf 0 47 rfl) (k_X6_gainOf 0 48 rfl) rfl
theorem dX6_gainOf_49 : decode cX6_gainOf 49 = .ok (.iload 5, 2) := dz_21 (k_X6_gainOf 0 49 rfl) (k_X6_gainOf 0 50 rfl)
theorem dX6_gainOf_51 : decode cX6_gainOf 51 = .ok (.iconst 2, 1) := dz_5 (k_X6_gainOf 0 51 rfl)
theorem dX6_gainOf_52 : decode cX6_gainOf 52 = .ok (.invokevirtual 33, 3) := dz_182 (k_X6_gainOf 0 52 rfl) (k_X6_gainOf 0 53 rfl) (k_X6_gainOf 0 54 rfl) rfl
theorem dX6_gainOf_55 : decode cX6_gainOf 55 = .ok (.istore 6, 2) := dz_54 (k_X6_gainOf 0 55 rfl) (k_X6_gainOf 0 56 rfl)
theorem dX6_gainOf_57 : decode cX6_gainOf 57 = .ok (.aload_n 0, 1) := dz_42 (k_X6_gainOf 0 57 rfl)
theorem dX6_gainOf_58 : decode cX6_gainOf 58 = .ok (.iload 5, 2) := dz_21 (k_X6_gainOf 0 58 rfl) (k_X6_gainOf 0 59 rfl)
theorem dX6_gainOf_60 : decode cX6_gainOf 60 = .ok (.invokevirtual 58, 3) := dz_182 (k_X6_gainOf 0 60 rfl) (k_X6_gainOf 0 61 rfl) (k_X6_gainOf 0 62 rfl) rfl
theorem dX6_gainOf_63 : decode cX6_gainOf 63 = .ok (.iload_n 1, 1) := dz_27 (k_X6_gainOf 0 63 rfl)
theorem dX6_gainOf_64 : decode cX6_gainOf 64 = .ok (.if_icmp .ne 10, 3) := dz_160 (k_X6_gainOf 1 0 rfl) (k_X6_gainOf 1 1 rfl) (k_X6_gainOf 1 2 rfl) rfl
theorem dX6_gainOf_67 : decode cX6_gainOf 67 = .ok (.iload 4, 2) := dz_21 (k_X6_gainOf 1 3 rfl) (k_X6_gainOf 1 4 rfl)
theorem dX6_gainOf_69 : decode cX6_gainOf 69 = .ok (.iload 6, 2) := dz_21 (k_X6_gainOf 1 5 rfl) (k_X6_gainOf 1 6 rfl)
theorem dX6_gainOf_71 : decode cX6_gainOf 71 = .ok (.iadd, 1) := dz_96 (k_X6_gainOf 1 7 rfl)
theorem dX6_gainOf_72 : decode cX6_gainOf 72 = .ok (.istore 4, 2) := dz_54 (k_X6_gainOf 1 8 rfl) (k_X6_gainOf 1 9 rfl)
theorem dX6_gainOf_74 : decode cX6_gainOf 74 = .ok (.aload_n 0, 1) := dz_42 (k_X6_gainOf 1 10 rfl)
theorem dX6_gainOf_75 : decode cX6_gainOf 75 = .ok (.getfield 9, 3) := dz_180 (k_X6_gainOf 1 11 rfl) (k_X6_gainOf 1 12 rfl) (k_X6_gainOf 1 13 rfl) rfl
theorem dX6_gainOf_78 : decode cX6_gainOf 78 = .ok (.iload 5, 2) := dz_21 (k_X6_gainOf 1 14 rfl) (k_X6_gainOf 1 15 rfl)
theorem dX6_gainOf_80 : decode cX6_gainOf 80 = .ok (.iconst 1, 1) := dz_4 (k_X6_gainOf 1 16 rfl)
theorem dX6_gainOf_81 : decode cX6_gainOf 81 = .ok (.invokevirtual 33, 3) := dz_182 (k_X6_gainOf 1 17 rfl) (k_X6_gainOf 1 18 rfl) (k_X6_gainOf 1 19 rfl) rfl
theorem dX6_gainOf_84 : decode cX6_gainOf 84 = .ok (.iconst 4, 1) := dz_7 (k_X6_gainOf 1 20 rfl)
theorem dX6_gainOf_85 : decode cX6_gainOf 85 = .ok (.iload_n 1, 1) := dz_27 (k_X6_gainOf 1 21 rfl)
theorem dX6_gainOf_86 : decode cX6_gainOf 86 = .ok (.iadd, 1) := dz_96 (k_X6_gainOf 1 22 rfl)
theorem dX6_gainOf_87 : decode cX6_gainOf 87 = .ok (.if_icmp .ne 10, 3) := dz_160 (k_X6_gainOf 1 23 rfl) (k_X6_gainOf 1 24 rfl) (k_X6_gainOf 1 25 rfl) rfl
theorem dX6_gainOf_90 : decode cX6_gainOf 90 = .ok (.iload 4, 2) := dz_21 (k_X6_gainOf 1 26 rfl) (k_X6_gainOf 1 27 rfl)
theorem dX6_gainOf_92 : decode cX6_gainOf 92 = .ok (.iload 6, 2) := dz_21 (k_X6_gainOf 1 28 rfl) (k_X6_gainOf 1 29 rfl)
theorem dX6_gainOf_94 : decode cX6_gainOf 94 = .ok (.isub, 1) := dz_100 (k_X6_gainOf 1 30 rfl)
theorem dX6_gainOf_95 : decode cX6_gainOf 95 = .ok (.istore 4, 2) := dz_54 (k_X6_gainOf 1 31 rfl) (k_X6_gainOf 1 32 rfl)
theorem dX6_gainOf_97 : decode cX6_gainOf 97 = .ok (.iinc 5 1, 3) := dz_132 (k_X6_gainOf 1 33 rfl) (k_X6_gainOf 1 34 rfl) (k_X6_gainOf 1 35 rfl) rfl
theorem dX6_gainOf_100 : decode cX6_gainOf 100 = .ok (.goto (-88), 3) := dz_167 (k_X6_gainOf 1 36 rfl) (k_X6_gainOf 1 37 rfl) (k_X6_gainOf 1 38 rfl) rfl
theorem dX6_gainOf_103 : decode cX6_gainOf 103 = .ok (.iload 4, 2) := dz_21 (k_X6_gainOf 1 39 rfl) (k_X6_gainOf 1 40 rfl)
theorem dX6_gainOf_105 : decode cX6_gainOf 105 = .ok (.ireturn, 1) := dz_172 (k_X6_gainOf 1 41 rfl)
def B_X6_init : List (List Nat) := [[42, 183, 0, 3, 42, 43, 181, 0, 9, 42, 44, 181, 0, 15, 177]]
theorem k_X6_init (j i : Nat) {b : Nat} (h : (B_X6_init[j]?.bind fun c => c[i]?) = some b) : s_by cX6_init (64 * j + i) b := s_byC (L := B_X6_init) (by decide +kernel) (by decide +kernel) j i h
theorem dX6_init_0 : decode cX6_init 0 = .ok (.aload_n 0, 1) := dz_42 (k_X6_init 0 0 rfl)
theorem dX6_init_1 : decode cX6_init 1 = .ok (.invokespecial 3, 3) := dz_183 (k_X6_init 0 1 rfl) (k_X6_init 0 2 rfl) (k_X6_init 0 3 rfl) rfl
theorem dX6_init_4 : decode cX6_init 4 = .ok (.aload_n 0, 1) := dz_42 (k_X6_init 0 4 rfl)
theorem dX6_init_5 : decode cX6_init 5 = .ok (.aload_n 1, 1) := dz_43 (k_X6_init 0 5 rfl)
theorem dX6_init_6 : decode cX6_init 6 = .ok (.putfield 9, 3) := dz_181 (k_X6_init 0 6 rfl) (k_X6_init 0 7 rfl) (k_X6_init 0 8 rfl) rfl
theorem dX6_init_9 : decode cX6_init 9 = .ok (.aload_n 0, 1) := dz_42 (k_X6_init 0 9 rfl)
theorem dX6_init_10 : decode cX6_init 10 = .ok (.aload_n 2, 1) := dz_44 (k_X6_init 0 10 rfl)
theorem dX6_init_11 : decode cX6_init 11 = .ok (.putfield 15, 3) := dz_181 (k_X6_init 0 11 rfl) (k_X6_init 0 12 rfl) (k_X6_init 0 13 rfl) rfl
theorem dX6_init_14 : decode cX6_init 14 = .ok (.return_, 1) := dz_177 (k_X6_init 0 14 rfl)
def B_X6_isBefore : List (List Nat) := [[42, 180, 0, 9, 27, 6, 182, 0, 33, 42, 180, 0, 9, 28, 6, 182, 0, 33, 100, 62, 29, 155, 0, 12, 29, 154, 0, 12, 27, 28, 162, 0, 7, 4, 167, 0, 4, 3, 172]]
theorem k_X6_isBefore (j i : Nat) {b : Nat} (h : (B_X6_isBefore[j]?.bind fun c => c[i]?) = some b) : s_by cX6_isBefore (64 * j + i) b := s_byC (L := B_X6_isBefore) (by decide +kernel) (by decide +kernel) j i h
theorem dX6_isBefore_0 : decode cX6_isBefore 0 = .ok (.aload_n 0, 1) := dz_42 (k_X6_isBefore 0 0 rfl)
theorem dX6_isBefore_1 : decode cX6_isBefore 1 = .ok (.getfield 9, 3) := dz_180 (k_X6_isBefore 0 1 rfl) (k_X6_isBefore 0 2 rfl) (k_X6_isBefore 0 3 rfl) rfl
theorem dX6_isBefore_4 : decode cX6_isBefore 4 = .ok (.iload_n 1, 1) := dz_27 (k_X6_isBefore 0 4 rfl)
theorem dX6_isBefore_5 : decode cX6_isBefore 5 = .ok (.iconst 3, 1) := dz_6 (k_X6_isBefore 0 5 rfl)
theorem dX6_isBefore_6 : decode cX6_isBefore 6 = .ok (.invokevirtual 33, 3) := dz_182 (k_X6_isBefore 0 6 rfl) (k_X6_isBefore 0 7 rfl) (k_X6_isBefore 0 8 rfl) rfl
theorem dX6_isBefore_9 : decode cX6_isBefore 9 = .ok (.aload_n 0, 1) := dz_42 (k_X6_isBefore 0 9 rfl)
theorem dX6_isBefore_10 : decode cX6_isBefore 10 = .ok (.getfield 9, 3) := dz_180 (k_X6_isBefore 0 10 rfl) (k_X6_isBefore 0 11 rfl) (k_X6_isBefore 0 12 rfl) rfl
theorem dX6_isBefore_13 : decode cX6_isBefore 13 = .ok (.iload_n 2, 1) := dz_28 (k_X6_isBefore 0 13 rfl)
theorem dX6_isBefore_14 : decode cX6_isBefore 14 = .ok (.iconst 3, 1) := dz_6 (k_X6_isBefore 0 14 rfl)
theorem dX6_isBefore_15 : decode cX6_isBefore 15 = .ok (.invokevirtual 33, 3) := dz_182 (k_X6_isBefore 0 15 rfl) (k_X6_isBefore 0 16 rfl) (k_X6_isBefore 0 17 rfl) rfl
theorem dX6_isBefore_18 : decode cX6_isBefore 18 = .ok (.isub, 1) := dz_100 (k_X6_isBefore 0 18 rfl)
theorem dX6_isBefore_19 : decode cX6_isBefore 19 = .ok (.istore_n 3, 1) := dz_62 (k_X6_isBefore 0 19 rfl)
theorem dX6_isBefore_20 : decode cX6_isBefore 20 = .ok (.iload_n 3, 1) := dz_29 (k_X6_isBefore 0 20 rfl)
theorem dX6_isBefore_21 : decode cX6_isBefore 21 = .ok (.ifCond .lt 12, 3) := dz_155 (k_X6_isBefore 0 21 rfl) (k_X6_isBefore 0 22 rfl) (k_X6_isBefore 0 23 rfl) rfl
theorem dX6_isBefore_24 : decode cX6_isBefore 24 = .ok (.iload_n 3, 1) := dz_29 (k_X6_isBefore 0 24 rfl)
theorem dX6_isBefore_25 : decode cX6_isBefore 25 = .ok (.ifCond .ne 12, 3) := dz_154 (k_X6_isBefore 0 25 rfl) (k_X6_isBefore 0 26 rfl) (k_X6_isBefore 0 27 rfl) rfl
theorem dX6_isBefore_28 : decode cX6_isBefore 28 = .ok (.iload_n 1, 1) := dz_27 (k_X6_isBefore 0 28 rfl)
theorem dX6_isBefore_29 : decode cX6_isBefore 29 = .ok (.iload_n 2, 1) := dz_28 (k_X6_isBefore 0 29 rfl)
theorem dX6_isBefore_30 : decode cX6_isBefore 30 = .ok (.if_icmp .ge 7, 3) := dz_162 (k_X6_isBefore 0 30 rfl) (k_X6_isBefore 0 31 rfl) (k_X6_isBefore 0 32 rfl) rfl
theorem dX6_isBefore_33 : decode cX6_isBefore 33 = .ok (.iconst 1, 1) := dz_4 (k_X6_isBefore 0 33 rfl)
theorem dX6_isBefore_34 : decode cX6_isBefore 34 = .ok (.goto 4, 3) := dz_167 (k_X6_isBefore 0 34 rfl) (k_X6_isBefore 0 35 rfl) (k_X6_isBefore 0 36 rfl) rfl
theorem dX6_isBefore_37 : decode cX6_isBefore 37 = .ok (.iconst 0, 1) := dz_3 (k_X6_isBefore 0 37 rfl)
theorem dX6_isBefore_38 : decode cX6_isBefore 38 = .ok (.ireturn, 1) := dz_172 (k_X6_isBefore 0 38 rfl)
def B_X6_isRefunded : List (List Nat) := [[42, 180, 0, 9, 27, 3, 182, 0, 33, 62, 28, 4, 126, 153, 0, 15, 42, 180, 0, 15, 29, 3, 182, 0, 37, 153, 0, 85, 28, 5, 126, 153, 0, 15, 42, 180, 0, 15, 29, 4, 182, 0, 37, 153, 0, 67, 28, 7, 126, 153, 0, 27, 42, 180, 0, 15, 29, 6, 182, 0, 37, 153, 0, 15], [42, 180, 0, 15, 29, 7, 182, 0, 37, 153, 0, 37, 28, 16, 8, 126, 153, 0, 15, 42, 180, 0, 15, 29, 5, 182, 0, 37, 154, 0, 18, 28, 16, 16, 126, 153, 0, 15, 42, 27, 182, 0, 42, 153, 0, 7, 4, 167, 0, 4, 3, 172]]
theorem k_X6_isRefunded (j i : Nat) {b : Nat} (h : (B_X6_isRefunded[j]?.bind fun c => c[i]?) = some b) : s_by cX6_isRefunded (64 * j + i) b := s_byC (L := B_X6_isRefunded) (by decide +kernel) (by decide +kernel) j i h
theorem dX6_isRefunded_0 : decode cX6_isRefunded 0 = .ok (.aload_n 0, 1) := dz_42 (k_X6_isRefunded 0 0 rfl)
theorem dX6_isRefunded_1 : decode cX6_isRefunded 1 = .ok (.getfield 9, 3) := dz_180 (k_X6_isRefunded 0 1 rfl) (k_X6_isRefunded 0 2 rfl) (k_X6_isRefunded 0 3 rfl) rfl
theorem dX6_isRefunded_4 : decode cX6_isRefunded 4 = .ok (.iload_n 1, 1) := dz_27 (k_X6_isRefunded 0 4 rfl)
theorem dX6_isRefunded_5 : decode cX6_isRefunded 5 = .ok (.iconst 0, 1) := dz_3 (k_X6_isRefunded 0 5 rfl)
theorem dX6_isRefunded_6 : decode cX6_isRefunded 6 = .ok (.invokevirtual 33, 3) := dz_182 (k_X6_isRefunded 0 6 rfl) (k_X6_isRefunded 0 7 rfl) (k_X6_isRefunded 0 8 rfl) rfl
theorem dX6_isRefunded_9 : decode cX6_isRefunded 9 = .ok (.istore_n 3, 1) := dz_62 (k_X6_isRefunded 0 9 rfl)
theorem dX6_isRefunded_10 : decode cX6_isRefunded 10 = .ok (.iload_n 2, 1) := dz_28 (k_X6_isRefunded 0 10 rfl)
theorem dX6_isRefunded_11 : decode cX6_isRefunded 11 = .ok (.iconst 1, 1) := dz_4 (k_X6_isRefunded 0 11 rfl)
theorem dX6_isRefunded_12 : decode cX6_isRefunded 12 = .ok (.iand, 1) := dz_126 (k_X6_isRefunded 0 12 rfl)
theorem dX6_isRefunded_13 : decode cX6_isRefunded 13 = .ok (.ifCond .eq 15, 3) := dz_153 (k_X6_isRefunded 0 13 rfl) (k_X6_isRefunded 0 14 rfl) (k_X6_isRefunded 0 15 rfl) rfl
theorem dX6_isRefunded_16 : decode cX6_isRefunded 16 = .ok (.aload_n 0, 1) := dz_42 (k_X6_isRefunded 0 16 rfl)
theorem dX6_isRefunded_17 : decode cX6_isRefunded 17 = .ok (.getfield 15, 3) := dz_180 (k_X6_isRefunded 0 17 rfl) (k_X6_isRefunded 0 18 rfl) (k_X6_isRefunded 0 19 rfl) rfl
theorem dX6_isRefunded_20 : decode cX6_isRefunded 20 = .ok (.iload_n 3, 1) := dz_29 (k_X6_isRefunded 0 20 rfl)
theorem dX6_isRefunded_21 : decode cX6_isRefunded 21 = .ok (.iconst 0, 1) := dz_3 (k_X6_isRefunded 0 21 rfl)
theorem dX6_isRefunded_22 : decode cX6_isRefunded 22 = .ok (.invokevirtual 37, 3) := dz_182 (k_X6_isRefunded 0 22 rfl) (k_X6_isRefunded 0 23 rfl) (k_X6_isRefunded 0 24 rfl) rfl
theorem dX6_isRefunded_25 : decode cX6_isRefunded 25 = .ok (.ifCond .eq 85, 3) := dz_153 (k_X6_isRefunded 0 25 rfl) (k_X6_isRefunded 0 26 rfl) (k_X6_isRefunded 0 27 rfl) rfl
theorem dX6_isRefunded_28 : decode cX6_isRefunded 28 = .ok (.iload_n 2, 1) := dz_28 (k_X6_isRefunded 0 28 rfl)
theorem dX6_isRefunded_29 : decode cX6_isRefunded 29 = .ok (.iconst 2, 1) := dz_5 (k_X6_isRefunded 0 29 rfl)
theorem dX6_isRefunded_30 : decode cX6_isRefunded 30 = .ok (.iand, 1) := dz_126 (k_X6_isRefunded 0 30 rfl)
theorem dX6_isRefunded_31 : decode cX6_isRefunded 31 = .ok (.ifCond .eq 15, 3) := dz_153 (k_X6_isRefunded 0 31 rfl) (k_X6_isRefunded 0 32 rfl) (k_X6_isRefunded 0 33 rfl) rfl
theorem dX6_isRefunded_34 : decode cX6_isRefunded 34 = .ok (.aload_n 0, 1) := dz_42 (k_X6_isRefunded 0 34 rfl)
theorem dX6_isRefunded_35 : decode cX6_isRefunded 35 = .ok (.getfield 15, 3) := dz_180 (k_X6_isRefunded 0 35 rfl) (k_X6_isRefunded 0 36 rfl) (k_X6_isRefunded 0 37 rfl) rfl
theorem dX6_isRefunded_38 : decode cX6_isRefunded 38 = .ok (.iload_n 3, 1) := dz_29 (k_X6_isRefunded 0 38 rfl)
theorem dX6_isRefunded_39 : decode cX6_isRefunded 39 = .ok (.iconst 1, 1) := dz_4 (k_X6_isRefunded 0 39 rfl)
theorem dX6_isRefunded_40 : decode cX6_isRefunded 40 = .ok (.invokevirtual 37, 3) := dz_182 (k_X6_isRefunded 0 40 rfl) (k_X6_isRefunded 0 41 rfl) (k_X6_isRefunded 0 42 rfl) rfl
theorem dX6_isRefunded_43 : decode cX6_isRefunded 43 = .ok (.ifCond .eq 67, 3) := dz_153 (k_X6_isRefunded 0 43 rfl) (k_X6_isRefunded 0 44 rfl) (k_X6_isRefunded 0 45 rfl) rfl
theorem dX6_isRefunded_46 : decode cX6_isRefunded 46 = .ok (.iload_n 2, 1) := dz_28 (k_X6_isRefunded 0 46 rfl)
theorem dX6_isRefunded_47 : decode cX6_isRefunded 47 = .ok (.iconst 4, 1) := dz_7 (k_X6_isRefunded 0 47 rfl)
theorem dX6_isRefunded_48 : decode cX6_isRefunded 48 = .ok (.iand, 1) := dz_126 (k_X6_isRefunded 0 48 rfl)
theorem dX6_isRefunded_49 : decode cX6_isRefunded 49 = .ok (.ifCond .eq 27, 3) := dz_153 (k_X6_isRefunded 0 49 rfl) (k_X6_isRefunded 0 50 rfl) (k_X6_isRefunded 0 51 rfl) rfl
theorem dX6_isRefunded_52 : decode cX6_isRefunded 52 = .ok (.aload_n 0, 1) := dz_42 (k_X6_isRefunded 0 52 rfl)
theorem dX6_isRefunded_53 : decode cX6_isRefunded 53 = .ok (.getfield 15, 3) := dz_180 (k_X6_isRefunded 0 53 rfl) (k_X6_isRefunded 0 54 rfl) (k_X6_isRefunded 0 55 rfl) rfl
theorem dX6_isRefunded_56 : decode cX6_isRefunded 56 = .ok (.iload_n 3, 1) := dz_29 (k_X6_isRefunded 0 56 rfl)
theorem dX6_isRefunded_57 : decode cX6_isRefunded 57 = .ok (.iconst 3, 1) := dz_6 (k_X6_isRefunded 0 57 rfl)
theorem dX6_isRefunded_58 : decode cX6_isRefunded 58 = .ok (.invokevirtual 37, 3) := dz_182 (k_X6_isRefunded 0 58 rfl) (k_X6_isRefunded 0 59 rfl) (k_X6_isRefunded 0 60 rfl) rfl
theorem dX6_isRefunded_61 : decode cX6_isRefunded 61 = .ok (.ifCond .eq 15, 3) := dz_153 (k_X6_isRefunded 0 61 rfl) (k_X6_isRefunded 0 62 rfl) (k_X6_isRefunded 0 63 rfl) rfl
theorem dX6_isRefunded_64 : decode cX6_isRefunded 64 = .ok (.aload_n 0, 1) := dz_42 (k_X6_isRefunded 1 0 rfl)
theorem dX6_isRefunded_65 : decode cX6_isRefunded 65 = .ok (.getfield 15, 3) := dz_180 (k_X6_isRefunded 1 1 rfl) (k_X6_isRefunded 1 2 rfl) (k_X6_isRefunded 1 3 rfl) rfl
theorem dX6_isRefunded_68 : decode cX6_isRefunded 68 = .ok (.iload_n 3, 1) := dz_29 (k_X6_isRefunded 1 4 rfl)
theorem dX6_isRefunded_69 : decode cX6_isRefunded 69 = .ok (.iconst 4, 1) := dz_7 (k_X6_isRefunded 1 5 rfl)
theorem dX6_isRefunded_70 : decode cX6_isRefunded 70 = .ok (.invokevirtual 37, 3) := dz_182 (k_X6_isRefunded 1 6 rfl) (k_X6_isRefunded 1 7 rfl) (k_X6_isRefunded 1 8 rfl) rfl
theorem dX6_isRefunded_73 : decode cX6_isRefunded 73 = .ok (.ifCond .eq 37, 3) := dz_153 (k_X6_isRefunded 1 9 rfl) (k_X6_isRefunded 1 10 rfl) (k_X6_isRefunded 1 11 rfl) rfl
theorem dX6_isRefunded_76 : decode cX6_isRefunded 76 = .ok (.iload_n 2, 1) := dz_28 (k_X6_isRefunded 1 12 rfl)
theorem dX6_isRefunded_77 : decode cX6_isRefunded 77 = .ok (.bipush 8, 2) := dz_16 (k_X6_isRefunded 1 13 rfl) (k_X6_isRefunded 1 14 rfl) rfl
theorem dX6_isRefunded_79 : decode cX6_isRefunded 79 = .ok (.iand, 1) := dz_126 (k_X6_isRefunded 1 15 rfl)
theorem dX6_isRefunded_80 : decode cX6_isRefunded 80 = .ok (.ifCond .eq 15, 3) := dz_153 (k_X6_isRefunded 1 16 rfl) (k_X6_isRefunded 1 17 rfl) (k_X6_isRefunded 1 18 rfl) rfl
theorem dX6_isRefunded_83 : decode cX6_isRefunded 83 = .ok (.aload_n 0, 1) := dz_42 (k_X6_isRefunded 1 19 rfl)
theorem dX6_isRefunded_84 : decode cX6_isRefunded 84 = .ok (.getfield 15, 3) := dz_180 (k_X6_isRefunded 1 20 rfl) (k_X6_isRefunded 1 21 rfl) (k_X6_isRefunded 1 22 rfl) rfl
theorem dX6_isRefunded_87 : decode cX6_isRefunded 87 = .ok (.iload_n 3, 1) := dz_29 (k_X6_isRefunded 1 23 rfl)
theorem dX6_isRefunded_88 : decode cX6_isRefunded 88 = .ok (.iconst 2, 1) := dz_5 (k_X6_isRefunded 1 24 rfl)
theorem dX6_isRefunded_89 : decode cX6_isRefunded 89 = .ok (.invokevirtual 37, 3) := dz_182 (k_X6_isRefunded 1 25 rfl) (k_X6_isRefunded 1 26 rfl) (k_X6_isRefunded 1 27 rfl) rfl
theorem dX6_isRefunded_92 : decode cX6_isRefunded 92 = .ok (.ifCond .ne 18, 3) := dz_154 (k_X6_isRefunded 1 28 rfl) (k_X6_isRefunded 1 29 rfl) (k_X6_isRefunded 1 30 rfl) rfl
theorem dX6_isRefunded_95 : decode cX6_isRefunded 95 = .ok (.iload_n 2, 1) := dz_28 (k_X6_isRefunded 1 31 rfl)
theorem dX6_isRefunded_96 : decode cX6_isRefunded 96 = .ok (.bipush 16, 2) := dz_16 (k_X6_isRefunded 1 32 rfl) (k_X6_isRefunded 1 33 rfl) rfl
theorem dX6_isRefunded_98 : decode cX6_isRefunded 98 = .ok (.iand, 1) := dz_126 (k_X6_isRefunded 1 34 rfl)
theorem dX6_isRefunded_99 : decode cX6_isRefunded 99 = .ok (.ifCond .eq 15, 3) := dz_153 (k_X6_isRefunded 1 35 rfl) (k_X6_isRefunded 1 36 rfl) (k_X6_isRefunded 1 37 rfl) rfl
theorem dX6_isRefunded_102 : decode cX6_isRefunded 102 = .ok (.aload_n 0, 1) := dz_42 (k_X6_isRefunded 1 38 rfl)
theorem dX6_isRefunded_103 : decode cX6_isRefunded 103 = .ok (.iload_n 1, 1) := dz_27 (k_X6_isRefunded 1 39 rfl)
theorem dX6_isRefunded_104 : decode cX6_isRefunded 104 = .ok (.invokevirtual 42, 3) := dz_182 (k_X6_isRefunded 1 40 rfl) (k_X6_isRefunded 1 41 rfl) (k_X6_isRefunded 1 42 rfl) rfl
theorem dX6_isRefunded_107 : decode cX6_isRefunded 107 = .ok (.ifCond .eq 7, 3) := dz_153 (k_X6_isRefunded 1 43 rfl) (k_X6_isRefunded 1 44 rfl) (k_X6_isRefunded 1 45 rfl) rfl
theorem dX6_isRefunded_110 : decode cX6_isRefunded 110 = .ok (.iconst 1, 1) := dz_4 (k_X6_isRefunded 1 46 rfl)
theorem dX6_isRefunded_111 : decode cX6_isRefunded 111 = .ok (.goto 4, 3) := dz_167 (k_X6_isRefunded 1 47 rfl) (k_X6_isRefunded 1 48 rfl) (k_X6_isRefunded 1 49 rfl) rfl
theorem dX6_isRefunded_114 : decode cX6_isRefunded 114 = .ok (.iconst 0, 1) := dz_3 (k_X6_isRefunded 1 50 rfl)
theorem dX6_isRefunded_115 : decode cX6_isRefunded 115 = .ok (.ireturn, 1) := dz_172 (k_X6_isRefunded 1 51 rfl)
def B_X6_owedBy : List (List Nat) := [[42, 29, 182, 0, 55, 54, 4, 3, 54, 5, 3, 54, 6, 21, 6, 42, 180, 0, 9, 180, 0, 19, 162, 0, 75, 28, 2, 159, 0, 17, 42, 180, 0, 9, 21, 6, 4, 182, 0, 33, 28, 160, 0, 7, 4, 167, 0, 4, 3, 54, 7, 21, 4, 21, 6, 122, 4, 126, 153, 0, 33, 21, 7, 153], [0, 28, 42, 21, 6, 182, 0, 58, 27, 160, 0, 18, 21, 5, 42, 180, 0, 9, 21, 6, 5, 182, 0, 33, 96, 54, 5, 132, 6, 1, 167, 255, 175, 21, 5, 172]]
theorem k_X6_owedBy (j i : Nat) {b : Nat} (h : (B_X6_owedBy[j]?.bind fun c => c[i]?) = some b) : s_by cX6_owedBy (64 * j + i) b := s_byC (L := B_X6_owedBy) (by decide +kernel) (by decide +kernel) j i h
theorem dX6_owedBy_0 : decode cX6_owedBy 0 = .ok (.aload_n 0, 1) := dz_42 (k_X6_owedBy 0 0 rfl)
theorem dX6_owedBy_1 : decode cX6_owedBy 1 = .ok (.iload_n 3, 1) := dz_29 (k_X6_owedBy 0 1 rfl)
theorem dX6_owedBy_2 : decode cX6_owedBy 2 = .ok (.invokevirtual 55, 3) := dz_182 (k_X6_owedBy 0 2 rfl) (k_X6_owedBy 0 3 rfl) (k_X6_owedBy 0 4 rfl) rfl
theorem dX6_owedBy_5 : decode cX6_owedBy 5 = .ok (.istore 4, 2) := dz_54 (k_X6_owedBy 0 5 rfl) (k_X6_owedBy 0 6 rfl)
theorem dX6_owedBy_7 : decode cX6_owedBy 7 = .ok (.iconst 0, 1) := dz_3 (k_X6_owedBy 0 7 rfl)
theorem dX6_owedBy_8 : decode cX6_owedBy 8 = .ok (.istore 5, 2) := dz_54 (k_X6_owedBy 0 8 rfl) (k_X6_owedBy 0 9 rfl)
theorem dX6_owedBy_10 : decode cX6_owedBy 10 = .ok (.iconst 0, 1) := dz_3 (k_X6_owedBy 0 10 rfl)
theorem dX6_owedBy_11 : decode cX6_owedBy 11 = .ok (.istore 6, 2) := dz_54 (k_X6_owedBy 0 11 rfl) (k_X6_owedBy 0 12 rfl)
theorem dX6_owedBy_13 : decode cX6_owedBy 13 = .ok (.iload 6, 2) := dz_21 (k_X6_owedBy 0 13 rfl) (k_X6_owedBy 0 14 rfl)
theorem dX6_owedBy_15 : decode cX6_owedBy 15 = .ok (.aload_n 0, 1) := dz_42 (k_X6_owedBy 0 15 rfl)
theorem dX6_owedBy_16 : decode cX6_owedBy 16 = .ok (.getfield 9, 3) := dz_180 (k_X6_owedBy 0 16 rfl) (k_X6_owedBy 0 17 rfl) (k_X6_owedBy 0 18 rfl) rfl
theorem dX6_owedBy_19 : decode cX6_owedBy 19 = .ok (.getfield 19, 3) := dz_180 (k_X6_owedBy 0 19 rfl) (k_X6_owedBy 0 20 rfl) (k_X6_owedBy 0 21 rfl) rfl
theorem dX6_owedBy_22 : decode cX6_owedBy 22 = .ok (.if_icmp .ge 75, 3) := dz_162 (k_X6_owedBy 0 22 rfl) (k_X6_owedBy 0 23 rfl) (k_X6_owedBy 0 24 rfl) rfl
theorem dX6_owedBy_25 : decode cX6_owedBy 25 = .ok (.iload_n 2, 1) := dz_28 (k_X6_owedBy 0 25 rfl)
theorem dX6_owedBy_26 : decode cX6_owedBy 26 = .ok (.iconst (-1), 1) := dz_2 (k_X6_owedBy 0 26 rfl)
theorem dX6_owedBy_27 : decode cX6_owedBy 27 = .ok (.if_icmp .eq 17, 3) := dz_159 (k_X6_owedBy 0 27 rfl) (k_X6_owedBy 0 28 rfl) (k_X6_owedBy 0 29 rfl) rfl
theorem dX6_owedBy_30 : decode cX6_owedBy 30 = .ok (.aload_n 0, 1) := dz_42 (k_X6_owedBy 0 30 rfl)
theorem dX6_owedBy_31 : decode cX6_owedBy 31 = .ok (.getfield 9, 3) := dz_180 (k_X6_owedBy 0 31 rfl) (k_X6_owedBy 0 32 rfl) (k_X6_owedBy 0 33 rfl) rfl
theorem dX6_owedBy_34 : decode cX6_owedBy 34 = .ok (.iload 6, 2) := dz_21 (k_X6_owedBy 0 34 rfl) (k_X6_owedBy 0 35 rfl)
theorem dX6_owedBy_36 : decode cX6_owedBy 36 = .ok (.iconst 1, 1) := dz_4 (k_X6_owedBy 0 36 rfl)
theorem dX6_owedBy_37 : decode cX6_owedBy 37 = .ok (.invokevirtual 33, 3) := dz_182 (k_X6_owedBy 0 37 rfl) (k_X6_owedBy 0 38 rfl) (k_X6_owedBy 0 39 rfl) rfl
theorem dX6_owedBy_40 : decode cX6_owedBy 40 = .ok (.iload_n 2, 1) := dz_28 (k_X6_owedBy 0 40 rfl)
theorem dX6_owedBy_41 : decode cX6_owedBy 41 = .ok (.if_icmp .ne 7, 3) := dz_160 (k_X6_owedBy 0 41 rfl) (k_X6_owedBy 0 42 rfl) (k_X6_owedBy 0 43 rfl) rfl
theorem dX6_owedBy_44 : decode cX6_owedBy 44 = .ok (.iconst 1, 1) := dz_4 (k_X6_owedBy 0 44 rfl)
theorem dX6_owedBy_45 : decode cX6_owedBy 45 = .ok (.goto 4, 3) := dz_167 (k_X6_owedBy 0 45 rfl) (k_X6_owedBy 0 46 rfl) (k_X6_owedBy 0 47 rfl) rfl
theorem dX6_owedBy_48 : decode cX6_owedBy 48 = .ok (.iconst 0, 1) := dz_3 (k_X6_owedBy 0 48 rfl)
theorem dX6_owedBy_49 : decode cX6_owedBy 49 = .ok (.istore 7, 2) := dz_54 (k_X6_owedBy 0 49 rfl) (k_X6_owedBy 0 50 rfl)
theorem dX6_owedBy_51 : decode cX6_owedBy 51 = .ok (.iload 4, 2) := dz_21 (k_X6_owedBy 0 51 rfl) (k_X6_owedBy 0 52 rfl)
theorem dX6_owedBy_53 : decode cX6_owedBy 53 = .ok (.iload 6, 2) := dz_21 (k_X6_owedBy 0 53 rfl) (k_X6_owedBy 0 54 rfl)
theorem dX6_owedBy_55 : decode cX6_owedBy 55 = .ok (.ishr, 1) := dz_122 (k_X6_owedBy 0 55 rfl)
theorem dX6_owedBy_56 : decode cX6_owedBy 56 = .ok (.iconst 1, 1) := dz_4 (k_X6_owedBy 0 56 rfl)
theorem dX6_owedBy_57 : decode cX6_owedBy 57 = .ok (.iand, 1) := dz_126 (k_X6_owedBy 0 57 rfl)
theorem dX6_owedBy_58 : decode cX6_owedBy 58 = .ok (.ifCond .eq 33, 3) := dz_153 (k_X6_owedBy 0 58 rfl) (k_X6_owedBy 0 59 rfl) (k_X6_owedBy 0 60 rfl) rfl
theorem dX6_owedBy_61 : decode cX6_owedBy 61 = .ok (.iload 7, 2) := dz_21 (k_X6_owedBy 0 61 rfl) (k_X6_owedBy 0 62 rfl)
theorem dX6_owedBy_63 : decode cX6_owedBy 63 = .ok (.ifCond .eq 28, 3) := dz_153 (k_X6_owedBy 0 63 rfl) (k_X6_owedBy 1 0 rfl) (k_X6_owedBy 1 1 rfl) rfl
theorem dX6_owedBy_66 : decode cX6_owedBy 66 = .ok (.aload_n 0, 1) := dz_42 (k_X6_owedBy 1 2 rfl)
theorem dX6_owedBy_67 : decode cX6_owedBy 67 = .ok (.iload 6, 2) := dz_21 (k_X6_owedBy 1 3 rfl) (k_X6_owedBy 1 4 rfl)
theorem dX6_owedBy_69 : decode cX6_owedBy 69 = .ok (.invokevirtual 58, 3) := dz_182 (k_X6_owedBy 1 5 rfl) (k_X6_owedBy 1 6 rfl) (k_X6_owedBy 1 7 rfl) rfl
theorem dX6_owedBy_72 : decode cX6_owedBy 72 = .ok (.iload_n 1, 1) := dz_27 (k_X6_owedBy 1 8 rfl)
theorem dX6_owedBy_73 : decode cX6_owedBy 73 = .ok (.if_icmp .ne 18, 3) := dz_160 (k_X6_owedBy 1 9 rfl) (k_X6_owedBy 1 10 rfl) (k_X6_owedBy 1 11 rfl) rfl
theorem dX6_owedBy_76 : decode cX6_owedBy 76 = .ok (.iload 5, 2) := dz_21 (k_X6_owedBy 1 12 rfl) (k_X6_owedBy 1 13 rfl)
theorem dX6_owedBy_78 : decode cX6_owedBy 78 = .ok (.aload_n 0, 1) := dz_42 (k_X6_owedBy 1 14 rfl)
theorem dX6_owedBy_79 : decode cX6_owedBy 79 = .ok (.getfield 9, 3) := dz_180 (k_X6_owedBy 1 15 rfl) (k_X6_owedBy 1 16 rfl) (k_X6_owedBy 1 17 rfl) rfl
theorem dX6_owedBy_82 : decode cX6_owedBy 82 = .ok (.iload 6, 2) := dz_21 (k_X6_owedBy 1 18 rfl) (k_X6_owedBy 1 19 rfl)
theorem dX6_owedBy_84 : decode cX6_owedBy 84 = .ok (.iconst 2, 1) := dz_5 (k_X6_owedBy 1 20 rfl)
theorem dX6_owedBy_85 : decode cX6_owedBy 85 = .ok (.invokevirtual 33, 3) := dz_182 (k_X6_owedBy 1 21 rfl) (k_X6_owedBy 1 22 rfl) (k_X6_owedBy 1 23 rfl) rfl
theorem dX6_owedBy_88 : decode cX6_owedBy 88 = .ok (.iadd, 1) := dz_96 (k_X6_owedBy 1 24 rfl)
theorem dX6_owedBy_89 : decode cX6_owedBy 89 = .ok (.istore 5, 2) := dz_54 (k_X6_owedBy 1 25 rfl) (k_X6_owedBy 1 26 rfl)
theorem dX6_owedBy_91 : decode cX6_owedBy 91 = .ok (.iinc 6 1, 3) := dz_132 (k_X6_owedBy 1 27 rfl) (k_X6_owedBy 1 28 rfl) (k_X6_owedBy 1 29 rfl) rfl
theorem dX6_owedBy_94 : decode cX6_owedBy 94 = .ok (.goto (-81), 3) := dz_167 (k_X6_owedBy 1 30 rfl) (k_X6_owedBy 1 31 rfl) (k_X6_owedBy 1 32 rfl) rfl
theorem dX6_owedBy_97 : decode cX6_owedBy 97 = .ok (.iload 5, 2) := dz_21 (k_X6_owedBy 1 33 rfl) (k_X6_owedBy 1 34 rfl)
theorem dX6_owedBy_99 : decode cX6_owedBy 99 = .ok (.ireturn, 1) := dz_172 (k_X6_owedBy 1 35 rfl)
def B_X6_refunded : List (List Nat) := [[3, 61, 3, 62, 29, 42, 180, 0, 9, 180, 0, 19, 162, 0, 35, 42, 180, 0, 9, 29, 182, 0, 25, 154, 0, 18, 42, 29, 27, 182, 0, 29, 153, 0, 9, 28, 4, 29, 120, 128, 61, 132, 3, 1, 167, 255, 216, 28, 172]]
theorem k_X6_refunded (j i : Nat) {b : Nat} (h : (B_X6_refunded[j]?.bind fun c => c[i]?) = some b) : s_by cX6_refunded (64 * j + i) b := s_byC (L := B_X6_refunded) (by decide +kernel) (by decide +kernel) j i h
theorem dX6_refunded_0 : decode cX6_refunded 0 = .ok (.iconst 0, 1) := dz_3 (k_X6_refunded 0 0 rfl)
theorem dX6_refunded_1 : decode cX6_refunded 1 = .ok (.istore_n 2, 1) := dz_61 (k_X6_refunded 0 1 rfl)
theorem dX6_refunded_2 : decode cX6_refunded 2 = .ok (.iconst 0, 1) := dz_3 (k_X6_refunded 0 2 rfl)
theorem dX6_refunded_3 : decode cX6_refunded 3 = .ok (.istore_n 3, 1) := dz_62 (k_X6_refunded 0 3 rfl)
theorem dX6_refunded_4 : decode cX6_refunded 4 = .ok (.iload_n 3, 1) := dz_29 (k_X6_refunded 0 4 rfl)
theorem dX6_refunded_5 : decode cX6_refunded 5 = .ok (.aload_n 0, 1) := dz_42 (k_X6_refunded 0 5 rfl)
theorem dX6_refunded_6 : decode cX6_refunded 6 = .ok (.getfield 9, 3) := dz_180 (k_X6_refunded 0 6 rfl) (k_X6_refunded 0 7 rfl) (k_X6_refunded 0 8 rfl) rfl
theorem dX6_refunded_9 : decode cX6_refunded 9 = .ok (.getfield 19, 3) := dz_180 (k_X6_refunded 0 9 rfl) (k_X6_refunded 0 10 rfl) (k_X6_refunded 0 11 rfl) rfl
theorem dX6_refunded_12 : decode cX6_refunded 12 = .ok (.if_icmp .ge 35, 3) := dz_162 (k_X6_refunded 0 12 rfl) (k_X6_refunded 0 13 rfl) (k_X6_refunded 0 14 rfl) rfl
theorem dX6_refunded_15 : decode cX6_refunded 15 = .ok (.aload_n 0, 1) := dz_42 (k_X6_refunded 0 15 rfl)
theorem dX6_refunded_16 : decode cX6_refunded 16 = .ok (.getfield 9, 3) := dz_180 (k_X6_refunded 0 16 rfl) (k_X6_refunded 0 17 rfl) (k_X6_refunded 0 18 rfl) rfl
theorem dX6_refunded_19 : decode cX6_refunded 19 = .ok (.iload_n 3, 1) := dz_29 (k_X6_refunded 0 19 rfl)
theorem dX6_refunded_20 : decode cX6_refunded 20 = .ok (.invokevirtual 25, 3) := dz_182 (k_X6_refunded 0 20 rfl) (k_X6_refunded 0 21 rfl) (k_X6_refunded 0 22 rfl) rfl
theorem dX6_refunded_23 : decode cX6_refunded 23 = .ok (.ifCond .ne 18, 3) := dz_154 (k_X6_refunded 0 23 rfl) (k_X6_refunded 0 24 rfl) (k_X6_refunded 0 25 rfl) rfl
theorem dX6_refunded_26 : decode cX6_refunded 26 = .ok (.aload_n 0, 1) := dz_42 (k_X6_refunded 0 26 rfl)
theorem dX6_refunded_27 : decode cX6_refunded 27 = .ok (.iload_n 3, 1) := dz_29 (k_X6_refunded 0 27 rfl)
theorem dX6_refunded_28 : decode cX6_refunded 28 = .ok (.iload_n 1, 1) := dz_27 (k_X6_refunded 0 28 rfl)
theorem dX6_refunded_29 : decode cX6_refunded 29 = .ok (.invokevirtual 29, 3) := dz_182 (k_X6_refunded 0 29 rfl) (k_X6_refunded 0 30 rfl) (k_X6_refunded 0 31 rfl) rfl
theorem dX6_refunded_32 : decode cX6_refunded 32 = .ok (.ifCond .eq 9, 3) := dz_153 (k_X6_refunded 0 32 rfl) (k_X6_refunded 0 33 rfl) (k_X6_refunded 0 34 rfl) rfl
theorem dX6_refunded_35 : decode cX6_refunded 35 = .ok (.iload_n 2, 1) := dz_28 (k_X6_refunded 0 35 rfl)
theorem dX6_refunded_36 : decode cX6_refunded 36 = .ok (.iconst 1, 1) := dz_4 (k_X6_refunded 0 36 rfl)
theorem dX6_refunded_37 : decode cX6_refunded 37 = .ok (.iload_n 3, 1) := dz_29 (k_X6_refunded 0 37 rfl)
theorem dX6_refunded_38 : decode cX6_refunded 38 = .ok (.ishl, 1) := dz_120 (k_X6_refunded 0 38 rfl)
theorem dX6_refunded_39 : decode cX6_refunded 39 = .ok (.ior, 1) := dz_128 (k_X6_refunded 0 39 rfl)
theorem dX6_refunded_40 : decode cX6_refunded 40 = .ok (.istore_n 2, 1) := dz_61 (k_X6_refunded 0 40 rfl)
theorem dX6_refunded_41 : decode cX6_refunded 41 = .ok (.iinc 3 1, 3) := dz_132 (k_X6_refunded 0 41 rfl) (k_X6_refunded 0 42 rfl) (k_X6_refunded 0 43 rfl) rfl
theorem dX6_refunded_44 : decode cX6_refunded 44 = .ok (.goto (-40), 3) := dz_167 (k_X6_refunded 0 44 rfl) (k_X6_refunded 0 45 rfl) (k_X6_refunded 0 46 rfl) rfl
theorem dX6_refunded_47 : decode cX6_refunded 47 = .ok (.iload_n 2, 1) := dz_28 (k_X6_refunded 0 47 rfl)
theorem dX6_refunded_48 : decode cX6_refunded 48 = .ok (.ireturn, 1) := dz_172 (k_X6_refunded 0 48 rfl)
def B_X6_sellerOf : List (List Nat) := [[42, 180, 0, 9, 42, 180, 0, 9, 27, 3, 182, 0, 33, 3, 182, 0, 52, 172]]
theorem k_X6_sellerOf (j i : Nat) {b : Nat} (h : (B_X6_sellerOf[j]?.bind fun c => c[i]?) = some b) : s_by cX6_sellerOf (64 * j + i) b := s_byC (L := B_X6_sellerOf) (by decide +kernel) (by decide +kernel) j i h
theorem dX6_sellerOf_0 : decode cX6_sellerOf 0 = .ok (.aload_n 0, 1) := dz_42 (k_X6_sellerOf 0 0 rfl)
theorem dX6_sellerOf_1 : decode cX6_sellerOf 1 = .ok (.getfield 9, 3) := dz_180 (k_X6_sellerOf 0 1 rfl) (k_X6_sellerOf 0 2 rfl) (k_X6_sellerOf 0 3 rfl) rfl
theorem dX6_sellerOf_4 : decode cX6_sellerOf 4 = .ok (.aload_n 0, 1) := dz_42 (k_X6_sellerOf 0 4 rfl)
theorem dX6_sellerOf_5 : decode cX6_sellerOf 5 = .ok (.getfield 9, 3) := dz_180 (k_X6_sellerOf 0 5 rfl) (k_X6_sellerOf 0 6 rfl) (k_X6_sellerOf 0 7 rfl) rfl
theorem dX6_sellerOf_8 : decode cX6_sellerOf 8 = .ok (.iload_n 1, 1) := dz_27 (k_X6_sellerOf 0 8 rfl)
theorem dX6_sellerOf_9 : decode cX6_sellerOf 9 = .ok (.iconst 0, 1) := dz_3 (k_X6_sellerOf 0 9 rfl)
theorem dX6_sellerOf_10 : decode cX6_sellerOf 10 = .ok (.invokevirtual 33, 3) := dz_182 (k_X6_sellerOf 0 10 rfl) (k_X6_sellerOf 0 11 rfl) (k_X6_sellerOf 0 12 rfl) rfl
theorem dX6_sellerOf_13 : decode cX6_sellerOf 13 = .ok (.iconst 0, 1) := dz_3 (k_X6_sellerOf 0 13 rfl)
theorem dX6_sellerOf_14 : decode cX6_sellerOf 14 = .ok (.invokevirtual 52, 3) := dz_182 (k_X6_sellerOf 0 14 rfl) (k_X6_sellerOf 0 15 rfl) (k_X6_sellerOf 0 16 rfl) rfl
theorem dX6_sellerOf_17 : decode cX6_sellerOf 17 = .ok (.ireturn, 1) := dz_172 (k_X6_sellerOf 0 17 rfl)
def B_X6_wasSoldBefore : List (List Nat) := [[42, 180, 0, 9, 42, 180, 0, 9, 27, 3, 182, 0, 33, 182, 0, 45, 61, 42, 180, 0, 9, 27, 4, 182, 0, 33, 62, 3, 54, 4, 21, 4, 42, 180, 0, 9, 180, 0, 19, 162, 0, 68, 42, 180, 0, 9, 21, 4, 182, 0, 25, 154, 0, 50, 42, 21, 4, 27, 182, 0, 49, 153, 0, 40], [42, 180, 0, 9, 21, 4, 4, 182, 0, 33, 29, 160, 0, 26, 42, 180, 0, 9, 42, 180, 0, 9, 21, 4, 3, 182, 0, 33, 182, 0, 45, 28, 160, 0, 5, 4, 172, 132, 4, 1, 167, 255, 182, 3, 172]]
theorem k_X6_wasSoldBefore (j i : Nat) {b : Nat} (h : (B_X6_wasSoldBefore[j]?.bind fun c => c[i]?) = some b) : s_by cX6_wasSoldBefore (64 * j + i) b := s_byC (L := B_X6_wasSoldBefore) (by decide +kernel) (by decide +kernel) j i h
theorem dX6_wasSoldBefore_0 : decode cX6_wasSoldBefore 0 = .ok (.aload_n 0, 1) := dz_42 (k_X6_wasSoldBefore 0 0 rfl)
theorem dX6_wasSoldBefore_1 : decode cX6_wasSoldBefore 1 = .ok (.getfield 9, 3) := dz_180 (k_X6_wasSoldBefore 0 1 rfl) (k_X6_wasSoldBefore 0 2 rfl) (k_X6_wasSoldBefore 0 3 rfl) rfl
theorem dX6_wasSoldBefore_4 : decode cX6_wasSoldBefore 4 = .ok (.aload_n 0, 1) := dz_42 (k_X6_wasSoldBefore 0 4 rfl)
theorem dX6_wasSoldBefore_5 : decode cX6_wasSoldBefore 5 = .ok (.getfield 9, 3) := dz_180 (k_X6_wasSoldBefore 0 5 rfl) (k_X6_wasSoldBefore 0 6 rfl) (k_X6_wasSoldBefore 0 7 rfl) rfl
theorem dX6_wasSoldBefore_8 : decode cX6_wasSoldBefore 8 = .ok (.iload_n 1, 1) := dz_27 (k_X6_wasSoldBefore 0 8 rfl)
theorem dX6_wasSoldBefore_9 : decode cX6_wasSoldBefore 9 = .ok (.iconst 0, 1) := dz_3 (k_X6_wasSoldBefore 0 9 rfl)
theorem dX6_wasSoldBefore_10 : decode cX6_wasSoldBefore 10 = .ok (.invokevirtual 33, 3) := dz_182 (k_X6_wasSoldBefore 0 10 rfl) (k_X6_wasSoldBefore 0 11 rfl) (k_X6_wasSoldBefore 0 12 rfl) rfl
theorem dX6_wasSoldBefore_13 : decode cX6_wasSoldBefore 13 = .ok (.invokevirtual 45, 3) := dz_182 (k_X6_wasSoldBefore 0 13 rfl) (k_X6_wasSoldBefore 0 14 rfl) (k_X6_wasSoldBefore 0 15 rfl) rfl
theorem dX6_wasSoldBefore_16 : decode cX6_wasSoldBefore 16 = .ok (.istore_n 2, 1) := dz_61 (k_X6_wasSoldBefore 0 16 rfl)
theorem dX6_wasSoldBefore_17 : decode cX6_wasSoldBefore 17 = .ok (.aload_n 0, 1) := dz_42 (k_X6_wasSoldBefore 0 17 rfl)
theorem dX6_wasSoldBefore_18 : decode cX6_wasSoldBefore 18 = .ok (.getfield 9, 3) := dz_180 (k_X6_wasSoldBefore 0 18 rfl) (k_X6_wasSoldBefore 0 19 rfl) (k_X6_wasSoldBefore 0 20 rfl) rfl
theorem dX6_wasSoldBefore_21 : decode cX6_wasSoldBefore 21 = .ok (.iload_n 1, 1) := dz_27 (k_X6_wasSoldBefore 0 21 rfl)
theorem dX6_wasSoldBefore_22 : decode cX6_wasSoldBefore 22 = .ok (.iconst 1, 1) := dz_4 (k_X6_wasSoldBefore 0 22 rfl)
theorem dX6_wasSoldBefore_23 : decode cX6_wasSoldBefore 23 = .ok (.invokevirtual 33, 3) := dz_182 (k_X6_wasSoldBefore 0 23 rfl) (k_X6_wasSoldBefore 0 24 rfl) (k_X6_wasSoldBefore 0 25 rfl) rfl
theorem dX6_wasSoldBefore_26 : decode cX6_wasSoldBefore 26 = .ok (.istore_n 3, 1) := dz_62 (k_X6_wasSoldBefore 0 26 rfl)
theorem dX6_wasSoldBefore_27 : decode cX6_wasSoldBefore 27 = .ok (.iconst 0, 1) := dz_3 (k_X6_wasSoldBefore 0 27 rfl)
theorem dX6_wasSoldBefore_28 : decode cX6_wasSoldBefore 28 = .ok (.istore 4, 2) := dz_54 (k_X6_wasSoldBefore 0 28 rfl) (k_X6_wasSoldBefore 0 29 rfl)
theorem dX6_wasSoldBefore_30 : decode cX6_wasSoldBefore 30 = .ok (.iload 4, 2) := dz_21 (k_X6_wasSoldBefore 0 30 rfl) (k_X6_wasSoldBefore 0 31 rfl)
theorem dX6_wasSoldBefore_32 : decode cX6_wasSoldBefore 32 = .ok (.aload_n 0, 1) := dz_42 (k_X6_wasSoldBefore 0 32 rfl)
theorem dX6_wasSoldBefore_33 : decode cX6_wasSoldBefore 33 = .ok (.getfield 9, 3) := dz_180 (k_X6_wasSoldBefore 0 33 rfl) (k_X6_wasSoldBefore 0 34 rfl) (k_X6_wasSoldBefore 0 35 rfl) rfl
theorem dX6_wasSoldBefore_36 : decode cX6_wasSoldBefore 36 = .ok (.getfield 19, 3) := dz_180 (k_X6_wasSoldBefore 0 36 rfl) (k_X6_wasSoldBefore 0 37 rfl) (k_X6_wasSoldBefore 0 38 rfl) rfl
theorem dX6_wasSoldBefore_39 : decode cX6_wasSoldBefore 39 = .ok (.if_icmp .ge 68, 3) := dz_162 (k_X6_wasSoldBefore 0 39 rfl) (k_X6_wasSoldBefore 0 40 rfl) (k_X6_wasSoldBefore 0 41 rfl) rfl
theorem dX6_wasSoldBefore_42 : decode cX6_wasSoldBefore 42 = .ok (.aload_n 0, 1) := dz_42 (k_X6_wasSoldBefore 0 42 rfl)
theorem dX6_wasSoldBefore_43 : decode cX6_wasSoldBefore 43 = .ok (.getfield 9, 3) := dz_180 (k_X6_wasSoldBefore 0 43 rfl) (k_X6_wasSoldBefore 0 44 rfl) (k_X6_wasSoldBefore 0 45 rfl) rfl
theorem dX6_wasSoldBefore_46 : decode cX6_wasSoldBefore 46 = .ok (.iload 4, 2) := dz_21 (k_X6_wasSoldBefore 0 46 rfl) (k_X6_wasSoldBefore 0 47 rfl)
theorem dX6_wasSoldBefore_48 : decode cX6_wasSoldBefore 48 = .ok (.invokevirtual 25, 3) := dz_182 (k_X6_wasSoldBefore 0 48 rfl) (k_X6_wasSoldBefore 0 49 rfl) (k_X6_wasSoldBefore 0 50 rfl) rfl
theorem dX6_wasSoldBefore_51 : decode cX6_wasSoldBefore 51 = .ok (.ifCond .ne 50, 3) := dz_154 (k_X6_wasSoldBefore 0 51 rfl) (k_X6_wasSoldBefore 0 52 rfl) (k_X6_wasSoldBefore 0 53 rfl) rfl
theorem dX6_wasSoldBefore_54 : decode cX6_wasSoldBefore 54 = .ok (.aload_n 0, 1) := dz_42 (k_X6_wasSoldBefore 0 54 rfl)
theorem dX6_wasSoldBefore_55 : decode cX6_wasSoldBefore 55 = .ok (.iload 4, 2) := dz_21 (k_X6_wasSoldBefore 0 55 rfl) (k_X6_wasSoldBefore 0 56 rfl)
theorem dX6_wasSoldBefore_57 : decode cX6_wasSoldBefore 57 = .ok (.iload_n 1, 1) := dz_27 (k_X6_wasSoldBefore 0 57 rfl)
theorem dX6_wasSoldBefore_58 : decode cX6_wasSoldBefore 58 = .ok (.invokevirtual 49, 3) := dz_182 (k_X6_wasSoldBefore 0 58 rfl) (k_X6_wasSoldBefore 0 59 rfl) (k_X6_wasSoldBefore 0 60 rfl) rfl
theorem dX6_wasSoldBefore_61 : decode cX6_wasSoldBefore 61 = .ok (.ifCond .eq 40, 3) := dz_153 (k_X6_wasSoldBefore 0 61 rfl) (k_X6_wasSoldBefore 0 62 rfl) (k_X6_wasSoldBefore 0 63 rfl) rfl
theorem dX6_wasSoldBefore_64 : decode cX6_wasSoldBefore 64 = .ok (.aload_n 0, 1) := dz_42 (k_X6_wasSoldBefore 1 0 rfl)
theorem dX6_wasSoldBefore_65 : decode cX6_wasSoldBefore 65 = .ok (.getfield 9, 3) := dz_180 (k_X6_wasSoldBefore 1 1 rfl) (k_X6_wasSoldBefore 1 2 rfl) (k_X6_wasSoldBefore 1 3 rfl) rfl
theorem dX6_wasSoldBefore_68 : decode cX6_wasSoldBefore 68 = .ok (.iload 4, 2) := dz_21 (k_X6_wasSoldBefore 1 4 rfl) (k_X6_wasSoldBefore 1 5 rfl)
theorem dX6_wasSoldBefore_70 : decode cX6_wasSoldBefore 70 = .ok (.iconst 1, 1) := dz_4 (k_X6_wasSoldBefore 1 6 rfl)
theorem dX6_wasSoldBefore_71 : decode cX6_wasSoldBefore 71 = .ok (.invokevirtual 33, 3) := dz_182 (k_X6_wasSoldBefore 1 7 rfl) (k_X6_wasSoldBefore 1 8 rfl) (k_X6_wasSoldBefore 1 9 rfl) rfl
theorem dX6_wasSoldBefore_74 : decode cX6_wasSoldBefore 74 = .ok (.iload_n 3, 1) := dz_29 (k_X6_wasSoldBefore 1 10 rfl)
theorem dX6_wasSoldBefore_75 : decode cX6_wasSoldBefore 75 = .ok (.if_icmp .ne 26, 3) := dz_160 (k_X6_wasSoldBefore 1 11 rfl) (k_X6_wasSoldBefore 1 12 rfl) (k_X6_wasSoldBefore 1 13 rfl) rfl
theorem dX6_wasSoldBefore_78 : decode cX6_wasSoldBefore 78 = .ok (.aload_n 0, 1) := dz_42 (k_X6_wasSoldBefore 1 14 rfl)
theorem dX6_wasSoldBefore_79 : decode cX6_wasSoldBefore 79 = .ok (.getfield 9, 3) := dz_180 (k_X6_wasSoldBefore 1 15 rfl) (k_X6_wasSoldBefore 1 16 rfl) (k_X6_wasSoldBefore 1 17 rfl) rfl
theorem dX6_wasSoldBefore_82 : decode cX6_wasSoldBefore 82 = .ok (.aload_n 0, 1) := dz_42 (k_X6_wasSoldBefore 1 18 rfl)
theorem dX6_wasSoldBefore_83 : decode cX6_wasSoldBefore 83 = .ok (.getfield 9, 3) := dz_180 (k_X6_wasSoldBefore 1 19 rfl) (k_X6_wasSoldBefore 1 20 rfl) (k_X6_wasSoldBefore 1 21 rfl) rfl
theorem dX6_wasSoldBefore_86 : decode cX6_wasSoldBefore 86 = .ok (.iload 4, 2) := dz_21 (k_X6_wasSoldBefore 1 22 rfl) (k_X6_wasSoldBefore 1 23 rfl)
theorem dX6_wasSoldBefore_88 : decode cX6_wasSoldBefore 88 = .ok (.iconst 0, 1) := dz_3 (k_X6_wasSoldBefore 1 24 rfl)
theorem dX6_wasSoldBefore_89 : decode cX6_wasSoldBefore 89 = .ok (.invokevirtual 33, 3) := dz_182 (k_X6_wasSoldBefore 1 25 rfl) (k_X6_wasSoldBefore 1 26 rfl) (k_X6_wasSoldBefore 1 27 rfl) rfl
theorem dX6_wasSoldBefore_92 : decode cX6_wasSoldBefore 92 = .ok (.invokevirtual 45, 3) := dz_182 (k_X6_wasSoldBefore 1 28 rfl) (k_X6_wasSoldBefore 1 29 rfl) (k_X6_wasSoldBefore 1 30 rfl) rfl
theorem dX6_wasSoldBefore_95 : decode cX6_wasSoldBefore 95 = .ok (.iload_n 2, 1) := dz_28 (k_X6_wasSoldBefore 1 31 rfl)
theorem dX6_wasSoldBefore_96 : decode cX6_wasSoldBefore 96 = .ok (.if_icmp .ne 5, 3) := dz_160 (k_X6_wasSoldBefore 1 32 rfl) (k_X6_wasSoldBefore 1 33 rfl) (k_X6_wasSoldBefore 1 34 rfl) rfl
theorem dX6_wasSoldBefore_99 : decode cX6_wasSoldBefore 99 = .ok (.iconst 1, 1) := dz_4 (k_X6_wasSoldBefore 1 35 rfl)
theorem dX6_wasSoldBefore_100 : decode cX6_wasSoldBefore 100 = .ok (.ireturn, 1) := dz_172 (k_X6_wasSoldBefore 1 36 rfl)
theorem dX6_wasSoldBefore_101 : decode cX6_wasSoldBefore 101 = .ok (.iinc 4 1, 3) := dz_132 (k_X6_wasSoldBefore 1 37 rfl) (k_X6_wasSoldBefore 1 38 rfl) (k_X6_wasSoldBefore 1 39 rfl) rfl
theorem dX6_wasSoldBefore_104 : decode cX6_wasSoldBefore 104 = .ok (.goto (-74), 3) := dz_167 (k_X6_wasSoldBefore 1 40 rfl) (k_X6_wasSoldBefore 1 41 rfl) (k_X6_wasSoldBefore 1 42 rfl) rfl
theorem dX6_wasSoldBefore_107 : decode cX6_wasSoldBefore 107 = .ok (.iconst 0, 1) := dz_3 (k_X6_wasSoldBefore 1 43 rfl)
theorem dX6_wasSoldBefore_108 : decode cX6_wasSoldBefore 108 = .ok (.ireturn, 1) := dz_172 (k_X6_wasSoldBefore 1 44 rfl)
