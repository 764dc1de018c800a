/-! reads and writes of the picture, cell by cell -/
section WQ
variable {P : sP} {w : sW} {ex : Nat → Option sC} {n sl : Nat}
theorem z_0 : s_is (hp P w ex n sl) P.2.1 7 = some () := hp_is (k := 0) (o := (7, [3, 11, 21, 31, 33, 39, 40, 47, 0])) rfl (by decide)
theorem q_0_0 : s_fr (hp P w ex n sl) P.2.1 7 0 = some (P.2.1 + 1) := hp_fr (k := 0) (c := 1) (o := (7, [3, 11, 21, 31, 33, 39, 40, 47, 0])) rfl (by decide) rfl (by decide)
theorem q_0_1 : s_fr (hp P w ex n sl) P.2.1 7 1 = some (P.2.1 + 9) := hp_fr (k := 0) (c := 9) (o := (7, [3, 11, 21, 31, 33, 39, 40, 47, 0])) rfl (by decide) rfl (by decide)
theorem q_0_2 : s_fr (hp P w ex n sl) P.2.1 7 2 = some (P.2.1 + 19) := hp_fr (k := 0) (c := 19) (o := (7, [3, 11, 21, 31, 33, 39, 40, 47, 0])) rfl (by decide) rfl (by decide)
theorem q_0_3 : s_fr (hp P w ex n sl) P.2.1 7 3 = some (P.2.1 + 29) := hp_fr (k := 0) (c := 29) (o := (7, [3, 11, 21, 31, 33, 39, 40, 47, 0])) rfl (by decide) rfl (by decide)
theorem q_0_4 : s_fr (hp P w ex n sl) P.2.1 7 4 = some (P.2.1 + 31) := hp_fr (k := 0) (c := 31) (o := (7, [3, 11, 21, 31, 33, 39, 40, 47, 0])) rfl (by decide) rfl (by decide)
theorem q_0_5 : s_fr (hp P w ex n sl) P.2.1 7 5 = some (P.2.1 + 37) := hp_fr (k := 0) (c := 37) (o := (7, [3, 11, 21, 31, 33, 39, 40, 47, 0])) rfl (by decide) rfl (by decide)
theorem q_0_6 : s_fr (hp P w ex n sl) P.2.1 7 6 = some (P.2.1 + 38) := hp_fr (k := 0) (c := 38) (o := (7, [3, 11, 21, 31, 33, 39, 40, 47, 0])) rfl (by decide) rfl (by decide)
theorem q_0_7 : s_fr (hp P w ex n sl) P.2.1 7 7 = some (P.2.1 + 45) := hp_fr (k := 0) (c := 45) (o := (7, [3, 11, 21, 31, 33, 39, 40, 47, 0])) rfl (by decide) rfl (by decide)
theorem q_0_8 : s_fi (hp P w ex n sl) P.2.1 7 8 = some (w.1 0 8) := hp_fi (k := 0) (o := (7, [3, 11, 21, 31, 33, 39, 40, 47, 0])) rfl (by decide) rfl
theorem p_0_8 {v : Int32} : s_pf (hp P w ex n sl) P.2.1 7 8 (.int v) = some (hp P (wI w 0 8 v) ex n sl) := hp_pi (k := 0) (o := (7, [3, 11, 21, 31, 33, 39, 40, 47, 0])) rfl (by decide) rfl
theorem z_1 : s_is (hp P w ex n sl) (P.2.1 + 1) 2 = some () := hp_is (k := 1) (o := (2, [0, 1000, 1001, 1002, 1003, 1004, 1005, 10])) rfl (by decide)
theorem q_1_0 : s_fi (hp P w ex n sl) (P.2.1 + 1) 2 0 = some (w.1 1 0) := hp_fi (k := 1) (o := (2, [0, 1000, 1001, 1002, 1003, 1004, 1005, 10])) rfl (by decide) rfl
theorem p_1_0 {v : Int32} : s_pf (hp P w ex n sl) (P.2.1 + 1) 2 0 (.int v) = some (hp P (wI w 1 0 v) ex n sl) := hp_pi (k := 1) (o := (2, [0, 1000, 1001, 1002, 1003, 1004, 1005, 10])) rfl (by decide) rfl
theorem q_1_1 : s_fr (hp P w ex n sl) (P.2.1 + 1) 2 1 = some (w_fa P w + 0) := hp_ff (i := 0) rfl (by decide)
theorem q_1_2 : s_fr (hp P w ex n sl) (P.2.1 + 1) 2 2 = some (w_fa P w + 1) := hp_ff (i := 1) rfl (by decide)
theorem q_1_3 : s_fr (hp P w ex n sl) (P.2.1 + 1) 2 3 = some (w_fa P w + 2) := hp_ff (i := 2) rfl (by decide)
theorem q_1_4 : s_fr (hp P w ex n sl) (P.2.1 + 1) 2 4 = some (w_fa P w + 3) := hp_ff (i := 3) rfl (by decide)
theorem q_1_5 : s_fr (hp P w ex n sl) (P.2.1 + 1) 2 5 = some (w_fa P w + 4) := hp_ff (i := 4) rfl (by decide)
theorem q_1_6 : s_fr (hp P w ex n sl) (P.2.1 + 1) 2 6 = some (w_fa P w + 5) := hp_ff (i := 5) rfl (by decide)
theorem q_1_7 : s_fr (hp P w ex n sl) (P.2.1 + 1) 2 7 = some (P.2.1 + 8) := hp_fr (k := 1) (c := 8) (o := (2, [0, 1000, 1001, 1002, 1003, 1004, 1005, 10])) rfl (by decide) rfl (by decide)
theorem z_9 : s_is (hp P w ex n sl) (P.2.1 + 9) 1 = some () := hp_is (k := 9) (o := (1, [0, 0, 0, 12, 13, 14, 0, 15, 16, 0, 0, 17, 18, 19, 20])) rfl (by decide)
theorem q_9_0 : s_fi (hp P w ex n sl) (P.2.1 + 9) 1 0 = some (w.1 9 0) := hp_fi (k := 9) (o := (1, [0, 0, 0, 12, 13, 14, 0, 15, 16, 0, 0, 17, 18, 19, 20])) rfl (by decide) rfl
theorem p_9_0 {v : Int32} : s_pf (hp P w ex n sl) (P.2.1 + 9) 1 0 (.int v) = some (hp P (wI w 9 0 v) ex n sl) := hp_pi (k := 9) (o := (1, [0, 0, 0, 12, 13, 14, 0, 15, 16, 0, 0, 17, 18, 19, 20])) rfl (by decide) rfl
theorem q_9_1 : s_fi (hp P w ex n sl) (P.2.1 + 9) 1 1 = some (w.1 9 1) := hp_fi (k := 9) (o := (1, [0, 0, 0, 12, 13, 14, 0, 15, 16, 0, 0, 17, 18, 19, 20])) rfl (by decide) rfl
theorem p_9_1 {v : Int32} : s_pf (hp P w ex n sl) (P.2.1 + 9) 1 1 (.int v) = some (hp P (wI w 9 1 v) ex n sl) := hp_pi (k := 9) (o := (1, [0, 0, 0, 12, 13, 14, 0, 15, 16, 0, 0, 17, 18, 19, 20])) rfl (by decide) rfl
theorem q_9_2 : s_fi (hp P w ex n sl) (P.2.1 + 9) 1 2 = some (w.1 9 2) := hp_fi (k := 9) (o := (1, [0, 0, 0, 12, 13, 14, 0, 15, 16, 0, 0, 17, 18, 19, 20])) rfl (by decide) rfl
theorem p_9_2 {v : Int32} : s_pf (hp P w ex n sl) (P.2.1 + 9) 1 2 (.int v) = some (hp P (wI w 9 2 v) ex n sl) := hp_pi (k := 9) (o := (1, [0, 0, 0, 12, 13, 14, 0, 15, 16, 0, 0, 17, 18, 19, 20])) rfl (by decide) rfl
theorem q_9_3 : s_fr (hp P w ex n sl) (P.2.1 + 9) 1 3 = some (P.2.1 + 10) := hp_fr (k := 9) (c := 10) (o := (1, [0, 0, 0, 12, 13, 14, 0, 15, 16, 0, 0, 17, 18, 19, 20])) rfl (by decide) rfl (by decide)
theorem q_9_4 : s_fr (hp P w ex n sl) (P.2.1 + 9) 1 4 = some (P.2.1 + 11) := hp_fr (k := 9) (c := 11) (o := (1, [0, 0, 0, 12, 13, 14, 0, 15, 16, 0, 0, 17, 18, 19, 20])) rfl (by decide) rfl (by decide)
theorem q_9_5 : s_fr (hp P w ex n sl) (P.2.1 + 9) 1 5 = some (P.2.1 + 12) := hp_fr (k := 9) (c := 12) (o := (1, [0, 0, 0, 12, 13, 14, 0, 15, 16, 0, 0, 17, 18, 19, 20])) rfl (by decide) rfl (by decide)
theorem q_9_6 : s_fi (hp P w ex n sl) (P.2.1 + 9) 1 6 = some (w.1 9 6) := hp_fi (k := 9) (o := (1, [0, 0, 0, 12, 13, 14, 0, 15, 16, 0, 0, 17, 18, 19, 20])) rfl (by decide) rfl
theorem p_9_6 {v : Int32} : s_pf (hp P w ex n sl) (P.2.1 + 9) 1 6 (.int v) = some (hp P (wI w 9 6 v) ex n sl) := hp_pi (k := 9) (o := (1, [0, 0, 0, 12, 13, 14, 0, 15, 16, 0, 0, 17, 18, 19, 20])) rfl (by decide) rfl
theorem q_9_7 : s_fr (hp P w ex n sl) (P.2.1 + 9) 1 7 = some (P.2.1 + 13) := hp_fr (k := 9) (c := 13) (o := (1, [0, 0, 0, 12, 13, 14, 0, 15, 16, 0, 0, 17, 18, 19, 20])) rfl (by decide) rfl (by decide)
theorem q_9_8 : s_fr (hp P w ex n sl) (P.2.1 + 9) 1 8 = some (P.2.1 + 14) := hp_fr (k := 9) (c := 14) (o := (1, [0, 0, 0, 12, 13, 14, 0, 15, 16, 0, 0, 17, 18, 19, 20])) rfl (by decide) rfl (by decide)
theorem q_9_9 : s_fi (hp P w ex n sl) (P.2.1 + 9) 1 9 = some (w.1 9 9) := hp_fi (k := 9) (o := (1, [0, 0, 0, 12, 13, 14, 0, 15, 16, 0, 0, 17, 18, 19, 20])) rfl (by decide) rfl
theorem p_9_9 {v : Int32} : s_pf (hp P w ex n sl) (P.2.1 + 9) 1 9 (.int v) = some (hp P (wI w 9 9 v) ex n sl) := hp_pi (k := 9) (o := (1, [0, 0, 0, 12, 13, 14, 0, 15, 16, 0, 0, 17, 18, 19, 20])) rfl (by decide) rfl
theorem q_9_10 : s_fi (hp P w ex n sl) (P.2.1 + 9) 1 10 = some (w.1 9 10) := hp_fi (k := 9) (o := (1, [0, 0, 0, 12, 13, 14, 0, 15, 16, 0, 0, 17, 18, 19, 20])) rfl (by decide) rfl
theorem p_9_10 {v : Int32} : s_pf (hp P w ex n sl) (P.2.1 + 9) 1 10 (.int v) = some (hp P (wI w 9 10 v) ex n sl) := hp_pi (k := 9) (o := (1, [0, 0, 0, 12, 13, 14, 0, 15, 16, 0, 0, 17, 18, 19, 20])) rfl (by decide) rfl
theorem q_9_11 : s_fr (hp P w ex n sl) (P.2.1 + 9) 1 11 = some (P.2.1 + 15) := hp_fr (k := 9) (c := 15) (o := (1, [0, 0, 0, 12, 13, 14, 0, 15, 16, 0, 0, 17, 18, 19, 20])) rfl (by decide) rfl (by decide)
theorem q_9_12 : s_fr (hp P w ex n sl) (P.2.1 + 9) 1 12 = some (P.2.1 + 16) := hp_fr (k := 9) (c := 16) (o := (1, [0, 0, 0, 12, 13, 14, 0, 15, 16, 0, 0, 17, 18, 19, 20])) rfl (by decide) rfl (by decide)
theorem q_9_13 : s_fr (hp P w ex n sl) (P.2.1 + 9) 1 13 = some (P.2.1 + 17) := hp_fr (k := 9) (c := 17) (o := (1, [0, 0, 0, 12, 13, 14, 0, 15, 16, 0, 0, 17, 18, 19, 20])) rfl (by decide) rfl (by decide)
theorem q_9_14 : s_fr (hp P w ex n sl) (P.2.1 + 9) 1 14 = some (P.2.1 + 18) := hp_fr (k := 9) (c := 18) (o := (1, [0, 0, 0, 12, 13, 14, 0, 15, 16, 0, 0, 17, 18, 19, 20])) rfl (by decide) rfl (by decide)
theorem z_19 : s_is (hp P w ex n sl) (P.2.1 + 19) 1 = some () := hp_is (k := 19) (o := (1, [0, 0, 0, 22, 23, 24, 0, 25, 26, 0, 0, 27, 28, 29, 30])) rfl (by decide)
theorem q_19_0 : s_fi (hp P w ex n sl) (P.2.1 + 19) 1 0 = some (w.1 19 0) := hp_fi (k := 19) (o := (1, [0, 0, 0, 22, 23, 24, 0, 25, 26, 0, 0, 27, 28, 29, 30])) rfl (by decide) rfl
theorem p_19_0 {v : Int32} : s_pf (hp P w ex n sl) (P.2.1 + 19) 1 0 (.int v) = some (hp P (wI w 19 0 v) ex n sl) := hp_pi (k := 19) (o := (1, [0, 0, 0, 22, 23, 24, 0, 25, 26, 0, 0, 27, 28, 29, 30])) rfl (by decide) rfl
theorem q_19_1 : s_fi (hp P w ex n sl) (P.2.1 + 19) 1 1 = some (w.1 19 1) := hp_fi (k := 19) (o := (1, [0, 0, 0, 22, 23, 24, 0, 25, 26, 0, 0, 27, 28, 29, 30])) rfl (by decide) rfl
theorem p_19_1 {v : Int32} : s_pf (hp P w ex n sl) (P.2.1 + 19) 1 1 (.int v) = some (hp P (wI w 19 1 v) ex n sl) := hp_pi (k := 19) (o := (1, [0, 0, 0, 22, 23, 24, 0, 25, 26, 0, 0, 27, 28, 29, 30])) rfl (by decide) rfl
theorem q_19_2 : s_fi (hp P w ex n sl) (P.2.1 + 19) 1 2 = some (w.1 19 2) := hp_fi (k := 19) (o := (1, [0, 0, 0, 22, 23, 24, 0, 25, 26, 0, 0, 27, 28, 29, 30])) rfl (by decide) rfl
theorem p_19_2 {v : Int32} : s_pf (hp P w ex n sl) (P.2.1 + 19) 1 2 (.int v) = some (hp P (wI w 19 2 v) ex n sl) := hp_pi (k := 19) (o := (1, [0, 0, 0, 22, 23, 24, 0, 25, 26, 0, 0, 27, 28, 29, 30])) rfl (by decide) rfl
theorem q_19_3 : s_fr (hp P w ex n sl) (P.2.1 + 19) 1 3 = some (P.2.1 + 20) := hp_fr (k := 19) (c := 20) (o := (1, [0, 0, 0, 22, 23, 24, 0, 25, 26, 0, 0, 27, 28, 29, 30])) rfl (by decide) rfl (by decide)
theorem q_19_4 : s_fr (hp P w ex n sl) (P.2.1 + 19) 1 4 = some (P.2.1 + 21) := hp_fr (k := 19) (c := 21) (o := (1, [0, 0, 0, 22, 23, 24, 0, 25, 26, 0, 0, 27, 28, 29, 30])) rfl (by decide) rfl (by decide)
theorem q_19_5 : s_fr (hp P w ex n sl) (P.2.1 + 19) 1 5 = some (P.2.1 + 22) := hp_fr (k := 19) (c := 22) (o := (1, [0, 0, 0, 22, 23, 24, 0, 25, 26, 0, 0, 27, 28, 29, 30])) rfl (by decide) rfl (by decide)
theorem q_19_6 : s_fi (hp P w ex n sl) (P.2.1 + 19) 1 6 = some (w.1 19 6) := hp_fi (k := 19) (o := (1, [0, 0, 0, 22, 23, 24, 0, 25, 26, 0, 0, 27, 28, 29, 30])) rfl (by decide) rfl
theorem p_19_6 {v : Int32} : s_pf (hp P w ex n sl) (P.2.1 + 19) 1 6 (.int v) = some (hp P (wI w 19 6 v) ex n sl) := hp_pi (k := 19) (o := (1, [0, 0, 0, 22, 23, 24, 0, 25, 26, 0, 0, 27, 28, 29, 30])) rfl (by decide) rfl
theorem q_19_7 : s_fr (hp P w ex n sl) (P.2.1 + 19) 1 7 = some (P.2.1 + 23) := hp_fr (k := 19) (c := 23) (o := (1, [0, 0, 0, 22, 23, 24, 0, 25, 26, 0, 0, 27, 28, 29, 30])) rfl (by decide) rfl (by decide)
theorem q_19_8 : s_fr (hp P w ex n sl) (P.2.1 + 19) 1 8 = some (P.2.1 + 24) := hp_fr (k := 19) (c := 24) (o := (1, [0, 0, 0, 22, 23, 24, 0, 25, 26, 0, 0, 27, 28, 29, 30])) rfl (by decide) rfl (by decide)
theorem q_19_9 : s_fi (hp P w ex n sl) (P.2.1 + 19) 1 9 = some (w.1 19 9) := hp_fi (k := 19) (o := (1, [0, 0, 0, 22, 23, 24, 0, 25, 26, 0, 0, 27, 28, 29, 30])) rfl (by decide) rfl
theorem p_19_9 {v : Int32} : s_pf (hp P w ex n sl) (P.2.1 + 19) 1 9 (.int v) = some (hp P (wI w 19 9 v) ex n sl) := hp_pi (k := 19) (o := (1, [0, 0, 0, 22, 23, 24, 0, 25, 26, 0, 0, 27, 28, 29, 30])) rfl (by decide) rfl
theorem q_19_10 : s_fi (hp P w ex n sl) (P.2.1 + 19) 1 10 = some (w.1 19 10) := hp_fi (k := 19) (o := (1, [0, 0, 0, 22, 23, 24, 0, 25, 26, 0, 0, 27, 28, 29, 30])) rfl (by decide) rfl
theorem p_19_10 {v : Int32} : s_pf (hp P w ex n sl) (P.2.1 + 19) 1 10 (.int v) = some (hp P (wI w 19 10 v) ex n sl) := hp_pi (k := 19) (o := (1, [0, 0, 0, 22, 23, 24, 0, 25, 26, 0, 0, 27, 28, 29, 30])) rfl (by decide) rfl
theorem q_19_11 : s_fr (hp P w ex n sl) (P.2.1 + 19) 1 11 = some (P.2.1 + 25) := hp_fr (k := 19) (c := 25) (o := (1, [0, 0, 0, 22, 23, 24, 0, 25, 26, 0, 0, 27, 28, 29, 30])) rfl (by decide) rfl (by decide)
theorem q_19_12 : s_fr (hp P w ex n sl) (P.2.1 + 19) 1 12 = some (P.2.1 + 26) := hp_fr (k := 19) (c := 26) (o := (1, [0, 0, 0, 22, 23, 24, 0, 25, 26, 0, 0, 27, 28, 29, 30])) rfl (by decide) rfl (by decide)
theorem q_19_13 : s_fr (hp P w ex n sl) (P.2.1 + 19) 1 13 = some (P.2.1 + 27) := hp_fr (k := 19) (c := 27) (o := (1, [0, 0, 0, 22, 23, 24, 0, 25, 26, 0, 0, 27, 28, 29, 30])) rfl (by decide) rfl (by decide)
theorem q_19_14 : s_fr (hp P w ex n sl) (P.2.1 + 19) 1 14 = some (P.2.1 + 28) := hp_fr (k := 19) (c := 28) (o := (1, [0, 0, 0, 22, 23, 24, 0, 25, 26, 0, 0, 27, 28, 29, 30])) rfl (by decide) rfl (by decide)
theorem z_29 : s_is (hp P w ex n sl) (P.2.1 + 29) 5 = some () := hp_is (k := 29) (o := (5, [0, 0, 3, 32, 0, 0, 0])) rfl (by decide)
theorem q_29_0 : s_fi (hp P w ex n sl) (P.2.1 + 29) 5 0 = some (w.1 29 0) := hp_fi (k := 29) (o := (5, [0, 0, 3, 32, 0, 0, 0])) rfl (by decide) rfl
theorem p_29_0 {v : Int32} : s_pf (hp P w ex n sl) (P.2.1 + 29) 5 0 (.int v) = some (hp P (wI w 29 0 v) ex n sl) := hp_pi (k := 29) (o := (5, [0, 0, 3, 32, 0, 0, 0])) rfl (by decide) rfl
theorem q_29_1 : s_fi (hp P w ex n sl) (P.2.1 + 29) 5 1 = some (w.1 29 1) := hp_fi (k := 29) (o := (5, [0, 0, 3, 32, 0, 0, 0])) rfl (by decide) rfl
theorem p_29_1 {v : Int32} : s_pf (hp P w ex n sl) (P.2.1 + 29) 5 1 (.int v) = some (hp P (wI w 29 1 v) ex n sl) := hp_pi (k := 29) (o := (5, [0, 0, 3, 32, 0, 0, 0])) rfl (by decide) rfl
theorem q_29_2 : s_fr (hp P w ex n sl) (P.2.1 + 29) 5 2 = some (P.2.1 + 1) := hp_fr (k := 29) (c := 1) (o := (5, [0, 0, 3, 32, 0, 0, 0])) rfl (by decide) rfl (by decide)
theorem q_29_3 : s_fr (hp P w ex n sl) (P.2.1 + 29) 5 3 = some (P.2.1 + 30) := hp_fr (k := 29) (c := 30) (o := (5, [0, 0, 3, 32, 0, 0, 0])) rfl (by decide) rfl (by decide)
theorem q_29_4 : s_fi (hp P w ex n sl) (P.2.1 + 29) 5 4 = some (w.1 29 4) := hp_fi (k := 29) (o := (5, [0, 0, 3, 32, 0, 0, 0])) rfl (by decide) rfl
theorem p_29_4 {v : Int32} : s_pf (hp P w ex n sl) (P.2.1 + 29) 5 4 (.int v) = some (hp P (wI w 29 4 v) ex n sl) := hp_pi (k := 29) (o := (5, [0, 0, 3, 32, 0, 0, 0])) rfl (by decide) rfl
theorem q_29_5 : s_fi (hp P w ex n sl) (P.2.1 + 29) 5 5 = some (w.1 29 5) := hp_fi (k := 29) (o := (5, [0, 0, 3, 32, 0, 0, 0])) rfl (by decide) rfl
theorem p_29_5 {v : Int32} : s_pf (hp P w ex n sl) (P.2.1 + 29) 5 5 (.int v) = some (hp P (wI w 29 5 v) ex n sl) := hp_pi (k := 29) (o := (5, [0, 0, 3, 32, 0, 0, 0])) rfl (by decide) rfl
theorem q_29_6 : s_fi (hp P w ex n sl) (P.2.1 + 29) 5 6 = some (w.1 29 6) := hp_fi (k := 29) (o := (5, [0, 0, 3, 32, 0, 0, 0])) rfl (by decide) rfl
theorem p_29_6 {v : Int32} : s_pf (hp P w ex n sl) (P.2.1 + 29) 5 6 (.int v) = some (hp P (wI w 29 6 v) ex n sl) := hp_pi (k := 29) (o := (5, [0, 0, 3, 32, 0, 0, 0])) rfl (by decide) rfl
theorem z_31 : s_is (hp P w ex n sl) (P.2.1 + 31) 3 = some () := hp_is (k := 31) (o := (3, [11, 34, 35, 36, 37, 38])) rfl (by decide)
theorem q_31_0 : s_fr (hp P w ex n sl) (P.2.1 + 31) 3 0 = some (P.2.1 + 9) := hp_fr (k := 31) (c := 9) (o := (3, [11, 34, 35, 36, 37, 38])) rfl (by decide) rfl (by decide)
theorem q_31_1 : s_fr (hp P w ex n sl) (P.2.1 + 31) 3 1 = some (P.2.1 + 32) := hp_fr (k := 31) (c := 32) (o := (3, [11, 34, 35, 36, 37, 38])) rfl (by decide) rfl (by decide)
theorem q_31_2 : s_fr (hp P w ex n sl) (P.2.1 + 31) 3 2 = some (P.2.1 + 33) := hp_fr (k := 31) (c := 33) (o := (3, [11, 34, 35, 36, 37, 38])) rfl (by decide) rfl (by decide)
theorem q_31_3 : s_fr (hp P w ex n sl) (P.2.1 + 31) 3 3 = some (P.2.1 + 34) := hp_fr (k := 31) (c := 34) (o := (3, [11, 34, 35, 36, 37, 38])) rfl (by decide) rfl (by decide)
theorem q_31_4 : s_fr (hp P w ex n sl) (P.2.1 + 31) 3 4 = some (P.2.1 + 35) := hp_fr (k := 31) (c := 35) (o := (3, [11, 34, 35, 36, 37, 38])) rfl (by decide) rfl (by decide)
theorem q_31_5 : s_fr (hp P w ex n sl) (P.2.1 + 31) 3 5 = some (P.2.1 + 36) := hp_fr (k := 31) (c := 36) (o := (3, [11, 34, 35, 36, 37, 38])) rfl (by decide) rfl (by decide)
theorem z_37 : s_is (hp P w ex n sl) (P.2.1 + 37) 0 = some () := hp_is (k := 37) (o := (0, [1, 1, 1, 1, 3, 11])) rfl (by decide)
theorem q_37_0 : s_fl (hp P w ex n sl) (P.2.1 + 37) 0 0 = some (w.2.1 37 0) := hp_fl (k := 37) (o := (0, [1, 1, 1, 1, 3, 11])) rfl (by decide) rfl
theorem p_37_0 {v : Int64} : s_pf (hp P w ex n sl) (P.2.1 + 37) 0 0 (.long v) = some (hp P (wJ w 37 0 v) ex n sl) := hp_pj (k := 37) (o := (0, [1, 1, 1, 1, 3, 11])) rfl (by decide) rfl
theorem q_37_1 : s_fl (hp P w ex n sl) (P.2.1 + 37) 0 1 = some (w.2.1 37 1) := hp_fl (k := 37) (o := (0, [1, 1, 1, 1, 3, 11])) rfl (by decide) rfl
theorem p_37_1 {v : Int64} : s_pf (hp P w ex n sl) (P.2.1 + 37) 0 1 (.long v) = some (hp P (wJ w 37 1 v) ex n sl) := hp_pj (k := 37) (o := (0, [1, 1, 1, 1, 3, 11])) rfl (by decide) rfl
theorem q_37_2 : s_fl (hp P w ex n sl) (P.2.1 + 37) 0 2 = some (w.2.1 37 2) := hp_fl (k := 37) (o := (0, [1, 1, 1, 1, 3, 11])) rfl (by decide) rfl
theorem p_37_2 {v : Int64} : s_pf (hp P w ex n sl) (P.2.1 + 37) 0 2 (.long v) = some (hp P (wJ w 37 2 v) ex n sl) := hp_pj (k := 37) (o := (0, [1, 1, 1, 1, 3, 11])) rfl (by decide) rfl
theorem q_37_3 : s_fl (hp P w ex n sl) (P.2.1 + 37) 0 3 = some (w.2.1 37 3) := hp_fl (k := 37) (o := (0, [1, 1, 1, 1, 3, 11])) rfl (by decide) rfl
theorem p_37_3 {v : Int64} : s_pf (hp P w ex n sl) (P.2.1 + 37) 0 3 (.long v) = some (hp P (wJ w 37 3 v) ex n sl) := hp_pj (k := 37) (o := (0, [1, 1, 1, 1, 3, 11])) rfl (by decide) rfl
theorem q_37_4 : s_fr (hp P w ex n sl) (P.2.1 + 37) 0 4 = some (P.2.1 + 1) := hp_fr (k := 37) (c := 1) (o := (0, [1, 1, 1, 1, 3, 11])) rfl (by decide) rfl (by decide)
theorem q_37_5 : s_fr (hp P w ex n sl) (P.2.1 + 37) 0 5 = some (P.2.1 + 9) := hp_fr (k := 37) (c := 9) (o := (0, [1, 1, 1, 1, 3, 11])) rfl (by decide) rfl (by decide)
theorem z_38 : s_is (hp P w ex n sl) (P.2.1 + 38) 4 = some () := hp_is (k := 38) (o := (4, [3, 11, 41, 42, 43, 44, 45, 46, 0, 0, 0, 0, 0])) rfl (by decide)
theorem q_38_0 : s_fr (hp P w ex n sl) (P.2.1 + 38) 4 0 = some (P.2.1 + 1) := hp_fr (k := 38) (c := 1) (o := (4, [3, 11, 41, 42, 43, 44, 45, 46, 0, 0, 0, 0, 0])) rfl (by decide) rfl (by decide)
theorem q_38_1 : s_fr (hp P w ex n sl) (P.2.1 + 38) 4 1 = some (P.2.1 + 9) := hp_fr (k := 38) (c := 9) (o := (4, [3, 11, 41, 42, 43, 44, 45, 46, 0, 0, 0, 0, 0])) rfl (by decide) rfl (by decide)
theorem q_38_2 : s_fr (hp P w ex n sl) (P.2.1 + 38) 4 2 = some (P.2.1 + 39) := hp_fr (k := 38) (c := 39) (o := (4, [3, 11, 41, 42, 43, 44, 45, 46, 0, 0, 0, 0, 0])) rfl (by decide) rfl (by decide)
theorem q_38_3 : s_fr (hp P w ex n sl) (P.2.1 + 38) 4 3 = some (P.2.1 + 40) := hp_fr (k := 38) (c := 40) (o := (4, [3, 11, 41, 42, 43, 44, 45, 46, 0, 0, 0, 0, 0])) rfl (by decide) rfl (by decide)
theorem q_38_4 : s_fr (hp P w ex n sl) (P.2.1 + 38) 4 4 = some (P.2.1 + 41) := hp_fr (k := 38) (c := 41) (o := (4, [3, 11, 41, 42, 43, 44, 45, 46, 0, 0, 0, 0, 0])) rfl (by decide) rfl (by decide)
theorem q_38_5 : s_fr (hp P w ex n sl) (P.2.1 + 38) 4 5 = some (P.2.1 + 42) := hp_fr (k := 38) (c := 42) (o := (4, [3, 11, 41, 42, 43, 44, 45, 46, 0, 0, 0, 0, 0])) rfl (by decide) rfl (by decide)
theorem q_38_6 : s_fr (hp P w ex n sl) (P.2.1 + 38) 4 6 = some (P.2.1 + 43) := hp_fr (k := 38) (c := 43) (o := (4, [3, 11, 41, 42, 43, 44, 45, 46, 0, 0, 0, 0, 0])) rfl (by decide) rfl (by decide)
theorem q_38_7 : s_fr (hp P w ex n sl) (P.2.1 + 38) 4 7 = some (P.2.1 + 44) := hp_fr (k := 38) (c := 44) (o := (4, [3, 11, 41, 42, 43, 44, 45, 46, 0, 0, 0, 0, 0])) rfl (by decide) rfl (by decide)
theorem q_38_8 : s_fi (hp P w ex n sl) (P.2.1 + 38) 4 8 = some (w.1 38 8) := hp_fi (k := 38) (o := (4, [3, 11, 41, 42, 43, 44, 45, 46, 0, 0, 0, 0, 0])) rfl (by decide) rfl
theorem p_38_8 {v : Int32} : s_pf (hp P w ex n sl) (P.2.1 + 38) 4 8 (.int v) = some (hp P (wI w 38 8 v) ex n sl) := hp_pi (k := 38) (o := (4, [3, 11, 41, 42, 43, 44, 45, 46, 0, 0, 0, 0, 0])) rfl (by decide) rfl
theorem q_38_9 : s_fi (hp P w ex n sl) (P.2.1 + 38) 4 9 = some (w.1 38 9) := hp_fi (k := 38) (o := (4, [3, 11, 41, 42, 43, 44, 45, 46, 0, 0, 0, 0, 0])) rfl (by decide) rfl
theorem p_38_9 {v : Int32} : s_pf (hp P w ex n sl) (P.2.1 + 38) 4 9 (.int v) = some (hp P (wI w 38 9 v) ex n sl) := hp_pi (k := 38) (o := (4, [3, 11, 41, 42, 43, 44, 45, 46, 0, 0, 0, 0, 0])) rfl (by decide) rfl
theorem q_38_10 : s_fi (hp P w ex n sl) (P.2.1 + 38) 4 10 = some (w.1 38 10) := hp_fi (k := 38) (o := (4, [3, 11, 41, 42, 43, 44, 45, 46, 0, 0, 0, 0, 0])) rfl (by decide) rfl
theorem p_38_10 {v : Int32} : s_pf (hp P w ex n sl) (P.2.1 + 38) 4 10 (.int v) = some (hp P (wI w 38 10 v) ex n sl) := hp_pi (k := 38) (o := (4, [3, 11, 41, 42, 43, 44, 45, 46, 0, 0, 0, 0, 0])) rfl (by decide) rfl
theorem q_38_11 : s_fi (hp P w ex n sl) (P.2.1 + 38) 4 11 = some (w.1 38 11) := hp_fi (k := 38) (o := (4, [3, 11, 41, 42, 43, 44, 45, 46, 0, 0, 0, 0, 0])) rfl (by decide) rfl
theorem p_38_11 {v : Int32} : s_pf (hp P w ex n sl) (P.2.1 + 38) 4 11 (.int v) = some (hp P (wI w 38 11 v) ex n sl) := hp_pi (k := 38) (o := (4, [3, 11, 41, 42, 43, 44, 45, 46, 0, 0, 0, 0, 0])) rfl (by decide) rfl
theorem q_38_12 : s_fi (hp P w ex n sl) (P.2.1 + 38) 4 12 = some (w.1 38 12) := hp_fi (k := 38) (o := (4, [3, 11, 41, 42, 43, 44, 45, 46, 0, 0, 0, 0, 0])) rfl (by decide) rfl
theorem p_38_12 {v : Int32} : s_pf (hp P w ex n sl) (P.2.1 + 38) 4 12 (.int v) = some (hp P (wI w 38 12 v) ex n sl) := hp_pi (k := 38) (o := (4, [3, 11, 41, 42, 43, 44, 45, 46, 0, 0, 0, 0, 0])) rfl (by decide) rfl
theorem z_45 : s_is (hp P w ex n sl) (P.2.1 + 45) 6 = some () := hp_is (k := 45) (o := (6, [11, 39])) rfl (by decide)
theorem q_45_0 : s_fr (hp P w ex n sl) (P.2.1 + 45) 6 0 = some (P.2.1 + 9) := hp_fr (k := 45) (c := 9) (o := (6, [11, 39])) rfl (by decide) rfl (by decide)
theorem q_45_1 : s_fr (hp P w ex n sl) (P.2.1 + 45) 6 1 = some (P.2.1 + 37) := hp_fr (k := 45) (c := 37) (o := (6, [11, 39])) rfl (by decide) rfl (by decide)
theorem z_46 : s_is (hp P w ex n sl) (P.2.1 + 46) 8 = some () := hp_is (k := 46) (o := (8, [0, 49, 50, 0, 51, 52, 53, 0, 0, 0, 0, 0, 0, 0, 0, 54, 55, 56, 57, 58, 59, 60, 61, 62, 63, 64, 65, 66, 67, 68, 69, 70, 71, 0, 0, 0, 72, 73, 0])) rfl (by decide)
theorem q_46_0 : s_fi (hp P w ex n sl) (P.2.1 + 46) 8 0 = some (w.1 46 0) := hp_fi (k := 46) (o := (8, [0, 49, 50, 0, 51, 52, 53, 0, 0, 0, 0, 0, 0, 0, 0, 54, 55, 56, 57, 58, 59, 60, 61, 62, 63, 64, 65, 66, 67, 68, 69, 70, 71, 0, 0, 0, 72, 73, 0])) rfl (by decide) rfl
theorem p_46_0 {v : Int32} : s_pf (hp P w ex n sl) (P.2.1 + 46) 8 0 (.int v) = some (hp P (wI w 46 0 v) ex n sl) := hp_pi (k := 46) (o := (8, [0, 49, 50, 0, 51, 52, 53, 0, 0, 0, 0, 0, 0, 0, 0, 54, 55, 56, 57, 58, 59, 60, 61, 62, 63, 64, 65, 66, 67, 68, 69, 70, 71, 0, 0, 0, 72, 73, 0])) rfl (by decide) rfl
theorem q_46_1 : s_fr (hp P w ex n sl) (P.2.1 + 46) 8 1 = some (P.2.1 + 47) := hp_fr (k := 46) (c := 47) (o := (8, [0, 49, 50, 0, 51, 52, 53, 0, 0, 0, 0, 0, 0, 0, 0, 54, 55, 56, 57, 58, 59, 60, 61, 62, 63, 64, 65, 66, 67, 68, 69, 70, 71, 0, 0, 0, 72, 73, 0])) rfl (by decide) rfl (by decide)
theorem q_46_2 : s_fr (hp P w ex n sl) (P.2.1 + 46) 8 2 = some (P.2.1 + 48) := hp_fr (k := 46) (c := 48) (o := (8, [0, 49, 50, 0, 51, 52, 53, 0, 0, 0, 0, 0, 0, 0, 0, 54, 55, 56, 57, 58, 59, 60, 61, 62, 63, 64, 65, 66, 67, 68, 69, 70, 71, 0, 0, 0, 72, 73, 0])) rfl (by decide) rfl (by decide)
theorem q_46_3 : s_fi (hp P w ex n sl) (P.2.1 + 46) 8 3 = some (w.1 46 3) := hp_fi (k := 46) (o := (8, [0, 49, 50, 0, 51, 52, 53, 0, 0, 0, 0, 0, 0, 0, 0, 54, 55, 56, 57, 58, 59, 60, 61, 62, 63, 64, 65, 66, 67, 68, 69, 70, 71, 0, 0, 0, 72, 73, 0])) rfl (by decide) rfl
theorem p_46_3 {v : Int32} : s_pf (hp P w ex n sl) (P.2.1 + 46) 8 3 (.int v) = some (hp P (wI w 46 3 v) ex n sl) := hp_pi (k := 46) (o := (8, [0, 49, 50, 0, 51, 52, 53, 0, 0, 0, 0, 0, 0, 0, 0, 54, 55, 56, 57, 58, 59, 60, 61, 62, 63, 64, 65, 66, 67, 68, 69, 70, 71, 0, 0, 0, 72, 73, 0])) rfl (by decide) rfl
theorem q_46_4 : s_fr (hp P w ex n sl) (P.2.1 + 46) 8 4 = some (P.2.1 + 49) := hp_fr (k := 46) (c := 49) (o := (8, [0, 49, 50, 0, 51, 52, 53, 0, 0, 0, 0, 0, 0, 0, 0, 54, 55, 56, 57, 58, 59, 60, 61, 62, 63, 64, 65, 66, 67, 68, 69, 70, 71, 0, 0, 0, 72, 73, 0])) rfl (by decide) rfl (by decide)
theorem q_46_5 : s_fr (hp P w ex n sl) (P.2.1 + 46) 8 5 = some (P.2.1 + 50) := hp_fr (k := 46) (c := 50) (o := (8, [0, 49, 50, 0, 51, 52, 53, 0, 0, 0, 0, 0, 0, 0, 0, 54, 55, 56, 57, 58, 59, 60, 61, 62, 63, 64, 65, 66, 67, 68, 69, 70, 71, 0, 0, 0, 72, 73, 0])) rfl (by decide) rfl (by decide)
theorem q_46_6 : s_fr (hp P w ex n sl) (P.2.1 + 46) 8 6 = some (P.2.1 + 51) := hp_fr (k := 46) (c := 51) (o := (8, [0, 49, 50, 0, 51, 52, 53, 0, 0, 0, 0, 0, 0, 0, 0, 54, 55, 56, 57, 58, 59, 60, 61, 62, 63, 64, 65, 66, 67, 68, 69, 70, 71, 0, 0, 0, 72, 73, 0])) rfl (by decide) rfl (by decide)
theorem q_46_7 : s_fi (hp P w ex n sl) (P.2.1 + 46) 8 7 = some (w.1 46 7) := hp_fi (k := 46) (o := (8, [0, 49, 50, 0, 51, 52, 53, 0, 0, 0, 0, 0, 0, 0, 0, 54, 55, 56, 57, 58, 59, 60, 61, 62, 63, 64, 65, 66, 67, 68, 69, 70, 71, 0, 0, 0, 72, 73, 0])) rfl (by decide) rfl
theorem p_46_7 {v : Int32} : s_pf (hp P w ex n sl) (P.2.1 + 46) 8 7 (.int v) = some (hp P (wI w 46 7 v) ex n sl) := hp_pi (k := 46) (o := (8, [0, 49, 50, 0, 51, 52, 53, 0, 0, 0, 0, 0, 0, 0, 0, 54, 55, 56, 57, 58, 59, 60, 61, 62, 63, 64, 65, 66, 67, 68, 69, 70, 71, 0, 0, 0, 72, 73, 0])) rfl (by decide) rfl
theorem q_46_8 : s_fi (hp P w ex n sl) (P.2.1 + 46) 8 8 = some (w.1 46 8) := hp_fi (k := 46) (o := (8, [0, 49, 50, 0, 51, 52, 53, 0, 0, 0, 0, 0, 0, 0, 0, 54, 55, 56, 57, 58, 59, 60, 61, 62, 63, 64, 65, 66, 67, 68, 69, 70, 71, 0, 0, 0, 72, 73, 0])) rfl (by decide) rfl
theorem p_46_8 {v : Int32} : s_pf (hp P w ex n sl) (P.2.1 + 46) 8 8 (.int v) = some (hp P (wI w 46 8 v) ex n sl) := hp_pi (k := 46) (o := (8, [0, 49, 50, 0, 51, 52, 53, 0, 0, 0, 0, 0, 0, 0, 0, 54, 55, 56, 57, 58, 59, 60, 61, 62, 63, 64, 65, 66, 67, 68, 69, 70, 71, 0, 0, 0, 72, 73, 0])) rfl (by decide) rfl
theorem q_46_9 : s_fi (hp P w ex n sl) (P.2.1 + 46) 8 9 = some (w.1 46 9) := hp_fi (k := 46) (o := (8, [0, 49, 50, 0, 51, 52, 53, 0, 0, 0, 0, 0, 0, 0, 0, 54, 55, 56, 57, 58, 59, 60, 61, 62, 63, 64, 65, 66, 67, 68, 69, 70, 71, 0, 0, 0, 72, 73, 0])) rfl (by decide) rfl
theorem p_46_9 {v : Int32} : s_pf (hp P w ex n sl) (P.2.1 + 46) 8 9 (.int v) = some (hp P (wI w 46 9 v) ex n sl) := hp_pi (k := 46) (o := (8, [0, 49, 50, 0, 51, 52, 53, 0, 0, 0, 0, 0, 0, 0, 0, 54, 55, 56, 57, 58, 59, 60, 61, 62, 63, 64, 65, 66, 67, 68, 69, 70, 71, 0, 0, 0, 72, 73, 0])) rfl (by decide) rfl
theorem q_46_10 : s_fi (hp P w ex n sl) (P.2.1 + 46) 8 10 = some (w.1 46 10) := hp_fi (k := 46) (o := (8, [0, 49, 50, 0, 51, 52, 53, 0, 0, 0, 0, 0, 0, 0, 0, 54, 55, 56, 57, 58, 59, 60, 61, 62, 63, 64, 65, 66, 67, 68, 69, 70, 71, 0, 0, 0, 72, 73, 0])) rfl (by decide) rfl
theorem p_46_10 {v : Int32} : s_pf (hp P w ex n sl) (P.2.1 + 46) 8 10 (.int v) = some (hp P (wI w 46 10 v) ex n sl) := hp_pi (k := 46) (o := (8, [0, 49, 50, 0, 51, 52, 53, 0, 0, 0, 0, 0, 0, 0, 0, 54, 55, 56, 57, 58, 59, 60, 61, 62, 63, 64, 65, 66, 67, 68, 69, 70, 71, 0, 0, 0, 72, 73, 0])) rfl (by decide) rfl
theorem q_46_11 : s_fi (hp P w ex n sl) (P.2.1 + 46) 8 11 = some (w.1 46 11) := hp_fi (k := 46) (o := (8, [0, 49, 50, 0, 51, 52, 53, 0, 0, 0, 0, 0, 0, 0, 0, 54, 55, 56, 57, 58, 59, 60, 61, 62, 63, 64, 65, 66, 67, 68, 69, 70, 71, 0, 0, 0, 72, 73, 0])) rfl (by decide) rfl
theorem p_46_11 {v : Int32} : s_pf (hp P w ex n sl) (P.2.1 + 46) 8 11 (.int v) = some (hp P (wI w 46 11 v) ex n sl) := hp_pi (k := 46) (o := (8, [0, 49, 50, 0, 51, 52, 53, 0, 0, 0, 0, 0, 0, 0, 0, 54, 55, 56, 57, 58, 59, 60, 61, 62, 63, 64, 65, 66, 67, 68, 69, 70, 71, 0, 0, 0, 72, 73, 0])) rfl (by decide) rfl
theorem q_46_12 : s_fi (hp P w ex n sl) (P.2.1 + 46) 8 12 = some (w.1 46 12) := hp_fi (k := 46) (o := (8, [0, 49, 50, 0, 51, 52, 53, 0, 0, 0, 0, 0, 0, 0, 0, 54, 55, 56, 57, 58, 59, 60, 61, 62, 63, 64, 65, 66, 67, 68, 69, 70, 71, 0, 0, 0, 72, 73, 0])) rfl (by decide) rfl
theorem p_46_12 {v : Int32} : s_pf (hp P w ex n sl) (P.2.1 + 46) 8 12 (.int v) = some (hp P (wI w 46 12 v) ex n sl) := hp_pi (k := 46) (o := (8, [0, 49, 50, 0, 51, 52, 53, 0, 0, 0, 0, 0, 0, 0, 0, 54, 55, 56, 57, 58, 59, 60, 61, 62, 63, 64, 65, 66, 67, 68, 69, 70, 71, 0, 0, 0, 72, 73, 0])) rfl (by decide) rfl
theorem q_46_13 : s_fi (hp P w ex n sl) (P.2.1 + 46) 8 13 = some (w.1 46 13) := hp_fi (k := 46) (o := (8, [0, 49, 50, 0, 51, 52, 53, 0, 0, 0, 0, 0, 0, 0, 0, 54, 55, 56, 57, 58, 59, 60, 61, 62, 63, 64, 65, 66, 67, 68, 69, 70, 71, 0, 0, 0, 72, 73, 0])) rfl (by decide) rfl
theorem p_46_13 {v : Int32} : s_pf (hp P w ex n sl) (P.2.1 + 46) 8 13 (.int v) = some (hp P (wI w 46 13 v) ex n sl) := hp_pi (k := 46) (o := (8, [0, 49, 50, 0, 51, 52, 53, 0, 0, 0, 0, 0, 0, 0, 0, 54, 55, 56, 57, 58, 59, 60, 61, 62, 63, 64, 65, 66, 67, 68, 69, 70, 71, 0, 0, 0, 72, 73, 0])) rfl (by decide) rfl
theorem q_46_14 : s_fi (hp P w ex n sl) (P.2.1 + 46) 8 14 = some (w.1 46 14) := hp_fi (k := 46) (o := (8, [0, 49, 50, 0, 51, 52, 53, 0, 0, 0, 0, 0, 0, 0, 0, 54, 55, 56, 57, 58, 59, 60, 61, 62, 63, 64, 65, 66, 67, 68, 69, 70, 71, 0, 0, 0, 72, 73, 0])) rfl (by decide) rfl
theorem p_46_14 {v : Int32} : s_pf (hp P w ex n sl) (P.2.1 + 46) 8 14 (.int v) = some (hp P (wI w 46 14 v) ex n sl) := hp_pi (k := 46) (o := (8, [0, 49, 50, 0, 51, 52, 53, 0, 0, 0, 0, 0, 0, 0, 0, 54, 55, 56, 57, 58, 59, 60, 61, 62, 63, 64, 65, 66, 67, 68, 69, 70, 71, 0, 0, 0, 72, 73, 0])) rfl (by decide) rfl
theorem q_46_15 : s_fr (hp P w ex n sl) (P.2.1 + 46) 8 15 = some (P.2.1 + 52) := hp_fr (k := 46) (c := 52) (o := (8, [0, 49, 50, 0, 51, 52, 53, 0, 0, 0, 0, 0, 0, 0, 0, 54, 55, 56, 57, 58, 59, 60, 61, 62, 63, 64, 65, 66, 67, 68, 69, 70, 71, 0, 0, 0, 72, 73, 0])) rfl (by decide) rfl (by decide)
theorem q_46_16 : s_fr (hp P w ex n sl) (P.2.1 + 46) 8 16 = some (P.2.1 + 53) := hp_fr (k := 46) (c := 53) (o := (8, [0, 49, 50, 0, 51, 52, 53, 0, 0, 0, 0, 0, 0, 0, 0, 54, 55, 56, 57, 58, 59, 60, 61, 62, 63, 64, 65, 66, 67, 68, 69, 70, 71, 0, 0, 0, 72, 73, 0])) rfl (by decide) rfl (by decide)
theorem q_46_17 : s_fr (hp P w ex n sl) (P.2.1 + 46) 8 17 = some (P.2.1 + 54) := hp_fr (k := 46) (c := 54) (o := (8, [0, 49, 50, 0, 51, 52, 53, 0, 0, 0, 0, 0, 0, 0, 0, 54, 55, 56, 57, 58, 59, 60, 61, 62, 63, 64, 65, 66, 67, 68, 69, 70, 71, 0, 0, 0, 72, 73, 0])) rfl (by decide) rfl (by decide)
theorem q_46_18 : s_fr (hp P w ex n sl) (P.2.1 + 46) 8 18 = some (P.2.1 + 55) := hp_fr (k := 46) (c := 55) (o := (8, [0, 49, 50, 0, 51, 52, 53, 0, 0, 0, 0, 0, 0, 0, 0, 54, 55, 56, 57, 58, 59, 60, 61, 62, 63, 64, 65, 66, 67, 68, 69, 70, 71, 0, 0, 0, 72, 73, 0])) rfl (by decide) rfl (by decide)
theorem q_46_19 : s_fr (hp P w ex n sl) (P.2.1 + 46) 8 19 = some (P.2.1 + 56) := hp_fr (k := 46) (c := 56) (o := (8, [0, 49, 50, 0, 51, 52, 53, 0, 0, 0, 0, 0, 0, 0, 0, 54, 55, 56, 57, 58, 59, 60, 61, 62, 63, 64, 65, 66, 67, 68, 69, 70, 71, 0, 0, 0, 72, 73, 0])) rfl (by decide) rfl (by decide)
theorem q_46_20 : s_fr (hp P w ex n sl) (P.2.1 + 46) 8 20 = some (P.2.1 + 57) := hp_fr (k := 46) (c := 57) (o := (8, [0, 49, 50, 0, 51, 52, 53, 0, 0, 0, 0, 0, 0, 0, 0, 54, 55, 56, 57, 58, 59, 60, 61, 62, 63, 64, 65, 66, 67, 68, 69, 70, 71, 0, 0, 0, 72, 73, 0])) rfl (by decide) rfl (by decide)
theorem q_46_21 : s_fr (hp P w ex n sl) (P.2.1 + 46) 8 21 = some (P.2.1 + 58) := hp_fr (k := 46) (c := 58) (o := (8, [0, 49, 50, 0, 51, 52, 53, 0, 0, 0, 0, 0, 0, 0, 0, 54, 55, 56, 57, 58, 59, 60, 61, 62, 63, 64, 65, 66, 67, 68, 69, 70, 71, 0, 0, 0, 72, 73, 0])) rfl (by decide) rfl (by decide)
theorem q_46_22 : s_fr (hp P w ex n sl) (P.2.1 + 46) 8 22 = some (P.2.1 + 59) := hp_fr (k := 46) (c := 59) (o := (8, [0, 49, 50, 0, 51, 52, 53, 0, 0, 0, 0, 0, 0, 0, 0, 54, 55, 56, 57, 58, 59, 60, 61, 62, 63, 64, 65, 66, 67, 68, 69, 70, 71, 0, 0, 0, 72, 73, 0])) rfl (by decide) rfl (by decide)
theorem q_46_23 : s_fr (hp P w ex n sl) (P.2.1 + 46) 8 23 = some (P.2.1 + 60) := hp_fr (k := 46) (c := 60) (o := (8, [0, 49, 50, 0, 51, 52, 53, 0, 0, 0, 0, 0, 0, 0, 0, 54, 55, 56, 57, 58, 59, 60, 61, 62, 63, 64, 65, 66, 67, 68, 69, 70, 71, 0, 0, 0, 72, 73, 0])) rfl (by decide) rfl (by decide)
theorem q_46_24 : s_fr (hp P w ex n sl) (P.2.1 + 46) 8 24 = some (P.2.1 + 61) := hp_fr (k := 46) (c := 61) (o := (8, [0, 49, 50, 0, 51, 52, 53, 0, 0, 0, 0, 0, 0, 0, 0, 54, 55, 56, 57, 58, 59, 60, 61, 62, 63, 64, 65, 66, 67, 68, 69, 70, 71, 0, 0, 0, 72, 73, 0])) rfl (by decide) rfl (by decide)
theorem q_46_25 : s_fr (hp P w ex n sl) (P.2.1 + 46) 8 25 = some (P.2.1 + 62) := hp_fr (k := 46) (c := 62) (o := (8, [0, 49, 50, 0, 51, 52, 53, 0, 0, 0, 0, 0, 0, 0, 0, 54, 55, 56, 57, 58, 59, 60, 61, 62, 63, 64, 65, 66, 67, 68, 69, 70, 71, 0, 0, 0, 72, 73, 0])) rfl (by decide) rfl (by decide)
theorem q_46_26 : s_fr (hp P w ex n sl) (P.2.1 + 46) 8 26 = some (P.2.1 + 63) := hp_fr (k := 46) (c := 63) (o := (8, [0, 49, 50, 0, 51, 52, 53, 0, 0, 0, 0, 0, 0, 0, 0, 54, 55, 56, 57, 58, 59, 60, 61, 62, 63, 64, 65, 66, 67, 68, 69, 70, 71, 0, 0, 0, 72, 73, 0])) rfl (by decide) rfl (by decide)
theorem q_46_27 : s_fr (hp P w ex n sl) (P.2.1 + 46) 8 27 = some (P.2.1 + 64) := hp_fr (k := 46) (c := 64) (o := (8, [0, 49, 50, 0, 51, 52, 53, 0, 0, 0, 0, 0, 0, 0, 0, 54, 55, 56, 57, 58, 59, 60, 61, 62, 63, 64, 65, 66, 67, 68, 69, 70, 71, 0, 0, 0, 72, 73, 0])) rfl (by decide) rfl (by decide)
theorem q_46_28 : s_fr (hp P w ex n sl) (P.2.1 + 46) 8 28 = some (P.2.1 + 65) := hp_fr (k := 46) (c := 65) (o := (8, [0, 49, 50, 0, 51, 52, 53, 0, 0, 0, 0, 0, 0, 0, 0, 54, 55, 56, 57, 58, 59, 60, 61, 62, 63, 64, 65, 66, 67, 68, 69, 70, 71, 0, 0, 0, 72, 73, 0])) rfl (by decide) rfl (by decide)
theorem q_46_29 : s_fr (hp P w ex n sl) (P.2.1 + 46) 8 29 = some (P.2.1 + 66) := hp_fr (k := 46) (c := 66) (o := (8, [0, 49, 50, 0, 51, 52, 53, 0, 0, 0, 0, 0, 0, 0, 0, 54, 55, 56, 57, 58, 59, 60, 61, 62, 63, 64, 65, 66, 67, 68, 69, 70, 71, 0, 0, 0, 72, 73, 0])) rfl (by decide) rfl (by decide)
theorem q_46_30 : s_fr (hp P w ex n sl) (P.2.1 + 46) 8 30 = some (P.2.1 + 67) := hp_fr (k := 46) (c := 67) (o := (8, [0, 49, 50, 0, 51, 52, 53, 0, 0, 0, 0, 0, 0, 0, 0, 54, 55, 56, 57, 58, 59, 60, 61, 62, 63, 64, 65, 66, 67, 68, 69, 70, 71, 0, 0, 0, 72, 73, 0])) rfl (by decide) rfl (by decide)
theorem q_46_31 : s_fr (hp P w ex n sl) (P.2.1 + 46) 8 31 = some (P.2.1 + 68) := hp_fr (k := 46) (c := 68) (o := (8, [0, 49, 50, 0, 51, 52, 53, 0, 0, 0, 0, 0, 0, 0, 0, 54, 55, 56, 57, 58, 59, 60, 61, 62, 63, 64, 65, 66, 67, 68, 69, 70, 71, 0, 0, 0, 72, 73, 0])) rfl (by decide) rfl (by decide)
theorem q_46_32 : s_fr (hp P w ex n sl) (P.2.1 + 46) 8 32 = some (P.2.1 + 69) := hp_fr (k := 46) (c := 69) (o := (8, [0, 49, 50, 0, 51, 52, 53, 0, 0, 0, 0, 0, 0, 0, 0, 54, 55, 56, 57, 58, 59, 60, 61, 62, 63, 64, 65, 66, 67, 68, 69, 70, 71, 0, 0, 0, 72, 73, 0])) rfl (by decide) rfl (by decide)
theorem q_46_33 : s_fi (hp P w ex n sl) (P.2.1 + 46) 8 33 = some (w.1 46 33) := hp_fi (k := 46) (o := (8, [0, 49, 50, 0, 51, 52, 53, 0, 0, 0, 0, 0, 0, 0, 0, 54, 55, 56, 57, 58, 59, 60, 61, 62, 63, 64, 65, 66, 67, 68, 69, 70, 71, 0, 0, 0, 72, 73, 0])) rfl (by decide) rfl
theorem p_46_33 {v : Int32} : s_pf (hp P w ex n sl) (P.2.1 + 46) 8 33 (.int v) = some (hp P (wI w 46 33 v) ex n sl) := hp_pi (k := 46) (o := (8, [0, 49, 50, 0, 51, 52, 53, 0, 0, 0, 0, 0, 0, 0, 0, 54, 55, 56, 57, 58, 59, 60, 61, 62, 63, 64, 65, 66, 67, 68, 69, 70, 71, 0, 0, 0, 72, 73, 0])) rfl (by decide) rfl
theorem q_46_34 : s_fi (hp P w ex n sl) (P.2.1 + 46) 8 34 = some (w.1 46 34) := hp_fi (k := 46) (o := (8, [0, 49, 50, 0, 51, 52, 53, 0, 0, 0, 0, 0, 0, 0, 0, 54, 55, 56, 57, 58, 59, 60, 61, 62, 63, 64, 65, 66, 67, 68, 69, 70, 71, 0, 0, 0, 72, 73, 0])) rfl (by decide) rfl
theorem p_46_34 {v : Int32} : s_pf (hp P w ex n sl) (P.2.1 + 46) 8 34 (.int v) = some (hp P (wI w 46 34 v) ex n sl) := hp_pi (k := 46) (o := (8, [0, 49, 50, 0, 51, 52, 53, 0, 0, 0, 0, 0, 0, 0, 0, 54, 55, 56, 57, 58, 59, 60, 61, 62, 63, 64, 65, 66, 67, 68, 69, 70, 71, 0, 0, 0, 72, 73, 0])) rfl (by decide) rfl
theorem q_46_35 : s_fi (hp P w ex n sl) (P.2.1 + 46) 8 35 = some (w.1 46 35) := hp_fi (k := 46) (o := (8, [0, 49, 50, 0, 51, 52, 53, 0, 0, 0, 0, 0, 0, 0, 0, 54, 55, 56, 57, 58, 59, 60, 61, 62, 63, 64, 65, 66, 67, 68, 69, 70, 71, 0, 0, 0, 72, 73, 0])) rfl (by decide) rfl
theorem p_46_35 {v : Int32} : s_pf (hp P w ex n sl) (P.2.1 + 46) 8 35 (.int v) = some (hp P (wI w 46 35 v) ex n sl) := hp_pi (k := 46) (o := (8, [0, 49, 50, 0, 51, 52, 53, 0, 0, 0, 0, 0, 0, 0, 0, 54, 55, 56, 57, 58, 59, 60, 61, 62, 63, 64, 65, 66, 67, 68, 69, 70, 71, 0, 0, 0, 72, 73, 0])) rfl (by decide) rfl
theorem q_46_36 : s_fr (hp P w ex n sl) (P.2.1 + 46) 8 36 = some (P.2.1 + 70) := hp_fr (k := 46) (c := 70) (o := (8, [0, 49, 50, 0, 51, 52, 53, 0, 0, 0, 0, 0, 0, 0, 0, 54, 55, 56, 57, 58, 59, 60, 61, 62, 63, 64, 65, 66, 67, 68, 69, 70, 71, 0, 0, 0, 72, 73, 0])) rfl (by decide) rfl (by decide)
theorem q_46_37 : s_fr (hp P w ex n sl) (P.2.1 + 46) 8 37 = some (P.2.1 + 71) := hp_fr (k := 46) (c := 71) (o := (8, [0, 49, 50, 0, 51, 52, 53, 0, 0, 0, 0, 0, 0, 0, 0, 54, 55, 56, 57, 58, 59, 60, 61, 62, 63, 64, 65, 66, 67, 68, 69, 70, 71, 0, 0, 0, 72, 73, 0])) rfl (by decide) rfl (by decide)
theorem q_46_38 : s_fi (hp P w ex n sl) (P.2.1 + 46) 8 38 = some (w.1 46 38) := hp_fi (k := 46) (o := (8, [0, 49, 50, 0, 51, 52, 53, 0, 0, 0, 0, 0, 0, 0, 0, 54, 55, 56, 57, 58, 59, 60, 61, 62, 63, 64, 65, 66, 67, 68, 69, 70, 71, 0, 0, 0, 72, 73, 0])) rfl (by decide) rfl
theorem p_46_38 {v : Int32} : s_pf (hp P w ex n sl) (P.2.1 + 46) 8 38 (.int v) = some (hp P (wI w 46 38 v) ex n sl) := hp_pi (k := 46) (o := (8, [0, 49, 50, 0, 51, 52, 53, 0, 0, 0, 0, 0, 0, 0, 0, 54, 55, 56, 57, 58, 59, 60, 61, 62, 63, 64, 65, 66, 67, 68, 69, 70, 71, 0, 0, 0, 72, 73, 0])) rfl (by decide) rfl
theorem n_8 : s_len (hp P w ex n sl) (P.2.1 + 8) = some (Int32.ofNat 128) := hp_len (k := 8) (t := 0) rfl (by decide) (by decide)
theorem a_8 {i : Int32} (h : s_out i 128 = false) : s_ai (hp P w ex n sl) (P.2.1 + 8) i = some (w.2.2.1 8 i.toNatClampNeg) := hp_ai (k := 8) rfl (by decide) h
theorem u_8 {i v : Int32} (h : s_out i 128 = false) : s_si (hp P w ex n sl) (P.2.1 + 8) i v = some (hp P (wA w 8 i.toNatClampNeg v) ex n sl) := hp_si (k := 8) rfl (by decide) h
theorem n_10 : s_len (hp P w ex n sl) (P.2.1 + 10) = some (Int32.ofNat 480) := hp_len (k := 10) (t := 1) rfl (by decide) (by decide)
theorem a_10 {i : Int32} (h : s_out i 480 = false) : s_al (hp P w ex n sl) (P.2.1 + 10) i = some (w.2.2.2.1 10 i.toNatClampNeg) := hp_al (k := 10) rfl (by decide) h
theorem u_10 {i : Int32} {v : Int64} (h : s_out i 480 = false) : s_sl (hp P w ex n sl) (P.2.1 + 10) i v = some (hp P (wL w 10 i.toNatClampNeg v) ex n sl) := hp_sl (k := 10) rfl (by decide) h
theorem n_11 : s_len (hp P w ex n sl) (P.2.1 + 11) = some (Int32.ofNat 3) := hp_len (k := 11) (t := 0) rfl (by decide) (by decide)
theorem a_11 {i : Int32} (h : s_out i 3 = false) : s_ai (hp P w ex n sl) (P.2.1 + 11) i = some (w.2.2.1 11 i.toNatClampNeg) := hp_ai (k := 11) rfl (by decide) h
theorem u_11 {i v : Int32} (h : s_out i 3 = false) : s_si (hp P w ex n sl) (P.2.1 + 11) i v = some (hp P (wA w 11 i.toNatClampNeg v) ex n sl) := hp_si (k := 11) rfl (by decide) h
theorem n_12 : s_len (hp P w ex n sl) (P.2.1 + 12) = some (Int32.ofNat 4) := hp_len (k := 12) (t := 0) rfl (by decide) (by decide)
theorem a_12 {i : Int32} (h : s_out i 4 = false) : s_ai (hp P w ex n sl) (P.2.1 + 12) i = some (w.2.2.1 12 i.toNatClampNeg) := hp_ai (k := 12) rfl (by decide) h
theorem u_12 {i v : Int32} (h : s_out i 4 = false) : s_si (hp P w ex n sl) (P.2.1 + 12) i v = some (hp P (wA w 12 i.toNatClampNeg v) ex n sl) := hp_si (k := 12) rfl (by decide) h
theorem n_13 : s_len (hp P w ex n sl) (P.2.1 + 13) = some (Int32.ofNat 40) := hp_len (k := 13) (t := 1) rfl (by decide) (by decide)
theorem a_13 {i : Int32} (h : s_out i 40 = false) : s_al (hp P w ex n sl) (P.2.1 + 13) i = some (w.2.2.2.1 13 i.toNatClampNeg) := hp_al (k := 13) rfl (by decide) h
theorem u_13 {i : Int32} {v : Int64} (h : s_out i 40 = false) : s_sl (hp P w ex n sl) (P.2.1 + 13) i v = some (hp P (wL w 13 i.toNatClampNeg v) ex n sl) := hp_sl (k := 13) rfl (by decide) h
theorem n_14 : s_len (hp P w ex n sl) (P.2.1 + 14) = some (Int32.ofNat 40) := hp_len (k := 14) (t := 1) rfl (by decide) (by decide)
theorem a_14 {i : Int32} (h : s_out i 40 = false) : s_al (hp P w ex n sl) (P.2.1 + 14) i = some (w.2.2.2.1 14 i.toNatClampNeg) := hp_al (k := 14) rfl (by decide) h
theorem u_14 {i : Int32} {v : Int64} (h : s_out i 40 = false) : s_sl (hp P w ex n sl) (P.2.1 + 14) i v = some (hp P (wL w 14 i.toNatClampNeg v) ex n sl) := hp_sl (k := 14) rfl (by decide) h
theorem n_15 : s_len (hp P w ex n sl) (P.2.1 + 15) = some (Int32.ofNat 30) := hp_len (k := 15) (t := 0) rfl (by decide) (by decide)
theorem a_15 {i : Int32} (h : s_out i 30 = false) : s_ai (hp P w ex n sl) (P.2.1 + 15) i = some (w.2.2.1 15 i.toNatClampNeg) := hp_ai (k := 15) rfl (by decide) h
theorem u_15 {i v : Int32} (h : s_out i 30 = false) : s_si (hp P w ex n sl) (P.2.1 + 15) i v = some (hp P (wA w 15 i.toNatClampNeg v) ex n sl) := hp_si (k := 15) rfl (by decide) h
theorem n_16 : s_len (hp P w ex n sl) (P.2.1 + 16) = some (Int32.ofNat 51) := hp_len (k := 16) (t := 0) rfl (by decide) (by decide)
theorem a_16 {i : Int32} (h : s_out i 51 = false) : s_ai (hp P w ex n sl) (P.2.1 + 16) i = some (w.2.2.1 16 i.toNatClampNeg) := hp_ai (k := 16) rfl (by decide) h
theorem u_16 {i v : Int32} (h : s_out i 51 = false) : s_si (hp P w ex n sl) (P.2.1 + 16) i v = some (hp P (wA w 16 i.toNatClampNeg v) ex n sl) := hp_si (k := 16) rfl (by decide) h
theorem n_17 : s_len (hp P w ex n sl) (P.2.1 + 17) = some (Int32.ofNat 240) := hp_len (k := 17) (t := 0) rfl (by decide) (by decide)
theorem a_17 {i : Int32} (h : s_out i 240 = false) : s_ai (hp P w ex n sl) (P.2.1 + 17) i = some (w.2.2.1 17 i.toNatClampNeg) := hp_ai (k := 17) rfl (by decide) h
theorem u_17 {i v : Int32} (h : s_out i 240 = false) : s_si (hp P w ex n sl) (P.2.1 + 17) i v = some (hp P (wA w 17 i.toNatClampNeg v) ex n sl) := hp_si (k := 17) rfl (by decide) h
theorem n_18 : s_len (hp P w ex n sl) (P.2.1 + 18) = some (Int32.ofNat 120) := hp_len (k := 18) (t := 0) rfl (by decide) (by decide)
theorem a_18 {i : Int32} (h : s_out i 120 = false) : s_ai (hp P w ex n sl) (P.2.1 + 18) i = some (w.2.2.1 18 i.toNatClampNeg) := hp_ai (k := 18) rfl (by decide) h
theorem u_18 {i v : Int32} (h : s_out i 120 = false) : s_si (hp P w ex n sl) (P.2.1 + 18) i v = some (hp P (wA w 18 i.toNatClampNeg v) ex n sl) := hp_si (k := 18) rfl (by decide) h
theorem n_20 : s_len (hp P w ex n sl) (P.2.1 + 20) = some (Int32.ofNat 480) := hp_len (k := 20) (t := 1) rfl (by decide) (by decide)
theorem a_20 {i : Int32} (h : s_out i 480 = false) : s_al (hp P w ex n sl) (P.2.1 + 20) i = some (w.2.2.2.1 20 i.toNatClampNeg) := hp_al (k := 20) rfl (by decide) h
theorem u_20 {i : Int32} {v : Int64} (h : s_out i 480 = false) : s_sl (hp P w ex n sl) (P.2.1 + 20) i v = some (hp P (wL w 20 i.toNatClampNeg v) ex n sl) := hp_sl (k := 20) rfl (by decide) h
theorem n_21 : s_len (hp P w ex n sl) (P.2.1 + 21) = some (Int32.ofNat 3) := hp_len (k := 21) (t := 0) rfl (by decide) (by decide)
theorem a_21 {i : Int32} (h : s_out i 3 = false) : s_ai (hp P w ex n sl) (P.2.1 + 21) i = some (w.2.2.1 21 i.toNatClampNeg) := hp_ai (k := 21) rfl (by decide) h
theorem u_21 {i v : Int32} (h : s_out i 3 = false) : s_si (hp P w ex n sl) (P.2.1 + 21) i v = some (hp P (wA w 21 i.toNatClampNeg v) ex n sl) := hp_si (k := 21) rfl (by decide) h
theorem n_22 : s_len (hp P w ex n sl) (P.2.1 + 22) = some (Int32.ofNat 4) := hp_len (k := 22) (t := 0) rfl (by decide) (by decide)
theorem a_22 {i : Int32} (h : s_out i 4 = false) : s_ai (hp P w ex n sl) (P.2.1 + 22) i = some (w.2.2.1 22 i.toNatClampNeg) := hp_ai (k := 22) rfl (by decide) h
theorem u_22 {i v : Int32} (h : s_out i 4 = false) : s_si (hp P w ex n sl) (P.2.1 + 22) i v = some (hp P (wA w 22 i.toNatClampNeg v) ex n sl) := hp_si (k := 22) rfl (by decide) h
theorem n_23 : s_len (hp P w ex n sl) (P.2.1 + 23) = some (Int32.ofNat 40) := hp_len (k := 23) (t := 1) rfl (by decide) (by decide)
theorem a_23 {i : Int32} (h : s_out i 40 = false) : s_al (hp P w ex n sl) (P.2.1 + 23) i = some (w.2.2.2.1 23 i.toNatClampNeg) := hp_al (k := 23) rfl (by decide) h
theorem u_23 {i : Int32} {v : Int64} (h : s_out i 40 = false) : s_sl (hp P w ex n sl) (P.2.1 + 23) i v = some (hp P (wL w 23 i.toNatClampNeg v) ex n sl) := hp_sl (k := 23) rfl (by decide) h
theorem n_24 : s_len (hp P w ex n sl) (P.2.1 + 24) = some (Int32.ofNat 40) := hp_len (k := 24) (t := 1) rfl (by decide) (by decide)
theorem a_24 {i : Int32} (h : s_out i 40 = false) : s_al (hp P w ex n sl) (P.2.1 + 24) i = some (w.2.2.2.1 24 i.toNatClampNeg) := hp_al (k := 24) rfl (by decide) h
theorem u_24 {i : Int32} {v : Int64} (h : s_out i 40 = false) : s_sl (hp P w ex n sl) (P.2.1 + 24) i v = some (hp P (wL w 24 i.toNatClampNeg v) ex n sl) := hp_sl (k := 24) rfl (by decide) h
theorem n_25 : s_len (hp P w ex n sl) (P.2.1 + 25) = some (Int32.ofNat 30) := hp_len (k := 25) (t := 0) rfl (by decide) (by decide)
theorem a_25 {i : Int32} (h : s_out i 30 = false) : s_ai (hp P w ex n sl) (P.2.1 + 25) i = some (w.2.2.1 25 i.toNatClampNeg) := hp_ai (k := 25) rfl (by decide) h
theorem u_25 {i v : Int32} (h : s_out i 30 = false) : s_si (hp P w ex n sl) (P.2.1 + 25) i v = some (hp P (wA w 25 i.toNatClampNeg v) ex n sl) := hp_si (k := 25) rfl (by decide) h
theorem n_26 : s_len (hp P w ex n sl) (P.2.1 + 26) = some (Int32.ofNat 51) := hp_len (k := 26) (t := 0) rfl (by decide) (by decide)
theorem a_26 {i : Int32} (h : s_out i 51 = false) : s_ai (hp P w ex n sl) (P.2.1 + 26) i = some (w.2.2.1 26 i.toNatClampNeg) := hp_ai (k := 26) rfl (by decide) h
theorem u_26 {i v : Int32} (h : s_out i 51 = false) : s_si (hp P w ex n sl) (P.2.1 + 26) i v = some (hp P (wA w 26 i.toNatClampNeg v) ex n sl) := hp_si (k := 26) rfl (by decide) h
theorem n_27 : s_len (hp P w ex n sl) (P.2.1 + 27) = some (Int32.ofNat 240) := hp_len (k := 27) (t := 0) rfl (by decide) (by decide)
theorem a_27 {i : Int32} (h : s_out i 240 = false) : s_ai (hp P w ex n sl) (P.2.1 + 27) i = some (w.2.2.1 27 i.toNatClampNeg) := hp_ai (k := 27) rfl (by decide) h
theorem u_27 {i v : Int32} (h : s_out i 240 = false) : s_si (hp P w ex n sl) (P.2.1 + 27) i v = some (hp P (wA w 27 i.toNatClampNeg v) ex n sl) := hp_si (k := 27) rfl (by decide) h
theorem n_28 : s_len (hp P w ex n sl) (P.2.1 + 28) = some (Int32.ofNat 120) := hp_len (k := 28) (t := 0) rfl (by decide) (by decide)
theorem a_28 {i : Int32} (h : s_out i 120 = false) : s_ai (hp P w ex n sl) (P.2.1 + 28) i = some (w.2.2.1 28 i.toNatClampNeg) := hp_ai (k := 28) rfl (by decide) h
theorem u_28 {i v : Int32} (h : s_out i 120 = false) : s_si (hp P w ex n sl) (P.2.1 + 28) i v = some (hp P (wA w 28 i.toNatClampNeg v) ex n sl) := hp_si (k := 28) rfl (by decide) h
theorem n_30 : s_len (hp P w ex n sl) (P.2.1 + 30) = some (Int32.ofNat 400) := hp_len (k := 30) (t := 2) rfl (by decide) (by decide)
theorem a_30 {i : Int32} (h : s_out i 400 = false) : s_ab (hp P w ex n sl) (P.2.1 + 30) i = some (w.2.2.1 30 i.toNatClampNeg) := hp_ab (k := 30) (t := 2) rfl (by decide) (by decide) h
theorem u_30 {i v : Int32} (h : s_out i 400 = false) : s_sb (hp P w ex n sl) (P.2.1 + 30) i v = some (hp P (wA w 30 i.toNatClampNeg (vp_nar .byte v)) ex n sl) := hp_sb2 (k := 30) rfl (by decide) h
theorem n_32 : s_len (hp P w ex n sl) (P.2.1 + 32) = some (Int32.ofNat 16) := hp_len (k := 32) (t := 1) rfl (by decide) (by decide)
theorem a_32 {i : Int32} (h : s_out i 16 = false) : s_al (hp P w ex n sl) (P.2.1 + 32) i = some (w.2.2.2.1 32 i.toNatClampNeg) := hp_al (k := 32) rfl (by decide) h
theorem u_32 {i : Int32} {v : Int64} (h : s_out i 16 = false) : s_sl (hp P w ex n sl) (P.2.1 + 32) i v = some (hp P (wL w 32 i.toNatClampNeg v) ex n sl) := hp_sl (k := 32) rfl (by decide) h
theorem n_33 : s_len (hp P w ex n sl) (P.2.1 + 33) = some (Int32.ofNat 16) := hp_len (k := 33) (t := 1) rfl (by decide) (by decide)
theorem a_33 {i : Int32} (h : s_out i 16 = false) : s_al (hp P w ex n sl) (P.2.1 + 33) i = some (w.2.2.2.1 33 i.toNatClampNeg) := hp_al (k := 33) rfl (by decide) h
theorem u_33 {i : Int32} {v : Int64} (h : s_out i 16 = false) : s_sl (hp P w ex n sl) (P.2.1 + 33) i v = some (hp P (wL w 33 i.toNatClampNeg v) ex n sl) := hp_sl (k := 33) rfl (by decide) h
theorem n_34 : s_len (hp P w ex n sl) (P.2.1 + 34) = some (Int32.ofNat 16) := hp_len (k := 34) (t := 1) rfl (by decide) (by decide)
theorem a_34 {i : Int32} (h : s_out i 16 = false) : s_al (hp P w ex n sl) (P.2.1 + 34) i = some (w.2.2.2.1 34 i.toNatClampNeg) := hp_al (k := 34) rfl (by decide) h
theorem u_34 {i : Int32} {v : Int64} (h : s_out i 16 = false) : s_sl (hp P w ex n sl) (P.2.1 + 34) i v = some (hp P (wL w 34 i.toNatClampNeg v) ex n sl) := hp_sl (k := 34) rfl (by decide) h
theorem n_35 : s_len (hp P w ex n sl) (P.2.1 + 35) = some (Int32.ofNat 14) := hp_len (k := 35) (t := 0) rfl (by decide) (by decide)
theorem a_35 {i : Int32} (h : s_out i 14 = false) : s_ai (hp P w ex n sl) (P.2.1 + 35) i = some (w.2.2.1 35 i.toNatClampNeg) := hp_ai (k := 35) rfl (by decide) h
theorem u_35 {i v : Int32} (h : s_out i 14 = false) : s_si (hp P w ex n sl) (P.2.1 + 35) i v = some (hp P (wA w 35 i.toNatClampNeg v) ex n sl) := hp_si (k := 35) rfl (by decide) h
theorem n_36 : s_len (hp P w ex n sl) (P.2.1 + 36) = some (Int32.ofNat 256) := hp_len (k := 36) (t := 1) rfl (by decide) (by decide)
theorem a_36 {i : Int32} (h : s_out i 256 = false) : s_al (hp P w ex n sl) (P.2.1 + 36) i = some (w.2.2.2.1 36 i.toNatClampNeg) := hp_al (k := 36) rfl (by decide) h
theorem u_36 {i : Int32} {v : Int64} (h : s_out i 256 = false) : s_sl (hp P w ex n sl) (P.2.1 + 36) i v = some (hp P (wL w 36 i.toNatClampNeg v) ex n sl) := hp_sl (k := 36) rfl (by decide) h
theorem n_39 : s_len (hp P w ex n sl) (P.2.1 + 39) = some (Int32.ofNat 40) := hp_len (k := 39) (t := 0) rfl (by decide) (by decide)
theorem a_39 {i : Int32} (h : s_out i 40 = false) : s_ai (hp P w ex n sl) (P.2.1 + 39) i = some (w.2.2.1 39 i.toNatClampNeg) := hp_ai (k := 39) rfl (by decide) h
theorem u_39 {i v : Int32} (h : s_out i 40 = false) : s_si (hp P w ex n sl) (P.2.1 + 39) i v = some (hp P (wA w 39 i.toNatClampNeg v) ex n sl) := hp_si (k := 39) rfl (by decide) h
theorem n_40 : s_len (hp P w ex n sl) (P.2.1 + 40) = some (Int32.ofNat 40) := hp_len (k := 40) (t := 0) rfl (by decide) (by decide)
theorem a_40 {i : Int32} (h : s_out i 40 = false) : s_ai (hp P w ex n sl) (P.2.1 + 40) i = some (w.2.2.1 40 i.toNatClampNeg) := hp_ai (k := 40) rfl (by decide) h
theorem u_40 {i v : Int32} (h : s_out i 40 = false) : s_si (hp P w ex n sl) (P.2.1 + 40) i v = some (hp P (wA w 40 i.toNatClampNeg v) ex n sl) := hp_si (k := 40) rfl (by decide) h
theorem n_41 : s_len (hp P w ex n sl) (P.2.1 + 41) = some (Int32.ofNat 16) := hp_len (k := 41) (t := 0) rfl (by decide) (by decide)
theorem a_41 {i : Int32} (h : s_out i 16 = false) : s_ai (hp P w ex n sl) (P.2.1 + 41) i = some (w.2.2.1 41 i.toNatClampNeg) := hp_ai (k := 41) rfl (by decide) h
theorem u_41 {i v : Int32} (h : s_out i 16 = false) : s_si (hp P w ex n sl) (P.2.1 + 41) i v = some (hp P (wA w 41 i.toNatClampNeg v) ex n sl) := hp_si (k := 41) rfl (by decide) h
theorem n_42 : s_len (hp P w ex n sl) (P.2.1 + 42) = some (Int32.ofNat 3) := hp_len (k := 42) (t := 0) rfl (by decide) (by decide)
theorem a_42 {i : Int32} (h : s_out i 3 = false) : s_ai (hp P w ex n sl) (P.2.1 + 42) i = some (w.2.2.1 42 i.toNatClampNeg) := hp_ai (k := 42) rfl (by decide) h
theorem u_42 {i v : Int32} (h : s_out i 3 = false) : s_si (hp P w ex n sl) (P.2.1 + 42) i v = some (hp P (wA w 42 i.toNatClampNeg v) ex n sl) := hp_si (k := 42) rfl (by decide) h
theorem n_43 : s_len (hp P w ex n sl) (P.2.1 + 43) = some (Int32.ofNat 2800) := hp_len (k := 43) (t := 0) rfl (by decide) (by decide)
theorem a_43 {i : Int32} (h : s_out i 2800 = false) : s_ai (hp P w ex n sl) (P.2.1 + 43) i = some (w.2.2.1 43 i.toNatClampNeg) := hp_ai (k := 43) rfl (by decide) h
theorem u_43 {i v : Int32} (h : s_out i 2800 = false) : s_si (hp P w ex n sl) (P.2.1 + 43) i v = some (hp P (wA w 43 i.toNatClampNeg v) ex n sl) := hp_si (k := 43) rfl (by decide) h
theorem n_44 : s_len (hp P w ex n sl) (P.2.1 + 44) = some (Int32.ofNat 320) := hp_len (k := 44) (t := 0) rfl (by decide) (by decide)
theorem a_44 {i : Int32} (h : s_out i 320 = false) : s_ai (hp P w ex n sl) (P.2.1 + 44) i = some (w.2.2.1 44 i.toNatClampNeg) := hp_ai (k := 44) rfl (by decide) h
theorem u_44 {i v : Int32} (h : s_out i 320 = false) : s_si (hp P w ex n sl) (P.2.1 + 44) i v = some (hp P (wA w 44 i.toNatClampNeg v) ex n sl) := hp_si (k := 44) rfl (by decide) h
theorem n_47 : s_len (hp P w ex n sl) (P.2.1 + 47) = some (Int32.ofNat 1682) := hp_len (k := 47) (t := 0) rfl (by decide) (by decide)
theorem a_47 {i : Int32} (h : s_out i 1682 = false) : s_ai (hp P w ex n sl) (P.2.1 + 47) i = some (w.2.2.1 47 i.toNatClampNeg) := hp_ai (k := 47) rfl (by decide) h
theorem u_47 {i v : Int32} (h : s_out i 1682 = false) : s_si (hp P w ex n sl) (P.2.1 + 47) i v = some (hp P (wA w 47 i.toNatClampNeg v) ex n sl) := hp_si (k := 47) rfl (by decide) h
theorem n_48 : s_len (hp P w ex n sl) (P.2.1 + 48) = some (Int32.ofNat 1682) := hp_len (k := 48) (t := 0) rfl (by decide) (by decide)
theorem a_48 {i : Int32} (h : s_out i 1682 = false) : s_ai (hp P w ex n sl) (P.2.1 + 48) i = some (w.2.2.1 48 i.toNatClampNeg) := hp_ai (k := 48) rfl (by decide) h
theorem u_48 {i v : Int32} (h : s_out i 1682 = false) : s_si (hp P w ex n sl) (P.2.1 + 48) i v = some (hp P (wA w 48 i.toNatClampNeg v) ex n sl) := hp_si (k := 48) rfl (by decide) h
theorem n_49 : s_len (hp P w ex n sl) (P.2.1 + 49) = some (Int32.ofNat 72) := hp_len (k := 49) (t := 0) rfl (by decide) (by decide)
theorem a_49 {i : Int32} (h : s_out i 72 = false) : s_ai (hp P w ex n sl) (P.2.1 + 49) i = some (w.2.2.1 49 i.toNatClampNeg) := hp_ai (k := 49) rfl (by decide) h
theorem u_49 {i v : Int32} (h : s_out i 72 = false) : s_si (hp P w ex n sl) (P.2.1 + 49) i v = some (hp P (wA w 49 i.toNatClampNeg v) ex n sl) := hp_si (k := 49) rfl (by decide) h
theorem n_50 : s_len (hp P w ex n sl) (P.2.1 + 50) = some (Int32.ofNat 2880) := hp_len (k := 50) (t := 0) rfl (by decide) (by decide)
theorem a_50 {i : Int32} (h : s_out i 2880 = false) : s_ai (hp P w ex n sl) (P.2.1 + 50) i = some (w.2.2.1 50 i.toNatClampNeg) := hp_ai (k := 50) rfl (by decide) h
theorem u_50 {i v : Int32} (h : s_out i 2880 = false) : s_si (hp P w ex n sl) (P.2.1 + 50) i v = some (hp P (wA w 50 i.toNatClampNeg v) ex n sl) := hp_si (k := 50) rfl (by decide) h
theorem n_51 : s_len (hp P w ex n sl) (P.2.1 + 51) = some (Int32.ofNat 400) := hp_len (k := 51) (t := 2) rfl (by decide) (by decide)
theorem a_51 {i : Int32} (h : s_out i 400 = false) : s_ab (hp P w ex n sl) (P.2.1 + 51) i = some (w.2.2.1 51 i.toNatClampNeg) := hp_ab (k := 51) (t := 2) rfl (by decide) (by decide) h
theorem u_51 {i v : Int32} (h : s_out i 400 = false) : s_sb (hp P w ex n sl) (P.2.1 + 51) i v = some (hp P (wA w 51 i.toNatClampNeg (vp_nar .byte v)) ex n sl) := hp_sb2 (k := 51) rfl (by decide) h
theorem n_52 : s_len (hp P w ex n sl) (P.2.1 + 52) = some (Int32.ofNat 5) := hp_len (k := 52) (t := 0) rfl (by decide) (by decide)
theorem a_52 {i : Int32} (h : s_out i 5 = false) : s_ai (hp P w ex n sl) (P.2.1 + 52) i = some (w.2.2.1 52 i.toNatClampNeg) := hp_ai (k := 52) rfl (by decide) h
theorem u_52 {i v : Int32} (h : s_out i 5 = false) : s_si (hp P w ex n sl) (P.2.1 + 52) i v = some (hp P (wA w 52 i.toNatClampNeg v) ex n sl) := hp_si (k := 52) rfl (by decide) h
theorem n_53 : s_len (hp P w ex n sl) (P.2.1 + 53) = some (Int32.ofNat 40) := hp_len (k := 53) (t := 0) rfl (by decide) (by decide)
theorem a_53 {i : Int32} (h : s_out i 40 = false) : s_ai (hp P w ex n sl) (P.2.1 + 53) i = some (w.2.2.1 53 i.toNatClampNeg) := hp_ai (k := 53) rfl (by decide) h
theorem u_53 {i v : Int32} (h : s_out i 40 = false) : s_si (hp P w ex n sl) (P.2.1 + 53) i v = some (hp P (wA w 53 i.toNatClampNeg v) ex n sl) := hp_si (k := 53) rfl (by decide) h
theorem n_54 : s_len (hp P w ex n sl) (P.2.1 + 54) = some (Int32.ofNat 40) := hp_len (k := 54) (t := 3) rfl (by decide) (by decide)
theorem a_54 {i : Int32} (h : s_out i 40 = false) : s_ab (hp P w ex n sl) (P.2.1 + 54) i = some (w.2.2.1 54 i.toNatClampNeg) := hp_ab (k := 54) (t := 3) rfl (by decide) (by decide) h
theorem u_54 {i v : Int32} (h : s_out i 40 = false) : s_sb (hp P w ex n sl) (P.2.1 + 54) i v = some (hp P (wA w 54 i.toNatClampNeg (vp_nar .boolean v)) ex n sl) := hp_sb3 (k := 54) rfl (by decide) h
theorem n_55 : s_len (hp P w ex n sl) (P.2.1 + 55) = some (Int32.ofNat 40) := hp_len (k := 55) (t := 1) rfl (by decide) (by decide)
theorem a_55 {i : Int32} (h : s_out i 40 = false) : s_al (hp P w ex n sl) (P.2.1 + 55) i = some (w.2.2.2.1 55 i.toNatClampNeg) := hp_al (k := 55) rfl (by decide) h
theorem u_55 {i : Int32} {v : Int64} (h : s_out i 40 = false) : s_sl (hp P w ex n sl) (P.2.1 + 55) i v = some (hp P (wL w 55 i.toNatClampNeg v) ex n sl) := hp_sl (k := 55) rfl (by decide) h
theorem n_56 : s_len (hp P w ex n sl) (P.2.1 + 56) = some (Int32.ofNat 40) := hp_len (k := 56) (t := 1) rfl (by decide) (by decide)
theorem a_56 {i : Int32} (h : s_out i 40 = false) : s_al (hp P w ex n sl) (P.2.1 + 56) i = some (w.2.2.2.1 56 i.toNatClampNeg) := hp_al (k := 56) rfl (by decide) h
theorem u_56 {i : Int32} {v : Int64} (h : s_out i 40 = false) : s_sl (hp P w ex n sl) (P.2.1 + 56) i v = some (hp P (wL w 56 i.toNatClampNeg v) ex n sl) := hp_sl (k := 56) rfl (by decide) h
theorem n_57 : s_len (hp P w ex n sl) (P.2.1 + 57) = some (Int32.ofNat 1024) := hp_len (k := 57) (t := 0) rfl (by decide) (by decide)
theorem a_57 {i : Int32} (h : s_out i 1024 = false) : s_ai (hp P w ex n sl) (P.2.1 + 57) i = some (w.2.2.1 57 i.toNatClampNeg) := hp_ai (k := 57) rfl (by decide) h
theorem u_57 {i v : Int32} (h : s_out i 1024 = false) : s_si (hp P w ex n sl) (P.2.1 + 57) i v = some (hp P (wA w 57 i.toNatClampNeg v) ex n sl) := hp_si (k := 57) rfl (by decide) h
theorem n_58 : s_len (hp P w ex n sl) (P.2.1 + 58) = some (Int32.ofNat 1088) := hp_len (k := 58) (t := 0) rfl (by decide) (by decide)
theorem a_58 {i : Int32} (h : s_out i 1088 = false) : s_ai (hp P w ex n sl) (P.2.1 + 58) i = some (w.2.2.1 58 i.toNatClampNeg) := hp_ai (k := 58) rfl (by decide) h
theorem u_58 {i v : Int32} (h : s_out i 1088 = false) : s_si (hp P w ex n sl) (P.2.1 + 58) i v = some (hp P (wA w 58 i.toNatClampNeg v) ex n sl) := hp_si (k := 58) rfl (by decide) h
theorem n_59 : s_len (hp P w ex n sl) (P.2.1 + 59) = some (Int32.ofNat 4) := hp_len (k := 59) (t := 0) rfl (by decide) (by decide)
theorem a_59 {i : Int32} (h : s_out i 4 = false) : s_ai (hp P w ex n sl) (P.2.1 + 59) i = some (w.2.2.1 59 i.toNatClampNeg) := hp_ai (k := 59) rfl (by decide) h
theorem u_59 {i v : Int32} (h : s_out i 4 = false) : s_si (hp P w ex n sl) (P.2.1 + 59) i v = some (hp P (wA w 59 i.toNatClampNeg v) ex n sl) := hp_si (k := 59) rfl (by decide) h
theorem n_60 : s_len (hp P w ex n sl) (P.2.1 + 60) = some (Int32.ofNat 40) := hp_len (k := 60) (t := 0) rfl (by decide) (by decide)
theorem a_60 {i : Int32} (h : s_out i 40 = false) : s_ai (hp P w ex n sl) (P.2.1 + 60) i = some (w.2.2.1 60 i.toNatClampNeg) := hp_ai (k := 60) rfl (by decide) h
theorem u_60 {i v : Int32} (h : s_out i 40 = false) : s_si (hp P w ex n sl) (P.2.1 + 60) i v = some (hp P (wA w 60 i.toNatClampNeg v) ex n sl) := hp_si (k := 60) rfl (by decide) h
theorem n_61 : s_len (hp P w ex n sl) (P.2.1 + 61) = some (Int32.ofNat 40) := hp_len (k := 61) (t := 0) rfl (by decide) (by decide)
theorem a_61 {i : Int32} (h : s_out i 40 = false) : s_ai (hp P w ex n sl) (P.2.1 + 61) i = some (w.2.2.1 61 i.toNatClampNeg) := hp_ai (k := 61) rfl (by decide) h
theorem u_61 {i v : Int32} (h : s_out i 40 = false) : s_si (hp P w ex n sl) (P.2.1 + 61) i v = some (hp P (wA w 61 i.toNatClampNeg v) ex n sl) := hp_si (k := 61) rfl (by decide) h
theorem n_62 : s_len (hp P w ex n sl) (P.2.1 + 62) = some (Int32.ofNat 40) := hp_len (k := 62) (t := 0) rfl (by decide) (by decide)
theorem a_62 {i : Int32} (h : s_out i 40 = false) : s_ai (hp P w ex n sl) (P.2.1 + 62) i = some (w.2.2.1 62 i.toNatClampNeg) := hp_ai (k := 62) rfl (by decide) h
theorem u_62 {i v : Int32} (h : s_out i 40 = false) : s_si (hp P w ex n sl) (P.2.1 + 62) i v = some (hp P (wA w 62 i.toNatClampNeg v) ex n sl) := hp_si (k := 62) rfl (by decide) h
theorem n_63 : s_len (hp P w ex n sl) (P.2.1 + 63) = some (Int32.ofNat 120) := hp_len (k := 63) (t := 0) rfl (by decide) (by decide)
theorem a_63 {i : Int32} (h : s_out i 120 = false) : s_ai (hp P w ex n sl) (P.2.1 + 63) i = some (w.2.2.1 63 i.toNatClampNeg) := hp_ai (k := 63) rfl (by decide) h
theorem u_63 {i v : Int32} (h : s_out i 120 = false) : s_si (hp P w ex n sl) (P.2.1 + 63) i v = some (hp P (wA w 63 i.toNatClampNeg v) ex n sl) := hp_si (k := 63) rfl (by decide) h
theorem n_64 : s_len (hp P w ex n sl) (P.2.1 + 64) = some (Int32.ofNat 40) := hp_len (k := 64) (t := 3) rfl (by decide) (by decide)
theorem a_64 {i : Int32} (h : s_out i 40 = false) : s_ab (hp P w ex n sl) (P.2.1 + 64) i = some (w.2.2.1 64 i.toNatClampNeg) := hp_ab (k := 64) (t := 3) rfl (by decide) (by decide) h
theorem u_64 {i v : Int32} (h : s_out i 40 = false) : s_sb (hp P w ex n sl) (P.2.1 + 64) i v = some (hp P (wA w 64 i.toNatClampNeg (vp_nar .boolean v)) ex n sl) := hp_sb3 (k := 64) rfl (by decide) h
theorem n_65 : s_len (hp P w ex n sl) (P.2.1 + 65) = some (Int32.ofNat 1600) := hp_len (k := 65) (t := 3) rfl (by decide) (by decide)
theorem a_65 {i : Int32} (h : s_out i 1600 = false) : s_ab (hp P w ex n sl) (P.2.1 + 65) i = some (w.2.2.1 65 i.toNatClampNeg) := hp_ab (k := 65) (t := 3) rfl (by decide) (by decide) h
theorem u_65 {i v : Int32} (h : s_out i 1600 = false) : s_sb (hp P w ex n sl) (P.2.1 + 65) i v = some (hp P (wA w 65 i.toNatClampNeg (vp_nar .boolean v)) ex n sl) := hp_sb3 (k := 65) rfl (by decide) h
theorem n_66 : s_len (hp P w ex n sl) (P.2.1 + 66) = some (Int32.ofNat 1600) := hp_len (k := 66) (t := 3) rfl (by decide) (by decide)
theorem a_66 {i : Int32} (h : s_out i 1600 = false) : s_ab (hp P w ex n sl) (P.2.1 + 66) i = some (w.2.2.1 66 i.toNatClampNeg) := hp_ab (k := 66) (t := 3) rfl (by decide) (by decide) h
theorem u_66 {i v : Int32} (h : s_out i 1600 = false) : s_sb (hp P w ex n sl) (P.2.1 + 66) i v = some (hp P (wA w 66 i.toNatClampNeg (vp_nar .boolean v)) ex n sl) := hp_sb3 (k := 66) rfl (by decide) h
theorem n_67 : s_len (hp P w ex n sl) (P.2.1 + 67) = some (Int32.ofNat 1600) := hp_len (k := 67) (t := 0) rfl (by decide) (by decide)
theorem a_67 {i : Int32} (h : s_out i 1600 = false) : s_ai (hp P w ex n sl) (P.2.1 + 67) i = some (w.2.2.1 67 i.toNatClampNeg) := hp_ai (k := 67) rfl (by decide) h
theorem u_67 {i v : Int32} (h : s_out i 1600 = false) : s_si (hp P w ex n sl) (P.2.1 + 67) i v = some (hp P (wA w 67 i.toNatClampNeg v) ex n sl) := hp_si (k := 67) rfl (by decide) h
theorem n_68 : s_len (hp P w ex n sl) (P.2.1 + 68) = some (Int32.ofNat 1600) := hp_len (k := 68) (t := 0) rfl (by decide) (by decide)
theorem a_68 {i : Int32} (h : s_out i 1600 = false) : s_ai (hp P w ex n sl) (P.2.1 + 68) i = some (w.2.2.1 68 i.toNatClampNeg) := hp_ai (k := 68) rfl (by decide) h
theorem u_68 {i v : Int32} (h : s_out i 1600 = false) : s_si (hp P w ex n sl) (P.2.1 + 68) i v = some (hp P (wA w 68 i.toNatClampNeg v) ex n sl) := hp_si (k := 68) rfl (by decide) h
theorem n_69 : s_len (hp P w ex n sl) (P.2.1 + 69) = some (Int32.ofNat 3) := hp_len (k := 69) (t := 0) rfl (by decide) (by decide)
theorem a_69 {i : Int32} (h : s_out i 3 = false) : s_ai (hp P w ex n sl) (P.2.1 + 69) i = some (w.2.2.1 69 i.toNatClampNeg) := hp_ai (k := 69) rfl (by decide) h
theorem u_69 {i v : Int32} (h : s_out i 3 = false) : s_si (hp P w ex n sl) (P.2.1 + 69) i v = some (hp P (wA w 69 i.toNatClampNeg v) ex n sl) := hp_si (k := 69) rfl (by decide) h
theorem n_70 : s_len (hp P w ex n sl) (P.2.1 + 70) = some (Int32.ofNat 320) := hp_len (k := 70) (t := 0) rfl (by decide) (by decide)
theorem a_70 {i : Int32} (h : s_out i 320 = false) : s_ai (hp P w ex n sl) (P.2.1 + 70) i = some (w.2.2.1 70 i.toNatClampNeg) := hp_ai (k := 70) rfl (by decide) h
theorem u_70 {i v : Int32} (h : s_out i 320 = false) : s_si (hp P w ex n sl) (P.2.1 + 70) i v = some (hp P (wA w 70 i.toNatClampNeg v) ex n sl) := hp_si (k := 70) rfl (by decide) h
theorem n_71 : s_len (hp P w ex n sl) (P.2.1 + 71) = some (Int32.ofNat 608) := hp_len (k := 71) (t := 0) rfl (by decide) (by decide)
theorem a_71 {i : Int32} (h : s_out i 608 = false) : s_ai (hp P w ex n sl) (P.2.1 + 71) i = some (w.2.2.1 71 i.toNatClampNeg) := hp_ai (k := 71) rfl (by decide) h
theorem u_71 {i v : Int32} (h : s_out i 608 = false) : s_si (hp P w ex n sl) (P.2.1 + 71) i v = some (hp P (wA w 71 i.toNatClampNeg v) ex n sl) := hp_si (k := 71) rfl (by decide) h
theorem n_72 : s_len (hp P w ex n sl) (P.2.1 + 72) = some (Int32.ofNat 1) := hp_len (k := 72) (t := 1) rfl (by decide) (by decide)
theorem a_72 {i : Int32} (h : s_out i 1 = false) : s_al (hp P w ex n sl) (P.2.1 + 72) i = some (w.2.2.2.1 72 i.toNatClampNeg) := hp_al (k := 72) rfl (by decide) h
theorem u_72 {i : Int32} {v : Int64} (h : s_out i 1 = false) : s_sl (hp P w ex n sl) (P.2.1 + 72) i v = some (hp P (wL w 72 i.toNatClampNeg v) ex n sl) := hp_sl (k := 72) rfl (by decide) h
end WQ
