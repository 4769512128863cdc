/-! the two regions: what stands at each cell, and where the references go (by program) -/
def q_kdLC : List (Nat × Nat) := [(0, 10), (0, 9), (1, 10), (1, 10), (1, 5), (0, 3), (1, 100), (1, 100), (1, 100), (1, 100), (1, 100), (1, 100), (1, 100), (1, 500), (1, 5), (0, 0), (1, 512), (1, 512), (1, 512), (1, 512), (1, 512), (1, 25), (0, 7), (1, 5), (0, 9), (1, 10), (1, 10), (1, 5), (0, 3), (1, 100), (1, 100), (1, 100), (1, 100), (1, 100), (1, 100), (1, 100), (1, 500), (1, 5), (0, 0), (1, 512), (1, 512), (1, 512), (1, 512), (1, 512), (1, 25), (0, 7), (1, 5), (0, 6), (3, 20), (0, 5), (1, 12), (1, 12), (1, 12), (1, 12), (0, 1), (1, 25), (0, 8), (1, 10), (1, 2), (0, 4), (5, 2), (0, 2), (1, 49), (1, 49), (1, 49), (2, 49), (1, 7), (2, 7), (1, 7), (0, 2), (1, 49), (1, 49), (1, 49), (2, 49), (1, 7), (2, 7), (1, 7)]
def q_kdC (k : Nat) : Nat × Nat := q_kdLC.getD k (9, 0)
def q_kdLM : List (Nat × Nat) := [(0, 11), (1, 5104), (1, 5104), (3, 20), (1, 12), (1, 12), (1, 12), (1, 12), (1, 25), (1, 48), (1, 48), (1, 48), (1, 48), (1, 48), (1, 48), (1, 48), (1, 7), (4, 7), (1, 217), (1, 7), (1, 60), (1, 10)]
def q_kdM (k : Nat) : Nat × Nat := q_kdLM.getD k (9, 0)
def q_rho (L : List (Nat × Nat × Nat)) (k j : Nat) : Option Nat := (L.find? (fun t => t.1 == k && t.2.1 == j)).map (fun t => t.2.2)
def q_LH (o : Nat) : List (Nat × Nat × Nat) := [(o, 9, o + 9), (o, 8, o + 8), (o, 7, o + 7), (o, 6, o + 6), (o, 5, o + 5), (o, 4, o + 4), (o, 3, o + 3), (o, 2, o + 2), (o, 1, o + 1)]
def q_LCh (o : Nat) : List (Nat × Nat × Nat) := [(o, 6, o + 6), (o, 5, o + 5), (o, 4, o + 4), (o, 3, o + 3), (o, 2, o + 2), (o, 1, o + 1)]
def q_LF (o : Nat) : List (Nat × Nat × Nat) := [(o, 6, o + 7), (o, 5, o + 6), (o, 4, o + 5), (o, 3, o + 4), (o, 2, o + 3), (o, 1, o + 2), (o, 0, o + 1)]
def q_LW (o : Nat) : List (Nat × Nat × Nat) := (o, 6, o + 21) :: ([(o + 21, 1, o + 22)] ++ ((o, 5, o + 14) :: (q_LCh (o + 14) ++ ((o, 4, o + 4) :: (q_LH (o + 4) ++ [(o, 3, o + 3), (o, 2, o + 2), (o, 1, o + 1)])))))
def q_LB : List (Nat × Nat × Nat) := [(49, 4, 53), (49, 3, 52), (49, 2, 51), (49, 1, 50)]
def q_LR : List (Nat × Nat × Nat) := (59, 0, 60) :: (60, 1, 69) :: (q_LF 69 ++ ((60, 0, 61) :: q_LF 61))
def q_LC : List (Nat × Nat × Nat) := (0, 7, 59) :: (q_LR ++ ((0, 6, 56) :: ([(56, 2, 58), (56, 1, 57)] ++ ((0, 5, 54) :: ([(54, 0, 55)] ++ ((0, 4, 49) :: (q_LB ++ ((0, 3, 47) :: ([(47, 1, 48)] ++ ((0, 1, 24) :: (q_LW 24 ++ ((0, 0, 1) :: q_LW 1))))))))))))
def q_LM : List (Nat × Nat × Nat) := [(0, 30, 21), (0, 29, 20), (0, 27, 19), (0, 26, 18), (0, 25, 17), (0, 22, 16), (0, 21, 15), (0, 20, 14), (0, 19, 13), (0, 18, 12), (0, 17, 11), (0, 16, 10), (0, 15, 9), (0, 11, 8), (0, 10, 7), (0, 9, 6), (0, 8, 5), (0, 7, 4), (0, 5, 3), (0, 2, 2), (0, 1, 1)]
def q_rhoC : Nat → Nat → Option Nat := q_rho q_LC
def q_rhoM : Nat → Nat → Option Nat := q_rho q_LM
theorem q_kdC_0 : q_kdC 0 = (0, 10) := by decide
theorem q_kdC_1 : q_kdC 1 = (0, 9) := by decide
theorem q_kdC_2 : q_kdC 2 = (1, 10) := by decide
theorem q_kdC_3 : q_kdC 3 = (1, 10) := by decide
theorem q_kdC_4 : q_kdC 4 = (1, 5) := by decide
theorem q_kdC_5 : q_kdC 5 = (0, 3) := by decide
theorem q_kdC_6 : q_kdC 6 = (1, 100) := by decide
theorem q_kdC_7 : q_kdC 7 = (1, 100) := by decide
theorem q_kdC_8 : q_kdC 8 = (1, 100) := by decide
theorem q_kdC_9 : q_kdC 9 = (1, 100) := by decide
theorem q_kdC_10 : q_kdC 10 = (1, 100) := by decide
theorem q_kdC_11 : q_kdC 11 = (1, 100) := by decide
theorem q_kdC_12 : q_kdC 12 = (1, 100) := by decide
theorem q_kdC_13 : q_kdC 13 = (1, 500) := by decide
theorem q_kdC_14 : q_kdC 14 = (1, 5) := by decide
theorem q_kdC_15 : q_kdC 15 = (0, 0) := by decide
theorem q_kdC_16 : q_kdC 16 = (1, 512) := by decide
theorem q_kdC_17 : q_kdC 17 = (1, 512) := by decide
theorem q_kdC_18 : q_kdC 18 = (1, 512) := by decide
theorem q_kdC_19 : q_kdC 19 = (1, 512) := by decide
theorem q_kdC_20 : q_kdC 20 = (1, 512) := by decide
theorem q_kdC_21 : q_kdC 21 = (1, 25) := by decide
theorem q_kdC_22 : q_kdC 22 = (0, 7) := by decide
theorem q_kdC_23 : q_kdC 23 = (1, 5) := by decide
theorem q_kdC_24 : q_kdC 24 = (0, 9) := by decide
theorem q_kdC_25 : q_kdC 25 = (1, 10) := by decide
theorem q_kdC_26 : q_kdC 26 = (1, 10) := by decide
theorem q_kdC_27 : q_kdC 27 = (1, 5) := by decide
theorem q_kdC_28 : q_kdC 28 = (0, 3) := by decide
theorem q_kdC_29 : q_kdC 29 = (1, 100) := by decide
theorem q_kdC_30 : q_kdC 30 = (1, 100) := by decide
theorem q_kdC_31 : q_kdC 31 = (1, 100) := by decide
theorem q_kdC_32 : q_kdC 32 = (1, 100) := by decide
theorem q_kdC_33 : q_kdC 33 = (1, 100) := by decide
theorem q_kdC_34 : q_kdC 34 = (1, 100) := by decide
theorem q_kdC_35 : q_kdC 35 = (1, 100) := by decide
theorem q_kdC_36 : q_kdC 36 = (1, 500) := by decide
theorem q_kdC_37 : q_kdC 37 = (1, 5) := by decide
theorem q_kdC_38 : q_kdC 38 = (0, 0) := by decide
theorem q_kdC_39 : q_kdC 39 = (1, 512) := by decide
theorem q_kdC_40 : q_kdC 40 = (1, 512) := by decide
theorem q_kdC_41 : q_kdC 41 = (1, 512) := by decide
theorem q_kdC_42 : q_kdC 42 = (1, 512) := by decide
theorem q_kdC_43 : q_kdC 43 = (1, 512) := by decide
theorem q_kdC_44 : q_kdC 44 = (1, 25) := by decide
theorem q_kdC_45 : q_kdC 45 = (0, 7) := by decide
theorem q_kdC_46 : q_kdC 46 = (1, 5) := by decide
theorem q_kdC_47 : q_kdC 47 = (0, 6) := by decide
theorem q_kdC_48 : q_kdC 48 = (3, 20) := by decide
theorem q_kdC_49 : q_kdC 49 = (0, 5) := by decide
theorem q_kdC_50 : q_kdC 50 = (1, 12) := by decide
theorem q_kdC_51 : q_kdC 51 = (1, 12) := by decide
theorem q_kdC_52 : q_kdC 52 = (1, 12) := by decide
theorem q_kdC_53 : q_kdC 53 = (1, 12) := by decide
theorem q_kdC_54 : q_kdC 54 = (0, 1) := by decide
theorem q_kdC_55 : q_kdC 55 = (1, 25) := by decide
theorem q_kdC_56 : q_kdC 56 = (0, 8) := by decide
theorem q_kdC_57 : q_kdC 57 = (1, 10) := by decide
theorem q_kdC_58 : q_kdC 58 = (1, 2) := by decide
theorem q_kdC_59 : q_kdC 59 = (0, 4) := by decide
theorem q_kdC_60 : q_kdC 60 = (5, 2) := by decide
theorem q_kdC_61 : q_kdC 61 = (0, 2) := by decide
theorem q_kdC_62 : q_kdC 62 = (1, 49) := by decide
theorem q_kdC_63 : q_kdC 63 = (1, 49) := by decide
theorem q_kdC_64 : q_kdC 64 = (1, 49) := by decide
theorem q_kdC_65 : q_kdC 65 = (2, 49) := by decide
theorem q_kdC_66 : q_kdC 66 = (1, 7) := by decide
theorem q_kdC_67 : q_kdC 67 = (2, 7) := by decide
theorem q_kdC_68 : q_kdC 68 = (1, 7) := by decide
theorem q_kdC_69 : q_kdC 69 = (0, 2) := by decide
theorem q_kdC_70 : q_kdC 70 = (1, 49) := by decide
theorem q_kdC_71 : q_kdC 71 = (1, 49) := by decide
theorem q_kdC_72 : q_kdC 72 = (1, 49) := by decide
theorem q_kdC_73 : q_kdC 73 = (2, 49) := by decide
theorem q_kdC_74 : q_kdC 74 = (1, 7) := by decide
theorem q_kdC_75 : q_kdC 75 = (2, 7) := by decide
theorem q_kdC_76 : q_kdC 76 = (1, 7) := by decide
theorem q_rhC_0_0 : q_rhoC 0 0 = some 1 := by decide +kernel
theorem q_rhC_0_1 : q_rhoC 0 1 = some 24 := by decide +kernel
theorem q_rhC_0_3 : q_rhoC 0 3 = some 47 := by decide +kernel
theorem q_rhC_0_4 : q_rhoC 0 4 = some 49 := by decide +kernel
theorem q_rhC_0_5 : q_rhoC 0 5 = some 54 := by decide +kernel
theorem q_rhC_0_6 : q_rhoC 0 6 = some 56 := by decide +kernel
theorem q_rhC_0_7 : q_rhoC 0 7 = some 59 := by decide +kernel
theorem q_rhC_1_1 : q_rhoC 1 1 = some 2 := by decide +kernel
theorem q_rhC_1_2 : q_rhoC 1 2 = some 3 := by decide +kernel
theorem q_rhC_1_3 : q_rhoC 1 3 = some 4 := by decide +kernel
theorem q_rhC_1_4 : q_rhoC 1 4 = some 5 := by decide +kernel
theorem q_rhC_1_5 : q_rhoC 1 5 = some 15 := by decide +kernel
theorem q_rhC_1_6 : q_rhoC 1 6 = some 22 := by decide +kernel
theorem q_rhC_5_1 : q_rhoC 5 1 = some 6 := by decide +kernel
theorem q_rhC_5_2 : q_rhoC 5 2 = some 7 := by decide +kernel
theorem q_rhC_5_3 : q_rhoC 5 3 = some 8 := by decide +kernel
theorem q_rhC_5_4 : q_rhoC 5 4 = some 9 := by decide +kernel
theorem q_rhC_5_5 : q_rhoC 5 5 = some 10 := by decide +kernel
theorem q_rhC_5_6 : q_rhoC 5 6 = some 11 := by decide +kernel
theorem q_rhC_5_7 : q_rhoC 5 7 = some 12 := by decide +kernel
theorem q_rhC_5_8 : q_rhoC 5 8 = some 13 := by decide +kernel
theorem q_rhC_5_9 : q_rhoC 5 9 = some 14 := by decide +kernel
theorem q_rhC_15_1 : q_rhoC 15 1 = some 16 := by decide +kernel
theorem q_rhC_15_2 : q_rhoC 15 2 = some 17 := by decide +kernel
theorem q_rhC_15_3 : q_rhoC 15 3 = some 18 := by decide +kernel
theorem q_rhC_15_4 : q_rhoC 15 4 = some 19 := by decide +kernel
theorem q_rhC_15_5 : q_rhoC 15 5 = some 20 := by decide +kernel
theorem q_rhC_15_6 : q_rhoC 15 6 = some 21 := by decide +kernel
theorem q_rhC_22_1 : q_rhoC 22 1 = some 23 := by decide +kernel
theorem q_rhC_24_1 : q_rhoC 24 1 = some 25 := by decide +kernel
theorem q_rhC_24_2 : q_rhoC 24 2 = some 26 := by decide +kernel
theorem q_rhC_24_3 : q_rhoC 24 3 = some 27 := by decide +kernel
theorem q_rhC_24_4 : q_rhoC 24 4 = some 28 := by decide +kernel
theorem q_rhC_24_5 : q_rhoC 24 5 = some 38 := by decide +kernel
theorem q_rhC_24_6 : q_rhoC 24 6 = some 45 := by decide +kernel
theorem q_rhC_28_1 : q_rhoC 28 1 = some 29 := by decide +kernel
theorem q_rhC_28_2 : q_rhoC 28 2 = some 30 := by decide +kernel
theorem q_rhC_28_3 : q_rhoC 28 3 = some 31 := by decide +kernel
theorem q_rhC_28_4 : q_rhoC 28 4 = some 32 := by decide +kernel
theorem q_rhC_28_5 : q_rhoC 28 5 = some 33 := by decide +kernel
theorem q_rhC_28_6 : q_rhoC 28 6 = some 34 := by decide +kernel
theorem q_rhC_28_7 : q_rhoC 28 7 = some 35 := by decide +kernel
theorem q_rhC_28_8 : q_rhoC 28 8 = some 36 := by decide +kernel
theorem q_rhC_28_9 : q_rhoC 28 9 = some 37 := by decide +kernel
theorem q_rhC_38_1 : q_rhoC 38 1 = some 39 := by decide +kernel
theorem q_rhC_38_2 : q_rhoC 38 2 = some 40 := by decide +kernel
theorem q_rhC_38_3 : q_rhoC 38 3 = some 41 := by decide +kernel
theorem q_rhC_38_4 : q_rhoC 38 4 = some 42 := by decide +kernel
theorem q_rhC_38_5 : q_rhoC 38 5 = some 43 := by decide +kernel
theorem q_rhC_38_6 : q_rhoC 38 6 = some 44 := by decide +kernel
theorem q_rhC_45_1 : q_rhoC 45 1 = some 46 := by decide +kernel
theorem q_rhC_47_1 : q_rhoC 47 1 = some 48 := by decide +kernel
theorem q_rhC_49_1 : q_rhoC 49 1 = some 50 := by decide +kernel
theorem q_rhC_49_2 : q_rhoC 49 2 = some 51 := by decide +kernel
theorem q_rhC_49_3 : q_rhoC 49 3 = some 52 := by decide +kernel
theorem q_rhC_49_4 : q_rhoC 49 4 = some 53 := by decide +kernel
theorem q_rhC_54_0 : q_rhoC 54 0 = some 55 := by decide +kernel
theorem q_rhC_56_1 : q_rhoC 56 1 = some 57 := by decide +kernel
theorem q_rhC_56_2 : q_rhoC 56 2 = some 58 := by decide +kernel
theorem q_rhC_59_0 : q_rhoC 59 0 = some 60 := by decide +kernel
theorem q_rhC_60_0 : q_rhoC 60 0 = some 61 := by decide +kernel
theorem q_rhC_60_1 : q_rhoC 60 1 = some 69 := by decide +kernel
theorem q_rhC_61_0 : q_rhoC 61 0 = some 62 := by decide +kernel
theorem q_rhC_61_1 : q_rhoC 61 1 = some 63 := by decide +kernel
theorem q_rhC_61_2 : q_rhoC 61 2 = some 64 := by decide +kernel
theorem q_rhC_61_3 : q_rhoC 61 3 = some 65 := by decide +kernel
theorem q_rhC_61_4 : q_rhoC 61 4 = some 66 := by decide +kernel
theorem q_rhC_61_5 : q_rhoC 61 5 = some 67 := by decide +kernel
theorem q_rhC_61_6 : q_rhoC 61 6 = some 68 := by decide +kernel
theorem q_rhC_69_0 : q_rhoC 69 0 = some 70 := by decide +kernel
theorem q_rhC_69_1 : q_rhoC 69 1 = some 71 := by decide +kernel
theorem q_rhC_69_2 : q_rhoC 69 2 = some 72 := by decide +kernel
theorem q_rhC_69_3 : q_rhoC 69 3 = some 73 := by decide +kernel
theorem q_rhC_69_4 : q_rhoC 69 4 = some 74 := by decide +kernel
theorem q_rhC_69_5 : q_rhoC 69 5 = some 75 := by decide +kernel
theorem q_rhC_69_6 : q_rhoC 69 6 = some 76 := by decide +kernel
theorem q_kdM_0 : q_kdM 0 = (0, 11) := by decide
theorem q_kdM_1 : q_kdM 1 = (1, 5104) := by decide
theorem q_kdM_2 : q_kdM 2 = (1, 5104) := by decide
theorem q_kdM_3 : q_kdM 3 = (3, 20) := by decide
theorem q_kdM_4 : q_kdM 4 = (1, 12) := by decide
theorem q_kdM_5 : q_kdM 5 = (1, 12) := by decide
theorem q_kdM_6 : q_kdM 6 = (1, 12) := by decide
theorem q_kdM_7 : q_kdM 7 = (1, 12) := by decide
theorem q_kdM_8 : q_kdM 8 = (1, 25) := by decide
theorem q_kdM_9 : q_kdM 9 = (1, 48) := by decide
theorem q_kdM_10 : q_kdM 10 = (1, 48) := by decide
theorem q_kdM_11 : q_kdM 11 = (1, 48) := by decide
theorem q_kdM_12 : q_kdM 12 = (1, 48) := by decide
theorem q_kdM_13 : q_kdM 13 = (1, 48) := by decide
theorem q_kdM_14 : q_kdM 14 = (1, 48) := by decide
theorem q_kdM_15 : q_kdM 15 = (1, 48) := by decide
theorem q_kdM_16 : q_kdM 16 = (1, 7) := by decide
theorem q_kdM_17 : q_kdM 17 = (4, 7) := by decide
theorem q_kdM_18 : q_kdM 18 = (1, 217) := by decide
theorem q_kdM_19 : q_kdM 19 = (1, 7) := by decide
theorem q_kdM_20 : q_kdM 20 = (1, 60) := by decide
theorem q_kdM_21 : q_kdM 21 = (1, 10) := by decide
theorem q_rhM_0_1 : q_rhoM 0 1 = some 1 := by decide +kernel
theorem q_rhM_0_2 : q_rhoM 0 2 = some 2 := by decide +kernel
theorem q_rhM_0_5 : q_rhoM 0 5 = some 3 := by decide +kernel
theorem q_rhM_0_7 : q_rhoM 0 7 = some 4 := by decide +kernel
theorem q_rhM_0_8 : q_rhoM 0 8 = some 5 := by decide +kernel
theorem q_rhM_0_9 : q_rhoM 0 9 = some 6 := by decide +kernel
theorem q_rhM_0_10 : q_rhoM 0 10 = some 7 := by decide +kernel
theorem q_rhM_0_11 : q_rhoM 0 11 = some 8 := by decide +kernel
theorem q_rhM_0_15 : q_rhoM 0 15 = some 9 := by decide +kernel
theorem q_rhM_0_16 : q_rhoM 0 16 = some 10 := by decide +kernel
theorem q_rhM_0_17 : q_rhoM 0 17 = some 11 := by decide +kernel
theorem q_rhM_0_18 : q_rhoM 0 18 = some 12 := by decide +kernel
theorem q_rhM_0_19 : q_rhoM 0 19 = some 13 := by decide +kernel
theorem q_rhM_0_20 : q_rhoM 0 20 = some 14 := by decide +kernel
theorem q_rhM_0_21 : q_rhoM 0 21 = some 15 := by decide +kernel
theorem q_rhM_0_22 : q_rhoM 0 22 = some 16 := by decide +kernel
theorem q_rhM_0_25 : q_rhoM 0 25 = some 17 := by decide +kernel
theorem q_rhM_0_26 : q_rhoM 0 26 = some 18 := by decide +kernel
theorem q_rhM_0_27 : q_rhoM 0 27 = some 19 := by decide +kernel
theorem q_rhM_0_29 : q_rhoM 0 29 = some 20 := by decide +kernel
theorem q_rhM_0_30 : q_rhoM 0 30 = some 21 := by decide +kernel
theorem q_ltW {o j : Nat} (ho : o = 1 ∨ o = 24) (hj : Nat.ble j 22 = true) : o + j < 77 := by have := Nat.le_of_ble_eq_true hj; omega
theorem q_ltW0 {o : Nat} (ho : o = 1 ∨ o = 24) : o < 77 := by omega
theorem q_kdW_0 {o : Nat} (ho : o = 1 ∨ o = 24) : q_kdC (o) = (0, 9) := by rcases ho with rfl | rfl <;> decide
theorem q_rhW_0_1 {o : Nat} (ho : o = 1 ∨ o = 24) : q_rhoC (o) 1 = some (o + 1) := by rcases ho with rfl | rfl <;> decide +kernel
theorem q_rhW_0_2 {o : Nat} (ho : o = 1 ∨ o = 24) : q_rhoC (o) 2 = some (o + 2) := by rcases ho with rfl | rfl <;> decide +kernel
theorem q_rhW_0_3 {o : Nat} (ho : o = 1 ∨ o = 24) : q_rhoC (o) 3 = some (o + 3) := by rcases ho with rfl | rfl <;> decide +kernel
theorem q_rhW_0_4 {o : Nat} (ho : o = 1 ∨ o = 24) : q_rhoC (o) 4 = some (o + 4) := by rcases ho with rfl | rfl <;> decide +kernel
theorem q_rhW_0_5 {o : Nat} (ho : o = 1 ∨ o = 24) : q_rhoC (o) 5 = some (o + 14) := by rcases ho with rfl | rfl <;> decide +kernel
theorem q_rhW_0_6 {o : Nat} (ho : o = 1 ∨ o = 24) : q_rhoC (o) 6 = some (o + 21) := by rcases ho with rfl | rfl <;> decide +kernel
theorem q_kdW_1 {o : Nat} (ho : o = 1 ∨ o = 24) : q_kdC (o + 1) = (1, 10) := by rcases ho with rfl | rfl <;> decide
theorem q_kdW_2 {o : Nat} (ho : o = 1 ∨ o = 24) : q_kdC (o + 2) = (1, 10) := by rcases ho with rfl | rfl <;> decide
theorem q_kdW_3 {o : Nat} (ho : o = 1 ∨ o = 24) : q_kdC (o + 3) = (1, 5) := by rcases ho with rfl | rfl <;> decide
theorem q_kdW_4 {o : Nat} (ho : o = 1 ∨ o = 24) : q_kdC (o + 4) = (0, 3) := by rcases ho with rfl | rfl <;> decide
theorem q_rhW_4_1 {o : Nat} (ho : o = 1 ∨ o = 24) : q_rhoC (o + 4) 1 = some (o + 5) := by rcases ho with rfl | rfl <;> decide +kernel
theorem q_rhW_4_2 {o : Nat} (ho : o = 1 ∨ o = 24) : q_rhoC (o + 4) 2 = some (o + 6) := by rcases ho with rfl | rfl <;> decide +kernel
theorem q_rhW_4_3 {o : Nat} (ho : o = 1 ∨ o = 24) : q_rhoC (o + 4) 3 = some (o + 7) := by rcases ho with rfl | rfl <;> decide +kernel
theorem q_rhW_4_4 {o : Nat} (ho : o = 1 ∨ o = 24) : q_rhoC (o + 4) 4 = some (o + 8) := by rcases ho with rfl | rfl <;> decide +kernel
theorem q_rhW_4_5 {o : Nat} (ho : o = 1 ∨ o = 24) : q_rhoC (o + 4) 5 = some (o + 9) := by rcases ho with rfl | rfl <;> decide +kernel
theorem q_rhW_4_6 {o : Nat} (ho : o = 1 ∨ o = 24) : q_rhoC (o + 4) 6 = some (o + 10) := by rcases ho with rfl | rfl <;> decide +kernel
theorem q_rhW_4_7 {o : Nat} (ho : o = 1 ∨ o = 24) : q_rhoC (o + 4) 7 = some (o + 11) := by rcases ho with rfl | rfl <;> decide +kernel
theorem q_rhW_4_8 {o : Nat} (ho : o = 1 ∨ o = 24) : q_rhoC (o + 4) 8 = some (o + 12) := by rcases ho with rfl | rfl <;> decide +kernel
theorem q_rhW_4_9 {o : Nat} (ho : o = 1 ∨ o = 24) : q_rhoC (o + 4) 9 = some (o + 13) := by rcases ho with rfl | rfl <;> decide +kernel
theorem q_kdW_5 {o : Nat} (ho : o = 1 ∨ o = 24) : q_kdC (o + 5) = (1, 100) := by rcases ho with rfl | rfl <;> decide
theorem q_kdW_6 {o : Nat} (ho : o = 1 ∨ o = 24) : q_kdC (o + 6) = (1, 100) := by rcases ho with rfl | rfl <;> decide
theorem q_kdW_7 {o : Nat} (ho : o = 1 ∨ o = 24) : q_kdC (o + 7) = (1, 100) := by rcases ho with rfl | rfl <;> decide
theorem q_kdW_8 {o : Nat} (ho : o = 1 ∨ o = 24) : q_kdC (o + 8) = (1, 100) := by rcases ho with rfl | rfl <;> decide
theorem q_kdW_9 {o : Nat} (ho : o = 1 ∨ o = 24) : q_kdC (o + 9) = (1, 100) := by rcases ho with rfl | rfl <;> decide
theorem q_kdW_10 {o : Nat} (ho : o = 1 ∨ o = 24) : q_kdC (o + 10) = (1, 100) := by rcases ho with rfl | rfl <;> decide
theorem q_kdW_11 {o : Nat} (ho : o = 1 ∨ o = 24) : q_kdC (o + 11) = (1, 100) := by rcases ho with rfl | rfl <;> decide
theorem q_kdW_12 {o : Nat} (ho : o = 1 ∨ o = 24) : q_kdC (o + 12) = (1, 500) := by rcases ho with rfl | rfl <;> decide
theorem q_kdW_13 {o : Nat} (ho : o = 1 ∨ o = 24) : q_kdC (o + 13) = (1, 5) := by rcases ho with rfl | rfl <;> decide
theorem q_kdW_14 {o : Nat} (ho : o = 1 ∨ o = 24) : q_kdC (o + 14) = (0, 0) := by rcases ho with rfl | rfl <;> decide
theorem q_rhW_14_1 {o : Nat} (ho : o = 1 ∨ o = 24) : q_rhoC (o + 14) 1 = some (o + 15) := by rcases ho with rfl | rfl <;> decide +kernel
theorem q_rhW_14_2 {o : Nat} (ho : o = 1 ∨ o = 24) : q_rhoC (o + 14) 2 = some (o + 16) := by rcases ho with rfl | rfl <;> decide +kernel
theorem q_rhW_14_3 {o : Nat} (ho : o = 1 ∨ o = 24) : q_rhoC (o + 14) 3 = some (o + 17) := by rcases ho with rfl | rfl <;> decide +kernel
theorem q_rhW_14_4 {o : Nat} (ho : o = 1 ∨ o = 24) : q_rhoC (o + 14) 4 = some (o + 18) := by rcases ho with rfl | rfl <;> decide +kernel
theorem q_rhW_14_5 {o : Nat} (ho : o = 1 ∨ o = 24) : q_rhoC (o + 14) 5 = some (o + 19) := by rcases ho with rfl | rfl <;> decide +kernel
theorem q_rhW_14_6 {o : Nat} (ho : o = 1 ∨ o = 24) : q_rhoC (o + 14) 6 = some (o + 20) := by rcases ho with rfl | rfl <;> decide +kernel
theorem q_kdW_15 {o : Nat} (ho : o = 1 ∨ o = 24) : q_kdC (o + 15) = (1, 512) := by rcases ho with rfl | rfl <;> decide
theorem q_kdW_16 {o : Nat} (ho : o = 1 ∨ o = 24) : q_kdC (o + 16) = (1, 512) := by rcases ho with rfl | rfl <;> decide
theorem q_kdW_17 {o : Nat} (ho : o = 1 ∨ o = 24) : q_kdC (o + 17) = (1, 512) := by rcases ho with rfl | rfl <;> decide
theorem q_kdW_18 {o : Nat} (ho : o = 1 ∨ o = 24) : q_kdC (o + 18) = (1, 512) := by rcases ho with rfl | rfl <;> decide
theorem q_kdW_19 {o : Nat} (ho : o = 1 ∨ o = 24) : q_kdC (o + 19) = (1, 512) := by rcases ho with rfl | rfl <;> decide
theorem q_kdW_20 {o : Nat} (ho : o = 1 ∨ o = 24) : q_kdC (o + 20) = (1, 25) := by rcases ho with rfl | rfl <;> decide
theorem q_kdW_21 {o : Nat} (ho : o = 1 ∨ o = 24) : q_kdC (o + 21) = (0, 7) := by rcases ho with rfl | rfl <;> decide
theorem q_rhW_21_1 {o : Nat} (ho : o = 1 ∨ o = 24) : q_rhoC (o + 21) 1 = some (o + 22) := by rcases ho with rfl | rfl <;> decide +kernel
theorem q_kdW_22 {o : Nat} (ho : o = 1 ∨ o = 24) : q_kdC (o + 22) = (1, 5) := by rcases ho with rfl | rfl <;> decide
theorem q_ltH {o j : Nat} (ho : o = 5 ∨ o = 28) (hj : Nat.ble j 9 = true) : o + j < 77 := by have := Nat.le_of_ble_eq_true hj; omega
theorem q_ltH0 {o : Nat} (ho : o = 5 ∨ o = 28) : o < 77 := by omega
theorem q_kdH_0 {o : Nat} (ho : o = 5 ∨ o = 28) : q_kdC (o) = (0, 3) := by rcases ho with rfl | rfl <;> decide
theorem q_rhH_0_1 {o : Nat} (ho : o = 5 ∨ o = 28) : q_rhoC (o) 1 = some (o + 1) := by rcases ho with rfl | rfl <;> decide +kernel
theorem q_rhH_0_2 {o : Nat} (ho : o = 5 ∨ o = 28) : q_rhoC (o) 2 = some (o + 2) := by rcases ho with rfl | rfl <;> decide +kernel
theorem q_rhH_0_3 {o : Nat} (ho : o = 5 ∨ o = 28) : q_rhoC (o) 3 = some (o + 3) := by rcases ho with rfl | rfl <;> decide +kernel
theorem q_rhH_0_4 {o : Nat} (ho : o = 5 ∨ o = 28) : q_rhoC (o) 4 = some (o + 4) := by rcases ho with rfl | rfl <;> decide +kernel
theorem q_rhH_0_5 {o : Nat} (ho : o = 5 ∨ o = 28) : q_rhoC (o) 5 = some (o + 5) := by rcases ho with rfl | rfl <;> decide +kernel
theorem q_rhH_0_6 {o : Nat} (ho : o = 5 ∨ o = 28) : q_rhoC (o) 6 = some (o + 6) := by rcases ho with rfl | rfl <;> decide +kernel
theorem q_rhH_0_7 {o : Nat} (ho : o = 5 ∨ o = 28) : q_rhoC (o) 7 = some (o + 7) := by rcases ho with rfl | rfl <;> decide +kernel
theorem q_rhH_0_8 {o : Nat} (ho : o = 5 ∨ o = 28) : q_rhoC (o) 8 = some (o + 8) := by rcases ho with rfl | rfl <;> decide +kernel
theorem q_rhH_0_9 {o : Nat} (ho : o = 5 ∨ o = 28) : q_rhoC (o) 9 = some (o + 9) := by rcases ho with rfl | rfl <;> decide +kernel
theorem q_kdH_1 {o : Nat} (ho : o = 5 ∨ o = 28) : q_kdC (o + 1) = (1, 100) := by rcases ho with rfl | rfl <;> decide
theorem q_kdH_2 {o : Nat} (ho : o = 5 ∨ o = 28) : q_kdC (o + 2) = (1, 100) := by rcases ho with rfl | rfl <;> decide
theorem q_kdH_3 {o : Nat} (ho : o = 5 ∨ o = 28) : q_kdC (o + 3) = (1, 100) := by rcases ho with rfl | rfl <;> decide
theorem q_kdH_4 {o : Nat} (ho : o = 5 ∨ o = 28) : q_kdC (o + 4) = (1, 100) := by rcases ho with rfl | rfl <;> decide
theorem q_kdH_5 {o : Nat} (ho : o = 5 ∨ o = 28) : q_kdC (o + 5) = (1, 100) := by rcases ho with rfl | rfl <;> decide
theorem q_kdH_6 {o : Nat} (ho : o = 5 ∨ o = 28) : q_kdC (o + 6) = (1, 100) := by rcases ho with rfl | rfl <;> decide
theorem q_kdH_7 {o : Nat} (ho : o = 5 ∨ o = 28) : q_kdC (o + 7) = (1, 100) := by rcases ho with rfl | rfl <;> decide
theorem q_kdH_8 {o : Nat} (ho : o = 5 ∨ o = 28) : q_kdC (o + 8) = (1, 500) := by rcases ho with rfl | rfl <;> decide
theorem q_kdH_9 {o : Nat} (ho : o = 5 ∨ o = 28) : q_kdC (o + 9) = (1, 5) := by rcases ho with rfl | rfl <;> decide
theorem q_ltK {o j : Nat} (ho : o = 15 ∨ o = 38) (hj : Nat.ble j 6 = true) : o + j < 77 := by have := Nat.le_of_ble_eq_true hj; omega
theorem q_ltK0 {o : Nat} (ho : o = 15 ∨ o = 38) : o < 77 := by omega
theorem q_kdK_0 {o : Nat} (ho : o = 15 ∨ o = 38) : q_kdC (o) = (0, 0) := by rcases ho with rfl | rfl <;> decide
theorem q_rhK_0_1 {o : Nat} (ho : o = 15 ∨ o = 38) : q_rhoC (o) 1 = some (o + 1) := by rcases ho with rfl | rfl <;> decide +kernel
theorem q_rhK_0_2 {o : Nat} (ho : o = 15 ∨ o = 38) : q_rhoC (o) 2 = some (o + 2) := by rcases ho with rfl | rfl <;> decide +kernel
theorem q_rhK_0_3 {o : Nat} (ho : o = 15 ∨ o = 38) : q_rhoC (o) 3 = some (o + 3) := by rcases ho with rfl | rfl <;> decide +kernel
theorem q_rhK_0_4 {o : Nat} (ho : o = 15 ∨ o = 38) : q_rhoC (o) 4 = some (o + 4) := by rcases ho with rfl | rfl <;> decide +kernel
theorem q_rhK_0_5 {o : Nat} (ho : o = 15 ∨ o = 38) : q_rhoC (o) 5 = some (o + 5) := by rcases ho with rfl | rfl <;> decide +kernel
theorem q_rhK_0_6 {o : Nat} (ho : o = 15 ∨ o = 38) : q_rhoC (o) 6 = some (o + 6) := by rcases ho with rfl | rfl <;> decide +kernel
theorem q_kdK_1 {o : Nat} (ho : o = 15 ∨ o = 38) : q_kdC (o + 1) = (1, 512) := by rcases ho with rfl | rfl <;> decide
theorem q_kdK_2 {o : Nat} (ho : o = 15 ∨ o = 38) : q_kdC (o + 2) = (1, 512) := by rcases ho with rfl | rfl <;> decide
theorem q_kdK_3 {o : Nat} (ho : o = 15 ∨ o = 38) : q_kdC (o + 3) = (1, 512) := by rcases ho with rfl | rfl <;> decide
theorem q_kdK_4 {o : Nat} (ho : o = 15 ∨ o = 38) : q_kdC (o + 4) = (1, 512) := by rcases ho with rfl | rfl <;> decide
theorem q_kdK_5 {o : Nat} (ho : o = 15 ∨ o = 38) : q_kdC (o + 5) = (1, 512) := by rcases ho with rfl | rfl <;> decide
theorem q_kdK_6 {o : Nat} (ho : o = 15 ∨ o = 38) : q_kdC (o + 6) = (1, 25) := by rcases ho with rfl | rfl <;> decide
theorem q_ltS {o j : Nat} (ho : o = 22 ∨ o = 45) (hj : Nat.ble j 1 = true) : o + j < 77 := by have := Nat.le_of_ble_eq_true hj; omega
theorem q_ltS0 {o : Nat} (ho : o = 22 ∨ o = 45) : o < 77 := by omega
theorem q_kdS_0 {o : Nat} (ho : o = 22 ∨ o = 45) : q_kdC (o) = (0, 7) := by rcases ho with rfl | rfl <;> decide
theorem q_rhS_0_1 {o : Nat} (ho : o = 22 ∨ o = 45) : q_rhoC (o) 1 = some (o + 1) := by rcases ho with rfl | rfl <;> decide +kernel
theorem q_kdS_1 {o : Nat} (ho : o = 22 ∨ o = 45) : q_kdC (o + 1) = (1, 5) := by rcases ho with rfl | rfl <;> decide
theorem q_ltF {o j : Nat} (ho : o = 61 ∨ o = 69) (hj : Nat.ble j 7 = true) : o + j < 77 := by have := Nat.le_of_ble_eq_true hj; omega
theorem q_ltF0 {o : Nat} (ho : o = 61 ∨ o = 69) : o < 77 := by omega
theorem q_kdF_0 {o : Nat} (ho : o = 61 ∨ o = 69) : q_kdC (o) = (0, 2) := by rcases ho with rfl | rfl <;> decide
theorem q_rhF_0_0 {o : Nat} (ho : o = 61 ∨ o = 69) : q_rhoC (o) 0 = some (o + 1) := by rcases ho with rfl | rfl <;> decide +kernel
theorem q_rhF_0_1 {o : Nat} (ho : o = 61 ∨ o = 69) : q_rhoC (o) 1 = some (o + 2) := by rcases ho with rfl | rfl <;> decide +kernel
theorem q_rhF_0_2 {o : Nat} (ho : o = 61 ∨ o = 69) : q_rhoC (o) 2 = some (o + 3) := by rcases ho with rfl | rfl <;> decide +kernel
theorem q_rhF_0_3 {o : Nat} (ho : o = 61 ∨ o = 69) : q_rhoC (o) 3 = some (o + 4) := by rcases ho with rfl | rfl <;> decide +kernel
theorem q_rhF_0_4 {o : Nat} (ho : o = 61 ∨ o = 69) : q_rhoC (o) 4 = some (o + 5) := by rcases ho with rfl | rfl <;> decide +kernel
theorem q_rhF_0_5 {o : Nat} (ho : o = 61 ∨ o = 69) : q_rhoC (o) 5 = some (o + 6) := by rcases ho with rfl | rfl <;> decide +kernel
theorem q_rhF_0_6 {o : Nat} (ho : o = 61 ∨ o = 69) : q_rhoC (o) 6 = some (o + 7) := by rcases ho with rfl | rfl <;> decide +kernel
theorem q_kdF_1 {o : Nat} (ho : o = 61 ∨ o = 69) : q_kdC (o + 1) = (1, 49) := by rcases ho with rfl | rfl <;> decide
theorem q_kdF_2 {o : Nat} (ho : o = 61 ∨ o = 69) : q_kdC (o + 2) = (1, 49) := by rcases ho with rfl | rfl <;> decide
theorem q_kdF_3 {o : Nat} (ho : o = 61 ∨ o = 69) : q_kdC (o + 3) = (1, 49) := by rcases ho with rfl | rfl <;> decide
theorem q_kdF_4 {o : Nat} (ho : o = 61 ∨ o = 69) : q_kdC (o + 4) = (2, 49) := by rcases ho with rfl | rfl <;> decide
theorem q_kdF_5 {o : Nat} (ho : o = 61 ∨ o = 69) : q_kdC (o + 5) = (1, 7) := by rcases ho with rfl | rfl <;> decide
theorem q_kdF_6 {o : Nat} (ho : o = 61 ∨ o = 69) : q_kdC (o + 6) = (2, 7) := by rcases ho with rfl | rfl <;> decide
theorem q_kdF_7 {o : Nat} (ho : o = 61 ∨ o = 69) : q_kdC (o + 7) = (1, 7) := by rcases ho with rfl | rfl <;> decide
