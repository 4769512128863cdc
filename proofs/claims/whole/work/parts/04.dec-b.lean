theorem dX9_init_0 : decode cX9_init 0 = .ok (.aload_n 0, 1) := by decide +kernel
theorem dX9_init_1 : decode cX9_init 1 = .ok (.invokespecial 3, 3) := by decide +kernel
theorem dX9_init_4 : decode cX9_init 4 = .ok (.aload_n 0, 1) := by decide +kernel
theorem dX9_init_5 : decode cX9_init 5 = .ok (.bipush 10, 2) := by decide +kernel
theorem dX9_init_7 : decode cX9_init 7 = .ok (.newarray .int, 2) := by decide +kernel
theorem dX9_init_9 : decode cX9_init 9 = .ok (.putfield 9, 3) := by decide +kernel
theorem dX9_init_12 : decode cX9_init 12 = .ok (.aload_n 0, 1) := by decide +kernel
theorem dX9_init_13 : decode cX9_init 13 = .ok (.bipush 10, 2) := by decide +kernel
theorem dX9_init_15 : decode cX9_init 15 = .ok (.newarray .int, 2) := by decide +kernel
theorem dX9_init_17 : decode cX9_init 17 = .ok (.putfield 15, 3) := by decide +kernel
theorem dX9_init_20 : decode cX9_init 20 = .ok (.aload_n 0, 1) := by decide +kernel
theorem dX9_init_21 : decode cX9_init 21 = .ok (.iconst 5, 1) := by decide +kernel
theorem dX9_init_22 : decode cX9_init 22 = .ok (.newarray .int, 2) := by decide +kernel
theorem dX9_init_24 : decode cX9_init 24 = .ok (.putfield 18, 3) := by decide +kernel
theorem dX9_init_27 : decode cX9_init 27 = .ok (.aload_n 0, 1) := by decide +kernel
theorem dX9_init_28 : decode cX9_init 28 = .ok (.new 21, 3) := by decide +kernel
theorem dX9_init_31 : decode cX9_init 31 = .ok (.dup, 1) := by decide +kernel
theorem dX9_init_32 : decode cX9_init 32 = .ok (.invokespecial 23, 3) := by decide +kernel
theorem dX9_init_35 : decode cX9_init 35 = .ok (.putfield 24, 3) := by decide +kernel
theorem dX9_init_38 : decode cX9_init 38 = .ok (.aload_n 0, 1) := by decide +kernel
theorem dX9_init_39 : decode cX9_init 39 = .ok (.new 28, 3) := by decide +kernel
theorem dX9_init_42 : decode cX9_init 42 = .ok (.dup, 1) := by decide +kernel
theorem dX9_init_43 : decode cX9_init 43 = .ok (.invokespecial 30, 3) := by decide +kernel
theorem dX9_init_46 : decode cX9_init 46 = .ok (.putfield 31, 3) := by decide +kernel
theorem dX9_init_49 : decode cX9_init 49 = .ok (.aload_n 0, 1) := by decide +kernel
theorem dX9_init_50 : decode cX9_init 50 = .ok (.new 35, 3) := by decide +kernel
theorem dX9_init_53 : decode cX9_init 53 = .ok (.dup, 1) := by decide +kernel
theorem dX9_init_54 : decode cX9_init 54 = .ok (.invokespecial 37, 3) := by decide +kernel
theorem dX9_init_57 : decode cX9_init 57 = .ok (.putfield 38, 3) := by decide +kernel
theorem dX9_init_60 : decode cX9_init 60 = .ok (.return_, 1) := by decide +kernel
theorem dX9_begin_0 : decode cX9_begin 0 = .ok (.aload_n 0, 1) := by decide +kernel
theorem dX9_begin_1 : decode cX9_begin 1 = .ok (.iload_n 1, 1) := by decide +kernel
theorem dX9_begin_2 : decode cX9_begin 2 = .ok (.putfield 42, 3) := by decide +kernel
theorem dX9_begin_5 : decode cX9_begin 5 = .ok (.aload_n 0, 1) := by decide +kernel
theorem dX9_begin_6 : decode cX9_begin 6 = .ok (.getfield 9, 3) := by decide +kernel
theorem dX9_begin_9 : decode cX9_begin 9 = .ok (.iconst 0, 1) := by decide +kernel
theorem dX9_begin_10 : decode cX9_begin 10 = .ok (.invokestatic 46, 3) := by decide +kernel
theorem dX9_begin_13 : decode cX9_begin 13 = .ok (.aload_n 0, 1) := by decide +kernel
theorem dX9_begin_14 : decode cX9_begin 14 = .ok (.getfield 15, 3) := by decide +kernel
theorem dX9_begin_17 : decode cX9_begin 17 = .ok (.iconst 0, 1) := by decide +kernel
theorem dX9_begin_18 : decode cX9_begin 18 = .ok (.invokestatic 46, 3) := by decide +kernel
theorem dX9_begin_21 : decode cX9_begin 21 = .ok (.aload_n 0, 1) := by decide +kernel
theorem dX9_begin_22 : decode cX9_begin 22 = .ok (.getfield 18, 3) := by decide +kernel
theorem dX9_begin_25 : decode cX9_begin 25 = .ok (.iconst 0, 1) := by decide +kernel
theorem dX9_begin_26 : decode cX9_begin 26 = .ok (.invokestatic 46, 3) := by decide +kernel
theorem dX9_begin_29 : decode cX9_begin 29 = .ok (.aload_n 0, 1) := by decide +kernel
theorem dX9_begin_30 : decode cX9_begin 30 = .ok (.getfield 24, 3) := by decide +kernel
theorem dX9_begin_33 : decode cX9_begin 33 = .ok (.invokevirtual 52, 3) := by decide +kernel
theorem dX9_begin_36 : decode cX9_begin 36 = .ok (.aload_n 0, 1) := by decide +kernel
theorem dX9_begin_37 : decode cX9_begin 37 = .ok (.getfield 31, 3) := by decide +kernel
theorem dX9_begin_40 : decode cX9_begin 40 = .ok (.invokevirtual 55, 3) := by decide +kernel
theorem dX9_begin_43 : decode cX9_begin 43 = .ok (.aload_n 0, 1) := by decide +kernel
theorem dX9_begin_44 : decode cX9_begin 44 = .ok (.getfield 38, 3) := by decide +kernel
theorem dX9_begin_47 : decode cX9_begin 47 = .ok (.invokevirtual 58, 3) := by decide +kernel
theorem dX9_begin_50 : decode cX9_begin 50 = .ok (.return_, 1) := by decide +kernel
theorem dX9_copyFrom_0 : decode cX9_copyFrom 0 = .ok (.aload_n 0, 1) := by decide +kernel
theorem dX9_copyFrom_1 : decode cX9_copyFrom 1 = .ok (.aload_n 1, 1) := by decide +kernel
theorem dX9_copyFrom_2 : decode cX9_copyFrom 2 = .ok (.getfield 42, 3) := by decide +kernel
theorem dX9_copyFrom_5 : decode cX9_copyFrom 5 = .ok (.putfield 42, 3) := by decide +kernel
theorem dX9_copyFrom_8 : decode cX9_copyFrom 8 = .ok (.aload_n 1, 1) := by decide +kernel
theorem dX9_copyFrom_9 : decode cX9_copyFrom 9 = .ok (.getfield 9, 3) := by decide +kernel
theorem dX9_copyFrom_12 : decode cX9_copyFrom 12 = .ok (.aload_n 0, 1) := by decide +kernel
theorem dX9_copyFrom_13 : decode cX9_copyFrom 13 = .ok (.getfield 9, 3) := by decide +kernel
theorem dX9_copyFrom_16 : decode cX9_copyFrom 16 = .ok (.invokestatic 59, 3) := by decide +kernel
theorem dX9_copyFrom_19 : decode cX9_copyFrom 19 = .ok (.aload_n 1, 1) := by decide +kernel
theorem dX9_copyFrom_20 : decode cX9_copyFrom 20 = .ok (.getfield 15, 3) := by decide +kernel
theorem dX9_copyFrom_23 : decode cX9_copyFrom 23 = .ok (.aload_n 0, 1) := by decide +kernel
theorem dX9_copyFrom_24 : decode cX9_copyFrom 24 = .ok (.getfield 15, 3) := by decide +kernel
theorem dX9_copyFrom_27 : decode cX9_copyFrom 27 = .ok (.invokestatic 59, 3) := by decide +kernel
theorem dX9_copyFrom_30 : decode cX9_copyFrom 30 = .ok (.aload_n 1, 1) := by decide +kernel
theorem dX9_copyFrom_31 : decode cX9_copyFrom 31 = .ok (.getfield 18, 3) := by decide +kernel
theorem dX9_copyFrom_34 : decode cX9_copyFrom 34 = .ok (.aload_n 0, 1) := by decide +kernel
theorem dX9_copyFrom_35 : decode cX9_copyFrom 35 = .ok (.getfield 18, 3) := by decide +kernel
theorem dX9_copyFrom_38 : decode cX9_copyFrom 38 = .ok (.invokestatic 59, 3) := by decide +kernel
theorem dX9_copyFrom_41 : decode cX9_copyFrom 41 = .ok (.aload_n 0, 1) := by decide +kernel
theorem dX9_copyFrom_42 : decode cX9_copyFrom 42 = .ok (.getfield 24, 3) := by decide +kernel
theorem dX9_copyFrom_45 : decode cX9_copyFrom 45 = .ok (.aload_n 1, 1) := by decide +kernel
theorem dX9_copyFrom_46 : decode cX9_copyFrom 46 = .ok (.getfield 24, 3) := by decide +kernel
theorem dX9_copyFrom_49 : decode cX9_copyFrom 49 = .ok (.invokevirtual 63, 3) := by decide +kernel
theorem dX9_copyFrom_52 : decode cX9_copyFrom 52 = .ok (.aload_n 0, 1) := by decide +kernel
theorem dX9_copyFrom_53 : decode cX9_copyFrom 53 = .ok (.getfield 31, 3) := by decide +kernel
theorem dX9_copyFrom_56 : decode cX9_copyFrom 56 = .ok (.aload_n 1, 1) := by decide +kernel
theorem dX9_copyFrom_57 : decode cX9_copyFrom 57 = .ok (.getfield 31, 3) := by decide +kernel
theorem dX9_copyFrom_60 : decode cX9_copyFrom 60 = .ok (.invokevirtual 67, 3) := by decide +kernel
theorem dX9_copyFrom_63 : decode cX9_copyFrom 63 = .ok (.aload_n 0, 1) := by decide +kernel
theorem dX9_copyFrom_64 : decode cX9_copyFrom 64 = .ok (.getfield 38, 3) := by decide +kernel
theorem dX9_copyFrom_67 : decode cX9_copyFrom 67 = .ok (.aload_n 1, 1) := by decide +kernel
theorem dX9_copyFrom_68 : decode cX9_copyFrom 68 = .ok (.getfield 38, 3) := by decide +kernel
theorem dX9_copyFrom_71 : decode cX9_copyFrom 71 = .ok (.invokevirtual 70, 3) := by decide +kernel
theorem dX9_copyFrom_74 : decode cX9_copyFrom 74 = .ok (.return_, 1) := by decide +kernel
theorem dX9_beginAfterCutOf_0 : decode cX9_beginAfterCutOf 0 = .ok (.aload_n 0, 1) := by decide +kernel
theorem dX9_beginAfterCutOf_1 : decode cX9_beginAfterCutOf 1 = .ok (.aload_n 1, 1) := by decide +kernel
theorem dX9_beginAfterCutOf_2 : decode cX9_beginAfterCutOf 2 = .ok (.getfield 42, 3) := by decide +kernel
theorem dX9_beginAfterCutOf_5 : decode cX9_beginAfterCutOf 5 = .ok (.invokevirtual 73, 3) := by decide +kernel
theorem dX9_beginAfterCutOf_8 : decode cX9_beginAfterCutOf 8 = .ok (.iconst 0, 1) := by decide +kernel
theorem dX9_beginAfterCutOf_9 : decode cX9_beginAfterCutOf 9 = .ok (.istore_n 2, 1) := by decide +kernel
theorem dX9_beginAfterCutOf_10 : decode cX9_beginAfterCutOf 10 = .ok (.iload_n 2, 1) := by decide +kernel
theorem dX9_beginAfterCutOf_11 : decode cX9_beginAfterCutOf 11 = .ok (.aload_n 1, 1) := by decide +kernel
theorem dX9_beginAfterCutOf_12 : decode cX9_beginAfterCutOf 12 = .ok (.getfield 31, 3) := by decide +kernel
theorem dX9_beginAfterCutOf_15 : decode cX9_beginAfterCutOf 15 = .ok (.getfield 77, 3) := by decide +kernel
theorem dX9_beginAfterCutOf_18 : decode cX9_beginAfterCutOf 18 = .ok (.if_icmp .ge 53, 3) := by decide +kernel
theorem dX9_beginAfterCutOf_21 : decode cX9_beginAfterCutOf 21 = .ok (.aload_n 1, 1) := by decide +kernel
theorem dX9_beginAfterCutOf_22 : decode cX9_beginAfterCutOf 22 = .ok (.iload_n 2, 1) := by decide +kernel
theorem dX9_beginAfterCutOf_23 : decode cX9_beginAfterCutOf 23 = .ok (.invokevirtual 80, 3) := by decide +kernel
theorem dX9_beginAfterCutOf_26 : decode cX9_beginAfterCutOf 26 = .ok (.ifCond .eq 39, 3) := by decide +kernel
theorem dX9_beginAfterCutOf_29 : decode cX9_beginAfterCutOf 29 = .ok (.aload_n 0, 1) := by decide +kernel
theorem dX9_beginAfterCutOf_30 : decode cX9_beginAfterCutOf 30 = .ok (.getfield 31, 3) := by decide +kernel
theorem dX9_beginAfterCutOf_33 : decode cX9_beginAfterCutOf 33 = .ok (.aload_n 1, 1) := by decide +kernel
theorem dX9_beginAfterCutOf_34 : decode cX9_beginAfterCutOf 34 = .ok (.getfield 31, 3) := by decide +kernel
theorem dX9_beginAfterCutOf_37 : decode cX9_beginAfterCutOf 37 = .ok (.getfield 84, 3) := by decide +kernel
theorem dX9_beginAfterCutOf_40 : decode cX9_beginAfterCutOf 40 = .ok (.iload_n 2, 1) := by decide +kernel
theorem dX9_beginAfterCutOf_41 : decode cX9_beginAfterCutOf 41 = .ok (.iaload, 1) := by decide +kernel
theorem dX9_beginAfterCutOf_42 : decode cX9_beginAfterCutOf 42 = .ok (.aload_n 1, 1) := by decide +kernel
theorem dX9_beginAfterCutOf_43 : decode cX9_beginAfterCutOf 43 = .ok (.getfield 31, 3) := by decide +kernel
theorem dX9_beginAfterCutOf_46 : decode cX9_beginAfterCutOf 46 = .ok (.getfield 87, 3) := by decide +kernel
theorem dX9_beginAfterCutOf_49 : decode cX9_beginAfterCutOf 49 = .ok (.iload_n 2, 1) := by decide +kernel
theorem dX9_beginAfterCutOf_50 : decode cX9_beginAfterCutOf 50 = .ok (.iaload, 1) := by decide +kernel
theorem dX9_beginAfterCutOf_51 : decode cX9_beginAfterCutOf 51 = .ok (.aload_n 1, 1) := by decide +kernel
theorem dX9_beginAfterCutOf_52 : decode cX9_beginAfterCutOf 52 = .ok (.getfield 31, 3) := by decide +kernel
theorem dX9_beginAfterCutOf_55 : decode cX9_beginAfterCutOf 55 = .ok (.getfield 90, 3) := by decide +kernel
theorem dX9_beginAfterCutOf_58 : decode cX9_beginAfterCutOf 58 = .ok (.iload_n 2, 1) := by decide +kernel
theorem dX9_beginAfterCutOf_59 : decode cX9_beginAfterCutOf 59 = .ok (.iaload, 1) := by decide +kernel
theorem dX9_beginAfterCutOf_60 : decode cX9_beginAfterCutOf 60 = .ok (.iconst (-1), 1) := by decide +kernel
theorem dX9_beginAfterCutOf_61 : decode cX9_beginAfterCutOf 61 = .ok (.invokevirtual 93, 3) := by decide +kernel
theorem dX9_beginAfterCutOf_64 : decode cX9_beginAfterCutOf 64 = .ok (.pop, 1) := by decide +kernel
theorem dX9_beginAfterCutOf_65 : decode cX9_beginAfterCutOf 65 = .ok (.iinc 2 1, 3) := by decide +kernel
theorem dX9_beginAfterCutOf_68 : decode cX9_beginAfterCutOf 68 = .ok (.goto (-58), 3) := by decide +kernel
theorem dX9_beginAfterCutOf_71 : decode cX9_beginAfterCutOf 71 = .ok (.return_, 1) := by decide +kernel
theorem dX9_tryChange_0 : decode cX9_tryChange 0 = .ok (.aload_n 0, 1) := by decide +kernel
theorem dX9_tryChange_1 : decode cX9_tryChange 1 = .ok (.getfield 9, 3) := by decide +kernel
theorem dX9_tryChange_4 : decode cX9_tryChange 4 = .ok (.iload_n 1, 1) := by decide +kernel
theorem dX9_tryChange_5 : decode cX9_tryChange 5 = .ok (.iload_n 2, 1) := by decide +kernel
theorem dX9_tryChange_6 : decode cX9_tryChange 6 = .ok (.invokestatic 97, 3) := by decide +kernel
theorem dX9_tryChange_9 : decode cX9_tryChange 9 = .ok (.iaload, 1) := by decide +kernel
theorem dX9_tryChange_10 : decode cX9_tryChange 10 = .ok (.iload_n 3, 1) := by decide +kernel
theorem dX9_tryChange_11 : decode cX9_tryChange 11 = .ok (.iadd, 1) := by decide +kernel
theorem dX9_tryChange_12 : decode cX9_tryChange 12 = .ok (.istore 4, 2) := by decide +kernel
theorem dX9_tryChange_14 : decode cX9_tryChange 14 = .ok (.iload 4, 2) := by decide +kernel
theorem dX9_tryChange_16 : decode cX9_tryChange 16 = .ok (.iconst 0, 1) := by decide +kernel
theorem dX9_tryChange_17 : decode cX9_tryChange 17 = .ok (.sipush 1000, 3) := by decide +kernel
theorem dX9_tryChange_20 : decode cX9_tryChange 20 = .ok (.invokestatic 101, 3) := by decide +kernel
theorem dX9_tryChange_23 : decode cX9_tryChange 23 = .ok (.ifCond .ne 6, 3) := by decide +kernel
theorem dX9_tryChange_26 : decode cX9_tryChange 26 = .ok (.ldc 105, 2) := by decide +kernel
theorem dX9_tryChange_28 : decode cX9_tryChange 28 = .ok (.ireturn, 1) := by decide +kernel
theorem dX9_tryChange_29 : decode cX9_tryChange 29 = .ok (.aload_n 0, 1) := by decide +kernel
theorem dX9_tryChange_30 : decode cX9_tryChange 30 = .ok (.getfield 24, 3) := by decide +kernel
theorem dX9_tryChange_33 : decode cX9_tryChange 33 = .ok (.getfield 106, 3) := by decide +kernel
theorem dX9_tryChange_36 : decode cX9_tryChange 36 = .ok (.bipush 100, 2) := by decide +kernel
theorem dX9_tryChange_38 : decode cX9_tryChange 38 = .ok (.if_icmp .lt 6, 3) := by decide +kernel
theorem dX9_tryChange_41 : decode cX9_tryChange 41 = .ok (.ldc 107, 2) := by decide +kernel
theorem dX9_tryChange_43 : decode cX9_tryChange 43 = .ok (.ireturn, 1) := by decide +kernel
theorem dX9_tryChange_44 : decode cX9_tryChange 44 = .ok (.aload_n 0, 1) := by decide +kernel
theorem dX9_tryChange_45 : decode cX9_tryChange 45 = .ok (.getfield 9, 3) := by decide +kernel
theorem dX9_tryChange_48 : decode cX9_tryChange 48 = .ok (.iload_n 1, 1) := by decide +kernel
theorem dX9_tryChange_49 : decode cX9_tryChange 49 = .ok (.iload_n 2, 1) := by decide +kernel
theorem dX9_tryChange_50 : decode cX9_tryChange 50 = .ok (.invokestatic 97, 3) := by decide +kernel
theorem dX9_tryChange_53 : decode cX9_tryChange 53 = .ok (.iload 4, 2) := by decide +kernel
theorem dX9_tryChange_55 : decode cX9_tryChange 55 = .ok (.iastore, 1) := by decide +kernel
theorem dX9_tryChange_56 : decode cX9_tryChange 56 = .ok (.aload_n 0, 1) := by decide +kernel
theorem dX9_tryChange_57 : decode cX9_tryChange 57 = .ok (.getfield 24, 3) := by decide +kernel
theorem dX9_tryChange_60 : decode cX9_tryChange 60 = .ok (.iload_n 1, 1) := by decide +kernel
theorem dX9_tryChange_61 : decode cX9_tryChange 61 = .ok (.iconst 0, 1) := by decide +kernel
theorem dX9_tryChange_62 : decode cX9_tryChange 62 = .ok (.iconst (-1), 1) := by decide +kernel
theorem dX9_tryChange_63 : decode cX9_tryChange 63 = .ok (.invokevirtual 108, 3) := by decide +kernel
theorem dX9_tryChange_66 : decode cX9_tryChange 66 = .ok (.istore 5, 2) := by decide +kernel
theorem dX9_tryChange_68 : decode cX9_tryChange 68 = .ok (.aload_n 0, 1) := by decide +kernel
theorem dX9_tryChange_69 : decode cX9_tryChange 69 = .ok (.getfield 24, 3) := by decide +kernel
theorem dX9_tryChange_72 : decode cX9_tryChange 72 = .ok (.iload 5, 2) := by decide +kernel
theorem dX9_tryChange_74 : decode cX9_tryChange 74 = .ok (.iload_n 2, 1) := by decide +kernel
theorem dX9_tryChange_75 : decode cX9_tryChange 75 = .ok (.iload_n 3, 1) := by decide +kernel
theorem dX9_tryChange_76 : decode cX9_tryChange 76 = .ok (.ldc 112, 2) := by decide +kernel
theorem dX9_tryChange_78 : decode cX9_tryChange 78 = .ok (.invokevirtual 113, 3) := by decide +kernel
theorem dX9_tryChange_81 : decode cX9_tryChange 81 = .ok (.iload 5, 2) := by decide +kernel
theorem dX9_tryChange_83 : decode cX9_tryChange 83 = .ok (.ireturn, 1) := by decide +kernel
theorem dX9_trySend_0 : decode cX9_trySend 0 = .ok (.aload_n 0, 1) := by decide +kernel
theorem dX9_trySend_1 : decode cX9_trySend 1 = .ok (.getfield 9, 3) := by decide +kernel
theorem dX9_trySend_4 : decode cX9_trySend 4 = .ok (.iload_n 1, 1) := by decide +kernel
theorem dX9_trySend_5 : decode cX9_trySend 5 = .ok (.iload_n 3, 1) := by decide +kernel
theorem dX9_trySend_6 : decode cX9_trySend 6 = .ok (.invokestatic 97, 3) := by decide +kernel
theorem dX9_trySend_9 : decode cX9_trySend 9 = .ok (.iaload, 1) := by decide +kernel
theorem dX9_trySend_10 : decode cX9_trySend 10 = .ok (.iload 4, 2) := by decide +kernel
theorem dX9_trySend_12 : decode cX9_trySend 12 = .ok (.isub, 1) := by decide +kernel
theorem dX9_trySend_13 : decode cX9_trySend 13 = .ok (.istore 5, 2) := by decide +kernel
theorem dX9_trySend_15 : decode cX9_trySend 15 = .ok (.iload 5, 2) := by decide +kernel
theorem dX9_trySend_17 : decode cX9_trySend 17 = .ok (.ifCond .ge 6, 3) := by decide +kernel
theorem dX9_trySend_20 : decode cX9_trySend 20 = .ok (.ldc 105, 2) := by decide +kernel
theorem dX9_trySend_22 : decode cX9_trySend 22 = .ok (.ireturn, 1) := by decide +kernel
theorem dX9_trySend_23 : decode cX9_trySend 23 = .ok (.iload_n 1, 1) := by decide +kernel
theorem dX9_trySend_24 : decode cX9_trySend 24 = .ok (.iload_n 2, 1) := by decide +kernel
theorem dX9_trySend_25 : decode cX9_trySend 25 = .ok (.invokestatic 117, 3) := by decide +kernel
theorem dX9_trySend_28 : decode cX9_trySend 28 = .ok (.istore 6, 2) := by decide +kernel
theorem dX9_trySend_30 : decode cX9_trySend 30 = .ok (.aload_n 0, 1) := by decide +kernel
theorem dX9_trySend_31 : decode cX9_trySend 31 = .ok (.getfield 24, 3) := by decide +kernel
theorem dX9_trySend_34 : decode cX9_trySend 34 = .ok (.getfield 106, 3) := by decide +kernel
theorem dX9_trySend_37 : decode cX9_trySend 37 = .ok (.bipush 100, 2) := by decide +kernel
theorem dX9_trySend_39 : decode cX9_trySend 39 = .ok (.if_icmp .ge 30, 3) := by decide +kernel
theorem dX9_trySend_42 : decode cX9_trySend 42 = .ok (.aload_n 0, 1) := by decide +kernel
theorem dX9_trySend_43 : decode cX9_trySend 43 = .ok (.getfield 31, 3) := by decide +kernel
theorem dX9_trySend_46 : decode cX9_trySend 46 = .ok (.getfield 77, 3) := by decide +kernel
theorem dX9_trySend_49 : decode cX9_trySend 49 = .ok (.sipush 512, 3) := by decide +kernel
theorem dX9_trySend_52 : decode cX9_trySend 52 = .ok (.if_icmp .ge 17, 3) := by decide +kernel
theorem dX9_trySend_55 : decode cX9_trySend 55 = .ok (.aload_n 0, 1) := by decide +kernel
theorem dX9_trySend_56 : decode cX9_trySend 56 = .ok (.getfield 31, 3) := by decide +kernel
theorem dX9_trySend_59 : decode cX9_trySend 59 = .ok (.iload 6, 2) := by decide +kernel
theorem dX9_trySend_61 : decode cX9_trySend 61 = .ok (.invokevirtual 119, 3) := by decide +kernel
theorem dX9_trySend_64 : decode cX9_trySend 64 = .ok (.bipush 6, 2) := by decide +kernel
theorem dX9_trySend_66 : decode cX9_trySend 66 = .ok (.if_icmp .lt 6, 3) := by decide +kernel
theorem dX9_trySend_69 : decode cX9_trySend 69 = .ok (.ldc 107, 2) := by decide +kernel
theorem dX9_trySend_71 : decode cX9_trySend 71 = .ok (.ireturn, 1) := by decide +kernel
theorem dX9_trySend_72 : decode cX9_trySend 72 = .ok (.aload_n 0, 1) := by decide +kernel
theorem dX9_trySend_73 : decode cX9_trySend 73 = .ok (.getfield 9, 3) := by decide +kernel
theorem dX9_trySend_76 : decode cX9_trySend 76 = .ok (.iload_n 1, 1) := by decide +kernel
theorem dX9_trySend_77 : decode cX9_trySend 77 = .ok (.iload_n 3, 1) := by decide +kernel
theorem dX9_trySend_78 : decode cX9_trySend 78 = .ok (.invokestatic 97, 3) := by decide +kernel
theorem dX9_trySend_81 : decode cX9_trySend 81 = .ok (.iload 5, 2) := by decide +kernel
theorem dX9_trySend_83 : decode cX9_trySend 83 = .ok (.iastore, 1) := by decide +kernel
theorem dX9_trySend_84 : decode cX9_trySend 84 = .ok (.aload_n 0, 1) := by decide +kernel
theorem dX9_trySend_85 : decode cX9_trySend 85 = .ok (.getfield 31, 3) := by decide +kernel
theorem dX9_trySend_88 : decode cX9_trySend 88 = .ok (.iload 6, 2) := by decide +kernel
theorem dX9_trySend_90 : decode cX9_trySend 90 = .ok (.iload_n 3, 1) := by decide +kernel
theorem dX9_trySend_91 : decode cX9_trySend 91 = .ok (.iload 4, 2) := by decide +kernel
theorem dX9_trySend_93 : decode cX9_trySend 93 = .ok (.aload_n 0, 1) := by decide +kernel
theorem dX9_trySend_94 : decode cX9_trySend 94 = .ok (.getfield 24, 3) := by decide +kernel
theorem dX9_trySend_97 : decode cX9_trySend 97 = .ok (.getfield 106, 3) := by decide +kernel
theorem dX9_trySend_100 : decode cX9_trySend 100 = .ok (.invokevirtual 93, 3) := by decide +kernel
theorem dX9_trySend_103 : decode cX9_trySend 103 = .ok (.istore 7, 2) := by decide +kernel
theorem dX9_trySend_105 : decode cX9_trySend 105 = .ok (.aload_n 0, 1) := by decide +kernel
theorem dX9_trySend_106 : decode cX9_trySend 106 = .ok (.getfield 24, 3) := by decide +kernel
theorem dX9_trySend_109 : decode cX9_trySend 109 = .ok (.iload_n 1, 1) := by decide +kernel
theorem dX9_trySend_110 : decode cX9_trySend 110 = .ok (.iconst 1, 1) := by decide +kernel
theorem dX9_trySend_111 : decode cX9_trySend 111 = .ok (.iload 7, 2) := by decide +kernel
theorem dX9_trySend_113 : decode cX9_trySend 113 = .ok (.invokevirtual 108, 3) := by decide +kernel
theorem dX9_trySend_116 : decode cX9_trySend 116 = .ok (.istore 8, 2) := by decide +kernel
theorem dX9_trySend_118 : decode cX9_trySend 118 = .ok (.aload_n 0, 1) := by decide +kernel
theorem dX9_trySend_119 : decode cX9_trySend 119 = .ok (.getfield 24, 3) := by decide +kernel
theorem dX9_trySend_122 : decode cX9_trySend 122 = .ok (.iload 8, 2) := by decide +kernel
theorem dX9_trySend_124 : decode cX9_trySend 124 = .ok (.iload_n 3, 1) := by decide +kernel
theorem dX9_trySend_125 : decode cX9_trySend 125 = .ok (.iload 4, 2) := by decide +kernel
theorem dX9_trySend_127 : decode cX9_trySend 127 = .ok (.iload_n 2, 1) := by decide +kernel
theorem dX9_trySend_128 : decode cX9_trySend 128 = .ok (.invokevirtual 113, 3) := by decide +kernel
theorem dX9_trySend_131 : decode cX9_trySend 131 = .ok (.iload 8, 2) := by decide +kernel
theorem dX9_trySend_133 : decode cX9_trySend 133 = .ok (.ireturn, 1) := by decide +kernel
theorem dX9_tryReceive_0 : decode cX9_tryReceive 0 = .ok (.iload_n 2, 1) := by decide +kernel
theorem dX9_tryReceive_1 : decode cX9_tryReceive 1 = .ok (.iload_n 1, 1) := by decide +kernel
theorem dX9_tryReceive_2 : decode cX9_tryReceive 2 = .ok (.invokestatic 117, 3) := by decide +kernel
theorem dX9_tryReceive_5 : decode cX9_tryReceive 5 = .ok (.istore_n 3, 1) := by decide +kernel
theorem dX9_tryReceive_6 : decode cX9_tryReceive 6 = .ok (.aload_n 0, 1) := by decide +kernel
theorem dX9_tryReceive_7 : decode cX9_tryReceive 7 = .ok (.getfield 31, 3) := by decide +kernel
theorem dX9_tryReceive_10 : decode cX9_tryReceive 10 = .ok (.iload_n 3, 1) := by decide +kernel
theorem dX9_tryReceive_11 : decode cX9_tryReceive 11 = .ok (.iconst 0, 1) := by decide +kernel
theorem dX9_tryReceive_12 : decode cX9_tryReceive 12 = .ok (.invokevirtual 123, 3) := by decide +kernel
theorem dX9_tryReceive_15 : decode cX9_tryReceive 15 = .ok (.istore 4, 2) := by decide +kernel
theorem dX9_tryReceive_17 : decode cX9_tryReceive 17 = .ok (.aload_n 0, 1) := by decide +kernel
theorem dX9_tryReceive_18 : decode cX9_tryReceive 18 = .ok (.getfield 31, 3) := by decide +kernel
theorem dX9_tryReceive_21 : decode cX9_tryReceive 21 = .ok (.iload_n 3, 1) := by decide +kernel
theorem dX9_tryReceive_22 : decode cX9_tryReceive 22 = .ok (.invokevirtual 126, 3) := by decide +kernel
theorem dX9_tryReceive_25 : decode cX9_tryReceive 25 = .ok (.ifCond .ne 13, 3) := by decide +kernel
theorem dX9_tryReceive_28 : decode cX9_tryReceive 28 = .ok (.aload_n 0, 1) := by decide +kernel
theorem dX9_tryReceive_29 : decode cX9_tryReceive 29 = .ok (.iload_n 1, 1) := by decide +kernel
theorem dX9_tryReceive_30 : decode cX9_tryReceive 30 = .ok (.iload_n 3, 1) := by decide +kernel
theorem dX9_tryReceive_31 : decode cX9_tryReceive 31 = .ok (.invokevirtual 129, 3) := by decide +kernel
theorem dX9_tryReceive_34 : decode cX9_tryReceive 34 = .ok (.sipush 1000, 3) := by decide +kernel
theorem dX9_tryReceive_37 : decode cX9_tryReceive 37 = .ok (.ireturn, 1) := by decide +kernel
theorem dX9_tryReceive_38 : decode cX9_tryReceive 38 = .ok (.iload 4, 2) := by decide +kernel
theorem dX9_tryReceive_40 : decode cX9_tryReceive 40 = .ok (.iconst (-1), 1) := by decide +kernel
theorem dX9_tryReceive_41 : decode cX9_tryReceive 41 = .ok (.if_icmp .ne 6, 3) := by decide +kernel
theorem dX9_tryReceive_44 : decode cX9_tryReceive 44 = .ok (.ldc 112, 2) := by decide +kernel
theorem dX9_tryReceive_46 : decode cX9_tryReceive 46 = .ok (.ireturn, 1) := by decide +kernel
theorem dX9_tryReceive_47 : decode cX9_tryReceive 47 = .ok (.aload_n 0, 1) := by decide +kernel
theorem dX9_tryReceive_48 : decode cX9_tryReceive 48 = .ok (.getfield 31, 3) := by decide +kernel
theorem dX9_tryReceive_51 : decode cX9_tryReceive 51 = .ok (.getfield 87, 3) := by decide +kernel
theorem dX9_tryReceive_54 : decode cX9_tryReceive 54 = .ok (.iload 4, 2) := by decide +kernel
theorem dX9_tryReceive_56 : decode cX9_tryReceive 56 = .ok (.iaload, 1) := by decide +kernel
theorem dX9_tryReceive_57 : decode cX9_tryReceive 57 = .ok (.istore 5, 2) := by decide +kernel
theorem dX9_tryReceive_59 : decode cX9_tryReceive 59 = .ok (.aload_n 0, 1) := by decide +kernel
theorem dX9_tryReceive_60 : decode cX9_tryReceive 60 = .ok (.getfield 31, 3) := by decide +kernel
theorem dX9_tryReceive_63 : decode cX9_tryReceive 63 = .ok (.getfield 90, 3) := by decide +kernel
theorem dX9_tryReceive_66 : decode cX9_tryReceive 66 = .ok (.iload 4, 2) := by decide +kernel
theorem dX9_tryReceive_68 : decode cX9_tryReceive 68 = .ok (.iaload, 1) := by decide +kernel
theorem dX9_tryReceive_69 : decode cX9_tryReceive 69 = .ok (.istore 6, 2) := by decide +kernel
theorem dX9_tryReceive_71 : decode cX9_tryReceive 71 = .ok (.aload_n 0, 1) := by decide +kernel
theorem dX9_tryReceive_72 : decode cX9_tryReceive 72 = .ok (.getfield 9, 3) := by decide +kernel
theorem dX9_tryReceive_75 : decode cX9_tryReceive 75 = .ok (.iload_n 1, 1) := by decide +kernel
theorem dX9_tryReceive_76 : decode cX9_tryReceive 76 = .ok (.iload 5, 2) := by decide +kernel
theorem dX9_tryReceive_78 : decode cX9_tryReceive 78 = .ok (.invokestatic 97, 3) := by decide +kernel
theorem dX9_tryReceive_81 : decode cX9_tryReceive 81 = .ok (.iaload, 1) := by decide +kernel
theorem dX9_tryReceive_82 : decode cX9_tryReceive 82 = .ok (.iload 6, 2) := by decide +kernel
theorem dX9_tryReceive_84 : decode cX9_tryReceive 84 = .ok (.iadd, 1) := by decide +kernel
theorem dX9_tryReceive_85 : decode cX9_tryReceive 85 = .ok (.sipush 1000, 3) := by decide +kernel
theorem dX9_tryReceive_88 : decode cX9_tryReceive 88 = .ok (.if_icmp .le 6, 3) := by decide +kernel
theorem dX9_tryReceive_91 : decode cX9_tryReceive 91 = .ok (.ldc 105, 2) := by decide +kernel
theorem dX9_tryReceive_93 : decode cX9_tryReceive 93 = .ok (.ireturn, 1) := by decide +kernel
theorem dX9_tryReceive_94 : decode cX9_tryReceive 94 = .ok (.aload_n 0, 1) := by decide +kernel
theorem dX9_tryReceive_95 : decode cX9_tryReceive 95 = .ok (.getfield 24, 3) := by decide +kernel
theorem dX9_tryReceive_98 : decode cX9_tryReceive 98 = .ok (.getfield 106, 3) := by decide +kernel
theorem dX9_tryReceive_101 : decode cX9_tryReceive 101 = .ok (.bipush 100, 2) := by decide +kernel
theorem dX9_tryReceive_103 : decode cX9_tryReceive 103 = .ok (.if_icmp .lt 6, 3) := by decide +kernel
theorem dX9_tryReceive_106 : decode cX9_tryReceive 106 = .ok (.ldc 107, 2) := by decide +kernel
theorem dX9_tryReceive_108 : decode cX9_tryReceive 108 = .ok (.ireturn, 1) := by decide +kernel
theorem dX9_tryReceive_109 : decode cX9_tryReceive 109 = .ok (.aload_n 0, 1) := by decide +kernel
theorem dX9_tryReceive_110 : decode cX9_tryReceive 110 = .ok (.getfield 9, 3) := by decide +kernel
theorem dX9_tryReceive_113 : decode cX9_tryReceive 113 = .ok (.iload_n 1, 1) := by decide +kernel
theorem dX9_tryReceive_114 : decode cX9_tryReceive 114 = .ok (.iload 5, 2) := by decide +kernel
theorem dX9_tryReceive_116 : decode cX9_tryReceive 116 = .ok (.invokestatic 97, 3) := by decide +kernel
theorem dX9_tryReceive_119 : decode cX9_tryReceive 119 = .ok (.dup2, 1) := by decide +kernel
theorem dX9_tryReceive_120 : decode cX9_tryReceive 120 = .ok (.iaload, 1) := by decide +kernel
theorem dX9_tryReceive_121 : decode cX9_tryReceive 121 = .ok (.iload 6, 2) := by decide +kernel
theorem dX9_tryReceive_123 : decode cX9_tryReceive 123 = .ok (.iadd, 1) := by decide +kernel
theorem dX9_tryReceive_124 : decode cX9_tryReceive 124 = .ok (.iastore, 1) := by decide +kernel
theorem dX9_tryReceive_125 : decode cX9_tryReceive 125 = .ok (.aload_n 0, 1) := by decide +kernel
theorem dX9_tryReceive_126 : decode cX9_tryReceive 126 = .ok (.getfield 24, 3) := by decide +kernel
theorem dX9_tryReceive_129 : decode cX9_tryReceive 129 = .ok (.iload_n 1, 1) := by decide +kernel
theorem dX9_tryReceive_130 : decode cX9_tryReceive 130 = .ok (.iconst 2, 1) := by decide +kernel
theorem dX9_tryReceive_131 : decode cX9_tryReceive 131 = .ok (.iload 4, 2) := by decide +kernel
theorem dX9_tryReceive_133 : decode cX9_tryReceive 133 = .ok (.invokevirtual 108, 3) := by decide +kernel
theorem dX9_tryReceive_136 : decode cX9_tryReceive 136 = .ok (.istore 7, 2) := by decide +kernel
theorem dX9_tryReceive_138 : decode cX9_tryReceive 138 = .ok (.aload_n 0, 1) := by decide +kernel
theorem dX9_tryReceive_139 : decode cX9_tryReceive 139 = .ok (.getfield 24, 3) := by decide +kernel
theorem dX9_tryReceive_142 : decode cX9_tryReceive 142 = .ok (.iload 7, 2) := by decide +kernel
theorem dX9_tryReceive_144 : decode cX9_tryReceive 144 = .ok (.iload 5, 2) := by decide +kernel
theorem dX9_tryReceive_146 : decode cX9_tryReceive 146 = .ok (.iload 6, 2) := by decide +kernel
theorem dX9_tryReceive_148 : decode cX9_tryReceive 148 = .ok (.iload_n 2, 1) := by decide +kernel
theorem dX9_tryReceive_149 : decode cX9_tryReceive 149 = .ok (.invokevirtual 113, 3) := by decide +kernel
theorem dX9_tryReceive_152 : decode cX9_tryReceive 152 = .ok (.aload_n 0, 1) := by decide +kernel
theorem dX9_tryReceive_153 : decode cX9_tryReceive 153 = .ok (.getfield 24, 3) := by decide +kernel
theorem dX9_tryReceive_156 : decode cX9_tryReceive 156 = .ok (.iload 7, 2) := by decide +kernel
theorem dX9_tryReceive_158 : decode cX9_tryReceive 158 = .ok (.aload_n 0, 1) := by decide +kernel
theorem dX9_tryReceive_159 : decode cX9_tryReceive 159 = .ok (.getfield 31, 3) := by decide +kernel
theorem dX9_tryReceive_162 : decode cX9_tryReceive 162 = .ok (.getfield 133, 3) := by decide +kernel
theorem dX9_tryReceive_165 : decode cX9_tryReceive 165 = .ok (.iload 4, 2) := by decide +kernel
theorem dX9_tryReceive_167 : decode cX9_tryReceive 167 = .ok (.iaload, 1) := by decide +kernel
theorem dX9_tryReceive_168 : decode cX9_tryReceive 168 = .ok (.invokevirtual 136, 3) := by decide +kernel
theorem dX9_tryReceive_171 : decode cX9_tryReceive 171 = .ok (.aload_n 0, 1) := by decide +kernel
theorem dX9_tryReceive_172 : decode cX9_tryReceive 172 = .ok (.getfield 31, 3) := by decide +kernel
theorem dX9_tryReceive_175 : decode cX9_tryReceive 175 = .ok (.getfield 139, 3) := by decide +kernel
theorem dX9_tryReceive_178 : decode cX9_tryReceive 178 = .ok (.iload 4, 2) := by decide +kernel
theorem dX9_tryReceive_180 : decode cX9_tryReceive 180 = .ok (.iload 7, 2) := by decide +kernel
theorem dX9_tryReceive_182 : decode cX9_tryReceive 182 = .ok (.iastore, 1) := by decide +kernel
theorem dX9_tryReceive_183 : decode cX9_tryReceive 183 = .ok (.iload 7, 2) := by decide +kernel
theorem dX9_tryReceive_185 : decode cX9_tryReceive 185 = .ok (.ireturn, 1) := by decide +kernel
theorem dX9_takeMarker_0 : decode cX9_takeMarker 0 = .ok (.aload_n 0, 1) := by decide +kernel
theorem dX9_takeMarker_1 : decode cX9_takeMarker 1 = .ok (.getfield 31, 3) := by decide +kernel
theorem dX9_takeMarker_4 : decode cX9_takeMarker 4 = .ok (.getfield 142, 3) := by decide +kernel
theorem dX9_takeMarker_7 : decode cX9_takeMarker 7 = .ok (.iload_n 2, 1) := by decide +kernel
theorem dX9_takeMarker_8 : decode cX9_takeMarker 8 = .ok (.iconst (-1), 1) := by decide +kernel
theorem dX9_takeMarker_9 : decode cX9_takeMarker 9 = .ok (.iastore, 1) := by decide +kernel
theorem dX9_takeMarker_10 : decode cX9_takeMarker 10 = .ok (.aload_n 0, 1) := by decide +kernel
theorem dX9_takeMarker_11 : decode cX9_takeMarker 11 = .ok (.getfield 38, 3) := by decide +kernel
theorem dX9_takeMarker_14 : decode cX9_takeMarker 14 = .ok (.getfield 145, 3) := by decide +kernel
theorem dX9_takeMarker_17 : decode cX9_takeMarker 17 = .ok (.iload_n 1, 1) := by decide +kernel
theorem dX9_takeMarker_18 : decode cX9_takeMarker 18 = .ok (.iaload, 1) := by decide +kernel
theorem dX9_takeMarker_19 : decode cX9_takeMarker 19 = .ok (.iconst (-1), 1) := by decide +kernel
theorem dX9_takeMarker_20 : decode cX9_takeMarker 20 = .ok (.if_icmp .ne 8, 3) := by decide +kernel
theorem dX9_takeMarker_23 : decode cX9_takeMarker 23 = .ok (.aload_n 0, 1) := by decide +kernel
theorem dX9_takeMarker_24 : decode cX9_takeMarker 24 = .ok (.iload_n 1, 1) := by decide +kernel
theorem dX9_takeMarker_25 : decode cX9_takeMarker 25 = .ok (.invokevirtual 148, 3) := by decide +kernel
theorem dX9_takeMarker_28 : decode cX9_takeMarker 28 = .ok (.aload_n 0, 1) := by decide +kernel
theorem dX9_takeMarker_29 : decode cX9_takeMarker 29 = .ok (.getfield 38, 3) := by decide +kernel
theorem dX9_takeMarker_32 : decode cX9_takeMarker 32 = .ok (.aload_n 0, 1) := by decide +kernel
theorem dX9_takeMarker_33 : decode cX9_takeMarker 33 = .ok (.getfield 42, 3) := by decide +kernel
theorem dX9_takeMarker_36 : decode cX9_takeMarker 36 = .ok (.invokevirtual 151, 3) := by decide +kernel
theorem dX9_takeMarker_39 : decode cX9_takeMarker 39 = .ok (.ifCond .eq 21, 3) := by decide +kernel
theorem dX9_takeMarker_42 : decode cX9_takeMarker 42 = .ok (.aload_n 0, 1) := by decide +kernel
theorem dX9_takeMarker_43 : decode cX9_takeMarker 43 = .ok (.getfield 31, 3) := by decide +kernel
theorem dX9_takeMarker_46 : decode cX9_takeMarker 46 = .ok (.invokevirtual 154, 3) := by decide +kernel
theorem dX9_takeMarker_49 : decode cX9_takeMarker 49 = .ok (.ifCond .ne 11, 3) := by decide +kernel
theorem dX9_takeMarker_52 : decode cX9_takeMarker 52 = .ok (.aload_n 0, 1) := by decide +kernel
theorem dX9_takeMarker_53 : decode cX9_takeMarker 53 = .ok (.getfield 38, 3) := by decide +kernel
theorem dX9_takeMarker_56 : decode cX9_takeMarker 56 = .ok (.iconst 2, 1) := by decide +kernel
theorem dX9_takeMarker_57 : decode cX9_takeMarker 57 = .ok (.putfield 158, 3) := by decide +kernel
theorem dX9_takeMarker_60 : decode cX9_takeMarker 60 = .ok (.return_, 1) := by decide +kernel
theorem dX9_noteEvents_0 : decode cX9_noteEvents 0 = .ok (.aload_n 0, 1) := by decide +kernel
theorem dX9_noteEvents_1 : decode cX9_noteEvents 1 = .ok (.getfield 38, 3) := by decide +kernel
theorem dX9_noteEvents_4 : decode cX9_noteEvents 4 = .ok (.getfield 145, 3) := by decide +kernel
theorem dX9_noteEvents_7 : decode cX9_noteEvents 7 = .ok (.iload_n 1, 1) := by decide +kernel
theorem dX9_noteEvents_8 : decode cX9_noteEvents 8 = .ok (.aload_n 0, 1) := by decide +kernel
theorem dX9_noteEvents_9 : decode cX9_noteEvents 9 = .ok (.getfield 24, 3) := by decide +kernel
theorem dX9_noteEvents_12 : decode cX9_noteEvents 12 = .ok (.getfield 161, 3) := by decide +kernel
theorem dX9_noteEvents_15 : decode cX9_noteEvents 15 = .ok (.iload_n 1, 1) := by decide +kernel
theorem dX9_noteEvents_16 : decode cX9_noteEvents 16 = .ok (.iaload, 1) := by decide +kernel
theorem dX9_noteEvents_17 : decode cX9_noteEvents 17 = .ok (.iastore, 1) := by decide +kernel
theorem dX9_noteEvents_18 : decode cX9_noteEvents 18 = .ok (.iconst 0, 1) := by decide +kernel
theorem dX9_noteEvents_19 : decode cX9_noteEvents 19 = .ok (.istore_n 2, 1) := by decide +kernel
theorem dX9_noteEvents_20 : decode cX9_noteEvents 20 = .ok (.iload_n 2, 1) := by decide +kernel
theorem dX9_noteEvents_21 : decode cX9_noteEvents 21 = .ok (.aload_n 0, 1) := by decide +kernel
theorem dX9_noteEvents_22 : decode cX9_noteEvents 22 = .ok (.getfield 42, 3) := by decide +kernel
theorem dX9_noteEvents_25 : decode cX9_noteEvents 25 = .ok (.if_icmp .ge 26, 3) := by decide +kernel
theorem dX9_noteEvents_28 : decode cX9_noteEvents 28 = .ok (.iload_n 2, 1) := by decide +kernel
theorem dX9_noteEvents_29 : decode cX9_noteEvents 29 = .ok (.iload_n 1, 1) := by decide +kernel
theorem dX9_noteEvents_30 : decode cX9_noteEvents 30 = .ok (.if_icmp .eq 15, 3) := by decide +kernel
theorem dX9_noteEvents_33 : decode cX9_noteEvents 33 = .ok (.aload_n 0, 1) := by decide +kernel
theorem dX9_noteEvents_34 : decode cX9_noteEvents 34 = .ok (.getfield 31, 3) := by decide +kernel
theorem dX9_noteEvents_37 : decode cX9_noteEvents 37 = .ok (.iload_n 1, 1) := by decide +kernel
theorem dX9_noteEvents_38 : decode cX9_noteEvents 38 = .ok (.iload_n 2, 1) := by decide +kernel
theorem dX9_noteEvents_39 : decode cX9_noteEvents 39 = .ok (.invokestatic 117, 3) := by decide +kernel
theorem dX9_noteEvents_42 : decode cX9_noteEvents 42 = .ok (.invokevirtual 164, 3) := by decide +kernel
theorem dX9_noteEvents_45 : decode cX9_noteEvents 45 = .ok (.iinc 2 1, 3) := by decide +kernel
theorem dX9_noteEvents_48 : decode cX9_noteEvents 48 = .ok (.goto (-28), 3) := by decide +kernel
theorem dX9_noteEvents_51 : decode cX9_noteEvents 51 = .ok (.return_, 1) := by decide +kernel
theorem dX9_eventProperty_0 : decode cX9_eventProperty 0 = .ok (.iload_n 2, 1) := by decide +kernel
theorem dX9_eventProperty_1 : decode cX9_eventProperty 1 = .ok (.tableswitch 85 0 4 #[35, 45, 55, 65, 75], 35) := by decide +kernel
theorem dX9_eventProperty_36 : decode cX9_eventProperty 36 = .ok (.aload_n 0, 1) := by decide +kernel
theorem dX9_eventProperty_37 : decode cX9_eventProperty 37 = .ok (.getfield 24, 3) := by decide +kernel
theorem dX9_eventProperty_40 : decode cX9_eventProperty 40 = .ok (.getfield 167, 3) := by decide +kernel
theorem dX9_eventProperty_43 : decode cX9_eventProperty 43 = .ok (.iload_n 1, 1) := by decide +kernel
theorem dX9_eventProperty_44 : decode cX9_eventProperty 44 = .ok (.iaload, 1) := by decide +kernel
theorem dX9_eventProperty_45 : decode cX9_eventProperty 45 = .ok (.ireturn, 1) := by decide +kernel
theorem dX9_eventProperty_46 : decode cX9_eventProperty 46 = .ok (.aload_n 0, 1) := by decide +kernel
theorem dX9_eventProperty_47 : decode cX9_eventProperty 47 = .ok (.getfield 24, 3) := by decide +kernel
theorem dX9_eventProperty_50 : decode cX9_eventProperty 50 = .ok (.getfield 170, 3) := by decide +kernel
theorem dX9_eventProperty_53 : decode cX9_eventProperty 53 = .ok (.iload_n 1, 1) := by decide +kernel
theorem dX9_eventProperty_54 : decode cX9_eventProperty 54 = .ok (.iaload, 1) := by decide +kernel
theorem dX9_eventProperty_55 : decode cX9_eventProperty 55 = .ok (.ireturn, 1) := by decide +kernel
theorem dX9_eventProperty_56 : decode cX9_eventProperty 56 = .ok (.aload_n 0, 1) := by decide +kernel
theorem dX9_eventProperty_57 : decode cX9_eventProperty 57 = .ok (.getfield 24, 3) := by decide +kernel
theorem dX9_eventProperty_60 : decode cX9_eventProperty 60 = .ok (.getfield 173, 3) := by decide +kernel
theorem dX9_eventProperty_63 : decode cX9_eventProperty 63 = .ok (.iload_n 1, 1) := by decide +kernel
theorem dX9_eventProperty_64 : decode cX9_eventProperty 64 = .ok (.iaload, 1) := by decide +kernel
theorem dX9_eventProperty_65 : decode cX9_eventProperty 65 = .ok (.ireturn, 1) := by decide +kernel
theorem dX9_eventProperty_66 : decode cX9_eventProperty 66 = .ok (.aload_n 0, 1) := by decide +kernel
theorem dX9_eventProperty_67 : decode cX9_eventProperty 67 = .ok (.getfield 24, 3) := by decide +kernel
theorem dX9_eventProperty_70 : decode cX9_eventProperty 70 = .ok (.getfield 174, 3) := by decide +kernel
theorem dX9_eventProperty_73 : decode cX9_eventProperty 73 = .ok (.iload_n 1, 1) := by decide +kernel
theorem dX9_eventProperty_74 : decode cX9_eventProperty 74 = .ok (.iaload, 1) := by decide +kernel
theorem dX9_eventProperty_75 : decode cX9_eventProperty 75 = .ok (.ireturn, 1) := by decide +kernel
theorem dX9_eventProperty_76 : decode cX9_eventProperty 76 = .ok (.aload_n 0, 1) := by decide +kernel
theorem dX9_eventProperty_77 : decode cX9_eventProperty 77 = .ok (.getfield 24, 3) := by decide +kernel
theorem dX9_eventProperty_80 : decode cX9_eventProperty 80 = .ok (.getfield 175, 3) := by decide +kernel
theorem dX9_eventProperty_83 : decode cX9_eventProperty 83 = .ok (.iload_n 1, 1) := by decide +kernel
theorem dX9_eventProperty_84 : decode cX9_eventProperty 84 = .ok (.iaload, 1) := by decide +kernel
theorem dX9_eventProperty_85 : decode cX9_eventProperty 85 = .ok (.ireturn, 1) := by decide +kernel
theorem dX9_eventProperty_86 : decode cX9_eventProperty 86 = .ok (.aload_n 0, 1) := by decide +kernel
theorem dX9_eventProperty_87 : decode cX9_eventProperty 87 = .ok (.iload_n 1, 1) := by decide +kernel
theorem dX9_eventProperty_88 : decode cX9_eventProperty 88 = .ok (.invokevirtual 178, 3) := by decide +kernel
theorem dX9_eventProperty_91 : decode cX9_eventProperty 91 = .ok (.ireturn, 1) := by decide +kernel
theorem dX9_partnerOf_0 : decode cX9_partnerOf 0 = .ok (.aload_n 0, 1) := by decide +kernel
theorem dX9_partnerOf_1 : decode cX9_partnerOf 1 = .ok (.getfield 24, 3) := by decide +kernel
theorem dX9_partnerOf_4 : decode cX9_partnerOf 4 = .ok (.getfield 181, 3) := by decide +kernel
theorem dX9_partnerOf_7 : decode cX9_partnerOf 7 = .ok (.iload_n 1, 1) := by decide +kernel
theorem dX9_partnerOf_8 : decode cX9_partnerOf 8 = .ok (.iaload, 1) := by decide +kernel
theorem dX9_partnerOf_9 : decode cX9_partnerOf 9 = .ok (.istore_n 2, 1) := by decide +kernel
theorem dX9_partnerOf_10 : decode cX9_partnerOf 10 = .ok (.iload_n 2, 1) := by decide +kernel
theorem dX9_partnerOf_11 : decode cX9_partnerOf 11 = .ok (.iconst 0, 1) := by decide +kernel
theorem dX9_partnerOf_12 : decode cX9_partnerOf 12 = .ok (.aload_n 0, 1) := by decide +kernel
theorem dX9_partnerOf_13 : decode cX9_partnerOf 13 = .ok (.getfield 31, 3) := by decide +kernel
theorem dX9_partnerOf_16 : decode cX9_partnerOf 16 = .ok (.getfield 77, 3) := by decide +kernel
theorem dX9_partnerOf_19 : decode cX9_partnerOf 19 = .ok (.iconst 1, 1) := by decide +kernel
theorem dX9_partnerOf_20 : decode cX9_partnerOf 20 = .ok (.isub, 1) := by decide +kernel
theorem dX9_partnerOf_21 : decode cX9_partnerOf 21 = .ok (.invokestatic 101, 3) := by decide +kernel
theorem dX9_partnerOf_24 : decode cX9_partnerOf 24 = .ok (.ifCond .ne 6, 3) := by decide +kernel
theorem dX9_partnerOf_27 : decode cX9_partnerOf 27 = .ok (.ldc 112, 2) := by decide +kernel
theorem dX9_partnerOf_29 : decode cX9_partnerOf 29 = .ok (.ireturn, 1) := by decide +kernel
theorem dX9_partnerOf_30 : decode cX9_partnerOf 30 = .ok (.aload_n 0, 1) := by decide +kernel
theorem dX9_partnerOf_31 : decode cX9_partnerOf 31 = .ok (.getfield 24, 3) := by decide +kernel
theorem dX9_partnerOf_34 : decode cX9_partnerOf 34 = .ok (.getfield 170, 3) := by decide +kernel
theorem dX9_partnerOf_37 : decode cX9_partnerOf 37 = .ok (.iload_n 1, 1) := by decide +kernel
theorem dX9_partnerOf_38 : decode cX9_partnerOf 38 = .ok (.iaload, 1) := by decide +kernel
theorem dX9_partnerOf_39 : decode cX9_partnerOf 39 = .ok (.iconst 1, 1) := by decide +kernel
theorem dX9_partnerOf_40 : decode cX9_partnerOf 40 = .ok (.if_icmp .ne 15, 3) := by decide +kernel
theorem dX9_partnerOf_43 : decode cX9_partnerOf 43 = .ok (.aload_n 0, 1) := by decide +kernel
theorem dX9_partnerOf_44 : decode cX9_partnerOf 44 = .ok (.getfield 31, 3) := by decide +kernel
theorem dX9_partnerOf_47 : decode cX9_partnerOf 47 = .ok (.getfield 139, 3) := by decide +kernel
theorem dX9_partnerOf_50 : decode cX9_partnerOf 50 = .ok (.iload_n 2, 1) := by decide +kernel
theorem dX9_partnerOf_51 : decode cX9_partnerOf 51 = .ok (.iaload, 1) := by decide +kernel
theorem dX9_partnerOf_52 : decode cX9_partnerOf 52 = .ok (.goto 12, 3) := by decide +kernel
theorem dX9_partnerOf_55 : decode cX9_partnerOf 55 = .ok (.aload_n 0, 1) := by decide +kernel
theorem dX9_partnerOf_56 : decode cX9_partnerOf 56 = .ok (.getfield 31, 3) := by decide +kernel
theorem dX9_partnerOf_59 : decode cX9_partnerOf 59 = .ok (.getfield 133, 3) := by decide +kernel
theorem dX9_partnerOf_62 : decode cX9_partnerOf 62 = .ok (.iload_n 2, 1) := by decide +kernel
theorem dX9_partnerOf_63 : decode cX9_partnerOf 63 = .ok (.iaload, 1) := by decide +kernel
theorem dX9_partnerOf_64 : decode cX9_partnerOf 64 = .ok (.istore_n 3, 1) := by decide +kernel
theorem dX9_partnerOf_65 : decode cX9_partnerOf 65 = .ok (.iload_n 3, 1) := by decide +kernel
theorem dX9_partnerOf_66 : decode cX9_partnerOf 66 = .ok (.iconst (-1), 1) := by decide +kernel
theorem dX9_partnerOf_67 : decode cX9_partnerOf 67 = .ok (.if_icmp .ne 8, 3) := by decide +kernel
theorem dX9_partnerOf_70 : decode cX9_partnerOf 70 = .ok (.ldc 112, 2) := by decide +kernel
theorem dX9_partnerOf_72 : decode cX9_partnerOf 72 = .ok (.goto 4, 3) := by decide +kernel
theorem dX9_partnerOf_75 : decode cX9_partnerOf 75 = .ok (.iload_n 3, 1) := by decide +kernel
theorem dX9_partnerOf_76 : decode cX9_partnerOf 76 = .ok (.ireturn, 1) := by decide +kernel
theorem dX9_eventsInCut_0 : decode cX9_eventsInCut 0 = .ok (.iconst 0, 1) := by decide +kernel
theorem dX9_eventsInCut_1 : decode cX9_eventsInCut 1 = .ok (.istore_n 1, 1) := by decide +kernel
theorem dX9_eventsInCut_2 : decode cX9_eventsInCut 2 = .ok (.iconst 0, 1) := by decide +kernel
theorem dX9_eventsInCut_3 : decode cX9_eventsInCut 3 = .ok (.istore_n 2, 1) := by decide +kernel
theorem dX9_eventsInCut_4 : decode cX9_eventsInCut 4 = .ok (.iload_n 2, 1) := by decide +kernel
theorem dX9_eventsInCut_5 : decode cX9_eventsInCut 5 = .ok (.aload_n 0, 1) := by decide +kernel
theorem dX9_eventsInCut_6 : decode cX9_eventsInCut 6 = .ok (.getfield 42, 3) := by decide +kernel
theorem dX9_eventsInCut_9 : decode cX9_eventsInCut 9 = .ok (.if_icmp .ge 18, 3) := by decide +kernel
theorem dX9_eventsInCut_12 : decode cX9_eventsInCut 12 = .ok (.iload_n 1, 1) := by decide +kernel
theorem dX9_eventsInCut_13 : decode cX9_eventsInCut 13 = .ok (.aload_n 0, 1) := by decide +kernel
theorem dX9_eventsInCut_14 : decode cX9_eventsInCut 14 = .ok (.getfield 18, 3) := by decide +kernel
theorem dX9_eventsInCut_17 : decode cX9_eventsInCut 17 = .ok (.iload_n 2, 1) := by decide +kernel
theorem dX9_eventsInCut_18 : decode cX9_eventsInCut 18 = .ok (.iaload, 1) := by decide +kernel
theorem dX9_eventsInCut_19 : decode cX9_eventsInCut 19 = .ok (.iadd, 1) := by decide +kernel
theorem dX9_eventsInCut_20 : decode cX9_eventsInCut 20 = .ok (.istore_n 1, 1) := by decide +kernel
theorem dX9_eventsInCut_21 : decode cX9_eventsInCut 21 = .ok (.iinc 2 1, 3) := by decide +kernel
theorem dX9_eventsInCut_24 : decode cX9_eventsInCut 24 = .ok (.goto (-20), 3) := by decide +kernel
theorem dX9_eventsInCut_27 : decode cX9_eventsInCut 27 = .ok (.iload_n 1, 1) := by decide +kernel
theorem dX9_eventsInCut_28 : decode cX9_eventsInCut 28 = .ok (.ireturn, 1) := by decide +kernel
theorem dX9_inCut_0 : decode cX9_inCut 0 = .ok (.iload_n 1, 1) := by decide +kernel
theorem dX9_inCut_1 : decode cX9_inCut 1 = .ok (.iconst 0, 1) := by decide +kernel
theorem dX9_inCut_2 : decode cX9_inCut 2 = .ok (.aload_n 0, 1) := by decide +kernel
theorem dX9_inCut_3 : decode cX9_inCut 3 = .ok (.getfield 24, 3) := by decide +kernel
theorem dX9_inCut_6 : decode cX9_inCut 6 = .ok (.getfield 106, 3) := by decide +kernel
theorem dX9_inCut_9 : decode cX9_inCut 9 = .ok (.iconst 1, 1) := by decide +kernel
theorem dX9_inCut_10 : decode cX9_inCut 10 = .ok (.isub, 1) := by decide +kernel
theorem dX9_inCut_11 : decode cX9_inCut 11 = .ok (.invokestatic 101, 3) := by decide +kernel
theorem dX9_inCut_14 : decode cX9_inCut 14 = .ok (.ifCond .eq 33, 3) := by decide +kernel
theorem dX9_inCut_17 : decode cX9_inCut 17 = .ok (.aload_n 0, 1) := by decide +kernel
theorem dX9_inCut_18 : decode cX9_inCut 18 = .ok (.getfield 24, 3) := by decide +kernel
theorem dX9_inCut_21 : decode cX9_inCut 21 = .ok (.getfield 184, 3) := by decide +kernel
theorem dX9_inCut_24 : decode cX9_inCut 24 = .ok (.iload_n 1, 1) := by decide +kernel
theorem dX9_inCut_25 : decode cX9_inCut 25 = .ok (.iaload, 1) := by decide +kernel
theorem dX9_inCut_26 : decode cX9_inCut 26 = .ok (.aload_n 0, 1) := by decide +kernel
theorem dX9_inCut_27 : decode cX9_inCut 27 = .ok (.getfield 18, 3) := by decide +kernel
theorem dX9_inCut_30 : decode cX9_inCut 30 = .ok (.aload_n 0, 1) := by decide +kernel
theorem dX9_inCut_31 : decode cX9_inCut 31 = .ok (.getfield 24, 3) := by decide +kernel
theorem dX9_inCut_34 : decode cX9_inCut 34 = .ok (.getfield 167, 3) := by decide +kernel
theorem dX9_inCut_37 : decode cX9_inCut 37 = .ok (.iload_n 1, 1) := by decide +kernel
theorem dX9_inCut_38 : decode cX9_inCut 38 = .ok (.iaload, 1) := by decide +kernel
theorem dX9_inCut_39 : decode cX9_inCut 39 = .ok (.iaload, 1) := by decide +kernel
theorem dX9_inCut_40 : decode cX9_inCut 40 = .ok (.if_icmp .ge 7, 3) := by decide +kernel
theorem dX9_inCut_43 : decode cX9_inCut 43 = .ok (.iconst 1, 1) := by decide +kernel
theorem dX9_inCut_44 : decode cX9_inCut 44 = .ok (.goto 4, 3) := by decide +kernel
theorem dX9_inCut_47 : decode cX9_inCut 47 = .ok (.iconst 0, 1) := by decide +kernel
theorem dX9_inCut_48 : decode cX9_inCut 48 = .ok (.ireturn, 1) := by decide +kernel
theorem dX9_isOrphan_0 : decode cX9_isOrphan 0 = .ok (.aload_n 0, 1) := by decide +kernel
theorem dX9_isOrphan_1 : decode cX9_isOrphan 1 = .ok (.getfield 31, 3) := by decide +kernel
theorem dX9_isOrphan_4 : decode cX9_isOrphan 4 = .ok (.getfield 133, 3) := by decide +kernel
theorem dX9_isOrphan_7 : decode cX9_isOrphan 7 = .ok (.iload_n 1, 1) := by decide +kernel
theorem dX9_isOrphan_8 : decode cX9_isOrphan 8 = .ok (.iaload, 1) := by decide +kernel
theorem dX9_isOrphan_9 : decode cX9_isOrphan 9 = .ok (.istore_n 2, 1) := by decide +kernel
theorem dX9_isOrphan_10 : decode cX9_isOrphan 10 = .ok (.iload_n 2, 1) := by decide +kernel
theorem dX9_isOrphan_11 : decode cX9_isOrphan 11 = .ok (.iconst (-1), 1) := by decide +kernel
theorem dX9_isOrphan_12 : decode cX9_isOrphan 12 = .ok (.if_icmp .eq 31, 3) := by decide +kernel
theorem dX9_isOrphan_15 : decode cX9_isOrphan 15 = .ok (.aload_n 0, 1) := by decide +kernel
theorem dX9_isOrphan_16 : decode cX9_isOrphan 16 = .ok (.iload_n 2, 1) := by decide +kernel
theorem dX9_isOrphan_17 : decode cX9_isOrphan 17 = .ok (.invokevirtual 187, 3) := by decide +kernel
theorem dX9_isOrphan_20 : decode cX9_isOrphan 20 = .ok (.ifCond .ne 23, 3) := by decide +kernel
theorem dX9_isOrphan_23 : decode cX9_isOrphan 23 = .ok (.aload_n 0, 1) := by decide +kernel
theorem dX9_isOrphan_24 : decode cX9_isOrphan 24 = .ok (.aload_n 0, 1) := by decide +kernel
theorem dX9_isOrphan_25 : decode cX9_isOrphan 25 = .ok (.getfield 31, 3) := by decide +kernel
theorem dX9_isOrphan_28 : decode cX9_isOrphan 28 = .ok (.getfield 139, 3) := by decide +kernel
theorem dX9_isOrphan_31 : decode cX9_isOrphan 31 = .ok (.iload_n 1, 1) := by decide +kernel
theorem dX9_isOrphan_32 : decode cX9_isOrphan 32 = .ok (.iaload, 1) := by decide +kernel
theorem dX9_isOrphan_33 : decode cX9_isOrphan 33 = .ok (.invokevirtual 187, 3) := by decide +kernel
theorem dX9_isOrphan_36 : decode cX9_isOrphan 36 = .ok (.ifCond .eq 7, 3) := by decide +kernel
theorem dX9_isOrphan_39 : decode cX9_isOrphan 39 = .ok (.iconst 1, 1) := by decide +kernel
theorem dX9_isOrphan_40 : decode cX9_isOrphan 40 = .ok (.goto 4, 3) := by decide +kernel
theorem dX9_isOrphan_43 : decode cX9_isOrphan 43 = .ok (.iconst 0, 1) := by decide +kernel
theorem dX9_isOrphan_44 : decode cX9_isOrphan 44 = .ok (.ireturn, 1) := by decide +kernel
theorem dX9_countOrphans_0 : decode cX9_countOrphans 0 = .ok (.iconst 0, 1) := by decide +kernel
theorem dX9_countOrphans_1 : decode cX9_countOrphans 1 = .ok (.istore_n 1, 1) := by decide +kernel
theorem dX9_countOrphans_2 : decode cX9_countOrphans 2 = .ok (.iconst 0, 1) := by decide +kernel
theorem dX9_countOrphans_3 : decode cX9_countOrphans 3 = .ok (.istore_n 2, 1) := by decide +kernel
theorem dX9_countOrphans_4 : decode cX9_countOrphans 4 = .ok (.iload_n 2, 1) := by decide +kernel
theorem dX9_countOrphans_5 : decode cX9_countOrphans 5 = .ok (.aload_n 0, 1) := by decide +kernel
theorem dX9_countOrphans_6 : decode cX9_countOrphans 6 = .ok (.getfield 31, 3) := by decide +kernel
theorem dX9_countOrphans_9 : decode cX9_countOrphans 9 = .ok (.getfield 77, 3) := by decide +kernel
theorem dX9_countOrphans_12 : decode cX9_countOrphans 12 = .ok (.if_icmp .ge 20, 3) := by decide +kernel
theorem dX9_countOrphans_15 : decode cX9_countOrphans 15 = .ok (.aload_n 0, 1) := by decide +kernel
theorem dX9_countOrphans_16 : decode cX9_countOrphans 16 = .ok (.iload_n 2, 1) := by decide +kernel
theorem dX9_countOrphans_17 : decode cX9_countOrphans 17 = .ok (.invokevirtual 190, 3) := by decide +kernel
theorem dX9_countOrphans_20 : decode cX9_countOrphans 20 = .ok (.ifCond .eq 6, 3) := by decide +kernel
theorem dX9_countOrphans_23 : decode cX9_countOrphans 23 = .ok (.iinc 1 1, 3) := by decide +kernel
theorem dX9_countOrphans_26 : decode cX9_countOrphans 26 = .ok (.iinc 2 1, 3) := by decide +kernel
theorem dX9_countOrphans_29 : decode cX9_countOrphans 29 = .ok (.goto (-25), 3) := by decide +kernel
theorem dX9_countOrphans_32 : decode cX9_countOrphans 32 = .ok (.iload_n 1, 1) := by decide +kernel
theorem dX9_countOrphans_33 : decode cX9_countOrphans 33 = .ok (.ireturn, 1) := by decide +kernel
theorem dX9_dropOrphanReceives_0 : decode cX9_dropOrphanReceives 0 = .ok (.iconst 0, 1) := by decide +kernel
theorem dX9_dropOrphanReceives_1 : decode cX9_dropOrphanReceives 1 = .ok (.istore_n 1, 1) := by decide +kernel
theorem dX9_dropOrphanReceives_2 : decode cX9_dropOrphanReceives 2 = .ok (.iload_n 1, 1) := by decide +kernel
theorem dX9_dropOrphanReceives_3 : decode cX9_dropOrphanReceives 3 = .ok (.aload_n 0, 1) := by decide +kernel
theorem dX9_dropOrphanReceives_4 : decode cX9_dropOrphanReceives 4 = .ok (.getfield 31, 3) := by decide +kernel
theorem dX9_dropOrphanReceives_7 : decode cX9_dropOrphanReceives 7 = .ok (.getfield 77, 3) := by decide +kernel
theorem dX9_dropOrphanReceives_10 : decode cX9_dropOrphanReceives 10 = .ok (.if_icmp .ge 50, 3) := by decide +kernel
theorem dX9_dropOrphanReceives_13 : decode cX9_dropOrphanReceives 13 = .ok (.aload_n 0, 1) := by decide +kernel
theorem dX9_dropOrphanReceives_14 : decode cX9_dropOrphanReceives 14 = .ok (.iload_n 1, 1) := by decide +kernel
theorem dX9_dropOrphanReceives_15 : decode cX9_dropOrphanReceives 15 = .ok (.invokevirtual 190, 3) := by decide +kernel
theorem dX9_dropOrphanReceives_18 : decode cX9_dropOrphanReceives 18 = .ok (.ifCond .eq 36, 3) := by decide +kernel
theorem dX9_dropOrphanReceives_21 : decode cX9_dropOrphanReceives 21 = .ok (.aload_n 0, 1) := by decide +kernel
theorem dX9_dropOrphanReceives_22 : decode cX9_dropOrphanReceives 22 = .ok (.getfield 31, 3) := by decide +kernel
theorem dX9_dropOrphanReceives_25 : decode cX9_dropOrphanReceives 25 = .ok (.getfield 139, 3) := by decide +kernel
theorem dX9_dropOrphanReceives_28 : decode cX9_dropOrphanReceives 28 = .ok (.iload_n 1, 1) := by decide +kernel
theorem dX9_dropOrphanReceives_29 : decode cX9_dropOrphanReceives 29 = .ok (.iaload, 1) := by decide +kernel
theorem dX9_dropOrphanReceives_30 : decode cX9_dropOrphanReceives 30 = .ok (.istore_n 2, 1) := by decide +kernel
theorem dX9_dropOrphanReceives_31 : decode cX9_dropOrphanReceives 31 = .ok (.aload_n 0, 1) := by decide +kernel
theorem dX9_dropOrphanReceives_32 : decode cX9_dropOrphanReceives 32 = .ok (.getfield 18, 3) := by decide +kernel
theorem dX9_dropOrphanReceives_35 : decode cX9_dropOrphanReceives 35 = .ok (.aload_n 0, 1) := by decide +kernel
theorem dX9_dropOrphanReceives_36 : decode cX9_dropOrphanReceives 36 = .ok (.getfield 24, 3) := by decide +kernel
theorem dX9_dropOrphanReceives_39 : decode cX9_dropOrphanReceives 39 = .ok (.getfield 167, 3) := by decide +kernel
theorem dX9_dropOrphanReceives_42 : decode cX9_dropOrphanReceives 42 = .ok (.iload_n 2, 1) := by decide +kernel
theorem dX9_dropOrphanReceives_43 : decode cX9_dropOrphanReceives 43 = .ok (.iaload, 1) := by decide +kernel
theorem dX9_dropOrphanReceives_44 : decode cX9_dropOrphanReceives 44 = .ok (.aload_n 0, 1) := by decide +kernel
theorem dX9_dropOrphanReceives_45 : decode cX9_dropOrphanReceives 45 = .ok (.getfield 24, 3) := by decide +kernel
theorem dX9_dropOrphanReceives_48 : decode cX9_dropOrphanReceives 48 = .ok (.getfield 184, 3) := by decide +kernel
theorem dX9_dropOrphanReceives_51 : decode cX9_dropOrphanReceives 51 = .ok (.iload_n 2, 1) := by decide +kernel
theorem dX9_dropOrphanReceives_52 : decode cX9_dropOrphanReceives 52 = .ok (.iaload, 1) := by decide +kernel
theorem dX9_dropOrphanReceives_53 : decode cX9_dropOrphanReceives 53 = .ok (.iastore, 1) := by decide +kernel
theorem dX9_dropOrphanReceives_54 : decode cX9_dropOrphanReceives 54 = .ok (.iinc 1 1, 3) := by decide +kernel
theorem dX9_dropOrphanReceives_57 : decode cX9_dropOrphanReceives 57 = .ok (.goto (-55), 3) := by decide +kernel
theorem dX9_dropOrphanReceives_60 : decode cX9_dropOrphanReceives 60 = .ok (.return_, 1) := by decide +kernel
theorem dX9_includeOrphanSends_0 : decode cX9_includeOrphanSends 0 = .ok (.iconst 0, 1) := by decide +kernel
theorem dX9_includeOrphanSends_1 : decode cX9_includeOrphanSends 1 = .ok (.istore_n 1, 1) := by decide +kernel
theorem dX9_includeOrphanSends_2 : decode cX9_includeOrphanSends 2 = .ok (.iload_n 1, 1) := by decide +kernel
theorem dX9_includeOrphanSends_3 : decode cX9_includeOrphanSends 3 = .ok (.aload_n 0, 1) := by decide +kernel
theorem dX9_includeOrphanSends_4 : decode cX9_includeOrphanSends 4 = .ok (.getfield 31, 3) := by decide +kernel
theorem dX9_includeOrphanSends_7 : decode cX9_includeOrphanSends 7 = .ok (.getfield 77, 3) := by decide +kernel
theorem dX9_includeOrphanSends_10 : decode cX9_includeOrphanSends 10 = .ok (.if_icmp .ge 52, 3) := by decide +kernel
theorem dX9_includeOrphanSends_13 : decode cX9_includeOrphanSends 13 = .ok (.aload_n 0, 1) := by decide +kernel
theorem dX9_includeOrphanSends_14 : decode cX9_includeOrphanSends 14 = .ok (.iload_n 1, 1) := by decide +kernel
theorem dX9_includeOrphanSends_15 : decode cX9_includeOrphanSends 15 = .ok (.invokevirtual 190, 3) := by decide +kernel
theorem dX9_includeOrphanSends_18 : decode cX9_includeOrphanSends 18 = .ok (.ifCond .eq 38, 3) := by decide +kernel
theorem dX9_includeOrphanSends_21 : decode cX9_includeOrphanSends 21 = .ok (.aload_n 0, 1) := by decide +kernel
theorem dX9_includeOrphanSends_22 : decode cX9_includeOrphanSends 22 = .ok (.getfield 31, 3) := by decide +kernel
theorem dX9_includeOrphanSends_25 : decode cX9_includeOrphanSends 25 = .ok (.getfield 133, 3) := by decide +kernel
theorem dX9_includeOrphanSends_28 : decode cX9_includeOrphanSends 28 = .ok (.iload_n 1, 1) := by decide +kernel
theorem dX9_includeOrphanSends_29 : decode cX9_includeOrphanSends 29 = .ok (.iaload, 1) := by decide +kernel
theorem dX9_includeOrphanSends_30 : decode cX9_includeOrphanSends 30 = .ok (.istore_n 2, 1) := by decide +kernel
theorem dX9_includeOrphanSends_31 : decode cX9_includeOrphanSends 31 = .ok (.aload_n 0, 1) := by decide +kernel
theorem dX9_includeOrphanSends_32 : decode cX9_includeOrphanSends 32 = .ok (.getfield 18, 3) := by decide +kernel
theorem dX9_includeOrphanSends_35 : decode cX9_includeOrphanSends 35 = .ok (.aload_n 0, 1) := by decide +kernel
theorem dX9_includeOrphanSends_36 : decode cX9_includeOrphanSends 36 = .ok (.getfield 24, 3) := by decide +kernel
theorem dX9_includeOrphanSends_39 : decode cX9_includeOrphanSends 39 = .ok (.getfield 167, 3) := by decide +kernel
theorem dX9_includeOrphanSends_42 : decode cX9_includeOrphanSends 42 = .ok (.iload_n 2, 1) := by decide +kernel
theorem dX9_includeOrphanSends_43 : decode cX9_includeOrphanSends 43 = .ok (.iaload, 1) := by decide +kernel
theorem dX9_includeOrphanSends_44 : decode cX9_includeOrphanSends 44 = .ok (.aload_n 0, 1) := by decide +kernel
theorem dX9_includeOrphanSends_45 : decode cX9_includeOrphanSends 45 = .ok (.getfield 24, 3) := by decide +kernel
theorem dX9_includeOrphanSends_48 : decode cX9_includeOrphanSends 48 = .ok (.getfield 184, 3) := by decide +kernel
theorem dX9_includeOrphanSends_51 : decode cX9_includeOrphanSends 51 = .ok (.iload_n 2, 1) := by decide +kernel
theorem dX9_includeOrphanSends_52 : decode cX9_includeOrphanSends 52 = .ok (.iaload, 1) := by decide +kernel
theorem dX9_includeOrphanSends_53 : decode cX9_includeOrphanSends 53 = .ok (.iconst 1, 1) := by decide +kernel
theorem dX9_includeOrphanSends_54 : decode cX9_includeOrphanSends 54 = .ok (.iadd, 1) := by decide +kernel
theorem dX9_includeOrphanSends_55 : decode cX9_includeOrphanSends 55 = .ok (.iastore, 1) := by decide +kernel
theorem dX9_includeOrphanSends_56 : decode cX9_includeOrphanSends 56 = .ok (.iinc 1 1, 3) := by decide +kernel
theorem dX9_includeOrphanSends_59 : decode cX9_includeOrphanSends 59 = .ok (.goto (-57), 3) := by decide +kernel
theorem dX9_includeOrphanSends_62 : decode cX9_includeOrphanSends 62 = .ok (.return_, 1) := by decide +kernel
theorem dX9_cutStock_0 : decode cX9_cutStock 0 = .ok (.aload_n 0, 1) := by decide +kernel
theorem dX9_cutStock_1 : decode cX9_cutStock 1 = .ok (.getfield 15, 3) := by decide +kernel
theorem dX9_cutStock_4 : decode cX9_cutStock 4 = .ok (.iload_n 1, 1) := by decide +kernel
theorem dX9_cutStock_5 : decode cX9_cutStock 5 = .ok (.iload_n 2, 1) := by decide +kernel
theorem dX9_cutStock_6 : decode cX9_cutStock 6 = .ok (.invokestatic 97, 3) := by decide +kernel
theorem dX9_cutStock_9 : decode cX9_cutStock 9 = .ok (.iaload, 1) := by decide +kernel
theorem dX9_cutStock_10 : decode cX9_cutStock 10 = .ok (.istore_n 3, 1) := by decide +kernel
theorem dX9_cutStock_11 : decode cX9_cutStock 11 = .ok (.iconst 0, 1) := by decide +kernel
theorem dX9_cutStock_12 : decode cX9_cutStock 12 = .ok (.istore 4, 2) := by decide +kernel
theorem dX9_cutStock_14 : decode cX9_cutStock 14 = .ok (.iload 4, 2) := by decide +kernel
theorem dX9_cutStock_16 : decode cX9_cutStock 16 = .ok (.aload_n 0, 1) := by decide +kernel
theorem dX9_cutStock_17 : decode cX9_cutStock 17 = .ok (.getfield 24, 3) := by decide +kernel
theorem dX9_cutStock_20 : decode cX9_cutStock 20 = .ok (.getfield 106, 3) := by decide +kernel
theorem dX9_cutStock_23 : decode cX9_cutStock 23 = .ok (.if_icmp .ge 87, 3) := by decide +kernel
theorem dX9_cutStock_26 : decode cX9_cutStock 26 = .ok (.aload_n 0, 1) := by decide +kernel
theorem dX9_cutStock_27 : decode cX9_cutStock 27 = .ok (.getfield 24, 3) := by decide +kernel
theorem dX9_cutStock_30 : decode cX9_cutStock 30 = .ok (.getfield 167, 3) := by decide +kernel
theorem dX9_cutStock_33 : decode cX9_cutStock 33 = .ok (.iload 4, 2) := by decide +kernel
theorem dX9_cutStock_35 : decode cX9_cutStock 35 = .ok (.iaload, 1) := by decide +kernel
theorem dX9_cutStock_36 : decode cX9_cutStock 36 = .ok (.iload_n 1, 1) := by decide +kernel
theorem dX9_cutStock_37 : decode cX9_cutStock 37 = .ok (.if_icmp .ne 67, 3) := by decide +kernel
theorem dX9_cutStock_40 : decode cX9_cutStock 40 = .ok (.aload_n 0, 1) := by decide +kernel
theorem dX9_cutStock_41 : decode cX9_cutStock 41 = .ok (.getfield 24, 3) := by decide +kernel
theorem dX9_cutStock_44 : decode cX9_cutStock 44 = .ok (.getfield 173, 3) := by decide +kernel
theorem dX9_cutStock_47 : decode cX9_cutStock 47 = .ok (.iload 4, 2) := by decide +kernel
theorem dX9_cutStock_49 : decode cX9_cutStock 49 = .ok (.iaload, 1) := by decide +kernel
theorem dX9_cutStock_50 : decode cX9_cutStock 50 = .ok (.iload_n 2, 1) := by decide +kernel
theorem dX9_cutStock_51 : decode cX9_cutStock 51 = .ok (.if_icmp .ne 53, 3) := by decide +kernel
theorem dX9_cutStock_54 : decode cX9_cutStock 54 = .ok (.aload_n 0, 1) := by decide +kernel
theorem dX9_cutStock_55 : decode cX9_cutStock 55 = .ok (.iload 4, 2) := by decide +kernel
theorem dX9_cutStock_57 : decode cX9_cutStock 57 = .ok (.invokevirtual 187, 3) := by decide +kernel
theorem dX9_cutStock_60 : decode cX9_cutStock 60 = .ok (.ifCond .eq 44, 3) := by decide +kernel
theorem dX9_cutStock_63 : decode cX9_cutStock 63 = .ok (.iload_n 3, 1) := by decide +kernel
theorem dX9_cutStock_64 : decode cX9_cutStock 64 = .ok (.aload_n 0, 1) := by decide +kernel
theorem dX9_cutStock_65 : decode cX9_cutStock 65 = .ok (.getfield 24, 3) := by decide +kernel
theorem dX9_cutStock_68 : decode cX9_cutStock 68 = .ok (.getfield 170, 3) := by decide +kernel
theorem dX9_cutStock_71 : decode cX9_cutStock 71 = .ok (.iload 4, 2) := by decide +kernel
theorem dX9_cutStock_73 : decode cX9_cutStock 73 = .ok (.iaload, 1) := by decide +kernel
theorem dX9_cutStock_74 : decode cX9_cutStock 74 = .ok (.iconst 1, 1) := by decide +kernel
theorem dX9_cutStock_75 : decode cX9_cutStock 75 = .ok (.if_icmp .ne 17, 3) := by decide +kernel
theorem dX9_cutStock_78 : decode cX9_cutStock 78 = .ok (.aload_n 0, 1) := by decide +kernel
theorem dX9_cutStock_79 : decode cX9_cutStock 79 = .ok (.getfield 24, 3) := by decide +kernel
theorem dX9_cutStock_82 : decode cX9_cutStock 82 = .ok (.getfield 174, 3) := by decide +kernel
theorem dX9_cutStock_85 : decode cX9_cutStock 85 = .ok (.iload 4, 2) := by decide +kernel
theorem dX9_cutStock_87 : decode cX9_cutStock 87 = .ok (.iaload, 1) := by decide +kernel
theorem dX9_cutStock_88 : decode cX9_cutStock 88 = .ok (.ineg, 1) := by decide +kernel
theorem dX9_cutStock_89 : decode cX9_cutStock 89 = .ok (.goto 13, 3) := by decide +kernel
theorem dX9_cutStock_92 : decode cX9_cutStock 92 = .ok (.aload_n 0, 1) := by decide +kernel
theorem dX9_cutStock_93 : decode cX9_cutStock 93 = .ok (.getfield 24, 3) := by decide +kernel
theorem dX9_cutStock_96 : decode cX9_cutStock 96 = .ok (.getfield 174, 3) := by decide +kernel
theorem dX9_cutStock_99 : decode cX9_cutStock 99 = .ok (.iload 4, 2) := by decide +kernel
theorem dX9_cutStock_101 : decode cX9_cutStock 101 = .ok (.iaload, 1) := by decide +kernel
theorem dX9_cutStock_102 : decode cX9_cutStock 102 = .ok (.iadd, 1) := by decide +kernel
theorem dX9_cutStock_103 : decode cX9_cutStock 103 = .ok (.istore_n 3, 1) := by decide +kernel
theorem dX9_cutStock_104 : decode cX9_cutStock 104 = .ok (.iinc 4 1, 3) := by decide +kernel
theorem dX9_cutStock_107 : decode cX9_cutStock 107 = .ok (.goto (-93), 3) := by decide +kernel
theorem dX9_cutStock_110 : decode cX9_cutStock 110 = .ok (.iload_n 3, 1) := by decide +kernel
theorem dX9_cutStock_111 : decode cX9_cutStock 111 = .ok (.ireturn, 1) := by decide +kernel
theorem dX9_crossesCut_0 : decode cX9_crossesCut 0 = .ok (.aload_n 0, 1) := by decide +kernel
theorem dX9_crossesCut_1 : decode cX9_crossesCut 1 = .ok (.getfield 31, 3) := by decide +kernel
theorem dX9_crossesCut_4 : decode cX9_crossesCut 4 = .ok (.getfield 133, 3) := by decide +kernel
theorem dX9_crossesCut_7 : decode cX9_crossesCut 7 = .ok (.iload_n 1, 1) := by decide +kernel
theorem dX9_crossesCut_8 : decode cX9_crossesCut 8 = .ok (.iaload, 1) := by decide +kernel
theorem dX9_crossesCut_9 : decode cX9_crossesCut 9 = .ok (.istore_n 2, 1) := by decide +kernel
theorem dX9_crossesCut_10 : decode cX9_crossesCut 10 = .ok (.iload_n 2, 1) := by decide +kernel
theorem dX9_crossesCut_11 : decode cX9_crossesCut 11 = .ok (.iconst (-1), 1) := by decide +kernel
theorem dX9_crossesCut_12 : decode cX9_crossesCut 12 = .ok (.if_icmp .eq 11, 3) := by decide +kernel
theorem dX9_crossesCut_15 : decode cX9_crossesCut 15 = .ok (.aload_n 0, 1) := by decide +kernel
theorem dX9_crossesCut_16 : decode cX9_crossesCut 16 = .ok (.iload_n 2, 1) := by decide +kernel
theorem dX9_crossesCut_17 : decode cX9_crossesCut 17 = .ok (.invokevirtual 187, 3) := by decide +kernel
theorem dX9_crossesCut_20 : decode cX9_crossesCut 20 = .ok (.ifCond .eq 23, 3) := by decide +kernel
theorem dX9_crossesCut_23 : decode cX9_crossesCut 23 = .ok (.aload_n 0, 1) := by decide +kernel
theorem dX9_crossesCut_24 : decode cX9_crossesCut 24 = .ok (.aload_n 0, 1) := by decide +kernel
theorem dX9_crossesCut_25 : decode cX9_crossesCut 25 = .ok (.getfield 31, 3) := by decide +kernel
theorem dX9_crossesCut_28 : decode cX9_crossesCut 28 = .ok (.getfield 139, 3) := by decide +kernel
theorem dX9_crossesCut_31 : decode cX9_crossesCut 31 = .ok (.iload_n 1, 1) := by decide +kernel
theorem dX9_crossesCut_32 : decode cX9_crossesCut 32 = .ok (.iaload, 1) := by decide +kernel
theorem dX9_crossesCut_33 : decode cX9_crossesCut 33 = .ok (.invokevirtual 187, 3) := by decide +kernel
theorem dX9_crossesCut_36 : decode cX9_crossesCut 36 = .ok (.ifCond .ne 7, 3) := by decide +kernel
theorem dX9_crossesCut_39 : decode cX9_crossesCut 39 = .ok (.iconst 1, 1) := by decide +kernel
theorem dX9_crossesCut_40 : decode cX9_crossesCut 40 = .ok (.goto 4, 3) := by decide +kernel
theorem dX9_crossesCut_43 : decode cX9_crossesCut 43 = .ok (.iconst 0, 1) := by decide +kernel
theorem dX9_crossesCut_44 : decode cX9_crossesCut 44 = .ok (.ireturn, 1) := by decide +kernel
theorem dX9_countCrossing_0 : decode cX9_countCrossing 0 = .ok (.iconst 0, 1) := by decide +kernel
theorem dX9_countCrossing_1 : decode cX9_countCrossing 1 = .ok (.istore_n 2, 1) := by decide +kernel
theorem dX9_countCrossing_2 : decode cX9_countCrossing 2 = .ok (.iconst 0, 1) := by decide +kernel
theorem dX9_countCrossing_3 : decode cX9_countCrossing 3 = .ok (.istore_n 3, 1) := by decide +kernel
theorem dX9_countCrossing_4 : decode cX9_countCrossing 4 = .ok (.iload_n 3, 1) := by decide +kernel
theorem dX9_countCrossing_5 : decode cX9_countCrossing 5 = .ok (.aload_n 0, 1) := by decide +kernel
theorem dX9_countCrossing_6 : decode cX9_countCrossing 6 = .ok (.getfield 31, 3) := by decide +kernel
theorem dX9_countCrossing_9 : decode cX9_countCrossing 9 = .ok (.getfield 77, 3) := by decide +kernel
theorem dX9_countCrossing_12 : decode cX9_countCrossing 12 = .ok (.if_icmp .ge 33, 3) := by decide +kernel
theorem dX9_countCrossing_15 : decode cX9_countCrossing 15 = .ok (.aload_n 0, 1) := by decide +kernel
theorem dX9_countCrossing_16 : decode cX9_countCrossing 16 = .ok (.getfield 31, 3) := by decide +kernel
theorem dX9_countCrossing_19 : decode cX9_countCrossing 19 = .ok (.getfield 84, 3) := by decide +kernel
theorem dX9_countCrossing_22 : decode cX9_countCrossing 22 = .ok (.iload_n 3, 1) := by decide +kernel
theorem dX9_countCrossing_23 : decode cX9_countCrossing 23 = .ok (.iaload, 1) := by decide +kernel
theorem dX9_countCrossing_24 : decode cX9_countCrossing 24 = .ok (.iload_n 1, 1) := by decide +kernel
theorem dX9_countCrossing_25 : decode cX9_countCrossing 25 = .ok (.if_icmp .ne 14, 3) := by decide +kernel
theorem dX9_countCrossing_28 : decode cX9_countCrossing 28 = .ok (.aload_n 0, 1) := by decide +kernel
theorem dX9_countCrossing_29 : decode cX9_countCrossing 29 = .ok (.iload_n 3, 1) := by decide +kernel
theorem dX9_countCrossing_30 : decode cX9_countCrossing 30 = .ok (.invokevirtual 80, 3) := by decide +kernel
theorem dX9_countCrossing_33 : decode cX9_countCrossing 33 = .ok (.ifCond .eq 6, 3) := by decide +kernel
theorem dX9_countCrossing_36 : decode cX9_countCrossing 36 = .ok (.iinc 2 1, 3) := by decide +kernel
theorem dX9_countCrossing_39 : decode cX9_countCrossing 39 = .ok (.iinc 3 1, 3) := by decide +kernel
theorem dX9_countCrossing_42 : decode cX9_countCrossing 42 = .ok (.goto (-38), 3) := by decide +kernel
theorem dX9_countCrossing_45 : decode cX9_countCrossing 45 = .ok (.iload_n 2, 1) := by decide +kernel
theorem dX9_countCrossing_46 : decode cX9_countCrossing 46 = .ok (.ireturn, 1) := by decide +kernel
theorem dX9_crossingAt_0 : decode cX9_crossingAt 0 = .ok (.iconst 0, 1) := by decide +kernel
theorem dX9_crossingAt_1 : decode cX9_crossingAt 1 = .ok (.istore_n 3, 1) := by decide +kernel
theorem dX9_crossingAt_2 : decode cX9_crossingAt 2 = .ok (.iconst 0, 1) := by decide +kernel
theorem dX9_crossingAt_3 : decode cX9_crossingAt 3 = .ok (.istore 4, 2) := by decide +kernel
theorem dX9_crossingAt_5 : decode cX9_crossingAt 5 = .ok (.iload 4, 2) := by decide +kernel
theorem dX9_crossingAt_7 : decode cX9_crossingAt 7 = .ok (.aload_n 0, 1) := by decide +kernel
theorem dX9_crossingAt_8 : decode cX9_crossingAt 8 = .ok (.getfield 31, 3) := by decide +kernel
theorem dX9_crossingAt_11 : decode cX9_crossingAt 11 = .ok (.getfield 77, 3) := by decide +kernel
theorem dX9_crossingAt_14 : decode cX9_crossingAt 14 = .ok (.if_icmp .ge 43, 3) := by decide +kernel
theorem dX9_crossingAt_17 : decode cX9_crossingAt 17 = .ok (.aload_n 0, 1) := by decide +kernel
theorem dX9_crossingAt_18 : decode cX9_crossingAt 18 = .ok (.getfield 31, 3) := by decide +kernel
theorem dX9_crossingAt_21 : decode cX9_crossingAt 21 = .ok (.getfield 84, 3) := by decide +kernel
theorem dX9_crossingAt_24 : decode cX9_crossingAt 24 = .ok (.iload 4, 2) := by decide +kernel
theorem dX9_crossingAt_26 : decode cX9_crossingAt 26 = .ok (.iaload, 1) := by decide +kernel
theorem dX9_crossingAt_27 : decode cX9_crossingAt 27 = .ok (.iload_n 1, 1) := by decide +kernel
theorem dX9_crossingAt_28 : decode cX9_crossingAt 28 = .ok (.if_icmp .ne 23, 3) := by decide +kernel
theorem dX9_crossingAt_31 : decode cX9_crossingAt 31 = .ok (.aload_n 0, 1) := by decide +kernel
theorem dX9_crossingAt_32 : decode cX9_crossingAt 32 = .ok (.iload 4, 2) := by decide +kernel
theorem dX9_crossingAt_34 : decode cX9_crossingAt 34 = .ok (.invokevirtual 80, 3) := by decide +kernel
theorem dX9_crossingAt_37 : decode cX9_crossingAt 37 = .ok (.ifCond .eq 14, 3) := by decide +kernel
theorem dX9_crossingAt_40 : decode cX9_crossingAt 40 = .ok (.iload_n 3, 1) := by decide +kernel
theorem dX9_crossingAt_41 : decode cX9_crossingAt 41 = .ok (.iload_n 2, 1) := by decide +kernel
theorem dX9_crossingAt_42 : decode cX9_crossingAt 42 = .ok (.if_icmp .ne 6, 3) := by decide +kernel
theorem dX9_crossingAt_45 : decode cX9_crossingAt 45 = .ok (.iload 4, 2) := by decide +kernel
theorem dX9_crossingAt_47 : decode cX9_crossingAt 47 = .ok (.ireturn, 1) := by decide +kernel
theorem dX9_crossingAt_48 : decode cX9_crossingAt 48 = .ok (.iinc 3 1, 3) := by decide +kernel
theorem dX9_crossingAt_51 : decode cX9_crossingAt 51 = .ok (.iinc 4 1, 3) := by decide +kernel
theorem dX9_crossingAt_54 : decode cX9_crossingAt 54 = .ok (.goto (-49), 3) := by decide +kernel
theorem dX9_crossingAt_57 : decode cX9_crossingAt 57 = .ok (.iconst (-1), 1) := by decide +kernel
theorem dX9_crossingAt_58 : decode cX9_crossingAt 58 = .ok (.ireturn, 1) := by decide +kernel
theorem dX10_init_0 : decode cX10_init 0 = .ok (.aload_n 0, 1) := by decide +kernel
theorem dX10_init_1 : decode cX10_init 1 = .ok (.invokespecial 1, 3) := by decide +kernel
theorem dX10_init_4 : decode cX10_init 4 = .ok (.aload_n 0, 1) := by decide +kernel
theorem dX10_init_5 : decode cX10_init 5 = .ok (.new 7, 3) := by decide +kernel
theorem dX10_init_8 : decode cX10_init 8 = .ok (.dup, 1) := by decide +kernel
theorem dX10_init_9 : decode cX10_init 9 = .ok (.invokespecial 9, 3) := by decide +kernel
theorem dX10_init_12 : decode cX10_init 12 = .ok (.putfield 10, 3) := by decide +kernel
theorem dX10_init_15 : decode cX10_init 15 = .ok (.aload_n 0, 1) := by decide +kernel
theorem dX10_init_16 : decode cX10_init 16 = .ok (.new 7, 3) := by decide +kernel
theorem dX10_init_19 : decode cX10_init 19 = .ok (.dup, 1) := by decide +kernel
theorem dX10_init_20 : decode cX10_init 20 = .ok (.invokespecial 9, 3) := by decide +kernel
theorem dX10_init_23 : decode cX10_init 23 = .ok (.putfield 16, 3) := by decide +kernel
theorem dX10_init_26 : decode cX10_init 26 = .ok (.aload_n 0, 1) := by decide +kernel
theorem dX10_init_27 : decode cX10_init 27 = .ok (.new 19, 3) := by decide +kernel
theorem dX10_init_30 : decode cX10_init 30 = .ok (.dup, 1) := by decide +kernel
theorem dX10_init_31 : decode cX10_init 31 = .ok (.invokespecial 21, 3) := by decide +kernel
theorem dX10_init_34 : decode cX10_init 34 = .ok (.putfield 22, 3) := by decide +kernel
theorem dX10_init_37 : decode cX10_init 37 = .ok (.aload_n 0, 1) := by decide +kernel
theorem dX10_init_38 : decode cX10_init 38 = .ok (.new 26, 3) := by decide +kernel
theorem dX10_init_41 : decode cX10_init 41 = .ok (.dup, 1) := by decide +kernel
theorem dX10_init_42 : decode cX10_init 42 = .ok (.invokespecial 28, 3) := by decide +kernel
theorem dX10_init_45 : decode cX10_init 45 = .ok (.putfield 29, 3) := by decide +kernel
theorem dX10_init_48 : decode cX10_init 48 = .ok (.aload_n 0, 1) := by decide +kernel
theorem dX10_init_49 : decode cX10_init 49 = .ok (.new 33, 3) := by decide +kernel
theorem dX10_init_52 : decode cX10_init 52 = .ok (.dup, 1) := by decide +kernel
theorem dX10_init_53 : decode cX10_init 53 = .ok (.invokespecial 35, 3) := by decide +kernel
theorem dX10_init_56 : decode cX10_init 56 = .ok (.putfield 36, 3) := by decide +kernel
theorem dX10_init_59 : decode cX10_init 59 = .ok (.aload_n 0, 1) := by decide +kernel
theorem dX10_init_60 : decode cX10_init 60 = .ok (.new 40, 3) := by decide +kernel
theorem dX10_init_63 : decode cX10_init 63 = .ok (.dup, 1) := by decide +kernel
theorem dX10_init_64 : decode cX10_init 64 = .ok (.invokespecial 42, 3) := by decide +kernel
theorem dX10_init_67 : decode cX10_init 67 = .ok (.putfield 43, 3) := by decide +kernel
theorem dX10_init_70 : decode cX10_init 70 = .ok (.aload_n 0, 1) := by decide +kernel
theorem dX10_init_71 : decode cX10_init 71 = .ok (.new 47, 3) := by decide +kernel
theorem dX10_init_74 : decode cX10_init 74 = .ok (.dup, 1) := by decide +kernel
theorem dX10_init_75 : decode cX10_init 75 = .ok (.invokespecial 49, 3) := by decide +kernel
theorem dX10_init_78 : decode cX10_init 78 = .ok (.putfield 50, 3) := by decide +kernel
theorem dX10_init_81 : decode cX10_init 81 = .ok (.aload_n 0, 1) := by decide +kernel
theorem dX10_init_82 : decode cX10_init 82 = .ok (.iconst 3, 1) := by decide +kernel
theorem dX10_init_83 : decode cX10_init 83 = .ok (.invokevirtual 54, 3) := by decide +kernel
theorem dX10_init_86 : decode cX10_init 86 = .ok (.return_, 1) := by decide +kernel
theorem dX10_reset_0 : decode cX10_reset 0 = .ok (.iload_n 1, 1) := by decide +kernel
theorem dX10_reset_1 : decode cX10_reset 1 = .ok (.iconst 2, 1) := by decide +kernel
theorem dX10_reset_2 : decode cX10_reset 2 = .ok (.iconst 5, 1) := by decide +kernel
theorem dX10_reset_3 : decode cX10_reset 3 = .ok (.invokestatic 58, 3) := by decide +kernel
theorem dX10_reset_6 : decode cX10_reset 6 = .ok (.ifCond .ne 6, 3) := by decide +kernel
theorem dX10_reset_9 : decode cX10_reset 9 = .ok (.ldc 62, 2) := by decide +kernel
theorem dX10_reset_11 : decode cX10_reset 11 = .ok (.ireturn, 1) := by decide +kernel
theorem dX10_reset_12 : decode cX10_reset 12 = .ok (.aload_n 0, 1) := by decide +kernel
theorem dX10_reset_13 : decode cX10_reset 13 = .ok (.getfield 10, 3) := by decide +kernel
theorem dX10_reset_16 : decode cX10_reset 16 = .ok (.getfield 63, 3) := by decide +kernel
theorem dX10_reset_19 : decode cX10_reset 19 = .ok (.istore_n 2, 1) := by decide +kernel
theorem dX10_reset_20 : decode cX10_reset 20 = .ok (.aload_n 0, 1) := by decide +kernel
theorem dX10_reset_21 : decode cX10_reset 21 = .ok (.iload_n 1, 1) := by decide +kernel
theorem dX10_reset_22 : decode cX10_reset 22 = .ok (.invokevirtual 54, 3) := by decide +kernel
theorem dX10_reset_25 : decode cX10_reset 25 = .ok (.iload_n 2, 1) := by decide +kernel
theorem dX10_reset_26 : decode cX10_reset 26 = .ok (.ireturn, 1) := by decide +kernel
theorem dX10_setStock_0 : decode cX10_setStock 0 = .ok (.aload_n 0, 1) := by decide +kernel
theorem dX10_setStock_1 : decode cX10_setStock 1 = .ok (.iload_n 1, 1) := by decide +kernel
theorem dX10_setStock_2 : decode cX10_setStock 2 = .ok (.invokevirtual 67, 3) := by decide +kernel
theorem dX10_setStock_5 : decode cX10_setStock 5 = .ok (.ifCond .eq 10, 3) := by decide +kernel
theorem dX10_setStock_8 : decode cX10_setStock 8 = .ok (.iload_n 2, 1) := by decide +kernel
theorem dX10_setStock_9 : decode cX10_setStock 9 = .ok (.invokestatic 71, 3) := by decide +kernel
theorem dX10_setStock_12 : decode cX10_setStock 12 = .ok (.ifCond .ne 6, 3) := by decide +kernel
theorem dX10_setStock_15 : decode cX10_setStock 15 = .ok (.ldc 74, 2) := by decide +kernel
theorem dX10_setStock_17 : decode cX10_setStock 17 = .ok (.ireturn, 1) := by decide +kernel
theorem dX10_setStock_18 : decode cX10_setStock 18 = .ok (.iload_n 3, 1) := by decide +kernel
theorem dX10_setStock_19 : decode cX10_setStock 19 = .ok (.iconst 0, 1) := by decide +kernel
theorem dX10_setStock_20 : decode cX10_setStock 20 = .ok (.sipush 1000, 3) := by decide +kernel
theorem dX10_setStock_23 : decode cX10_setStock 23 = .ok (.invokestatic 58, 3) := by decide +kernel
theorem dX10_setStock_26 : decode cX10_setStock 26 = .ok (.ifCond .ne 6, 3) := by decide +kernel
theorem dX10_setStock_29 : decode cX10_setStock 29 = .ok (.ldc 62, 2) := by decide +kernel
theorem dX10_setStock_31 : decode cX10_setStock 31 = .ok (.ireturn, 1) := by decide +kernel
theorem dX10_setStock_32 : decode cX10_setStock 32 = .ok (.aload_n 0, 1) := by decide +kernel
theorem dX10_setStock_33 : decode cX10_setStock 33 = .ok (.getfield 10, 3) := by decide +kernel
theorem dX10_setStock_36 : decode cX10_setStock 36 = .ok (.getfield 75, 3) := by decide +kernel
theorem dX10_setStock_39 : decode cX10_setStock 39 = .ok (.getfield 79, 3) := by decide +kernel
theorem dX10_setStock_42 : decode cX10_setStock 42 = .ok (.ifCond .le 6, 3) := by decide +kernel
theorem dX10_setStock_45 : decode cX10_setStock 45 = .ok (.ldc 84, 2) := by decide +kernel
theorem dX10_setStock_47 : decode cX10_setStock 47 = .ok (.ireturn, 1) := by decide +kernel
theorem dX10_setStock_48 : decode cX10_setStock 48 = .ok (.aload_n 0, 1) := by decide +kernel
theorem dX10_setStock_49 : decode cX10_setStock 49 = .ok (.getfield 10, 3) := by decide +kernel
theorem dX10_setStock_52 : decode cX10_setStock 52 = .ok (.getfield 85, 3) := by decide +kernel
theorem dX10_setStock_55 : decode cX10_setStock 55 = .ok (.iload_n 1, 1) := by decide +kernel
theorem dX10_setStock_56 : decode cX10_setStock 56 = .ok (.iload_n 2, 1) := by decide +kernel
theorem dX10_setStock_57 : decode cX10_setStock 57 = .ok (.invokestatic 89, 3) := by decide +kernel
theorem dX10_setStock_60 : decode cX10_setStock 60 = .ok (.iaload, 1) := by decide +kernel
theorem dX10_setStock_61 : decode cX10_setStock 61 = .ok (.istore 4, 2) := by decide +kernel
theorem dX10_setStock_63 : decode cX10_setStock 63 = .ok (.aload_n 0, 1) := by decide +kernel
theorem dX10_setStock_64 : decode cX10_setStock 64 = .ok (.getfield 10, 3) := by decide +kernel
theorem dX10_setStock_67 : decode cX10_setStock 67 = .ok (.getfield 85, 3) := by decide +kernel
theorem dX10_setStock_70 : decode cX10_setStock 70 = .ok (.iload_n 1, 1) := by decide +kernel
theorem dX10_setStock_71 : decode cX10_setStock 71 = .ok (.iload_n 2, 1) := by decide +kernel
theorem dX10_setStock_72 : decode cX10_setStock 72 = .ok (.invokestatic 89, 3) := by decide +kernel
theorem dX10_setStock_75 : decode cX10_setStock 75 = .ok (.iload_n 3, 1) := by decide +kernel
theorem dX10_setStock_76 : decode cX10_setStock 76 = .ok (.iastore, 1) := by decide +kernel
theorem dX10_setStock_77 : decode cX10_setStock 77 = .ok (.aload_n 0, 1) := by decide +kernel
theorem dX10_setStock_78 : decode cX10_setStock 78 = .ok (.getfield 10, 3) := by decide +kernel
theorem dX10_setStock_81 : decode cX10_setStock 81 = .ok (.getfield 93, 3) := by decide +kernel
theorem dX10_setStock_84 : decode cX10_setStock 84 = .ok (.iload_n 1, 1) := by decide +kernel
theorem dX10_setStock_85 : decode cX10_setStock 85 = .ok (.iload_n 2, 1) := by decide +kernel
theorem dX10_setStock_86 : decode cX10_setStock 86 = .ok (.invokestatic 89, 3) := by decide +kernel
theorem dX10_setStock_89 : decode cX10_setStock 89 = .ok (.iload_n 3, 1) := by decide +kernel
theorem dX10_setStock_90 : decode cX10_setStock 90 = .ok (.iastore, 1) := by decide +kernel
theorem dX10_setStock_91 : decode cX10_setStock 91 = .ok (.iload 4, 2) := by decide +kernel
theorem dX10_setStock_93 : decode cX10_setStock 93 = .ok (.ireturn, 1) := by decide +kernel
theorem dX10_change_0 : decode cX10_change 0 = .ok (.aload_n 0, 1) := by decide +kernel
theorem dX10_change_1 : decode cX10_change 1 = .ok (.iload_n 1, 1) := by decide +kernel
theorem dX10_change_2 : decode cX10_change 2 = .ok (.invokevirtual 67, 3) := by decide +kernel
theorem dX10_change_5 : decode cX10_change 5 = .ok (.ifCond .eq 10, 3) := by decide +kernel
theorem dX10_change_8 : decode cX10_change 8 = .ok (.iload_n 2, 1) := by decide +kernel
theorem dX10_change_9 : decode cX10_change 9 = .ok (.invokestatic 71, 3) := by decide +kernel
theorem dX10_change_12 : decode cX10_change 12 = .ok (.ifCond .ne 6, 3) := by decide +kernel
theorem dX10_change_15 : decode cX10_change 15 = .ok (.ldc 74, 2) := by decide +kernel
theorem dX10_change_17 : decode cX10_change 17 = .ok (.ireturn, 1) := by decide +kernel
theorem dX10_change_18 : decode cX10_change 18 = .ok (.iload_n 3, 1) := by decide +kernel
theorem dX10_change_19 : decode cX10_change 19 = .ok (.bipush (-100), 2) := by decide +kernel
theorem dX10_change_21 : decode cX10_change 21 = .ok (.bipush 100, 2) := by decide +kernel
theorem dX10_change_23 : decode cX10_change 23 = .ok (.invokestatic 58, 3) := by decide +kernel
theorem dX10_change_26 : decode cX10_change 26 = .ok (.ifCond .eq 7, 3) := by decide +kernel
theorem dX10_change_29 : decode cX10_change 29 = .ok (.iload_n 3, 1) := by decide +kernel
theorem dX10_change_30 : decode cX10_change 30 = .ok (.ifCond .ne 6, 3) := by decide +kernel
theorem dX10_change_33 : decode cX10_change 33 = .ok (.ldc 62, 2) := by decide +kernel
theorem dX10_change_35 : decode cX10_change 35 = .ok (.ireturn, 1) := by decide +kernel
theorem dX10_change_36 : decode cX10_change 36 = .ok (.aload_n 0, 1) := by decide +kernel
theorem dX10_change_37 : decode cX10_change 37 = .ok (.getfield 10, 3) := by decide +kernel
theorem dX10_change_40 : decode cX10_change 40 = .ok (.iload_n 1, 1) := by decide +kernel
theorem dX10_change_41 : decode cX10_change 41 = .ok (.iload_n 2, 1) := by decide +kernel
theorem dX10_change_42 : decode cX10_change 42 = .ok (.iload_n 3, 1) := by decide +kernel
theorem dX10_change_43 : decode cX10_change 43 = .ok (.invokevirtual 96, 3) := by decide +kernel
theorem dX10_change_46 : decode cX10_change 46 = .ok (.ireturn, 1) := by decide +kernel
theorem dX10_send_0 : decode cX10_send 0 = .ok (.aload_n 0, 1) := by decide +kernel
theorem dX10_send_1 : decode cX10_send 1 = .ok (.iload_n 1, 1) := by decide +kernel
theorem dX10_send_2 : decode cX10_send 2 = .ok (.iload_n 2, 1) := by decide +kernel
theorem dX10_send_3 : decode cX10_send 3 = .ok (.invokevirtual 100, 3) := by decide +kernel
theorem dX10_send_6 : decode cX10_send 6 = .ok (.ifCond .eq 10, 3) := by decide +kernel
theorem dX10_send_9 : decode cX10_send 9 = .ok (.iload_n 3, 1) := by decide +kernel
theorem dX10_send_10 : decode cX10_send 10 = .ok (.invokestatic 71, 3) := by decide +kernel
theorem dX10_send_13 : decode cX10_send 13 = .ok (.ifCond .ne 6, 3) := by decide +kernel
theorem dX10_send_16 : decode cX10_send 16 = .ok (.ldc 74, 2) := by decide +kernel
theorem dX10_send_18 : decode cX10_send 18 = .ok (.ireturn, 1) := by decide +kernel
theorem dX10_send_19 : decode cX10_send 19 = .ok (.iload 4, 2) := by decide +kernel
theorem dX10_send_21 : decode cX10_send 21 = .ok (.iconst 1, 1) := by decide +kernel
theorem dX10_send_22 : decode cX10_send 22 = .ok (.bipush 100, 2) := by decide +kernel
theorem dX10_send_24 : decode cX10_send 24 = .ok (.invokestatic 58, 3) := by decide +kernel
theorem dX10_send_27 : decode cX10_send 27 = .ok (.ifCond .ne 6, 3) := by decide +kernel
theorem dX10_send_30 : decode cX10_send 30 = .ok (.ldc 62, 2) := by decide +kernel
theorem dX10_send_32 : decode cX10_send 32 = .ok (.ireturn, 1) := by decide +kernel
theorem dX10_send_33 : decode cX10_send 33 = .ok (.aload_n 0, 1) := by decide +kernel
theorem dX10_send_34 : decode cX10_send 34 = .ok (.getfield 10, 3) := by decide +kernel
theorem dX10_send_37 : decode cX10_send 37 = .ok (.iload_n 1, 1) := by decide +kernel
theorem dX10_send_38 : decode cX10_send 38 = .ok (.iload_n 2, 1) := by decide +kernel
theorem dX10_send_39 : decode cX10_send 39 = .ok (.iload_n 3, 1) := by decide +kernel
theorem dX10_send_40 : decode cX10_send 40 = .ok (.iload 4, 2) := by decide +kernel
theorem dX10_send_42 : decode cX10_send 42 = .ok (.invokevirtual 104, 3) := by decide +kernel
theorem dX10_send_45 : decode cX10_send 45 = .ok (.ireturn, 1) := by decide +kernel
theorem dX10_receive_0 : decode cX10_receive 0 = .ok (.aload_n 0, 1) := by decide +kernel
theorem dX10_receive_1 : decode cX10_receive 1 = .ok (.iload_n 2, 1) := by decide +kernel
theorem dX10_receive_2 : decode cX10_receive 2 = .ok (.iload_n 1, 1) := by decide +kernel
theorem dX10_receive_3 : decode cX10_receive 3 = .ok (.invokevirtual 100, 3) := by decide +kernel
theorem dX10_receive_6 : decode cX10_receive 6 = .ok (.ifCond .ne 6, 3) := by decide +kernel
theorem dX10_receive_9 : decode cX10_receive 9 = .ok (.ldc 74, 2) := by decide +kernel
theorem dX10_receive_11 : decode cX10_receive 11 = .ok (.ireturn, 1) := by decide +kernel
theorem dX10_receive_12 : decode cX10_receive 12 = .ok (.aload_n 0, 1) := by decide +kernel
theorem dX10_receive_13 : decode cX10_receive 13 = .ok (.getfield 10, 3) := by decide +kernel
theorem dX10_receive_16 : decode cX10_receive 16 = .ok (.iload_n 1, 1) := by decide +kernel
theorem dX10_receive_17 : decode cX10_receive 17 = .ok (.iload_n 2, 1) := by decide +kernel
theorem dX10_receive_18 : decode cX10_receive 18 = .ok (.invokevirtual 108, 3) := by decide +kernel
theorem dX10_receive_21 : decode cX10_receive 21 = .ok (.ireturn, 1) := by decide +kernel
theorem dX10_stock_0 : decode cX10_stock 0 = .ok (.aload_n 0, 1) := by decide +kernel
theorem dX10_stock_1 : decode cX10_stock 1 = .ok (.iload_n 1, 1) := by decide +kernel
theorem dX10_stock_2 : decode cX10_stock 2 = .ok (.invokevirtual 67, 3) := by decide +kernel
theorem dX10_stock_5 : decode cX10_stock 5 = .ok (.ifCond .eq 10, 3) := by decide +kernel
theorem dX10_stock_8 : decode cX10_stock 8 = .ok (.iload_n 2, 1) := by decide +kernel
theorem dX10_stock_9 : decode cX10_stock 9 = .ok (.invokestatic 71, 3) := by decide +kernel
theorem dX10_stock_12 : decode cX10_stock 12 = .ok (.ifCond .ne 6, 3) := by decide +kernel
theorem dX10_stock_15 : decode cX10_stock 15 = .ok (.ldc 74, 2) := by decide +kernel
theorem dX10_stock_17 : decode cX10_stock 17 = .ok (.ireturn, 1) := by decide +kernel
theorem dX10_stock_18 : decode cX10_stock 18 = .ok (.aload_n 0, 1) := by decide +kernel
theorem dX10_stock_19 : decode cX10_stock 19 = .ok (.getfield 10, 3) := by decide +kernel
theorem dX10_stock_22 : decode cX10_stock 22 = .ok (.getfield 85, 3) := by decide +kernel
theorem dX10_stock_25 : decode cX10_stock 25 = .ok (.iload_n 1, 1) := by decide +kernel
theorem dX10_stock_26 : decode cX10_stock 26 = .ok (.iload_n 2, 1) := by decide +kernel
theorem dX10_stock_27 : decode cX10_stock 27 = .ok (.invokestatic 89, 3) := by decide +kernel
theorem dX10_stock_30 : decode cX10_stock 30 = .ok (.iaload, 1) := by decide +kernel
theorem dX10_stock_31 : decode cX10_stock 31 = .ok (.ireturn, 1) := by decide +kernel
theorem dX10_inChannel_0 : decode cX10_inChannel 0 = .ok (.aload_n 0, 1) := by decide +kernel
theorem dX10_inChannel_1 : decode cX10_inChannel 1 = .ok (.iload_n 1, 1) := by decide +kernel
theorem dX10_inChannel_2 : decode cX10_inChannel 2 = .ok (.iload_n 2, 1) := by decide +kernel
theorem dX10_inChannel_3 : decode cX10_inChannel 3 = .ok (.invokevirtual 100, 3) := by decide +kernel
theorem dX10_inChannel_6 : decode cX10_inChannel 6 = .ok (.ifCond .ne 6, 3) := by decide +kernel
theorem dX10_inChannel_9 : decode cX10_inChannel 9 = .ok (.ldc 74, 2) := by decide +kernel
theorem dX10_inChannel_11 : decode cX10_inChannel 11 = .ok (.ireturn, 1) := by decide +kernel
theorem dX10_inChannel_12 : decode cX10_inChannel 12 = .ok (.iload_n 3, 1) := by decide +kernel
theorem dX10_inChannel_13 : decode cX10_inChannel 13 = .ok (.ifCond .lt 13, 3) := by decide +kernel
theorem dX10_inChannel_16 : decode cX10_inChannel 16 = .ok (.iload 4, 2) := by decide +kernel
theorem dX10_inChannel_18 : decode cX10_inChannel 18 = .ok (.iconst 0, 1) := by decide +kernel
theorem dX10_inChannel_19 : decode cX10_inChannel 19 = .ok (.iconst 2, 1) := by decide +kernel
theorem dX10_inChannel_20 : decode cX10_inChannel 20 = .ok (.invokestatic 58, 3) := by decide +kernel
theorem dX10_inChannel_23 : decode cX10_inChannel 23 = .ok (.ifCond .ne 6, 3) := by decide +kernel
theorem dX10_inChannel_26 : decode cX10_inChannel 26 = .ok (.ldc 62, 2) := by decide +kernel
theorem dX10_inChannel_28 : decode cX10_inChannel 28 = .ok (.ireturn, 1) := by decide +kernel
theorem dX10_inChannel_29 : decode cX10_inChannel 29 = .ok (.aload_n 0, 1) := by decide +kernel
theorem dX10_inChannel_30 : decode cX10_inChannel 30 = .ok (.getfield 10, 3) := by decide +kernel
theorem dX10_inChannel_33 : decode cX10_inChannel 33 = .ok (.getfield 111, 3) := by decide +kernel
theorem dX10_inChannel_36 : decode cX10_inChannel 36 = .ok (.iload_n 1, 1) := by decide +kernel
theorem dX10_inChannel_37 : decode cX10_inChannel 37 = .ok (.iload_n 2, 1) := by decide +kernel
theorem dX10_inChannel_38 : decode cX10_inChannel 38 = .ok (.invokestatic 115, 3) := by decide +kernel
theorem dX10_inChannel_41 : decode cX10_inChannel 41 = .ok (.iload_n 3, 1) := by decide +kernel
theorem dX10_inChannel_42 : decode cX10_inChannel 42 = .ok (.iload 4, 2) := by decide +kernel
theorem dX10_inChannel_44 : decode cX10_inChannel 44 = .ok (.invokevirtual 118, 3) := by decide +kernel
theorem dX10_inChannel_47 : decode cX10_inChannel 47 = .ok (.ireturn, 1) := by decide +kernel
theorem dX10_event_0 : decode cX10_event 0 = .ok (.aload_n 0, 1) := by decide +kernel
theorem dX10_event_1 : decode cX10_event 1 = .ok (.iload_n 1, 1) := by decide +kernel
theorem dX10_event_2 : decode cX10_event 2 = .ok (.invokevirtual 123, 3) := by decide +kernel
theorem dX10_event_5 : decode cX10_event 5 = .ok (.ifCond .ne 6, 3) := by decide +kernel
theorem dX10_event_8 : decode cX10_event 8 = .ok (.ldc 74, 2) := by decide +kernel
theorem dX10_event_10 : decode cX10_event 10 = .ok (.ireturn, 1) := by decide +kernel
theorem dX10_event_11 : decode cX10_event 11 = .ok (.iload_n 2, 1) := by decide +kernel
theorem dX10_event_12 : decode cX10_event 12 = .ok (.iconst 0, 1) := by decide +kernel
theorem dX10_event_13 : decode cX10_event 13 = .ok (.iconst 5, 1) := by decide +kernel
theorem dX10_event_14 : decode cX10_event 14 = .ok (.invokestatic 58, 3) := by decide +kernel
theorem dX10_event_17 : decode cX10_event 17 = .ok (.ifCond .ne 6, 3) := by decide +kernel
theorem dX10_event_20 : decode cX10_event 20 = .ok (.ldc 62, 2) := by decide +kernel
theorem dX10_event_22 : decode cX10_event 22 = .ok (.ireturn, 1) := by decide +kernel
theorem dX10_event_23 : decode cX10_event 23 = .ok (.aload_n 0, 1) := by decide +kernel
theorem dX10_event_24 : decode cX10_event 24 = .ok (.getfield 10, 3) := by decide +kernel
theorem dX10_event_27 : decode cX10_event 27 = .ok (.iload_n 1, 1) := by decide +kernel
theorem dX10_event_28 : decode cX10_event 28 = .ok (.iload_n 2, 1) := by decide +kernel
theorem dX10_event_29 : decode cX10_event 29 = .ok (.invokevirtual 126, 3) := by decide +kernel
theorem dX10_event_32 : decode cX10_event 32 = .ok (.ireturn, 1) := by decide +kernel
theorem dX10_clock_0 : decode cX10_clock 0 = .ok (.aload_n 0, 1) := by decide +kernel
theorem dX10_clock_1 : decode cX10_clock 1 = .ok (.iload_n 1, 1) := by decide +kernel
theorem dX10_clock_2 : decode cX10_clock 2 = .ok (.invokevirtual 123, 3) := by decide +kernel
theorem dX10_clock_5 : decode cX10_clock 5 = .ok (.ifCond .eq 11, 3) := by decide +kernel
theorem dX10_clock_8 : decode cX10_clock 8 = .ok (.aload_n 0, 1) := by decide +kernel
theorem dX10_clock_9 : decode cX10_clock 9 = .ok (.iload_n 2, 1) := by decide +kernel
theorem dX10_clock_10 : decode cX10_clock 10 = .ok (.invokevirtual 67, 3) := by decide +kernel
theorem dX10_clock_13 : decode cX10_clock 13 = .ok (.ifCond .ne 6, 3) := by decide +kernel
theorem dX10_clock_16 : decode cX10_clock 16 = .ok (.ldc 74, 2) := by decide +kernel
theorem dX10_clock_18 : decode cX10_clock 18 = .ok (.ireturn, 1) := by decide +kernel
theorem dX10_clock_19 : decode cX10_clock 19 = .ok (.aload_n 0, 1) := by decide +kernel
theorem dX10_clock_20 : decode cX10_clock 20 = .ok (.getfield 10, 3) := by decide +kernel
theorem dX10_clock_23 : decode cX10_clock 23 = .ok (.getfield 75, 3) := by decide +kernel
theorem dX10_clock_26 : decode cX10_clock 26 = .ok (.getfield 129, 3) := by decide +kernel
theorem dX10_clock_29 : decode cX10_clock 29 = .ok (.iload_n 1, 1) := by decide +kernel
theorem dX10_clock_30 : decode cX10_clock 30 = .ok (.iconst 5, 1) := by decide +kernel
theorem dX10_clock_31 : decode cX10_clock 31 = .ok (.imul, 1) := by decide +kernel
theorem dX10_clock_32 : decode cX10_clock 32 = .ok (.iload_n 2, 1) := by decide +kernel
theorem dX10_clock_33 : decode cX10_clock 33 = .ok (.iadd, 1) := by decide +kernel
theorem dX10_clock_34 : decode cX10_clock 34 = .ok (.iaload, 1) := by decide +kernel
theorem dX10_clock_35 : decode cX10_clock 35 = .ok (.ireturn, 1) := by decide +kernel
theorem dX10_order_0 : decode cX10_order 0 = .ok (.aload_n 0, 1) := by decide +kernel
theorem dX10_order_1 : decode cX10_order 1 = .ok (.iload_n 1, 1) := by decide +kernel
theorem dX10_order_2 : decode cX10_order 2 = .ok (.invokevirtual 123, 3) := by decide +kernel
theorem dX10_order_5 : decode cX10_order 5 = .ok (.ifCond .eq 11, 3) := by decide +kernel
theorem dX10_order_8 : decode cX10_order 8 = .ok (.aload_n 0, 1) := by decide +kernel
theorem dX10_order_9 : decode cX10_order 9 = .ok (.iload_n 2, 1) := by decide +kernel
theorem dX10_order_10 : decode cX10_order 10 = .ok (.invokevirtual 123, 3) := by decide +kernel
theorem dX10_order_13 : decode cX10_order 13 = .ok (.ifCond .ne 6, 3) := by decide +kernel
theorem dX10_order_16 : decode cX10_order 16 = .ok (.ldc 74, 2) := by decide +kernel
theorem dX10_order_18 : decode cX10_order 18 = .ok (.ireturn, 1) := by decide +kernel
theorem dX10_order_19 : decode cX10_order 19 = .ok (.aload_n 0, 1) := by decide +kernel
theorem dX10_order_20 : decode cX10_order 20 = .ok (.getfield 10, 3) := by decide +kernel
theorem dX10_order_23 : decode cX10_order 23 = .ok (.getfield 75, 3) := by decide +kernel
theorem dX10_order_26 : decode cX10_order 26 = .ok (.iload_n 1, 1) := by decide +kernel
theorem dX10_order_27 : decode cX10_order 27 = .ok (.iload_n 2, 1) := by decide +kernel
theorem dX10_order_28 : decode cX10_order 28 = .ok (.invokevirtual 132, 3) := by decide +kernel
theorem dX10_order_31 : decode cX10_order 31 = .ok (.ifCond .eq 5, 3) := by decide +kernel
theorem dX10_order_34 : decode cX10_order 34 = .ok (.iconst 1, 1) := by decide +kernel
theorem dX10_order_35 : decode cX10_order 35 = .ok (.ireturn, 1) := by decide +kernel
theorem dX10_order_36 : decode cX10_order 36 = .ok (.aload_n 0, 1) := by decide +kernel
theorem dX10_order_37 : decode cX10_order 37 = .ok (.getfield 10, 3) := by decide +kernel
theorem dX10_order_40 : decode cX10_order 40 = .ok (.getfield 75, 3) := by decide +kernel
theorem dX10_order_43 : decode cX10_order 43 = .ok (.iload_n 2, 1) := by decide +kernel
theorem dX10_order_44 : decode cX10_order 44 = .ok (.iload_n 1, 1) := by decide +kernel
theorem dX10_order_45 : decode cX10_order 45 = .ok (.invokevirtual 132, 3) := by decide +kernel
theorem dX10_order_48 : decode cX10_order 48 = .ok (.ifCond .eq 7, 3) := by decide +kernel
theorem dX10_order_51 : decode cX10_order 51 = .ok (.iconst (-1), 1) := by decide +kernel
theorem dX10_order_52 : decode cX10_order 52 = .ok (.goto 4, 3) := by decide +kernel
theorem dX10_order_55 : decode cX10_order 55 = .ok (.iconst 0, 1) := by decide +kernel
theorem dX10_order_56 : decode cX10_order 56 = .ok (.ireturn, 1) := by decide +kernel
theorem dX10_count_0 : decode cX10_count 0 = .ok (.iload_n 1, 1) := by decide +kernel
theorem dX10_count_1 : decode cX10_count 1 = .ok (.tableswitch 128 0 7 #[47, 55, 66, 77, 88, 96, 107, 115], 47) := by decide +kernel
theorem dX10_count_48 : decode cX10_count 48 = .ok (.aload_n 0, 1) := by decide +kernel
theorem dX10_count_49 : decode cX10_count 49 = .ok (.getfield 10, 3) := by decide +kernel
theorem dX10_count_52 : decode cX10_count 52 = .ok (.getfield 63, 3) := by decide +kernel
theorem dX10_count_55 : decode cX10_count 55 = .ok (.ireturn, 1) := by decide +kernel
theorem dX10_count_56 : decode cX10_count 56 = .ok (.aload_n 0, 1) := by decide +kernel
theorem dX10_count_57 : decode cX10_count 57 = .ok (.getfield 10, 3) := by decide +kernel
theorem dX10_count_60 : decode cX10_count 60 = .ok (.getfield 75, 3) := by decide +kernel
theorem dX10_count_63 : decode cX10_count 63 = .ok (.getfield 79, 3) := by decide +kernel
theorem dX10_count_66 : decode cX10_count 66 = .ok (.ireturn, 1) := by decide +kernel
theorem dX10_count_67 : decode cX10_count 67 = .ok (.aload_n 0, 1) := by decide +kernel
theorem dX10_count_68 : decode cX10_count 68 = .ok (.getfield 10, 3) := by decide +kernel
theorem dX10_count_71 : decode cX10_count 71 = .ok (.getfield 111, 3) := by decide +kernel
theorem dX10_count_74 : decode cX10_count 74 = .ok (.invokevirtual 135, 3) := by decide +kernel
theorem dX10_count_77 : decode cX10_count 77 = .ok (.ireturn, 1) := by decide +kernel
theorem dX10_count_78 : decode cX10_count 78 = .ok (.aload_n 0, 1) := by decide +kernel
theorem dX10_count_79 : decode cX10_count 79 = .ok (.getfield 10, 3) := by decide +kernel
theorem dX10_count_82 : decode cX10_count 82 = .ok (.getfield 111, 3) := by decide +kernel
theorem dX10_count_85 : decode cX10_count 85 = .ok (.invokevirtual 139, 3) := by decide +kernel
theorem dX10_count_88 : decode cX10_count 88 = .ok (.ireturn, 1) := by decide +kernel
theorem dX10_count_89 : decode cX10_count 89 = .ok (.aload_n 0, 1) := by decide +kernel
theorem dX10_count_90 : decode cX10_count 90 = .ok (.getfield 29, 3) := by decide +kernel
theorem dX10_count_93 : decode cX10_count 93 = .ok (.getfield 142, 3) := by decide +kernel
theorem dX10_count_96 : decode cX10_count 96 = .ok (.ireturn, 1) := by decide +kernel
theorem dX10_count_97 : decode cX10_count 97 = .ok (.aload_n 0, 1) := by decide +kernel
theorem dX10_count_98 : decode cX10_count 98 = .ok (.getfield 10, 3) := by decide +kernel
theorem dX10_count_101 : decode cX10_count 101 = .ok (.getfield 145, 3) := by decide +kernel
theorem dX10_count_104 : decode cX10_count 104 = .ok (.getfield 149, 3) := by decide +kernel
theorem dX10_count_107 : decode cX10_count 107 = .ok (.ireturn, 1) := by decide +kernel
theorem dX10_count_108 : decode cX10_count 108 = .ok (.aload_n 0, 1) := by decide +kernel
theorem dX10_count_109 : decode cX10_count 109 = .ok (.getfield 10, 3) := by decide +kernel
theorem dX10_count_112 : decode cX10_count 112 = .ok (.invokevirtual 154, 3) := by decide +kernel
theorem dX10_count_115 : decode cX10_count 115 = .ok (.ireturn, 1) := by decide +kernel
theorem dX10_count_116 : decode cX10_count 116 = .ok (.aload_n 0, 1) := by decide +kernel
theorem dX10_count_117 : decode cX10_count 117 = .ok (.getfield 157, 3) := by decide +kernel
theorem dX10_count_120 : decode cX10_count 120 = .ok (.ifCond .eq 7, 3) := by decide +kernel
theorem dX10_count_123 : decode cX10_count 123 = .ok (.iconst 1, 1) := by decide +kernel
theorem dX10_count_124 : decode cX10_count 124 = .ok (.goto 4, 3) := by decide +kernel
theorem dX10_count_127 : decode cX10_count 127 = .ok (.iconst 0, 1) := by decide +kernel
theorem dX10_count_128 : decode cX10_count 128 = .ok (.ireturn, 1) := by decide +kernel
theorem dX10_count_129 : decode cX10_count 129 = .ok (.ldc 62, 2) := by decide +kernel
theorem dX10_count_131 : decode cX10_count 131 = .ok (.ireturn, 1) := by decide +kernel
theorem dX10_eventsOf_0 : decode cX10_eventsOf 0 = .ok (.aload_n 0, 1) := by decide +kernel
theorem dX10_eventsOf_1 : decode cX10_eventsOf 1 = .ok (.iload_n 1, 1) := by decide +kernel
theorem dX10_eventsOf_2 : decode cX10_eventsOf 2 = .ok (.invokevirtual 67, 3) := by decide +kernel
theorem dX10_eventsOf_5 : decode cX10_eventsOf 5 = .ok (.ifCond .eq 18, 3) := by decide +kernel
theorem dX10_eventsOf_8 : decode cX10_eventsOf 8 = .ok (.aload_n 0, 1) := by decide +kernel
theorem dX10_eventsOf_9 : decode cX10_eventsOf 9 = .ok (.getfield 10, 3) := by decide +kernel
theorem dX10_eventsOf_12 : decode cX10_eventsOf 12 = .ok (.getfield 75, 3) := by decide +kernel
theorem dX10_eventsOf_15 : decode cX10_eventsOf 15 = .ok (.getfield 161, 3) := by decide +kernel
theorem dX10_eventsOf_18 : decode cX10_eventsOf 18 = .ok (.iload_n 1, 1) := by decide +kernel
theorem dX10_eventsOf_19 : decode cX10_eventsOf 19 = .ok (.iaload, 1) := by decide +kernel
theorem dX10_eventsOf_20 : decode cX10_eventsOf 20 = .ok (.goto 5, 3) := by decide +kernel
theorem dX10_eventsOf_23 : decode cX10_eventsOf 23 = .ok (.ldc 74, 2) := by decide +kernel
theorem dX10_eventsOf_25 : decode cX10_eventsOf 25 = .ok (.ireturn, 1) := by decide +kernel
theorem dX10_beginSnapshot_0 : decode cX10_beginSnapshot 0 = .ok (.aload_n 0, 1) := by decide +kernel
theorem dX10_beginSnapshot_1 : decode cX10_beginSnapshot 1 = .ok (.iload_n 1, 1) := by decide +kernel
theorem dX10_beginSnapshot_2 : decode cX10_beginSnapshot 2 = .ok (.invokevirtual 67, 3) := by decide +kernel
theorem dX10_beginSnapshot_5 : decode cX10_beginSnapshot 5 = .ok (.ifCond .ne 6, 3) := by decide +kernel
theorem dX10_beginSnapshot_8 : decode cX10_beginSnapshot 8 = .ok (.ldc 74, 2) := by decide +kernel
theorem dX10_beginSnapshot_10 : decode cX10_beginSnapshot 10 = .ok (.ireturn, 1) := by decide +kernel
theorem dX10_beginSnapshot_11 : decode cX10_beginSnapshot 11 = .ok (.aload_n 0, 1) := by decide +kernel
theorem dX10_beginSnapshot_12 : decode cX10_beginSnapshot 12 = .ok (.getfield 10, 3) := by decide +kernel
theorem dX10_beginSnapshot_15 : decode cX10_beginSnapshot 15 = .ok (.getfield 145, 3) := by decide +kernel
theorem dX10_beginSnapshot_18 : decode cX10_beginSnapshot 18 = .ok (.getfield 149, 3) := by decide +kernel
theorem dX10_beginSnapshot_21 : decode cX10_beginSnapshot 21 = .ok (.iconst 1, 1) := by decide +kernel
theorem dX10_beginSnapshot_22 : decode cX10_beginSnapshot 22 = .ok (.if_icmp .ne 6, 3) := by decide +kernel
theorem dX10_beginSnapshot_25 : decode cX10_beginSnapshot 25 = .ok (.ldc 84, 2) := by decide +kernel
theorem dX10_beginSnapshot_27 : decode cX10_beginSnapshot 27 = .ok (.ireturn, 1) := by decide +kernel
theorem dX10_beginSnapshot_28 : decode cX10_beginSnapshot 28 = .ok (.aload_n 0, 1) := by decide +kernel
theorem dX10_beginSnapshot_29 : decode cX10_beginSnapshot 29 = .ok (.getfield 10, 3) := by decide +kernel
theorem dX10_beginSnapshot_32 : decode cX10_beginSnapshot 32 = .ok (.getfield 145, 3) := by decide +kernel
theorem dX10_beginSnapshot_35 : decode cX10_beginSnapshot 35 = .ok (.invokevirtual 164, 3) := by decide +kernel
theorem dX10_beginSnapshot_38 : decode cX10_beginSnapshot 38 = .ok (.aload_n 0, 1) := by decide +kernel
theorem dX10_beginSnapshot_39 : decode cX10_beginSnapshot 39 = .ok (.getfield 10, 3) := by decide +kernel
theorem dX10_beginSnapshot_42 : decode cX10_beginSnapshot 42 = .ok (.getfield 145, 3) := by decide +kernel
theorem dX10_beginSnapshot_45 : decode cX10_beginSnapshot 45 = .ok (.iconst 1, 1) := by decide +kernel
theorem dX10_beginSnapshot_46 : decode cX10_beginSnapshot 46 = .ok (.putfield 149, 3) := by decide +kernel
theorem dX10_beginSnapshot_49 : decode cX10_beginSnapshot 49 = .ok (.aload_n 0, 1) := by decide +kernel
theorem dX10_beginSnapshot_50 : decode cX10_beginSnapshot 50 = .ok (.getfield 10, 3) := by decide +kernel
theorem dX10_beginSnapshot_53 : decode cX10_beginSnapshot 53 = .ok (.iload_n 1, 1) := by decide +kernel
theorem dX10_beginSnapshot_54 : decode cX10_beginSnapshot 54 = .ok (.invokevirtual 167, 3) := by decide +kernel
theorem dX10_beginSnapshot_57 : decode cX10_beginSnapshot 57 = .ok (.aload_n 0, 1) := by decide +kernel
theorem dX10_beginSnapshot_58 : decode cX10_beginSnapshot 58 = .ok (.getfield 10, 3) := by decide +kernel
theorem dX10_beginSnapshot_61 : decode cX10_beginSnapshot 61 = .ok (.getfield 111, 3) := by decide +kernel
theorem dX10_beginSnapshot_64 : decode cX10_beginSnapshot 64 = .ok (.invokevirtual 139, 3) := by decide +kernel
theorem dX10_beginSnapshot_67 : decode cX10_beginSnapshot 67 = .ok (.ireturn, 1) := by decide +kernel
theorem dX10_abandonSnapshot_0 : decode cX10_abandonSnapshot 0 = .ok (.aload_n 0, 1) := by decide +kernel
theorem dX10_abandonSnapshot_1 : decode cX10_abandonSnapshot 1 = .ok (.getfield 10, 3) := by decide +kernel
theorem dX10_abandonSnapshot_4 : decode cX10_abandonSnapshot 4 = .ok (.getfield 145, 3) := by decide +kernel
theorem dX10_abandonSnapshot_7 : decode cX10_abandonSnapshot 7 = .ok (.getfield 149, 3) := by decide +kernel
theorem dX10_abandonSnapshot_10 : decode cX10_abandonSnapshot 10 = .ok (.iconst 1, 1) := by decide +kernel
theorem dX10_abandonSnapshot_11 : decode cX10_abandonSnapshot 11 = .ok (.if_icmp .eq 6, 3) := by decide +kernel
theorem dX10_abandonSnapshot_14 : decode cX10_abandonSnapshot 14 = .ok (.ldc 84, 2) := by decide +kernel
theorem dX10_abandonSnapshot_16 : decode cX10_abandonSnapshot 16 = .ok (.ireturn, 1) := by decide +kernel
theorem dX10_abandonSnapshot_17 : decode cX10_abandonSnapshot 17 = .ok (.aload_n 0, 1) := by decide +kernel
theorem dX10_abandonSnapshot_18 : decode cX10_abandonSnapshot 18 = .ok (.getfield 10, 3) := by decide +kernel
theorem dX10_abandonSnapshot_21 : decode cX10_abandonSnapshot 21 = .ok (.getfield 111, 3) := by decide +kernel
theorem dX10_abandonSnapshot_24 : decode cX10_abandonSnapshot 24 = .ok (.invokevirtual 139, 3) := by decide +kernel
theorem dX10_abandonSnapshot_27 : decode cX10_abandonSnapshot 27 = .ok (.istore_n 1, 1) := by decide +kernel
theorem dX10_abandonSnapshot_28 : decode cX10_abandonSnapshot 28 = .ok (.aload_n 0, 1) := by decide +kernel
theorem dX10_abandonSnapshot_29 : decode cX10_abandonSnapshot 29 = .ok (.getfield 10, 3) := by decide +kernel
theorem dX10_abandonSnapshot_32 : decode cX10_abandonSnapshot 32 = .ok (.getfield 111, 3) := by decide +kernel
theorem dX10_abandonSnapshot_35 : decode cX10_abandonSnapshot 35 = .ok (.invokevirtual 170, 3) := by decide +kernel
theorem dX10_abandonSnapshot_38 : decode cX10_abandonSnapshot 38 = .ok (.aload_n 0, 1) := by decide +kernel
theorem dX10_abandonSnapshot_39 : decode cX10_abandonSnapshot 39 = .ok (.getfield 10, 3) := by decide +kernel
theorem dX10_abandonSnapshot_42 : decode cX10_abandonSnapshot 42 = .ok (.getfield 145, 3) := by decide +kernel
theorem dX10_abandonSnapshot_45 : decode cX10_abandonSnapshot 45 = .ok (.invokevirtual 164, 3) := by decide +kernel
theorem dX10_abandonSnapshot_48 : decode cX10_abandonSnapshot 48 = .ok (.iload_n 1, 1) := by decide +kernel
theorem dX10_abandonSnapshot_49 : decode cX10_abandonSnapshot 49 = .ok (.ireturn, 1) := by decide +kernel
theorem dX10_recorded_0 : decode cX10_recorded 0 = .ok (.aload_n 0, 1) := by decide +kernel
theorem dX10_recorded_1 : decode cX10_recorded 1 = .ok (.iload_n 1, 1) := by decide +kernel
theorem dX10_recorded_2 : decode cX10_recorded 2 = .ok (.invokevirtual 67, 3) := by decide +kernel
theorem dX10_recorded_5 : decode cX10_recorded 5 = .ok (.ifCond .ne 6, 3) := by decide +kernel
theorem dX10_recorded_8 : decode cX10_recorded 8 = .ok (.ldc 74, 2) := by decide +kernel
theorem dX10_recorded_10 : decode cX10_recorded 10 = .ok (.ireturn, 1) := by decide +kernel
theorem dX10_recorded_11 : decode cX10_recorded 11 = .ok (.aload_n 0, 1) := by decide +kernel
theorem dX10_recorded_12 : decode cX10_recorded 12 = .ok (.getfield 10, 3) := by decide +kernel
theorem dX10_recorded_15 : decode cX10_recorded 15 = .ok (.getfield 145, 3) := by decide +kernel
theorem dX10_recorded_18 : decode cX10_recorded 18 = .ok (.getfield 173, 3) := by decide +kernel
theorem dX10_recorded_21 : decode cX10_recorded 21 = .ok (.iload_n 1, 1) := by decide +kernel
theorem dX10_recorded_22 : decode cX10_recorded 22 = .ok (.iaload, 1) := by decide +kernel
theorem dX10_recorded_23 : decode cX10_recorded 23 = .ok (.istore_n 2, 1) := by decide +kernel
theorem dX10_recorded_24 : decode cX10_recorded 24 = .ok (.iload_n 2, 1) := by decide +kernel
theorem dX10_recorded_25 : decode cX10_recorded 25 = .ok (.iconst (-1), 1) := by decide +kernel
theorem dX10_recorded_26 : decode cX10_recorded 26 = .ok (.if_icmp .ne 8, 3) := by decide +kernel
theorem dX10_recorded_29 : decode cX10_recorded 29 = .ok (.ldc 176, 2) := by decide +kernel
theorem dX10_recorded_31 : decode cX10_recorded 31 = .ok (.goto 4, 3) := by decide +kernel
theorem dX10_recorded_34 : decode cX10_recorded 34 = .ok (.iload_n 2, 1) := by decide +kernel
theorem dX10_recorded_35 : decode cX10_recorded 35 = .ok (.ireturn, 1) := by decide +kernel
theorem dX10_takeSnapshot_0 : decode cX10_takeSnapshot 0 = .ok (.aload_n 0, 1) := by decide +kernel
theorem dX10_takeSnapshot_1 : decode cX10_takeSnapshot 1 = .ok (.getfield 10, 3) := by decide +kernel
theorem dX10_takeSnapshot_4 : decode cX10_takeSnapshot 4 = .ok (.getfield 145, 3) := by decide +kernel
theorem dX10_takeSnapshot_7 : decode cX10_takeSnapshot 7 = .ok (.getfield 149, 3) := by decide +kernel
theorem dX10_takeSnapshot_10 : decode cX10_takeSnapshot 10 = .ok (.iconst 2, 1) := by decide +kernel
theorem dX10_takeSnapshot_11 : decode cX10_takeSnapshot 11 = .ok (.if_icmp .eq 6, 3) := by decide +kernel
theorem dX10_takeSnapshot_14 : decode cX10_takeSnapshot 14 = .ok (.ldc 84, 2) := by decide +kernel
theorem dX10_takeSnapshot_16 : decode cX10_takeSnapshot 16 = .ok (.ireturn, 1) := by decide +kernel
theorem dX10_takeSnapshot_17 : decode cX10_takeSnapshot 17 = .ok (.iconst 0, 1) := by decide +kernel
theorem dX10_takeSnapshot_18 : decode cX10_takeSnapshot 18 = .ok (.istore_n 1, 1) := by decide +kernel
theorem dX10_takeSnapshot_19 : decode cX10_takeSnapshot 19 = .ok (.iload_n 1, 1) := by decide +kernel
theorem dX10_takeSnapshot_20 : decode cX10_takeSnapshot 20 = .ok (.aload_n 0, 1) := by decide +kernel
theorem dX10_takeSnapshot_21 : decode cX10_takeSnapshot 21 = .ok (.getfield 10, 3) := by decide +kernel
theorem dX10_takeSnapshot_24 : decode cX10_takeSnapshot 24 = .ok (.getfield 63, 3) := by decide +kernel
theorem dX10_takeSnapshot_27 : decode cX10_takeSnapshot 27 = .ok (.if_icmp .ge 30, 3) := by decide +kernel
theorem dX10_takeSnapshot_30 : decode cX10_takeSnapshot 30 = .ok (.aload_n 0, 1) := by decide +kernel
theorem dX10_takeSnapshot_31 : decode cX10_takeSnapshot 31 = .ok (.getfield 10, 3) := by decide +kernel
theorem dX10_takeSnapshot_34 : decode cX10_takeSnapshot 34 = .ok (.getfield 177, 3) := by decide +kernel
theorem dX10_takeSnapshot_37 : decode cX10_takeSnapshot 37 = .ok (.iload_n 1, 1) := by decide +kernel
theorem dX10_takeSnapshot_38 : decode cX10_takeSnapshot 38 = .ok (.aload_n 0, 1) := by decide +kernel
theorem dX10_takeSnapshot_39 : decode cX10_takeSnapshot 39 = .ok (.getfield 10, 3) := by decide +kernel
theorem dX10_takeSnapshot_42 : decode cX10_takeSnapshot 42 = .ok (.getfield 145, 3) := by decide +kernel
theorem dX10_takeSnapshot_45 : decode cX10_takeSnapshot 45 = .ok (.getfield 173, 3) := by decide +kernel
theorem dX10_takeSnapshot_48 : decode cX10_takeSnapshot 48 = .ok (.iload_n 1, 1) := by decide +kernel
theorem dX10_takeSnapshot_49 : decode cX10_takeSnapshot 49 = .ok (.iaload, 1) := by decide +kernel
theorem dX10_takeSnapshot_50 : decode cX10_takeSnapshot 50 = .ok (.iastore, 1) := by decide +kernel
theorem dX10_takeSnapshot_51 : decode cX10_takeSnapshot 51 = .ok (.iinc 1 1, 3) := by decide +kernel
theorem dX10_takeSnapshot_54 : decode cX10_takeSnapshot 54 = .ok (.goto (-35), 3) := by decide +kernel
theorem dX10_takeSnapshot_57 : decode cX10_takeSnapshot 57 = .ok (.aload_n 0, 1) := by decide +kernel
theorem dX10_takeSnapshot_58 : decode cX10_takeSnapshot 58 = .ok (.getfield 10, 3) := by decide +kernel
theorem dX10_takeSnapshot_61 : decode cX10_takeSnapshot 61 = .ok (.invokevirtual 154, 3) := by decide +kernel
theorem dX10_takeSnapshot_64 : decode cX10_takeSnapshot 64 = .ok (.ireturn, 1) := by decide +kernel
theorem dX10_setCut_0 : decode cX10_setCut 0 = .ok (.aload_n 0, 1) := by decide +kernel
theorem dX10_setCut_1 : decode cX10_setCut 1 = .ok (.iload_n 1, 1) := by decide +kernel
theorem dX10_setCut_2 : decode cX10_setCut 2 = .ok (.invokevirtual 67, 3) := by decide +kernel
theorem dX10_setCut_5 : decode cX10_setCut 5 = .ok (.ifCond .ne 6, 3) := by decide +kernel
theorem dX10_setCut_8 : decode cX10_setCut 8 = .ok (.ldc 74, 2) := by decide +kernel
theorem dX10_setCut_10 : decode cX10_setCut 10 = .ok (.ireturn, 1) := by decide +kernel
theorem dX10_setCut_11 : decode cX10_setCut 11 = .ok (.iload_n 2, 1) := by decide +kernel
theorem dX10_setCut_12 : decode cX10_setCut 12 = .ok (.iconst 0, 1) := by decide +kernel
theorem dX10_setCut_13 : decode cX10_setCut 13 = .ok (.aload_n 0, 1) := by decide +kernel
theorem dX10_setCut_14 : decode cX10_setCut 14 = .ok (.getfield 10, 3) := by decide +kernel
theorem dX10_setCut_17 : decode cX10_setCut 17 = .ok (.getfield 75, 3) := by decide +kernel
theorem dX10_setCut_20 : decode cX10_setCut 20 = .ok (.getfield 161, 3) := by decide +kernel
theorem dX10_setCut_23 : decode cX10_setCut 23 = .ok (.iload_n 1, 1) := by decide +kernel
theorem dX10_setCut_24 : decode cX10_setCut 24 = .ok (.iaload, 1) := by decide +kernel
theorem dX10_setCut_25 : decode cX10_setCut 25 = .ok (.invokestatic 58, 3) := by decide +kernel
theorem dX10_setCut_28 : decode cX10_setCut 28 = .ok (.ifCond .ne 6, 3) := by decide +kernel
theorem dX10_setCut_31 : decode cX10_setCut 31 = .ok (.ldc 62, 2) := by decide +kernel
theorem dX10_setCut_33 : decode cX10_setCut 33 = .ok (.ireturn, 1) := by decide +kernel
theorem dX10_setCut_34 : decode cX10_setCut 34 = .ok (.aload_n 0, 1) := by decide +kernel
theorem dX10_setCut_35 : decode cX10_setCut 35 = .ok (.getfield 10, 3) := by decide +kernel
theorem dX10_setCut_38 : decode cX10_setCut 38 = .ok (.getfield 177, 3) := by decide +kernel
theorem dX10_setCut_41 : decode cX10_setCut 41 = .ok (.iload_n 1, 1) := by decide +kernel
theorem dX10_setCut_42 : decode cX10_setCut 42 = .ok (.iaload, 1) := by decide +kernel
theorem dX10_setCut_43 : decode cX10_setCut 43 = .ok (.istore_n 3, 1) := by decide +kernel
theorem dX10_setCut_44 : decode cX10_setCut 44 = .ok (.aload_n 0, 1) := by decide +kernel
theorem dX10_setCut_45 : decode cX10_setCut 45 = .ok (.getfield 10, 3) := by decide +kernel
theorem dX10_setCut_48 : decode cX10_setCut 48 = .ok (.getfield 177, 3) := by decide +kernel
theorem dX10_setCut_51 : decode cX10_setCut 51 = .ok (.iload_n 1, 1) := by decide +kernel
theorem dX10_setCut_52 : decode cX10_setCut 52 = .ok (.iload_n 2, 1) := by decide +kernel
theorem dX10_setCut_53 : decode cX10_setCut 53 = .ok (.iastore, 1) := by decide +kernel
theorem dX10_setCut_54 : decode cX10_setCut 54 = .ok (.iload_n 3, 1) := by decide +kernel
theorem dX10_setCut_55 : decode cX10_setCut 55 = .ok (.ireturn, 1) := by decide +kernel
theorem dX10_cut_0 : decode cX10_cut 0 = .ok (.aload_n 0, 1) := by decide +kernel
theorem dX10_cut_1 : decode cX10_cut 1 = .ok (.iload_n 1, 1) := by decide +kernel
theorem dX10_cut_2 : decode cX10_cut 2 = .ok (.invokevirtual 67, 3) := by decide +kernel
theorem dX10_cut_5 : decode cX10_cut 5 = .ok (.ifCond .eq 15, 3) := by decide +kernel
theorem dX10_cut_8 : decode cX10_cut 8 = .ok (.aload_n 0, 1) := by decide +kernel
theorem dX10_cut_9 : decode cX10_cut 9 = .ok (.getfield 10, 3) := by decide +kernel
theorem dX10_cut_12 : decode cX10_cut 12 = .ok (.getfield 177, 3) := by decide +kernel
theorem dX10_cut_15 : decode cX10_cut 15 = .ok (.iload_n 1, 1) := by decide +kernel
theorem dX10_cut_16 : decode cX10_cut 16 = .ok (.iaload, 1) := by decide +kernel
theorem dX10_cut_17 : decode cX10_cut 17 = .ok (.goto 5, 3) := by decide +kernel
theorem dX10_cut_20 : decode cX10_cut 20 = .ok (.ldc 74, 2) := by decide +kernel
theorem dX10_cut_22 : decode cX10_cut 22 = .ok (.ireturn, 1) := by decide +kernel
theorem dX10_orphans_0 : decode cX10_orphans 0 = .ok (.aload_n 0, 1) := by decide +kernel
theorem dX10_orphans_1 : decode cX10_orphans 1 = .ok (.getfield 10, 3) := by decide +kernel
theorem dX10_orphans_4 : decode cX10_orphans 4 = .ok (.invokevirtual 180, 3) := by decide +kernel
theorem dX10_orphans_7 : decode cX10_orphans 7 = .ok (.ireturn, 1) := by decide +kernel
theorem dX10_lowerCut_0 : decode cX10_lowerCut 0 = .ok (.aload_n 0, 1) := by decide +kernel
theorem dX10_lowerCut_1 : decode cX10_lowerCut 1 = .ok (.getfield 10, 3) := by decide +kernel
theorem dX10_lowerCut_4 : decode cX10_lowerCut 4 = .ok (.invokevirtual 154, 3) := by decide +kernel
theorem dX10_lowerCut_7 : decode cX10_lowerCut 7 = .ok (.istore_n 1, 1) := by decide +kernel
theorem dX10_lowerCut_8 : decode cX10_lowerCut 8 = .ok (.iconst 0, 1) := by decide +kernel
theorem dX10_lowerCut_9 : decode cX10_lowerCut 9 = .ok (.istore_n 2, 1) := by decide +kernel
theorem dX10_lowerCut_10 : decode cX10_lowerCut 10 = .ok (.iload_n 2, 1) := by decide +kernel
theorem dX10_lowerCut_11 : decode cX10_lowerCut 11 = .ok (.bipush 100, 2) := by decide +kernel
theorem dX10_lowerCut_13 : decode cX10_lowerCut 13 = .ok (.if_icmp .gt 26, 3) := by decide +kernel
theorem dX10_lowerCut_16 : decode cX10_lowerCut 16 = .ok (.aload_n 0, 1) := by decide +kernel
theorem dX10_lowerCut_17 : decode cX10_lowerCut 17 = .ok (.getfield 10, 3) := by decide +kernel
theorem dX10_lowerCut_20 : decode cX10_lowerCut 20 = .ok (.invokevirtual 180, 3) := by decide +kernel
theorem dX10_lowerCut_23 : decode cX10_lowerCut 23 = .ok (.ifCond .le 16, 3) := by decide +kernel
theorem dX10_lowerCut_26 : decode cX10_lowerCut 26 = .ok (.aload_n 0, 1) := by decide +kernel
theorem dX10_lowerCut_27 : decode cX10_lowerCut 27 = .ok (.getfield 10, 3) := by decide +kernel
theorem dX10_lowerCut_30 : decode cX10_lowerCut 30 = .ok (.invokevirtual 183, 3) := by decide +kernel
theorem dX10_lowerCut_33 : decode cX10_lowerCut 33 = .ok (.iinc 2 1, 3) := by decide +kernel
theorem dX10_lowerCut_36 : decode cX10_lowerCut 36 = .ok (.goto (-26), 3) := by decide +kernel
theorem dX10_lowerCut_39 : decode cX10_lowerCut 39 = .ok (.iload_n 1, 1) := by decide +kernel
theorem dX10_lowerCut_40 : decode cX10_lowerCut 40 = .ok (.aload_n 0, 1) := by decide +kernel
theorem dX10_lowerCut_41 : decode cX10_lowerCut 41 = .ok (.getfield 10, 3) := by decide +kernel
theorem dX10_lowerCut_44 : decode cX10_lowerCut 44 = .ok (.invokevirtual 154, 3) := by decide +kernel
theorem dX10_lowerCut_47 : decode cX10_lowerCut 47 = .ok (.isub, 1) := by decide +kernel
theorem dX10_lowerCut_48 : decode cX10_lowerCut 48 = .ok (.ireturn, 1) := by decide +kernel
theorem dX10_raiseCut_0 : decode cX10_raiseCut 0 = .ok (.aload_n 0, 1) := by decide +kernel
theorem dX10_raiseCut_1 : decode cX10_raiseCut 1 = .ok (.getfield 10, 3) := by decide +kernel
theorem dX10_raiseCut_4 : decode cX10_raiseCut 4 = .ok (.invokevirtual 154, 3) := by decide +kernel
theorem dX10_raiseCut_7 : decode cX10_raiseCut 7 = .ok (.istore_n 1, 1) := by decide +kernel
theorem dX10_raiseCut_8 : decode cX10_raiseCut 8 = .ok (.iconst 0, 1) := by decide +kernel
theorem dX10_raiseCut_9 : decode cX10_raiseCut 9 = .ok (.istore_n 2, 1) := by decide +kernel
theorem dX10_raiseCut_10 : decode cX10_raiseCut 10 = .ok (.iload_n 2, 1) := by decide +kernel
theorem dX10_raiseCut_11 : decode cX10_raiseCut 11 = .ok (.bipush 100, 2) := by decide +kernel
theorem dX10_raiseCut_13 : decode cX10_raiseCut 13 = .ok (.if_icmp .gt 26, 3) := by decide +kernel
theorem dX10_raiseCut_16 : decode cX10_raiseCut 16 = .ok (.aload_n 0, 1) := by decide +kernel
theorem dX10_raiseCut_17 : decode cX10_raiseCut 17 = .ok (.getfield 10, 3) := by decide +kernel
theorem dX10_raiseCut_20 : decode cX10_raiseCut 20 = .ok (.invokevirtual 180, 3) := by decide +kernel
theorem dX10_raiseCut_23 : decode cX10_raiseCut 23 = .ok (.ifCond .le 16, 3) := by decide +kernel
theorem dX10_raiseCut_26 : decode cX10_raiseCut 26 = .ok (.aload_n 0, 1) := by decide +kernel
theorem dX10_raiseCut_27 : decode cX10_raiseCut 27 = .ok (.getfield 10, 3) := by decide +kernel
theorem dX10_raiseCut_30 : decode cX10_raiseCut 30 = .ok (.invokevirtual 186, 3) := by decide +kernel
theorem dX10_raiseCut_33 : decode cX10_raiseCut 33 = .ok (.iinc 2 1, 3) := by decide +kernel
theorem dX10_raiseCut_36 : decode cX10_raiseCut 36 = .ok (.goto (-26), 3) := by decide +kernel
theorem dX10_raiseCut_39 : decode cX10_raiseCut 39 = .ok (.aload_n 0, 1) := by decide +kernel
theorem dX10_raiseCut_40 : decode cX10_raiseCut 40 = .ok (.getfield 10, 3) := by decide +kernel
theorem dX10_raiseCut_43 : decode cX10_raiseCut 43 = .ok (.invokevirtual 154, 3) := by decide +kernel
theorem dX10_raiseCut_46 : decode cX10_raiseCut 46 = .ok (.iload_n 1, 1) := by decide +kernel
theorem dX10_raiseCut_47 : decode cX10_raiseCut 47 = .ok (.isub, 1) := by decide +kernel
theorem dX10_raiseCut_48 : decode cX10_raiseCut 48 = .ok (.ireturn, 1) := by decide +kernel
theorem dX10_stockAtCut_0 : decode cX10_stockAtCut 0 = .ok (.aload_n 0, 1) := by decide +kernel
theorem dX10_stockAtCut_1 : decode cX10_stockAtCut 1 = .ok (.iload_n 1, 1) := by decide +kernel
theorem dX10_stockAtCut_2 : decode cX10_stockAtCut 2 = .ok (.invokevirtual 67, 3) := by decide +kernel
theorem dX10_stockAtCut_5 : decode cX10_stockAtCut 5 = .ok (.ifCond .eq 10, 3) := by decide +kernel
theorem dX10_stockAtCut_8 : decode cX10_stockAtCut 8 = .ok (.iload_n 2, 1) := by decide +kernel
theorem dX10_stockAtCut_9 : decode cX10_stockAtCut 9 = .ok (.invokestatic 71, 3) := by decide +kernel
theorem dX10_stockAtCut_12 : decode cX10_stockAtCut 12 = .ok (.ifCond .ne 6, 3) := by decide +kernel
theorem dX10_stockAtCut_15 : decode cX10_stockAtCut 15 = .ok (.ldc 74, 2) := by decide +kernel
theorem dX10_stockAtCut_17 : decode cX10_stockAtCut 17 = .ok (.ireturn, 1) := by decide +kernel
theorem dX10_stockAtCut_18 : decode cX10_stockAtCut 18 = .ok (.aload_n 0, 1) := by decide +kernel
theorem dX10_stockAtCut_19 : decode cX10_stockAtCut 19 = .ok (.getfield 10, 3) := by decide +kernel
theorem dX10_stockAtCut_22 : decode cX10_stockAtCut 22 = .ok (.iload_n 1, 1) := by decide +kernel
theorem dX10_stockAtCut_23 : decode cX10_stockAtCut 23 = .ok (.iload_n 2, 1) := by decide +kernel
theorem dX10_stockAtCut_24 : decode cX10_stockAtCut 24 = .ok (.invokevirtual 189, 3) := by decide +kernel
theorem dX10_stockAtCut_27 : decode cX10_stockAtCut 27 = .ok (.ireturn, 1) := by decide +kernel
theorem dX10_inTransit_0 : decode cX10_inTransit 0 = .ok (.aload_n 0, 1) := by decide +kernel
theorem dX10_inTransit_1 : decode cX10_inTransit 1 = .ok (.iload_n 1, 1) := by decide +kernel
theorem dX10_inTransit_2 : decode cX10_inTransit 2 = .ok (.iload_n 2, 1) := by decide +kernel
theorem dX10_inTransit_3 : decode cX10_inTransit 3 = .ok (.invokevirtual 100, 3) := by decide +kernel
theorem dX10_inTransit_6 : decode cX10_inTransit 6 = .ok (.ifCond .ne 6, 3) := by decide +kernel
theorem dX10_inTransit_9 : decode cX10_inTransit 9 = .ok (.ldc 74, 2) := by decide +kernel
theorem dX10_inTransit_11 : decode cX10_inTransit 11 = .ok (.ireturn, 1) := by decide +kernel
theorem dX10_inTransit_12 : decode cX10_inTransit 12 = .ok (.iload_n 3, 1) := by decide +kernel
theorem dX10_inTransit_13 : decode cX10_inTransit 13 = .ok (.iconst (-1), 1) := by decide +kernel
theorem dX10_inTransit_14 : decode cX10_inTransit 14 = .ok (.if_icmp .lt 13, 3) := by decide +kernel
theorem dX10_inTransit_17 : decode cX10_inTransit 17 = .ok (.iload 4, 2) := by decide +kernel
theorem dX10_inTransit_19 : decode cX10_inTransit 19 = .ok (.iconst 0, 1) := by decide +kernel
theorem dX10_inTransit_20 : decode cX10_inTransit 20 = .ok (.iconst 1, 1) := by decide +kernel
theorem dX10_inTransit_21 : decode cX10_inTransit 21 = .ok (.invokestatic 58, 3) := by decide +kernel
theorem dX10_inTransit_24 : decode cX10_inTransit 24 = .ok (.ifCond .ne 6, 3) := by decide +kernel
theorem dX10_inTransit_27 : decode cX10_inTransit 27 = .ok (.ldc 62, 2) := by decide +kernel
theorem dX10_inTransit_29 : decode cX10_inTransit 29 = .ok (.ireturn, 1) := by decide +kernel
theorem dX10_inTransit_30 : decode cX10_inTransit 30 = .ok (.aload_n 0, 1) := by decide +kernel
theorem dX10_inTransit_31 : decode cX10_inTransit 31 = .ok (.getfield 10, 3) := by decide +kernel
theorem dX10_inTransit_34 : decode cX10_inTransit 34 = .ok (.invokevirtual 180, 3) := by decide +kernel
theorem dX10_inTransit_37 : decode cX10_inTransit 37 = .ok (.ifCond .le 6, 3) := by decide +kernel
theorem dX10_inTransit_40 : decode cX10_inTransit 40 = .ok (.ldc 192, 2) := by decide +kernel
theorem dX10_inTransit_42 : decode cX10_inTransit 42 = .ok (.ireturn, 1) := by decide +kernel
theorem dX10_inTransit_43 : decode cX10_inTransit 43 = .ok (.iload_n 3, 1) := by decide +kernel
theorem dX10_inTransit_44 : decode cX10_inTransit 44 = .ok (.iconst (-1), 1) := by decide +kernel
theorem dX10_inTransit_45 : decode cX10_inTransit 45 = .ok (.if_icmp .ne 16, 3) := by decide +kernel
theorem dX10_inTransit_48 : decode cX10_inTransit 48 = .ok (.aload_n 0, 1) := by decide +kernel
theorem dX10_inTransit_49 : decode cX10_inTransit 49 = .ok (.getfield 10, 3) := by decide +kernel
theorem dX10_inTransit_52 : decode cX10_inTransit 52 = .ok (.iload_n 1, 1) := by decide +kernel
theorem dX10_inTransit_53 : decode cX10_inTransit 53 = .ok (.iload_n 2, 1) := by decide +kernel
theorem dX10_inTransit_54 : decode cX10_inTransit 54 = .ok (.invokestatic 115, 3) := by decide +kernel
theorem dX10_inTransit_57 : decode cX10_inTransit 57 = .ok (.invokevirtual 193, 3) := by decide +kernel
theorem dX10_inTransit_60 : decode cX10_inTransit 60 = .ok (.ireturn, 1) := by decide +kernel
theorem dX10_inTransit_61 : decode cX10_inTransit 61 = .ok (.aload_n 0, 1) := by decide +kernel
theorem dX10_inTransit_62 : decode cX10_inTransit 62 = .ok (.getfield 10, 3) := by decide +kernel
theorem dX10_inTransit_65 : decode cX10_inTransit 65 = .ok (.iload_n 1, 1) := by decide +kernel
theorem dX10_inTransit_66 : decode cX10_inTransit 66 = .ok (.iload_n 2, 1) := by decide +kernel
theorem dX10_inTransit_67 : decode cX10_inTransit 67 = .ok (.invokestatic 115, 3) := by decide +kernel
theorem dX10_inTransit_70 : decode cX10_inTransit 70 = .ok (.iload_n 3, 1) := by decide +kernel
theorem dX10_inTransit_71 : decode cX10_inTransit 71 = .ok (.invokevirtual 197, 3) := by decide +kernel
theorem dX10_inTransit_74 : decode cX10_inTransit 74 = .ok (.istore 5, 2) := by decide +kernel
theorem dX10_inTransit_76 : decode cX10_inTransit 76 = .ok (.iload 5, 2) := by decide +kernel
theorem dX10_inTransit_78 : decode cX10_inTransit 78 = .ok (.iconst (-1), 1) := by decide +kernel
theorem dX10_inTransit_79 : decode cX10_inTransit 79 = .ok (.if_icmp .ne 6, 3) := by decide +kernel
theorem dX10_inTransit_82 : decode cX10_inTransit 82 = .ok (.ldc 176, 2) := by decide +kernel
theorem dX10_inTransit_84 : decode cX10_inTransit 84 = .ok (.ireturn, 1) := by decide +kernel
theorem dX10_inTransit_85 : decode cX10_inTransit 85 = .ok (.iload 4, 2) := by decide +kernel
theorem dX10_inTransit_87 : decode cX10_inTransit 87 = .ok (.ifCond .ne 19, 3) := by decide +kernel
theorem dX10_inTransit_90 : decode cX10_inTransit 90 = .ok (.aload_n 0, 1) := by decide +kernel
theorem dX10_inTransit_91 : decode cX10_inTransit 91 = .ok (.getfield 10, 3) := by decide +kernel
theorem dX10_inTransit_94 : decode cX10_inTransit 94 = .ok (.getfield 111, 3) := by decide +kernel
theorem dX10_inTransit_97 : decode cX10_inTransit 97 = .ok (.getfield 200, 3) := by decide +kernel
theorem dX10_inTransit_100 : decode cX10_inTransit 100 = .ok (.iload 5, 2) := by decide +kernel
theorem dX10_inTransit_102 : decode cX10_inTransit 102 = .ok (.iaload, 1) := by decide +kernel
theorem dX10_inTransit_103 : decode cX10_inTransit 103 = .ok (.goto 16, 3) := by decide +kernel
theorem dX10_inTransit_106 : decode cX10_inTransit 106 = .ok (.aload_n 0, 1) := by decide +kernel
theorem dX10_inTransit_107 : decode cX10_inTransit 107 = .ok (.getfield 10, 3) := by decide +kernel
theorem dX10_inTransit_110 : decode cX10_inTransit 110 = .ok (.getfield 111, 3) := by decide +kernel
theorem dX10_inTransit_113 : decode cX10_inTransit 113 = .ok (.getfield 203, 3) := by decide +kernel
theorem dX10_inTransit_116 : decode cX10_inTransit 116 = .ok (.iload 5, 2) := by decide +kernel
theorem dX10_inTransit_118 : decode cX10_inTransit 118 = .ok (.iaload, 1) := by decide +kernel
theorem dX10_inTransit_119 : decode cX10_inTransit 119 = .ok (.ireturn, 1) := by decide +kernel
theorem dX10_type_0 : decode cX10_type 0 = .ok (.aload_n 0, 1) := by decide +kernel
theorem dX10_type_1 : decode cX10_type 1 = .ok (.getfield 22, 3) := by decide +kernel
theorem dX10_type_4 : decode cX10_type 4 = .ok (.getfield 206, 3) := by decide +kernel
theorem dX10_type_7 : decode cX10_type 7 = .ok (.bipush 20, 2) := by decide +kernel
theorem dX10_type_9 : decode cX10_type 9 = .ok (.if_icmp .lt 6, 3) := by decide +kernel
theorem dX10_type_12 : decode cX10_type 12 = .ok (.ldc 207, 2) := by decide +kernel
theorem dX10_type_14 : decode cX10_type 14 = .ok (.ireturn, 1) := by decide +kernel
theorem dX10_type_15 : decode cX10_type 15 = .ok (.aload_n 0, 1) := by decide +kernel
theorem dX10_type_16 : decode cX10_type 16 = .ok (.getfield 22, 3) := by decide +kernel
theorem dX10_type_19 : decode cX10_type 19 = .ok (.iload_n 1, 1) := by decide +kernel
theorem dX10_type_20 : decode cX10_type 20 = .ok (.invokevirtual 208, 3) := by decide +kernel
theorem dX10_type_23 : decode cX10_type 23 = .ok (.aload_n 0, 1) := by decide +kernel
theorem dX10_type_24 : decode cX10_type 24 = .ok (.getfield 22, 3) := by decide +kernel
theorem dX10_type_27 : decode cX10_type 27 = .ok (.getfield 206, 3) := by decide +kernel
theorem dX10_type_30 : decode cX10_type 30 = .ok (.ireturn, 1) := by decide +kernel
theorem dX10_clearText_0 : decode cX10_clearText 0 = .ok (.aload_n 0, 1) := by decide +kernel
theorem dX10_clearText_1 : decode cX10_clearText 1 = .ok (.getfield 22, 3) := by decide +kernel
theorem dX10_clearText_4 : decode cX10_clearText 4 = .ok (.getfield 206, 3) := by decide +kernel
theorem dX10_clearText_7 : decode cX10_clearText 7 = .ok (.istore_n 1, 1) := by decide +kernel
theorem dX10_clearText_8 : decode cX10_clearText 8 = .ok (.aload_n 0, 1) := by decide +kernel
theorem dX10_clearText_9 : decode cX10_clearText 9 = .ok (.getfield 22, 3) := by decide +kernel
theorem dX10_clearText_12 : decode cX10_clearText 12 = .ok (.iconst 0, 1) := by decide +kernel
theorem dX10_clearText_13 : decode cX10_clearText 13 = .ok (.putfield 206, 3) := by decide +kernel
theorem dX10_clearText_16 : decode cX10_clearText 16 = .ok (.iload_n 1, 1) := by decide +kernel
theorem dX10_clearText_17 : decode cX10_clearText 17 = .ok (.ireturn, 1) := by decide +kernel
theorem dX10_addRule_0 : decode cX10_addRule 0 = .ok (.aload_n 0, 1) := by decide +kernel
theorem dX10_addRule_1 : decode cX10_addRule 1 = .ok (.getfield 22, 3) := by decide +kernel
theorem dX10_addRule_4 : decode cX10_addRule 4 = .ok (.aload_n 0, 1) := by decide +kernel
theorem dX10_addRule_5 : decode cX10_addRule 5 = .ok (.getfield 10, 3) := by decide +kernel
theorem dX10_addRule_8 : decode cX10_addRule 8 = .ok (.getfield 63, 3) := by decide +kernel
theorem dX10_addRule_11 : decode cX10_addRule 11 = .ok (.invokevirtual 212, 3) := by decide +kernel
theorem dX10_addRule_14 : decode cX10_addRule 14 = .ok (.istore_n 1, 1) := by decide +kernel
theorem dX10_addRule_15 : decode cX10_addRule 15 = .ok (.iload_n 1, 1) := by decide +kernel
theorem dX10_addRule_16 : decode cX10_addRule 16 = .ok (.iconst (-1), 1) := by decide +kernel
theorem dX10_addRule_17 : decode cX10_addRule 17 = .ok (.if_icmp .eq 8, 3) := by decide +kernel
theorem dX10_addRule_20 : decode cX10_addRule 20 = .ok (.bipush (-100), 2) := by decide +kernel
theorem dX10_addRule_22 : decode cX10_addRule 22 = .ok (.iload_n 1, 1) := by decide +kernel
theorem dX10_addRule_23 : decode cX10_addRule 23 = .ok (.isub, 1) := by decide +kernel
theorem dX10_addRule_24 : decode cX10_addRule 24 = .ok (.ireturn, 1) := by decide +kernel
theorem dX10_addRule_25 : decode cX10_addRule 25 = .ok (.aload_n 0, 1) := by decide +kernel
theorem dX10_addRule_26 : decode cX10_addRule 26 = .ok (.getfield 29, 3) := by decide +kernel
theorem dX10_addRule_29 : decode cX10_addRule 29 = .ok (.getfield 142, 3) := by decide +kernel
theorem dX10_addRule_32 : decode cX10_addRule 32 = .ok (.bipush 12, 2) := by decide +kernel
theorem dX10_addRule_34 : decode cX10_addRule 34 = .ok (.if_icmp .lt 6, 3) := by decide +kernel
theorem dX10_addRule_37 : decode cX10_addRule 37 = .ok (.ldc 207, 2) := by decide +kernel
theorem dX10_addRule_39 : decode cX10_addRule 39 = .ok (.ireturn, 1) := by decide +kernel
theorem dX10_addRule_40 : decode cX10_addRule 40 = .ok (.aload_n 0, 1) := by decide +kernel
theorem dX10_addRule_41 : decode cX10_addRule 41 = .ok (.getfield 29, 3) := by decide +kernel
theorem dX10_addRule_44 : decode cX10_addRule 44 = .ok (.aload_n 0, 1) := by decide +kernel
theorem dX10_addRule_45 : decode cX10_addRule 45 = .ok (.getfield 22, 3) := by decide +kernel
theorem dX10_addRule_48 : decode cX10_addRule 48 = .ok (.invokevirtual 215, 3) := by decide +kernel
theorem dX10_addRule_51 : decode cX10_addRule 51 = .ok (.aload_n 0, 1) := by decide +kernel
theorem dX10_addRule_52 : decode cX10_addRule 52 = .ok (.getfield 29, 3) := by decide +kernel
theorem dX10_addRule_55 : decode cX10_addRule 55 = .ok (.getfield 142, 3) := by decide +kernel
theorem dX10_addRule_58 : decode cX10_addRule 58 = .ok (.iconst 1, 1) := by decide +kernel
theorem dX10_addRule_59 : decode cX10_addRule 59 = .ok (.isub, 1) := by decide +kernel
theorem dX10_addRule_60 : decode cX10_addRule 60 = .ok (.ireturn, 1) := by decide +kernel
theorem dX10_removeRule_0 : decode cX10_removeRule 0 = .ok (.iload_n 1, 1) := by decide +kernel
theorem dX10_removeRule_1 : decode cX10_removeRule 1 = .ok (.iconst 0, 1) := by decide +kernel
theorem dX10_removeRule_2 : decode cX10_removeRule 2 = .ok (.aload_n 0, 1) := by decide +kernel
theorem dX10_removeRule_3 : decode cX10_removeRule 3 = .ok (.getfield 29, 3) := by decide +kernel
theorem dX10_removeRule_6 : decode cX10_removeRule 6 = .ok (.getfield 142, 3) := by decide +kernel
theorem dX10_removeRule_9 : decode cX10_removeRule 9 = .ok (.iconst 1, 1) := by decide +kernel
theorem dX10_removeRule_10 : decode cX10_removeRule 10 = .ok (.isub, 1) := by decide +kernel
theorem dX10_removeRule_11 : decode cX10_removeRule 11 = .ok (.invokestatic 58, 3) := by decide +kernel
theorem dX10_removeRule_14 : decode cX10_removeRule 14 = .ok (.ifCond .ne 6, 3) := by decide +kernel
theorem dX10_removeRule_17 : decode cX10_removeRule 17 = .ok (.ldc 74, 2) := by decide +kernel
theorem dX10_removeRule_19 : decode cX10_removeRule 19 = .ok (.ireturn, 1) := by decide +kernel
theorem dX10_removeRule_20 : decode cX10_removeRule 20 = .ok (.aload_n 0, 1) := by decide +kernel
theorem dX10_removeRule_21 : decode cX10_removeRule 21 = .ok (.getfield 29, 3) := by decide +kernel
theorem dX10_removeRule_24 : decode cX10_removeRule 24 = .ok (.iload_n 1, 1) := by decide +kernel
theorem dX10_removeRule_25 : decode cX10_removeRule 25 = .ok (.invokevirtual 218, 3) := by decide +kernel
theorem dX10_removeRule_28 : decode cX10_removeRule 28 = .ok (.aload_n 0, 1) := by decide +kernel
theorem dX10_removeRule_29 : decode cX10_removeRule 29 = .ok (.getfield 29, 3) := by decide +kernel
theorem dX10_removeRule_32 : decode cX10_removeRule 32 = .ok (.getfield 142, 3) := by decide +kernel
theorem dX10_removeRule_35 : decode cX10_removeRule 35 = .ok (.ireturn, 1) := by decide +kernel
theorem dX10_rule_0 : decode cX10_rule 0 = .ok (.iload_n 1, 1) := by decide +kernel
theorem dX10_rule_1 : decode cX10_rule 1 = .ok (.iconst 0, 1) := by decide +kernel
theorem dX10_rule_2 : decode cX10_rule 2 = .ok (.aload_n 0, 1) := by decide +kernel
theorem dX10_rule_3 : decode cX10_rule 3 = .ok (.getfield 29, 3) := by decide +kernel
theorem dX10_rule_6 : decode cX10_rule 6 = .ok (.getfield 142, 3) := by decide +kernel
theorem dX10_rule_9 : decode cX10_rule 9 = .ok (.iconst 1, 1) := by decide +kernel
theorem dX10_rule_10 : decode cX10_rule 10 = .ok (.isub, 1) := by decide +kernel
theorem dX10_rule_11 : decode cX10_rule 11 = .ok (.invokestatic 58, 3) := by decide +kernel
theorem dX10_rule_14 : decode cX10_rule 14 = .ok (.ifCond .ne 6, 3) := by decide +kernel
theorem dX10_rule_17 : decode cX10_rule 17 = .ok (.ldc 74, 2) := by decide +kernel
theorem dX10_rule_19 : decode cX10_rule 19 = .ok (.ireturn, 1) := by decide +kernel
theorem dX10_rule_20 : decode cX10_rule 20 = .ok (.iload_n 2, 1) := by decide +kernel
theorem dX10_rule_21 : decode cX10_rule 21 = .ok (.tableswitch 71 0 3 #[31, 41, 51, 61], 31) := by decide +kernel
theorem dX10_rule_52 : decode cX10_rule 52 = .ok (.aload_n 0, 1) := by decide +kernel
theorem dX10_rule_53 : decode cX10_rule 53 = .ok (.getfield 29, 3) := by decide +kernel
theorem dX10_rule_56 : decode cX10_rule 56 = .ok (.getfield 221, 3) := by decide +kernel
theorem dX10_rule_59 : decode cX10_rule 59 = .ok (.iload_n 1, 1) := by decide +kernel
theorem dX10_rule_60 : decode cX10_rule 60 = .ok (.iaload, 1) := by decide +kernel
theorem dX10_rule_61 : decode cX10_rule 61 = .ok (.ireturn, 1) := by decide +kernel
theorem dX10_rule_62 : decode cX10_rule 62 = .ok (.aload_n 0, 1) := by decide +kernel
theorem dX10_rule_63 : decode cX10_rule 63 = .ok (.getfield 29, 3) := by decide +kernel
theorem dX10_rule_66 : decode cX10_rule 66 = .ok (.getfield 224, 3) := by decide +kernel
theorem dX10_rule_69 : decode cX10_rule 69 = .ok (.iload_n 1, 1) := by decide +kernel
theorem dX10_rule_70 : decode cX10_rule 70 = .ok (.iaload, 1) := by decide +kernel
theorem dX10_rule_71 : decode cX10_rule 71 = .ok (.ireturn, 1) := by decide +kernel
theorem dX10_rule_72 : decode cX10_rule 72 = .ok (.aload_n 0, 1) := by decide +kernel
theorem dX10_rule_73 : decode cX10_rule 73 = .ok (.getfield 29, 3) := by decide +kernel
theorem dX10_rule_76 : decode cX10_rule 76 = .ok (.getfield 225, 3) := by decide +kernel
theorem dX10_rule_79 : decode cX10_rule 79 = .ok (.iload_n 1, 1) := by decide +kernel
theorem dX10_rule_80 : decode cX10_rule 80 = .ok (.iaload, 1) := by decide +kernel
theorem dX10_rule_81 : decode cX10_rule 81 = .ok (.ireturn, 1) := by decide +kernel
theorem dX10_rule_82 : decode cX10_rule 82 = .ok (.aload_n 0, 1) := by decide +kernel
theorem dX10_rule_83 : decode cX10_rule 83 = .ok (.getfield 29, 3) := by decide +kernel
theorem dX10_rule_86 : decode cX10_rule 86 = .ok (.getfield 228, 3) := by decide +kernel
theorem dX10_rule_89 : decode cX10_rule 89 = .ok (.iload_n 1, 1) := by decide +kernel
theorem dX10_rule_90 : decode cX10_rule 90 = .ok (.iaload, 1) := by decide +kernel
theorem dX10_rule_91 : decode cX10_rule 91 = .ok (.ireturn, 1) := by decide +kernel
theorem dX10_rule_92 : decode cX10_rule 92 = .ok (.ldc 62, 2) := by decide +kernel
theorem dX10_rule_94 : decode cX10_rule 94 = .ok (.ireturn, 1) := by decide +kernel
theorem dX10_broken_0 : decode cX10_broken 0 = .ok (.iload_n 1, 1) := by decide +kernel
theorem dX10_broken_1 : decode cX10_broken 1 = .ok (.ifCond .ne 26, 3) := by decide +kernel
theorem dX10_broken_4 : decode cX10_broken 4 = .ok (.aload_n 0, 1) := by decide +kernel
theorem dX10_broken_5 : decode cX10_broken 5 = .ok (.getfield 43, 3) := by decide +kernel
theorem dX10_broken_8 : decode cX10_broken 8 = .ok (.aload_n 0, 1) := by decide +kernel
theorem dX10_broken_9 : decode cX10_broken 9 = .ok (.getfield 10, 3) := by decide +kernel
theorem dX10_broken_12 : decode cX10_broken 12 = .ok (.invokevirtual 231, 3) := by decide +kernel
theorem dX10_broken_15 : decode cX10_broken 15 = .ok (.aload_n 0, 1) := by decide +kernel
theorem dX10_broken_16 : decode cX10_broken 16 = .ok (.getfield 29, 3) := by decide +kernel
theorem dX10_broken_19 : decode cX10_broken 19 = .ok (.aload_n 0, 1) := by decide +kernel
theorem dX10_broken_20 : decode cX10_broken 20 = .ok (.getfield 43, 3) := by decide +kernel
theorem dX10_broken_23 : decode cX10_broken 23 = .ok (.invokevirtual 235, 3) := by decide +kernel
theorem dX10_broken_26 : decode cX10_broken 26 = .ok (.ireturn, 1) := by decide +kernel
theorem dX10_broken_27 : decode cX10_broken 27 = .ok (.aload_n 0, 1) := by decide +kernel
theorem dX10_broken_28 : decode cX10_broken 28 = .ok (.getfield 10, 3) := by decide +kernel
theorem dX10_broken_31 : decode cX10_broken 31 = .ok (.invokevirtual 180, 3) := by decide +kernel
theorem dX10_broken_34 : decode cX10_broken 34 = .ok (.ifCond .le 6, 3) := by decide +kernel
theorem dX10_broken_37 : decode cX10_broken 37 = .ok (.ldc 192, 2) := by decide +kernel
theorem dX10_broken_39 : decode cX10_broken 39 = .ok (.ireturn, 1) := by decide +kernel
theorem dX10_broken_40 : decode cX10_broken 40 = .ok (.aload_n 0, 1) := by decide +kernel
theorem dX10_broken_41 : decode cX10_broken 41 = .ok (.getfield 43, 3) := by decide +kernel
theorem dX10_broken_44 : decode cX10_broken 44 = .ok (.aload_n 0, 1) := by decide +kernel
theorem dX10_broken_45 : decode cX10_broken 45 = .ok (.getfield 10, 3) := by decide +kernel
theorem dX10_broken_48 : decode cX10_broken 48 = .ok (.invokevirtual 239, 3) := by decide +kernel
theorem dX10_broken_51 : decode cX10_broken 51 = .ok (.aload_n 0, 1) := by decide +kernel
theorem dX10_broken_52 : decode cX10_broken 52 = .ok (.getfield 29, 3) := by decide +kernel
theorem dX10_broken_55 : decode cX10_broken 55 = .ok (.aload_n 0, 1) := by decide +kernel
theorem dX10_broken_56 : decode cX10_broken 56 = .ok (.getfield 43, 3) := by decide +kernel
theorem dX10_broken_59 : decode cX10_broken 59 = .ok (.invokevirtual 235, 3) := by decide +kernel
theorem dX10_broken_62 : decode cX10_broken 62 = .ok (.ireturn, 1) := by decide +kernel
theorem dX10_setMoveCost_0 : decode cX10_setMoveCost 0 = .ok (.aload_n 0, 1) := by decide +kernel
theorem dX10_setMoveCost_1 : decode cX10_setMoveCost 1 = .ok (.iload_n 1, 1) := by decide +kernel
theorem dX10_setMoveCost_2 : decode cX10_setMoveCost 2 = .ok (.iload_n 2, 1) := by decide +kernel
theorem dX10_setMoveCost_3 : decode cX10_setMoveCost 3 = .ok (.invokevirtual 100, 3) := by decide +kernel
theorem dX10_setMoveCost_6 : decode cX10_setMoveCost 6 = .ok (.ifCond .ne 6, 3) := by decide +kernel
theorem dX10_setMoveCost_9 : decode cX10_setMoveCost 9 = .ok (.ldc 74, 2) := by decide +kernel
theorem dX10_setMoveCost_11 : decode cX10_setMoveCost 11 = .ok (.ireturn, 1) := by decide +kernel
theorem dX10_setMoveCost_12 : decode cX10_setMoveCost 12 = .ok (.iload_n 3, 1) := by decide +kernel
theorem dX10_setMoveCost_13 : decode cX10_setMoveCost 13 = .ok (.iconst 1, 1) := by decide +kernel
theorem dX10_setMoveCost_14 : decode cX10_setMoveCost 14 = .ok (.sipush 1000, 3) := by decide +kernel
theorem dX10_setMoveCost_17 : decode cX10_setMoveCost 17 = .ok (.invokestatic 58, 3) := by decide +kernel
theorem dX10_setMoveCost_20 : decode cX10_setMoveCost 20 = .ok (.ifCond .ne 6, 3) := by decide +kernel
theorem dX10_setMoveCost_23 : decode cX10_setMoveCost 23 = .ok (.ldc 62, 2) := by decide +kernel
theorem dX10_setMoveCost_25 : decode cX10_setMoveCost 25 = .ok (.ireturn, 1) := by decide +kernel
theorem dX10_setMoveCost_26 : decode cX10_setMoveCost 26 = .ok (.aload_n 0, 1) := by decide +kernel
theorem dX10_setMoveCost_27 : decode cX10_setMoveCost 27 = .ok (.getfield 36, 3) := by decide +kernel
theorem dX10_setMoveCost_30 : decode cX10_setMoveCost 30 = .ok (.getfield 242, 3) := by decide +kernel
theorem dX10_setMoveCost_33 : decode cX10_setMoveCost 33 = .ok (.iload_n 1, 1) := by decide +kernel
theorem dX10_setMoveCost_34 : decode cX10_setMoveCost 34 = .ok (.iload_n 2, 1) := by decide +kernel
theorem dX10_setMoveCost_35 : decode cX10_setMoveCost 35 = .ok (.invokestatic 115, 3) := by decide +kernel
theorem dX10_setMoveCost_38 : decode cX10_setMoveCost 38 = .ok (.iaload, 1) := by decide +kernel
theorem dX10_setMoveCost_39 : decode cX10_setMoveCost 39 = .ok (.istore 4, 2) := by decide +kernel
theorem dX10_setMoveCost_41 : decode cX10_setMoveCost 41 = .ok (.aload_n 0, 1) := by decide +kernel
theorem dX10_setMoveCost_42 : decode cX10_setMoveCost 42 = .ok (.getfield 36, 3) := by decide +kernel
theorem dX10_setMoveCost_45 : decode cX10_setMoveCost 45 = .ok (.getfield 242, 3) := by decide +kernel
theorem dX10_setMoveCost_48 : decode cX10_setMoveCost 48 = .ok (.iload_n 1, 1) := by decide +kernel
theorem dX10_setMoveCost_49 : decode cX10_setMoveCost 49 = .ok (.iload_n 2, 1) := by decide +kernel
theorem dX10_setMoveCost_50 : decode cX10_setMoveCost 50 = .ok (.invokestatic 115, 3) := by decide +kernel
theorem dX10_setMoveCost_53 : decode cX10_setMoveCost 53 = .ok (.iload_n 3, 1) := by decide +kernel
theorem dX10_setMoveCost_54 : decode cX10_setMoveCost 54 = .ok (.iastore, 1) := by decide +kernel
theorem dX10_setMoveCost_55 : decode cX10_setMoveCost 55 = .ok (.iload 4, 2) := by decide +kernel
theorem dX10_setMoveCost_57 : decode cX10_setMoveCost 57 = .ok (.ireturn, 1) := by decide +kernel
theorem dX10_setOutsideCosts_0 : decode cX10_setOutsideCosts 0 = .ok (.iload_n 1, 1) := by decide +kernel
theorem dX10_setOutsideCosts_1 : decode cX10_setOutsideCosts 1 = .ok (.iconst 1, 1) := by decide +kernel
theorem dX10_setOutsideCosts_2 : decode cX10_setOutsideCosts 2 = .ok (.sipush 1000, 3) := by decide +kernel
theorem dX10_setOutsideCosts_5 : decode cX10_setOutsideCosts 5 = .ok (.invokestatic 58, 3) := by decide +kernel
theorem dX10_setOutsideCosts_8 : decode cX10_setOutsideCosts 8 = .ok (.ifCond .eq 14, 3) := by decide +kernel
theorem dX10_setOutsideCosts_11 : decode cX10_setOutsideCosts 11 = .ok (.iload_n 2, 1) := by decide +kernel
theorem dX10_setOutsideCosts_12 : decode cX10_setOutsideCosts 12 = .ok (.iconst 1, 1) := by decide +kernel
theorem dX10_setOutsideCosts_13 : decode cX10_setOutsideCosts 13 = .ok (.sipush 1000, 3) := by decide +kernel
theorem dX10_setOutsideCosts_16 : decode cX10_setOutsideCosts 16 = .ok (.invokestatic 58, 3) := by decide +kernel
theorem dX10_setOutsideCosts_19 : decode cX10_setOutsideCosts 19 = .ok (.ifCond .ne 6, 3) := by decide +kernel
theorem dX10_setOutsideCosts_22 : decode cX10_setOutsideCosts 22 = .ok (.ldc 62, 2) := by decide +kernel
theorem dX10_setOutsideCosts_24 : decode cX10_setOutsideCosts 24 = .ok (.ireturn, 1) := by decide +kernel
theorem dX10_setOutsideCosts_25 : decode cX10_setOutsideCosts 25 = .ok (.iload_n 1, 1) := by decide +kernel
theorem dX10_setOutsideCosts_26 : decode cX10_setOutsideCosts 26 = .ok (.aload_n 0, 1) := by decide +kernel
theorem dX10_setOutsideCosts_27 : decode cX10_setOutsideCosts 27 = .ok (.getfield 36, 3) := by decide +kernel
theorem dX10_setOutsideCosts_30 : decode cX10_setOutsideCosts 30 = .ok (.getfield 245, 3) := by decide +kernel
theorem dX10_setOutsideCosts_33 : decode cX10_setOutsideCosts 33 = .ok (.if_icmp .ne 14, 3) := by decide +kernel
theorem dX10_setOutsideCosts_36 : decode cX10_setOutsideCosts 36 = .ok (.iload_n 2, 1) := by decide +kernel
theorem dX10_setOutsideCosts_37 : decode cX10_setOutsideCosts 37 = .ok (.aload_n 0, 1) := by decide +kernel
theorem dX10_setOutsideCosts_38 : decode cX10_setOutsideCosts 38 = .ok (.getfield 36, 3) := by decide +kernel
theorem dX10_setOutsideCosts_41 : decode cX10_setOutsideCosts 41 = .ok (.getfield 248, 3) := by decide +kernel
theorem dX10_setOutsideCosts_44 : decode cX10_setOutsideCosts 44 = .ok (.if_icmp .eq 7, 3) := by decide +kernel
theorem dX10_setOutsideCosts_47 : decode cX10_setOutsideCosts 47 = .ok (.iconst 1, 1) := by decide +kernel
theorem dX10_setOutsideCosts_48 : decode cX10_setOutsideCosts 48 = .ok (.goto 4, 3) := by decide +kernel
theorem dX10_setOutsideCosts_51 : decode cX10_setOutsideCosts 51 = .ok (.iconst 0, 1) := by decide +kernel
theorem dX10_setOutsideCosts_52 : decode cX10_setOutsideCosts 52 = .ok (.istore_n 3, 1) := by decide +kernel
theorem dX10_setOutsideCosts_53 : decode cX10_setOutsideCosts 53 = .ok (.aload_n 0, 1) := by decide +kernel
theorem dX10_setOutsideCosts_54 : decode cX10_setOutsideCosts 54 = .ok (.getfield 36, 3) := by decide +kernel
theorem dX10_setOutsideCosts_57 : decode cX10_setOutsideCosts 57 = .ok (.iload_n 1, 1) := by decide +kernel
theorem dX10_setOutsideCosts_58 : decode cX10_setOutsideCosts 58 = .ok (.putfield 245, 3) := by decide +kernel
theorem dX10_setOutsideCosts_61 : decode cX10_setOutsideCosts 61 = .ok (.aload_n 0, 1) := by decide +kernel
theorem dX10_setOutsideCosts_62 : decode cX10_setOutsideCosts 62 = .ok (.getfield 36, 3) := by decide +kernel
theorem dX10_setOutsideCosts_65 : decode cX10_setOutsideCosts 65 = .ok (.iload_n 2, 1) := by decide +kernel
theorem dX10_setOutsideCosts_66 : decode cX10_setOutsideCosts 66 = .ok (.putfield 248, 3) := by decide +kernel
theorem dX10_setOutsideCosts_69 : decode cX10_setOutsideCosts 69 = .ok (.iload_n 3, 1) := by decide +kernel
theorem dX10_setOutsideCosts_70 : decode cX10_setOutsideCosts 70 = .ok (.ifCond .eq 7, 3) := by decide +kernel
theorem dX10_setOutsideCosts_73 : decode cX10_setOutsideCosts 73 = .ok (.iconst 1, 1) := by decide +kernel
theorem dX10_setOutsideCosts_74 : decode cX10_setOutsideCosts 74 = .ok (.goto 4, 3) := by decide +kernel
theorem dX10_setOutsideCosts_77 : decode cX10_setOutsideCosts 77 = .ok (.iconst 0, 1) := by decide +kernel
theorem dX10_setOutsideCosts_78 : decode cX10_setOutsideCosts 78 = .ok (.ireturn, 1) := by decide +kernel
theorem dX10_repairCost_0 : decode cX10_repairCost 0 = .ok (.aload_n 0, 1) := by decide +kernel
theorem dX10_repairCost_1 : decode cX10_repairCost 1 = .ok (.invokevirtual 251, 3) := by decide +kernel
theorem dX10_repairCost_4 : decode cX10_repairCost 4 = .ok (.istore_n 1, 1) := by decide +kernel
theorem dX10_repairCost_5 : decode cX10_repairCost 5 = .ok (.iload_n 1, 1) := by decide +kernel
theorem dX10_repairCost_6 : decode cX10_repairCost 6 = .ok (.ifCond .eq 7, 3) := by decide +kernel
theorem dX10_repairCost_9 : decode cX10_repairCost 9 = .ok (.iload_n 1, 1) := by decide +kernel
theorem dX10_repairCost_10 : decode cX10_repairCost 10 = .ok (.goto 10, 3) := by decide +kernel
theorem dX10_repairCost_13 : decode cX10_repairCost 13 = .ok (.aload_n 0, 1) := by decide +kernel
theorem dX10_repairCost_14 : decode cX10_repairCost 14 = .ok (.getfield 50, 3) := by decide +kernel
theorem dX10_repairCost_17 : decode cX10_repairCost 17 = .ok (.invokevirtual 254, 3) := by decide +kernel
theorem dX10_repairCost_20 : decode cX10_repairCost 20 = .ok (.ireturn, 1) := by decide +kernel
theorem dX10_moved_0 : decode cX10_moved 0 = .ok (.aload_n 0, 1) := by decide +kernel
theorem dX10_moved_1 : decode cX10_moved 1 = .ok (.iload_n 1, 1) := by decide +kernel
theorem dX10_moved_2 : decode cX10_moved 2 = .ok (.iload_n 2, 1) := by decide +kernel
theorem dX10_moved_3 : decode cX10_moved 3 = .ok (.invokevirtual 100, 3) := by decide +kernel
theorem dX10_moved_6 : decode cX10_moved 6 = .ok (.ifCond .eq 10, 3) := by decide +kernel
theorem dX10_moved_9 : decode cX10_moved 9 = .ok (.iload_n 3, 1) := by decide +kernel
theorem dX10_moved_10 : decode cX10_moved 10 = .ok (.invokestatic 71, 3) := by decide +kernel
theorem dX10_moved_13 : decode cX10_moved 13 = .ok (.ifCond .ne 6, 3) := by decide +kernel
theorem dX10_moved_16 : decode cX10_moved 16 = .ok (.ldc 74, 2) := by decide +kernel
theorem dX10_moved_18 : decode cX10_moved 18 = .ok (.ireturn, 1) := by decide +kernel
theorem dX10_moved_19 : decode cX10_moved 19 = .ok (.aload_n 0, 1) := by decide +kernel
theorem dX10_moved_20 : decode cX10_moved 20 = .ok (.invokevirtual 251, 3) := by decide +kernel
theorem dX10_moved_23 : decode cX10_moved 23 = .ok (.istore 4, 2) := by decide +kernel
theorem dX10_moved_25 : decode cX10_moved 25 = .ok (.iload 4, 2) := by decide +kernel
theorem dX10_moved_27 : decode cX10_moved 27 = .ok (.ifCond .eq 8, 3) := by decide +kernel
theorem dX10_moved_30 : decode cX10_moved 30 = .ok (.iload 4, 2) := by decide +kernel
theorem dX10_moved_32 : decode cX10_moved 32 = .ok (.goto 13, 3) := by decide +kernel
theorem dX10_moved_35 : decode cX10_moved 35 = .ok (.aload_n 0, 1) := by decide +kernel
theorem dX10_moved_36 : decode cX10_moved 36 = .ok (.getfield 50, 3) := by decide +kernel
theorem dX10_moved_39 : decode cX10_moved 39 = .ok (.iload_n 1, 1) := by decide +kernel
theorem dX10_moved_40 : decode cX10_moved 40 = .ok (.iload_n 2, 1) := by decide +kernel
theorem dX10_moved_41 : decode cX10_moved 41 = .ok (.iload_n 3, 1) := by decide +kernel
theorem dX10_moved_42 : decode cX10_moved 42 = .ok (.invokevirtual 257, 3) := by decide +kernel
theorem dX10_moved_45 : decode cX10_moved 45 = .ok (.ireturn, 1) := by decide +kernel
theorem dX10_outside_0 : decode cX10_outside 0 = .ok (.aload_n 0, 1) := by decide +kernel
theorem dX10_outside_1 : decode cX10_outside 1 = .ok (.iload_n 1, 1) := by decide +kernel
theorem dX10_outside_2 : decode cX10_outside 2 = .ok (.invokevirtual 67, 3) := by decide +kernel
theorem dX10_outside_5 : decode cX10_outside 5 = .ok (.ifCond .eq 10, 3) := by decide +kernel
theorem dX10_outside_8 : decode cX10_outside 8 = .ok (.iload_n 2, 1) := by decide +kernel
theorem dX10_outside_9 : decode cX10_outside 9 = .ok (.invokestatic 71, 3) := by decide +kernel
theorem dX10_outside_12 : decode cX10_outside 12 = .ok (.ifCond .ne 6, 3) := by decide +kernel
theorem dX10_outside_15 : decode cX10_outside 15 = .ok (.ldc 74, 2) := by decide +kernel
theorem dX10_outside_17 : decode cX10_outside 17 = .ok (.ireturn, 1) := by decide +kernel
theorem dX10_outside_18 : decode cX10_outside 18 = .ok (.aload_n 0, 1) := by decide +kernel
theorem dX10_outside_19 : decode cX10_outside 19 = .ok (.invokevirtual 251, 3) := by decide +kernel
theorem dX10_outside_22 : decode cX10_outside 22 = .ok (.istore 4, 2) := by decide +kernel
theorem dX10_outside_24 : decode cX10_outside 24 = .ok (.iload 4, 2) := by decide +kernel
theorem dX10_outside_26 : decode cX10_outside 26 = .ok (.ifCond .eq 6, 3) := by decide +kernel
theorem dX10_outside_29 : decode cX10_outside 29 = .ok (.iload 4, 2) := by decide +kernel
theorem dX10_outside_31 : decode cX10_outside 31 = .ok (.ireturn, 1) := by decide +kernel
theorem dX10_outside_32 : decode cX10_outside 32 = .ok (.iload_n 3, 1) := by decide +kernel
theorem dX10_outside_33 : decode cX10_outside 33 = .ok (.ifCond .eq 15, 3) := by decide +kernel
theorem dX10_outside_36 : decode cX10_outside 36 = .ok (.aload_n 0, 1) := by decide +kernel
theorem dX10_outside_37 : decode cX10_outside 37 = .ok (.getfield 50, 3) := by decide +kernel
theorem dX10_outside_40 : decode cX10_outside 40 = .ok (.iload_n 1, 1) := by decide +kernel
theorem dX10_outside_41 : decode cX10_outside 41 = .ok (.iload_n 2, 1) := by decide +kernel
theorem dX10_outside_42 : decode cX10_outside 42 = .ok (.invokevirtual 260, 3) := by decide +kernel
theorem dX10_outside_45 : decode cX10_outside 45 = .ok (.goto 12, 3) := by decide +kernel
theorem dX10_outside_48 : decode cX10_outside 48 = .ok (.aload_n 0, 1) := by decide +kernel
theorem dX10_outside_49 : decode cX10_outside 49 = .ok (.getfield 50, 3) := by decide +kernel
theorem dX10_outside_52 : decode cX10_outside 52 = .ok (.iload_n 1, 1) := by decide +kernel
theorem dX10_outside_53 : decode cX10_outside 53 = .ok (.iload_n 2, 1) := by decide +kernel
theorem dX10_outside_54 : decode cX10_outside 54 = .ok (.invokevirtual 263, 3) := by decide +kernel
theorem dX10_outside_57 : decode cX10_outside 57 = .ok (.ireturn, 1) := by decide +kernel
theorem dX10_repairedStock_0 : decode cX10_repairedStock 0 = .ok (.aload_n 0, 1) := by decide +kernel
theorem dX10_repairedStock_1 : decode cX10_repairedStock 1 = .ok (.iload_n 1, 1) := by decide +kernel
theorem dX10_repairedStock_2 : decode cX10_repairedStock 2 = .ok (.invokevirtual 67, 3) := by decide +kernel
theorem dX10_repairedStock_5 : decode cX10_repairedStock 5 = .ok (.ifCond .eq 10, 3) := by decide +kernel
theorem dX10_repairedStock_8 : decode cX10_repairedStock 8 = .ok (.iload_n 2, 1) := by decide +kernel
theorem dX10_repairedStock_9 : decode cX10_repairedStock 9 = .ok (.invokestatic 71, 3) := by decide +kernel
theorem dX10_repairedStock_12 : decode cX10_repairedStock 12 = .ok (.ifCond .ne 6, 3) := by decide +kernel
theorem dX10_repairedStock_15 : decode cX10_repairedStock 15 = .ok (.ldc 74, 2) := by decide +kernel
theorem dX10_repairedStock_17 : decode cX10_repairedStock 17 = .ok (.ireturn, 1) := by decide +kernel
theorem dX10_repairedStock_18 : decode cX10_repairedStock 18 = .ok (.aload_n 0, 1) := by decide +kernel
theorem dX10_repairedStock_19 : decode cX10_repairedStock 19 = .ok (.invokevirtual 251, 3) := by decide +kernel
theorem dX10_repairedStock_22 : decode cX10_repairedStock 22 = .ok (.istore_n 3, 1) := by decide +kernel
theorem dX10_repairedStock_23 : decode cX10_repairedStock 23 = .ok (.iload_n 3, 1) := by decide +kernel
theorem dX10_repairedStock_24 : decode cX10_repairedStock 24 = .ok (.ifCond .eq 7, 3) := by decide +kernel
theorem dX10_repairedStock_27 : decode cX10_repairedStock 27 = .ok (.iload_n 3, 1) := by decide +kernel
theorem dX10_repairedStock_28 : decode cX10_repairedStock 28 = .ok (.goto 12, 3) := by decide +kernel
theorem dX10_repairedStock_31 : decode cX10_repairedStock 31 = .ok (.aload_n 0, 1) := by decide +kernel
theorem dX10_repairedStock_32 : decode cX10_repairedStock 32 = .ok (.getfield 50, 3) := by decide +kernel
theorem dX10_repairedStock_35 : decode cX10_repairedStock 35 = .ok (.iload_n 1, 1) := by decide +kernel
theorem dX10_repairedStock_36 : decode cX10_repairedStock 36 = .ok (.iload_n 2, 1) := by decide +kernel
theorem dX10_repairedStock_37 : decode cX10_repairedStock 37 = .ok (.invokevirtual 266, 3) := by decide +kernel
theorem dX10_repairedStock_40 : decode cX10_repairedStock 40 = .ok (.ireturn, 1) := by decide +kernel
theorem dX10_apply_0 : decode cX10_apply 0 = .ok (.aload_n 0, 1) := by decide +kernel
theorem dX10_apply_1 : decode cX10_apply 1 = .ok (.invokevirtual 251, 3) := by decide +kernel
theorem dX10_apply_4 : decode cX10_apply 4 = .ok (.istore_n 2, 1) := by decide +kernel
theorem dX10_apply_5 : decode cX10_apply 5 = .ok (.iload_n 2, 1) := by decide +kernel
theorem dX10_apply_6 : decode cX10_apply 6 = .ok (.ifCond .eq 5, 3) := by decide +kernel
theorem dX10_apply_9 : decode cX10_apply 9 = .ok (.iload_n 2, 1) := by decide +kernel
theorem dX10_apply_10 : decode cX10_apply 10 = .ok (.ireturn, 1) := by decide +kernel
theorem dX10_apply_11 : decode cX10_apply 11 = .ok (.aload_n 0, 1) := by decide +kernel
theorem dX10_apply_12 : decode cX10_apply 12 = .ok (.getfield 16, 3) := by decide +kernel
theorem dX10_apply_15 : decode cX10_apply 15 = .ok (.aload_n 0, 1) := by decide +kernel
theorem dX10_apply_16 : decode cX10_apply 16 = .ok (.getfield 10, 3) := by decide +kernel
theorem dX10_apply_19 : decode cX10_apply 19 = .ok (.invokevirtual 269, 3) := by decide +kernel
theorem dX10_apply_22 : decode cX10_apply 22 = .ok (.aload_n 0, 1) := by decide +kernel
theorem dX10_apply_23 : decode cX10_apply 23 = .ok (.iconst 1, 1) := by decide +kernel
theorem dX10_apply_24 : decode cX10_apply 24 = .ok (.putfield 157, 3) := by decide +kernel
theorem dX10_apply_27 : decode cX10_apply 27 = .ok (.aload_n 0, 1) := by decide +kernel
theorem dX10_apply_28 : decode cX10_apply 28 = .ok (.getfield 10, 3) := by decide +kernel
theorem dX10_apply_31 : decode cX10_apply 31 = .ok (.aload_n 0, 1) := by decide +kernel
theorem dX10_apply_32 : decode cX10_apply 32 = .ok (.getfield 16, 3) := by decide +kernel
theorem dX10_apply_35 : decode cX10_apply 35 = .ok (.invokevirtual 272, 3) := by decide +kernel
theorem dX10_apply_38 : decode cX10_apply 38 = .ok (.iconst 0, 1) := by decide +kernel
theorem dX10_apply_39 : decode cX10_apply 39 = .ok (.istore_n 3, 1) := by decide +kernel
theorem dX10_apply_40 : decode cX10_apply 40 = .ok (.iload_n 3, 1) := by decide +kernel
theorem dX10_apply_41 : decode cX10_apply 41 = .ok (.aload_n 0, 1) := by decide +kernel
theorem dX10_apply_42 : decode cX10_apply 42 = .ok (.getfield 10, 3) := by decide +kernel
theorem dX10_apply_45 : decode cX10_apply 45 = .ok (.getfield 63, 3) := by decide +kernel
theorem dX10_apply_48 : decode cX10_apply 48 = .ok (.if_icmp .ge 72, 3) := by decide +kernel
theorem dX10_apply_51 : decode cX10_apply 51 = .ok (.iconst 0, 1) := by decide +kernel
theorem dX10_apply_52 : decode cX10_apply 52 = .ok (.istore 4, 2) := by decide +kernel
theorem dX10_apply_54 : decode cX10_apply 54 = .ok (.iload 4, 2) := by decide +kernel
theorem dX10_apply_56 : decode cX10_apply 56 = .ok (.iconst 2, 1) := by decide +kernel
theorem dX10_apply_57 : decode cX10_apply 57 = .ok (.if_icmp .ge 57, 3) := by decide +kernel
theorem dX10_apply_60 : decode cX10_apply 60 = .ok (.aload_n 0, 1) := by decide +kernel
theorem dX10_apply_61 : decode cX10_apply 61 = .ok (.getfield 10, 3) := by decide +kernel
theorem dX10_apply_64 : decode cX10_apply 64 = .ok (.getfield 85, 3) := by decide +kernel
theorem dX10_apply_67 : decode cX10_apply 67 = .ok (.iload_n 3, 1) := by decide +kernel
theorem dX10_apply_68 : decode cX10_apply 68 = .ok (.iload 4, 2) := by decide +kernel
theorem dX10_apply_70 : decode cX10_apply 70 = .ok (.invokestatic 89, 3) := by decide +kernel
theorem dX10_apply_73 : decode cX10_apply 73 = .ok (.aload_n 0, 1) := by decide +kernel
theorem dX10_apply_74 : decode cX10_apply 74 = .ok (.getfield 50, 3) := by decide +kernel
theorem dX10_apply_77 : decode cX10_apply 77 = .ok (.iload_n 3, 1) := by decide +kernel
theorem dX10_apply_78 : decode cX10_apply 78 = .ok (.iload 4, 2) := by decide +kernel
theorem dX10_apply_80 : decode cX10_apply 80 = .ok (.invokevirtual 266, 3) := by decide +kernel
theorem dX10_apply_83 : decode cX10_apply 83 = .ok (.iastore, 1) := by decide +kernel
theorem dX10_apply_84 : decode cX10_apply 84 = .ok (.aload_n 0, 1) := by decide +kernel
theorem dX10_apply_85 : decode cX10_apply 85 = .ok (.getfield 10, 3) := by decide +kernel
theorem dX10_apply_88 : decode cX10_apply 88 = .ok (.getfield 93, 3) := by decide +kernel
theorem dX10_apply_91 : decode cX10_apply 91 = .ok (.iload_n 3, 1) := by decide +kernel
theorem dX10_apply_92 : decode cX10_apply 92 = .ok (.iload 4, 2) := by decide +kernel
theorem dX10_apply_94 : decode cX10_apply 94 = .ok (.invokestatic 89, 3) := by decide +kernel
theorem dX10_apply_97 : decode cX10_apply 97 = .ok (.aload_n 0, 1) := by decide +kernel
theorem dX10_apply_98 : decode cX10_apply 98 = .ok (.getfield 50, 3) := by decide +kernel
theorem dX10_apply_101 : decode cX10_apply 101 = .ok (.iload_n 3, 1) := by decide +kernel
theorem dX10_apply_102 : decode cX10_apply 102 = .ok (.iload 4, 2) := by decide +kernel
theorem dX10_apply_104 : decode cX10_apply 104 = .ok (.invokevirtual 266, 3) := by decide +kernel
theorem dX10_apply_107 : decode cX10_apply 107 = .ok (.iastore, 1) := by decide +kernel
theorem dX10_apply_108 : decode cX10_apply 108 = .ok (.iinc 4 1, 3) := by decide +kernel
theorem dX10_apply_111 : decode cX10_apply 111 = .ok (.goto (-57), 3) := by decide +kernel
theorem dX10_apply_114 : decode cX10_apply 114 = .ok (.iinc 3 1, 3) := by decide +kernel
theorem dX10_apply_117 : decode cX10_apply 117 = .ok (.goto (-77), 3) := by decide +kernel
theorem dX10_apply_120 : decode cX10_apply 120 = .ok (.aload_n 0, 1) := by decide +kernel
theorem dX10_apply_121 : decode cX10_apply 121 = .ok (.iload_n 1, 1) := by decide +kernel
theorem dX10_apply_122 : decode cX10_apply 122 = .ok (.invokevirtual 275, 3) := by decide +kernel
theorem dX10_apply_125 : decode cX10_apply 125 = .ok (.ireturn, 1) := by decide +kernel
theorem dX10_restore_0 : decode cX10_restore 0 = .ok (.aload_n 0, 1) := by decide +kernel
theorem dX10_restore_1 : decode cX10_restore 1 = .ok (.getfield 157, 3) := by decide +kernel
theorem dX10_restore_4 : decode cX10_restore 4 = .ok (.ifCond .ne 6, 3) := by decide +kernel
theorem dX10_restore_7 : decode cX10_restore 7 = .ok (.ldc 176, 2) := by decide +kernel
theorem dX10_restore_9 : decode cX10_restore 9 = .ok (.ireturn, 1) := by decide +kernel
theorem dX10_restore_10 : decode cX10_restore 10 = .ok (.aload_n 0, 1) := by decide +kernel
theorem dX10_restore_11 : decode cX10_restore 11 = .ok (.getfield 10, 3) := by decide +kernel
theorem dX10_restore_14 : decode cX10_restore 14 = .ok (.aload_n 0, 1) := by decide +kernel
theorem dX10_restore_15 : decode cX10_restore 15 = .ok (.getfield 16, 3) := by decide +kernel
theorem dX10_restore_18 : decode cX10_restore 18 = .ok (.invokevirtual 269, 3) := by decide +kernel
theorem dX10_restore_21 : decode cX10_restore 21 = .ok (.aload_n 0, 1) := by decide +kernel
theorem dX10_restore_22 : decode cX10_restore 22 = .ok (.iconst 0, 1) := by decide +kernel
theorem dX10_restore_23 : decode cX10_restore 23 = .ok (.putfield 157, 3) := by decide +kernel
theorem dX10_restore_26 : decode cX10_restore 26 = .ok (.aload_n 0, 1) := by decide +kernel
theorem dX10_restore_27 : decode cX10_restore 27 = .ok (.getfield 10, 3) := by decide +kernel
theorem dX10_restore_30 : decode cX10_restore 30 = .ok (.getfield 75, 3) := by decide +kernel
theorem dX10_restore_33 : decode cX10_restore 33 = .ok (.getfield 79, 3) := by decide +kernel
theorem dX10_restore_36 : decode cX10_restore 36 = .ok (.ireturn, 1) := by decide +kernel
theorem dX10_startWith_0 : decode cX10_startWith 0 = .ok (.aload_n 0, 1) := by decide +kernel
theorem dX10_startWith_1 : decode cX10_startWith 1 = .ok (.getfield 10, 3) := by decide +kernel
theorem dX10_startWith_4 : decode cX10_startWith 4 = .ok (.iload_n 1, 1) := by decide +kernel
theorem dX10_startWith_5 : decode cX10_startWith 5 = .ok (.invokevirtual 279, 3) := by decide +kernel
theorem dX10_startWith_8 : decode cX10_startWith 8 = .ok (.aload_n 0, 1) := by decide +kernel
theorem dX10_startWith_9 : decode cX10_startWith 9 = .ok (.getfield 29, 3) := by decide +kernel
theorem dX10_startWith_12 : decode cX10_startWith 12 = .ok (.iconst 0, 1) := by decide +kernel
theorem dX10_startWith_13 : decode cX10_startWith 13 = .ok (.putfield 142, 3) := by decide +kernel
theorem dX10_startWith_16 : decode cX10_startWith 16 = .ok (.aload_n 0, 1) := by decide +kernel
theorem dX10_startWith_17 : decode cX10_startWith 17 = .ok (.getfield 36, 3) := by decide +kernel
theorem dX10_startWith_20 : decode cX10_startWith 20 = .ok (.invokevirtual 282, 3) := by decide +kernel
theorem dX10_startWith_23 : decode cX10_startWith 23 = .ok (.aload_n 0, 1) := by decide +kernel
theorem dX10_startWith_24 : decode cX10_startWith 24 = .ok (.iconst 0, 1) := by decide +kernel
theorem dX10_startWith_25 : decode cX10_startWith 25 = .ok (.putfield 157, 3) := by decide +kernel
theorem dX10_startWith_28 : decode cX10_startWith 28 = .ok (.return_, 1) := by decide +kernel
theorem dX10_findRepair_0 : decode cX10_findRepair 0 = .ok (.aload_n 0, 1) := by decide +kernel
theorem dX10_findRepair_1 : decode cX10_findRepair 1 = .ok (.getfield 10, 3) := by decide +kernel
theorem dX10_findRepair_4 : decode cX10_findRepair 4 = .ok (.invokevirtual 180, 3) := by decide +kernel
theorem dX10_findRepair_7 : decode cX10_findRepair 7 = .ok (.ifCond .le 6, 3) := by decide +kernel
theorem dX10_findRepair_10 : decode cX10_findRepair 10 = .ok (.ldc 192, 2) := by decide +kernel
theorem dX10_findRepair_12 : decode cX10_findRepair 12 = .ok (.ireturn, 1) := by decide +kernel
theorem dX10_findRepair_13 : decode cX10_findRepair 13 = .ok (.aload_n 0, 1) := by decide +kernel
theorem dX10_findRepair_14 : decode cX10_findRepair 14 = .ok (.getfield 43, 3) := by decide +kernel
theorem dX10_findRepair_17 : decode cX10_findRepair 17 = .ok (.aload_n 0, 1) := by decide +kernel
theorem dX10_findRepair_18 : decode cX10_findRepair 18 = .ok (.getfield 10, 3) := by decide +kernel
theorem dX10_findRepair_21 : decode cX10_findRepair 21 = .ok (.invokevirtual 239, 3) := by decide +kernel
theorem dX10_findRepair_24 : decode cX10_findRepair 24 = .ok (.aload_n 0, 1) := by decide +kernel
theorem dX10_findRepair_25 : decode cX10_findRepair 25 = .ok (.getfield 50, 3) := by decide +kernel
theorem dX10_findRepair_28 : decode cX10_findRepair 28 = .ok (.aload_n 0, 1) := by decide +kernel
theorem dX10_findRepair_29 : decode cX10_findRepair 29 = .ok (.getfield 43, 3) := by decide +kernel
theorem dX10_findRepair_32 : decode cX10_findRepair 32 = .ok (.aload_n 0, 1) := by decide +kernel
theorem dX10_findRepair_33 : decode cX10_findRepair 33 = .ok (.getfield 29, 3) := by decide +kernel
theorem dX10_findRepair_36 : decode cX10_findRepair 36 = .ok (.aload_n 0, 1) := by decide +kernel
theorem dX10_findRepair_37 : decode cX10_findRepair 37 = .ok (.getfield 36, 3) := by decide +kernel
theorem dX10_findRepair_40 : decode cX10_findRepair 40 = .ok (.invokevirtual 285, 3) := by decide +kernel
theorem dX10_findRepair_43 : decode cX10_findRepair 43 = .ok (.ifCond .ne 6, 3) := by decide +kernel
theorem dX10_findRepair_46 : decode cX10_findRepair 46 = .ok (.ldc 176, 2) := by decide +kernel
theorem dX10_findRepair_48 : decode cX10_findRepair 48 = .ok (.ireturn, 1) := by decide +kernel
theorem dX10_findRepair_49 : decode cX10_findRepair 49 = .ok (.aload_n 0, 1) := by decide +kernel
theorem dX10_findRepair_50 : decode cX10_findRepair 50 = .ok (.getfield 50, 3) := by decide +kernel
theorem dX10_findRepair_53 : decode cX10_findRepair 53 = .ok (.getfield 289, 3) := by decide +kernel
theorem dX10_findRepair_56 : decode cX10_findRepair 56 = .ok (.astore_n 1, 1) := by decide +kernel
theorem dX10_findRepair_57 : decode cX10_findRepair 57 = .ok (.aload_n 1, 1) := by decide +kernel
theorem dX10_findRepair_58 : decode cX10_findRepair 58 = .ok (.arraylength, 1) := by decide +kernel
theorem dX10_findRepair_59 : decode cX10_findRepair 59 = .ok (.istore_n 2, 1) := by decide +kernel
theorem dX10_findRepair_60 : decode cX10_findRepair 60 = .ok (.iconst 0, 1) := by decide +kernel
theorem dX10_findRepair_61 : decode cX10_findRepair 61 = .ok (.istore_n 3, 1) := by decide +kernel
theorem dX10_findRepair_62 : decode cX10_findRepair 62 = .ok (.iload_n 3, 1) := by decide +kernel
theorem dX10_findRepair_63 : decode cX10_findRepair 63 = .ok (.iload_n 2, 1) := by decide +kernel
theorem dX10_findRepair_64 : decode cX10_findRepair 64 = .ok (.if_icmp .ge 19, 3) := by decide +kernel
theorem dX10_findRepair_67 : decode cX10_findRepair 67 = .ok (.aload_n 1, 1) := by decide +kernel
theorem dX10_findRepair_68 : decode cX10_findRepair 68 = .ok (.iload_n 3, 1) := by decide +kernel
theorem dX10_findRepair_69 : decode cX10_findRepair 69 = .ok (.aaload, 1) := by decide +kernel
theorem dX10_findRepair_70 : decode cX10_findRepair 70 = .ok (.astore 4, 2) := by decide +kernel
theorem dX10_findRepair_72 : decode cX10_findRepair 72 = .ok (.aload 4, 2) := by decide +kernel
theorem dX10_findRepair_74 : decode cX10_findRepair 74 = .ok (.invokevirtual 293, 3) := by decide +kernel
theorem dX10_findRepair_77 : decode cX10_findRepair 77 = .ok (.iinc 3 1, 3) := by decide +kernel
theorem dX10_findRepair_80 : decode cX10_findRepair 80 = .ok (.goto (-18), 3) := by decide +kernel
theorem dX10_findRepair_83 : decode cX10_findRepair 83 = .ok (.iconst 0, 1) := by decide +kernel
theorem dX10_findRepair_84 : decode cX10_findRepair 84 = .ok (.ireturn, 1) := by decide +kernel
theorem dX10_replay_0 : decode cX10_replay 0 = .ok (.iconst 0, 1) := by decide +kernel
theorem dX10_replay_1 : decode cX10_replay 1 = .ok (.istore_n 2, 1) := by decide +kernel
theorem dX10_replay_2 : decode cX10_replay 2 = .ok (.iconst 0, 1) := by decide +kernel
theorem dX10_replay_3 : decode cX10_replay 3 = .ok (.istore_n 3, 1) := by decide +kernel
theorem dX10_replay_4 : decode cX10_replay 4 = .ok (.iload_n 3, 1) := by decide +kernel
theorem dX10_replay_5 : decode cX10_replay 5 = .ok (.aload_n 0, 1) := by decide +kernel
theorem dX10_replay_6 : decode cX10_replay 6 = .ok (.getfield 16, 3) := by decide +kernel
theorem dX10_replay_9 : decode cX10_replay 9 = .ok (.getfield 75, 3) := by decide +kernel
theorem dX10_replay_12 : decode cX10_replay 12 = .ok (.getfield 79, 3) := by decide +kernel
theorem dX10_replay_15 : decode cX10_replay 15 = .ok (.if_icmp .ge 43, 3) := by decide +kernel
theorem dX10_replay_18 : decode cX10_replay 18 = .ok (.aload_n 0, 1) := by decide +kernel
theorem dX10_replay_19 : decode cX10_replay 19 = .ok (.getfield 16, 3) := by decide +kernel
theorem dX10_replay_22 : decode cX10_replay 22 = .ok (.iload_n 3, 1) := by decide +kernel
theorem dX10_replay_23 : decode cX10_replay 23 = .ok (.invokevirtual 298, 3) := by decide +kernel
theorem dX10_replay_26 : decode cX10_replay 26 = .ok (.ifCond .ne 26, 3) := by decide +kernel
theorem dX10_replay_29 : decode cX10_replay 29 = .ok (.iload_n 1, 1) := by decide +kernel
theorem dX10_replay_30 : decode cX10_replay 30 = .ok (.ifCond .eq 11, 3) := by decide +kernel
theorem dX10_replay_33 : decode cX10_replay 33 = .ok (.aload_n 0, 1) := by decide +kernel
theorem dX10_replay_34 : decode cX10_replay 34 = .ok (.iload_n 3, 1) := by decide +kernel
theorem dX10_replay_35 : decode cX10_replay 35 = .ok (.invokevirtual 301, 3) := by decide +kernel
theorem dX10_replay_38 : decode cX10_replay 38 = .ok (.ifCond .ne 14, 3) := by decide +kernel
theorem dX10_replay_41 : decode cX10_replay 41 = .ok (.aload_n 0, 1) := by decide +kernel
theorem dX10_replay_42 : decode cX10_replay 42 = .ok (.iload_n 3, 1) := by decide +kernel
theorem dX10_replay_43 : decode cX10_replay 43 = .ok (.invokevirtual 304, 3) := by decide +kernel
theorem dX10_replay_46 : decode cX10_replay 46 = .ok (.ifCond .lt 6, 3) := by decide +kernel
theorem dX10_replay_49 : decode cX10_replay 49 = .ok (.iinc 2 1, 3) := by decide +kernel
theorem dX10_replay_52 : decode cX10_replay 52 = .ok (.iinc 3 1, 3) := by decide +kernel
theorem dX10_replay_55 : decode cX10_replay 55 = .ok (.goto (-51), 3) := by decide +kernel
theorem dX10_replay_58 : decode cX10_replay 58 = .ok (.iload_n 2, 1) := by decide +kernel
theorem dX10_replay_59 : decode cX10_replay 59 = .ok (.ireturn, 1) := by decide +kernel
theorem dX10_tryAgain_0 : decode cX10_tryAgain 0 = .ok (.aload_n 0, 1) := by decide +kernel
theorem dX10_tryAgain_1 : decode cX10_tryAgain 1 = .ok (.getfield 16, 3) := by decide +kernel
theorem dX10_tryAgain_4 : decode cX10_tryAgain 4 = .ok (.getfield 75, 3) := by decide +kernel
theorem dX10_tryAgain_7 : decode cX10_tryAgain 7 = .ok (.astore_n 2, 1) := by decide +kernel
theorem dX10_tryAgain_8 : decode cX10_tryAgain 8 = .ok (.aload_n 2, 1) := by decide +kernel
theorem dX10_tryAgain_9 : decode cX10_tryAgain 9 = .ok (.getfield 307, 3) := by decide +kernel
theorem dX10_tryAgain_12 : decode cX10_tryAgain 12 = .ok (.iload_n 1, 1) := by decide +kernel
theorem dX10_tryAgain_13 : decode cX10_tryAgain 13 = .ok (.iaload, 1) := by decide +kernel
theorem dX10_tryAgain_14 : decode cX10_tryAgain 14 = .ok (.istore_n 3, 1) := by decide +kernel
theorem dX10_tryAgain_15 : decode cX10_tryAgain 15 = .ok (.aload_n 2, 1) := by decide +kernel
theorem dX10_tryAgain_16 : decode cX10_tryAgain 16 = .ok (.getfield 310, 3) := by decide +kernel
theorem dX10_tryAgain_19 : decode cX10_tryAgain 19 = .ok (.iload_n 1, 1) := by decide +kernel
theorem dX10_tryAgain_20 : decode cX10_tryAgain 20 = .ok (.iaload, 1) := by decide +kernel
theorem dX10_tryAgain_21 : decode cX10_tryAgain 21 = .ok (.lookupswitch 75 #[(0, 27), (1, 48)], 27) := by decide +kernel
theorem dX10_tryAgain_48 : decode cX10_tryAgain 48 = .ok (.aload_n 0, 1) := by decide +kernel
theorem dX10_tryAgain_49 : decode cX10_tryAgain 49 = .ok (.getfield 10, 3) := by decide +kernel
theorem dX10_tryAgain_52 : decode cX10_tryAgain 52 = .ok (.iload_n 3, 1) := by decide +kernel
theorem dX10_tryAgain_53 : decode cX10_tryAgain 53 = .ok (.aload_n 2, 1) := by decide +kernel
theorem dX10_tryAgain_54 : decode cX10_tryAgain 54 = .ok (.getfield 313, 3) := by decide +kernel
theorem dX10_tryAgain_57 : decode cX10_tryAgain 57 = .ok (.iload_n 1, 1) := by decide +kernel
theorem dX10_tryAgain_58 : decode cX10_tryAgain 58 = .ok (.iaload, 1) := by decide +kernel
theorem dX10_tryAgain_59 : decode cX10_tryAgain 59 = .ok (.aload_n 2, 1) := by decide +kernel
theorem dX10_tryAgain_60 : decode cX10_tryAgain 60 = .ok (.getfield 314, 3) := by decide +kernel
theorem dX10_tryAgain_63 : decode cX10_tryAgain 63 = .ok (.iload_n 1, 1) := by decide +kernel
theorem dX10_tryAgain_64 : decode cX10_tryAgain 64 = .ok (.iaload, 1) := by decide +kernel
theorem dX10_tryAgain_65 : decode cX10_tryAgain 65 = .ok (.invokevirtual 96, 3) := by decide +kernel
theorem dX10_tryAgain_68 : decode cX10_tryAgain 68 = .ok (.ireturn, 1) := by decide +kernel
theorem dX10_tryAgain_69 : decode cX10_tryAgain 69 = .ok (.aload_n 0, 1) := by decide +kernel
theorem dX10_tryAgain_70 : decode cX10_tryAgain 70 = .ok (.getfield 10, 3) := by decide +kernel
theorem dX10_tryAgain_73 : decode cX10_tryAgain 73 = .ok (.iload_n 3, 1) := by decide +kernel
theorem dX10_tryAgain_74 : decode cX10_tryAgain 74 = .ok (.aload_n 2, 1) := by decide +kernel
theorem dX10_tryAgain_75 : decode cX10_tryAgain 75 = .ok (.getfield 315, 3) := by decide +kernel
theorem dX10_tryAgain_78 : decode cX10_tryAgain 78 = .ok (.iload_n 1, 1) := by decide +kernel
theorem dX10_tryAgain_79 : decode cX10_tryAgain 79 = .ok (.iaload, 1) := by decide +kernel
theorem dX10_tryAgain_80 : decode cX10_tryAgain 80 = .ok (.aload_n 2, 1) := by decide +kernel
theorem dX10_tryAgain_81 : decode cX10_tryAgain 81 = .ok (.getfield 313, 3) := by decide +kernel
theorem dX10_tryAgain_84 : decode cX10_tryAgain 84 = .ok (.iload_n 1, 1) := by decide +kernel
theorem dX10_tryAgain_85 : decode cX10_tryAgain 85 = .ok (.iaload, 1) := by decide +kernel
theorem dX10_tryAgain_86 : decode cX10_tryAgain 86 = .ok (.aload_n 2, 1) := by decide +kernel
theorem dX10_tryAgain_87 : decode cX10_tryAgain 87 = .ok (.getfield 314, 3) := by decide +kernel
theorem dX10_tryAgain_90 : decode cX10_tryAgain 90 = .ok (.iload_n 1, 1) := by decide +kernel
theorem dX10_tryAgain_91 : decode cX10_tryAgain 91 = .ok (.iaload, 1) := by decide +kernel
theorem dX10_tryAgain_92 : decode cX10_tryAgain 92 = .ok (.invokevirtual 104, 3) := by decide +kernel
theorem dX10_tryAgain_95 : decode cX10_tryAgain 95 = .ok (.ireturn, 1) := by decide +kernel
theorem dX10_tryAgain_96 : decode cX10_tryAgain 96 = .ok (.aload_n 0, 1) := by decide +kernel
theorem dX10_tryAgain_97 : decode cX10_tryAgain 97 = .ok (.getfield 10, 3) := by decide +kernel
theorem dX10_tryAgain_100 : decode cX10_tryAgain 100 = .ok (.iload_n 3, 1) := by decide +kernel
theorem dX10_tryAgain_101 : decode cX10_tryAgain 101 = .ok (.aload_n 2, 1) := by decide +kernel
theorem dX10_tryAgain_102 : decode cX10_tryAgain 102 = .ok (.getfield 315, 3) := by decide +kernel
theorem dX10_tryAgain_105 : decode cX10_tryAgain 105 = .ok (.iload_n 1, 1) := by decide +kernel
theorem dX10_tryAgain_106 : decode cX10_tryAgain 106 = .ok (.iaload, 1) := by decide +kernel
theorem dX10_tryAgain_107 : decode cX10_tryAgain 107 = .ok (.invokevirtual 108, 3) := by decide +kernel
theorem dX10_tryAgain_110 : decode cX10_tryAgain 110 = .ok (.ireturn, 1) := by decide +kernel
theorem dX10_wouldBreak_0 : decode cX10_wouldBreak 0 = .ok (.aload_n 0, 1) := by decide +kernel
theorem dX10_wouldBreak_1 : decode cX10_wouldBreak 1 = .ok (.getfield 43, 3) := by decide +kernel
theorem dX10_wouldBreak_4 : decode cX10_wouldBreak 4 = .ok (.aload_n 0, 1) := by decide +kernel
theorem dX10_wouldBreak_5 : decode cX10_wouldBreak 5 = .ok (.getfield 10, 3) := by decide +kernel
theorem dX10_wouldBreak_8 : decode cX10_wouldBreak 8 = .ok (.invokevirtual 231, 3) := by decide +kernel
theorem dX10_wouldBreak_11 : decode cX10_wouldBreak 11 = .ok (.aload_n 0, 1) := by decide +kernel
theorem dX10_wouldBreak_12 : decode cX10_wouldBreak 12 = .ok (.getfield 29, 3) := by decide +kernel
theorem dX10_wouldBreak_15 : decode cX10_wouldBreak 15 = .ok (.aload_n 0, 1) := by decide +kernel
theorem dX10_wouldBreak_16 : decode cX10_wouldBreak 16 = .ok (.getfield 43, 3) := by decide +kernel
theorem dX10_wouldBreak_19 : decode cX10_wouldBreak 19 = .ok (.invokevirtual 235, 3) := by decide +kernel
theorem dX10_wouldBreak_22 : decode cX10_wouldBreak 22 = .ok (.istore_n 2, 1) := by decide +kernel
theorem dX10_wouldBreak_23 : decode cX10_wouldBreak 23 = .ok (.aload_n 0, 1) := by decide +kernel
theorem dX10_wouldBreak_24 : decode cX10_wouldBreak 24 = .ok (.iload_n 1, 1) := by decide +kernel
theorem dX10_wouldBreak_25 : decode cX10_wouldBreak 25 = .ok (.invokevirtual 318, 3) := by decide +kernel
theorem dX10_wouldBreak_28 : decode cX10_wouldBreak 28 = .ok (.aload_n 0, 1) := by decide +kernel
theorem dX10_wouldBreak_29 : decode cX10_wouldBreak 29 = .ok (.getfield 29, 3) := by decide +kernel
theorem dX10_wouldBreak_32 : decode cX10_wouldBreak 32 = .ok (.aload_n 0, 1) := by decide +kernel
theorem dX10_wouldBreak_33 : decode cX10_wouldBreak 33 = .ok (.getfield 43, 3) := by decide +kernel
theorem dX10_wouldBreak_36 : decode cX10_wouldBreak 36 = .ok (.invokevirtual 235, 3) := by decide +kernel
theorem dX10_wouldBreak_39 : decode cX10_wouldBreak 39 = .ok (.iload_n 2, 1) := by decide +kernel
theorem dX10_wouldBreak_40 : decode cX10_wouldBreak 40 = .ok (.iconst (-1), 1) := by decide +kernel
theorem dX10_wouldBreak_41 : decode cX10_wouldBreak 41 = .ok (.ixor, 1) := by decide +kernel
theorem dX10_wouldBreak_42 : decode cX10_wouldBreak 42 = .ok (.iand, 1) := by decide +kernel
theorem dX10_wouldBreak_43 : decode cX10_wouldBreak 43 = .ok (.ifCond .eq 7, 3) := by decide +kernel
theorem dX10_wouldBreak_46 : decode cX10_wouldBreak 46 = .ok (.iconst 1, 1) := by decide +kernel
theorem dX10_wouldBreak_47 : decode cX10_wouldBreak 47 = .ok (.goto 4, 3) := by decide +kernel
theorem dX10_wouldBreak_50 : decode cX10_wouldBreak 50 = .ok (.iconst 0, 1) := by decide +kernel
theorem dX10_wouldBreak_51 : decode cX10_wouldBreak 51 = .ok (.ireturn, 1) := by decide +kernel
theorem dX10_shiftStanding_0 : decode cX10_shiftStanding 0 = .ok (.aload_n 0, 1) := by decide +kernel
theorem dX10_shiftStanding_1 : decode cX10_shiftStanding 1 = .ok (.getfield 16, 3) := by decide +kernel
theorem dX10_shiftStanding_4 : decode cX10_shiftStanding 4 = .ok (.getfield 75, 3) := by decide +kernel
theorem dX10_shiftStanding_7 : decode cX10_shiftStanding 7 = .ok (.astore_n 2, 1) := by decide +kernel
theorem dX10_shiftStanding_8 : decode cX10_shiftStanding 8 = .ok (.aload_n 2, 1) := by decide +kernel
theorem dX10_shiftStanding_9 : decode cX10_shiftStanding 9 = .ok (.getfield 307, 3) := by decide +kernel
theorem dX10_shiftStanding_12 : decode cX10_shiftStanding 12 = .ok (.iload_n 1, 1) := by decide +kernel
theorem dX10_shiftStanding_13 : decode cX10_shiftStanding 13 = .ok (.iaload, 1) := by decide +kernel
theorem dX10_shiftStanding_14 : decode cX10_shiftStanding 14 = .ok (.istore_n 3, 1) := by decide +kernel
theorem dX10_shiftStanding_15 : decode cX10_shiftStanding 15 = .ok (.aload_n 2, 1) := by decide +kernel
theorem dX10_shiftStanding_16 : decode cX10_shiftStanding 16 = .ok (.getfield 313, 3) := by decide +kernel
theorem dX10_shiftStanding_19 : decode cX10_shiftStanding 19 = .ok (.iload_n 1, 1) := by decide +kernel
theorem dX10_shiftStanding_20 : decode cX10_shiftStanding 20 = .ok (.iaload, 1) := by decide +kernel
theorem dX10_shiftStanding_21 : decode cX10_shiftStanding 21 = .ok (.istore 4, 2) := by decide +kernel
theorem dX10_shiftStanding_23 : decode cX10_shiftStanding 23 = .ok (.aload_n 2, 1) := by decide +kernel
theorem dX10_shiftStanding_24 : decode cX10_shiftStanding 24 = .ok (.getfield 314, 3) := by decide +kernel
theorem dX10_shiftStanding_27 : decode cX10_shiftStanding 27 = .ok (.iload_n 1, 1) := by decide +kernel
theorem dX10_shiftStanding_28 : decode cX10_shiftStanding 28 = .ok (.iaload, 1) := by decide +kernel
theorem dX10_shiftStanding_29 : decode cX10_shiftStanding 29 = .ok (.istore 5, 2) := by decide +kernel
theorem dX10_shiftStanding_31 : decode cX10_shiftStanding 31 = .ok (.aload_n 2, 1) := by decide +kernel
theorem dX10_shiftStanding_32 : decode cX10_shiftStanding 32 = .ok (.getfield 310, 3) := by decide +kernel
theorem dX10_shiftStanding_35 : decode cX10_shiftStanding 35 = .ok (.iload_n 1, 1) := by decide +kernel
theorem dX10_shiftStanding_36 : decode cX10_shiftStanding 36 = .ok (.iaload, 1) := by decide +kernel
theorem dX10_shiftStanding_37 : decode cX10_shiftStanding 37 = .ok (.lookupswitch 61 #[(0, 27), (1, 43)], 27) := by decide +kernel
theorem dX10_shiftStanding_64 : decode cX10_shiftStanding 64 = .ok (.aload_n 0, 1) := by decide +kernel
theorem dX10_shiftStanding_65 : decode cX10_shiftStanding 65 = .ok (.getfield 43, 3) := by decide +kernel
theorem dX10_shiftStanding_68 : decode cX10_shiftStanding 68 = .ok (.iload_n 3, 1) := by decide +kernel
theorem dX10_shiftStanding_69 : decode cX10_shiftStanding 69 = .ok (.iload 4, 2) := by decide +kernel
theorem dX10_shiftStanding_71 : decode cX10_shiftStanding 71 = .ok (.iload 5, 2) := by decide +kernel
theorem dX10_shiftStanding_73 : decode cX10_shiftStanding 73 = .ok (.iconst 0, 1) := by decide +kernel
theorem dX10_shiftStanding_74 : decode cX10_shiftStanding 74 = .ok (.invokevirtual 321, 3) := by decide +kernel
theorem dX10_shiftStanding_77 : decode cX10_shiftStanding 77 = .ok (.goto 91, 3) := by decide +kernel
theorem dX10_shiftStanding_80 : decode cX10_shiftStanding 80 = .ok (.aload_n 0, 1) := by decide +kernel
theorem dX10_shiftStanding_81 : decode cX10_shiftStanding 81 = .ok (.getfield 43, 3) := by decide +kernel
theorem dX10_shiftStanding_84 : decode cX10_shiftStanding 84 = .ok (.iload_n 3, 1) := by decide +kernel
theorem dX10_shiftStanding_85 : decode cX10_shiftStanding 85 = .ok (.iload 4, 2) := by decide +kernel
theorem dX10_shiftStanding_87 : decode cX10_shiftStanding 87 = .ok (.iload 5, 2) := by decide +kernel
theorem dX10_shiftStanding_89 : decode cX10_shiftStanding 89 = .ok (.ineg, 1) := by decide +kernel
theorem dX10_shiftStanding_90 : decode cX10_shiftStanding 90 = .ok (.iload 5, 2) := by decide +kernel
theorem dX10_shiftStanding_92 : decode cX10_shiftStanding 92 = .ok (.invokevirtual 321, 3) := by decide +kernel
theorem dX10_shiftStanding_95 : decode cX10_shiftStanding 95 = .ok (.goto 73, 3) := by decide +kernel
theorem dX10_shiftStanding_98 : decode cX10_shiftStanding 98 = .ok (.aload_n 0, 1) := by decide +kernel
theorem dX10_shiftStanding_99 : decode cX10_shiftStanding 99 = .ok (.getfield 10, 3) := by decide +kernel
theorem dX10_shiftStanding_102 : decode cX10_shiftStanding 102 = .ok (.getfield 111, 3) := by decide +kernel
theorem dX10_shiftStanding_105 : decode cX10_shiftStanding 105 = .ok (.aload_n 2, 1) := by decide +kernel
theorem dX10_shiftStanding_106 : decode cX10_shiftStanding 106 = .ok (.getfield 315, 3) := by decide +kernel
theorem dX10_shiftStanding_109 : decode cX10_shiftStanding 109 = .ok (.iload_n 1, 1) := by decide +kernel
theorem dX10_shiftStanding_110 : decode cX10_shiftStanding 110 = .ok (.iaload, 1) := by decide +kernel
theorem dX10_shiftStanding_111 : decode cX10_shiftStanding 111 = .ok (.iload_n 3, 1) := by decide +kernel
theorem dX10_shiftStanding_112 : decode cX10_shiftStanding 112 = .ok (.invokestatic 115, 3) := by decide +kernel
theorem dX10_shiftStanding_115 : decode cX10_shiftStanding 115 = .ok (.iconst 0, 1) := by decide +kernel
theorem dX10_shiftStanding_116 : decode cX10_shiftStanding 116 = .ok (.invokevirtual 325, 3) := by decide +kernel
theorem dX10_shiftStanding_119 : decode cX10_shiftStanding 119 = .ok (.istore 6, 2) := by decide +kernel
theorem dX10_shiftStanding_121 : decode cX10_shiftStanding 121 = .ok (.iload 6, 2) := by decide +kernel
theorem dX10_shiftStanding_123 : decode cX10_shiftStanding 123 = .ok (.iconst (-1), 1) := by decide +kernel
theorem dX10_shiftStanding_124 : decode cX10_shiftStanding 124 = .ok (.if_icmp .eq 44, 3) := by decide +kernel
theorem dX10_shiftStanding_127 : decode cX10_shiftStanding 127 = .ok (.aload_n 0, 1) := by decide +kernel
theorem dX10_shiftStanding_128 : decode cX10_shiftStanding 128 = .ok (.getfield 10, 3) := by decide +kernel
theorem dX10_shiftStanding_131 : decode cX10_shiftStanding 131 = .ok (.getfield 111, 3) := by decide +kernel
theorem dX10_shiftStanding_134 : decode cX10_shiftStanding 134 = .ok (.getfield 203, 3) := by decide +kernel
theorem dX10_shiftStanding_137 : decode cX10_shiftStanding 137 = .ok (.iload 6, 2) := by decide +kernel
theorem dX10_shiftStanding_139 : decode cX10_shiftStanding 139 = .ok (.iaload, 1) := by decide +kernel
theorem dX10_shiftStanding_140 : decode cX10_shiftStanding 140 = .ok (.istore 7, 2) := by decide +kernel
theorem dX10_shiftStanding_142 : decode cX10_shiftStanding 142 = .ok (.aload_n 0, 1) := by decide +kernel
theorem dX10_shiftStanding_143 : decode cX10_shiftStanding 143 = .ok (.getfield 43, 3) := by decide +kernel
theorem dX10_shiftStanding_146 : decode cX10_shiftStanding 146 = .ok (.iload_n 3, 1) := by decide +kernel
theorem dX10_shiftStanding_147 : decode cX10_shiftStanding 147 = .ok (.aload_n 0, 1) := by decide +kernel
theorem dX10_shiftStanding_148 : decode cX10_shiftStanding 148 = .ok (.getfield 10, 3) := by decide +kernel
theorem dX10_shiftStanding_151 : decode cX10_shiftStanding 151 = .ok (.getfield 111, 3) := by decide +kernel
theorem dX10_shiftStanding_154 : decode cX10_shiftStanding 154 = .ok (.getfield 200, 3) := by decide +kernel
theorem dX10_shiftStanding_157 : decode cX10_shiftStanding 157 = .ok (.iload 6, 2) := by decide +kernel
theorem dX10_shiftStanding_159 : decode cX10_shiftStanding 159 = .ok (.iaload, 1) := by decide +kernel
theorem dX10_shiftStanding_160 : decode cX10_shiftStanding 160 = .ok (.iload 7, 2) := by decide +kernel
theorem dX10_shiftStanding_162 : decode cX10_shiftStanding 162 = .ok (.iload 7, 2) := by decide +kernel
theorem dX10_shiftStanding_164 : decode cX10_shiftStanding 164 = .ok (.ineg, 1) := by decide +kernel
theorem dX10_shiftStanding_165 : decode cX10_shiftStanding 165 = .ok (.invokevirtual 321, 3) := by decide +kernel
theorem dX10_shiftStanding_168 : decode cX10_shiftStanding 168 = .ok (.return_, 1) := by decide +kernel
theorem dX10_isProcess_0 : decode cX10_isProcess 0 = .ok (.iload_n 1, 1) := by decide +kernel
theorem dX10_isProcess_1 : decode cX10_isProcess 1 = .ok (.iconst 0, 1) := by decide +kernel
theorem dX10_isProcess_2 : decode cX10_isProcess 2 = .ok (.aload_n 0, 1) := by decide +kernel
theorem dX10_isProcess_3 : decode cX10_isProcess 3 = .ok (.getfield 10, 3) := by decide +kernel
theorem dX10_isProcess_6 : decode cX10_isProcess 6 = .ok (.getfield 63, 3) := by decide +kernel
theorem dX10_isProcess_9 : decode cX10_isProcess 9 = .ok (.iconst 1, 1) := by decide +kernel
theorem dX10_isProcess_10 : decode cX10_isProcess 10 = .ok (.isub, 1) := by decide +kernel
theorem dX10_isProcess_11 : decode cX10_isProcess 11 = .ok (.invokestatic 58, 3) := by decide +kernel
theorem dX10_isProcess_14 : decode cX10_isProcess 14 = .ok (.ireturn, 1) := by decide +kernel
theorem dX10_isPair_0 : decode cX10_isPair 0 = .ok (.aload_n 0, 1) := by decide +kernel
theorem dX10_isPair_1 : decode cX10_isPair 1 = .ok (.iload_n 1, 1) := by decide +kernel
theorem dX10_isPair_2 : decode cX10_isPair 2 = .ok (.invokevirtual 67, 3) := by decide +kernel
theorem dX10_isPair_5 : decode cX10_isPair 5 = .ok (.ifCond .eq 20, 3) := by decide +kernel
theorem dX10_isPair_8 : decode cX10_isPair 8 = .ok (.aload_n 0, 1) := by decide +kernel
theorem dX10_isPair_9 : decode cX10_isPair 9 = .ok (.iload_n 2, 1) := by decide +kernel
theorem dX10_isPair_10 : decode cX10_isPair 10 = .ok (.invokevirtual 67, 3) := by decide +kernel
theorem dX10_isPair_13 : decode cX10_isPair 13 = .ok (.ifCond .eq 12, 3) := by decide +kernel
theorem dX10_isPair_16 : decode cX10_isPair 16 = .ok (.iload_n 1, 1) := by decide +kernel
theorem dX10_isPair_17 : decode cX10_isPair 17 = .ok (.iload_n 2, 1) := by decide +kernel
theorem dX10_isPair_18 : decode cX10_isPair 18 = .ok (.if_icmp .eq 7, 3) := by decide +kernel
theorem dX10_isPair_21 : decode cX10_isPair 21 = .ok (.iconst 1, 1) := by decide +kernel
theorem dX10_isPair_22 : decode cX10_isPair 22 = .ok (.goto 4, 3) := by decide +kernel
theorem dX10_isPair_25 : decode cX10_isPair 25 = .ok (.iconst 0, 1) := by decide +kernel
theorem dX10_isPair_26 : decode cX10_isPair 26 = .ok (.ireturn, 1) := by decide +kernel
theorem dX10_isEvent_0 : decode cX10_isEvent 0 = .ok (.iload_n 1, 1) := by decide +kernel
theorem dX10_isEvent_1 : decode cX10_isEvent 1 = .ok (.iconst 0, 1) := by decide +kernel
theorem dX10_isEvent_2 : decode cX10_isEvent 2 = .ok (.aload_n 0, 1) := by decide +kernel
theorem dX10_isEvent_3 : decode cX10_isEvent 3 = .ok (.getfield 10, 3) := by decide +kernel
theorem dX10_isEvent_6 : decode cX10_isEvent 6 = .ok (.getfield 75, 3) := by decide +kernel
theorem dX10_isEvent_9 : decode cX10_isEvent 9 = .ok (.getfield 79, 3) := by decide +kernel
theorem dX10_isEvent_12 : decode cX10_isEvent 12 = .ok (.iconst 1, 1) := by decide +kernel
theorem dX10_isEvent_13 : decode cX10_isEvent 13 = .ok (.isub, 1) := by decide +kernel
theorem dX10_isEvent_14 : decode cX10_isEvent 14 = .ok (.invokestatic 58, 3) := by decide +kernel
theorem dX10_isEvent_17 : decode cX10_isEvent 17 = .ok (.ireturn, 1) := by decide +kernel
theorem dX10_isStock_0 : decode cX10_isStock 0 = .ok (.iload_n 0, 1) := by decide +kernel
theorem dX10_isStock_1 : decode cX10_isStock 1 = .ok (.iconst 0, 1) := by decide +kernel
theorem dX10_isStock_2 : decode cX10_isStock 2 = .ok (.iconst 1, 1) := by decide +kernel
theorem dX10_isStock_3 : decode cX10_isStock 3 = .ok (.invokestatic 58, 3) := by decide +kernel
theorem dX10_isStock_6 : decode cX10_isStock 6 = .ok (.ireturn, 1) := by decide +kernel
theorem dX10_within_0 : decode cX10_within 0 = .ok (.iload_n 0, 1) := by decide +kernel
theorem dX10_within_1 : decode cX10_within 1 = .ok (.iload_n 1, 1) := by decide +kernel
theorem dX10_within_2 : decode cX10_within 2 = .ok (.if_icmp .lt 12, 3) := by decide +kernel
theorem dX10_within_5 : decode cX10_within 5 = .ok (.iload_n 0, 1) := by decide +kernel
theorem dX10_within_6 : decode cX10_within 6 = .ok (.iload_n 2, 1) := by decide +kernel
theorem dX10_within_7 : decode cX10_within 7 = .ok (.if_icmp .gt 7, 3) := by decide +kernel
theorem dX10_within_10 : decode cX10_within 10 = .ok (.iconst 1, 1) := by decide +kernel
theorem dX10_within_11 : decode cX10_within 11 = .ok (.goto 4, 3) := by decide +kernel
theorem dX10_within_14 : decode cX10_within 14 = .ok (.iconst 0, 1) := by decide +kernel
theorem dX10_within_15 : decode cX10_within 15 = .ok (.ireturn, 1) := by decide +kernel
theorem dX10_slot_0 : decode cX10_slot 0 = .ok (.iload_n 0, 1) := by decide +kernel
theorem dX10_slot_1 : decode cX10_slot 1 = .ok (.iconst 2, 1) := by decide +kernel
theorem dX10_slot_2 : decode cX10_slot 2 = .ok (.imul, 1) := by decide +kernel
theorem dX10_slot_3 : decode cX10_slot 3 = .ok (.iload_n 1, 1) := by decide +kernel
theorem dX10_slot_4 : decode cX10_slot 4 = .ok (.iadd, 1) := by decide +kernel
theorem dX10_slot_5 : decode cX10_slot 5 = .ok (.ireturn, 1) := by decide +kernel
theorem dX10_channelOf_0 : decode cX10_channelOf 0 = .ok (.iload_n 0, 1) := by decide +kernel
theorem dX10_channelOf_1 : decode cX10_channelOf 1 = .ok (.iconst 5, 1) := by decide +kernel
theorem dX10_channelOf_2 : decode cX10_channelOf 2 = .ok (.imul, 1) := by decide +kernel
theorem dX10_channelOf_3 : decode cX10_channelOf 3 = .ok (.iload_n 1, 1) := by decide +kernel
theorem dX10_channelOf_4 : decode cX10_channelOf 4 = .ok (.iadd, 1) := by decide +kernel
theorem dX10_channelOf_5 : decode cX10_channelOf 5 = .ok (.ireturn, 1) := by decide +kernel
theorem dX10_copyAll_0 : decode cX10_copyAll 0 = .ok (.aload_n 0, 1) := by decide +kernel
theorem dX10_copyAll_1 : decode cX10_copyAll 1 = .ok (.iconst 0, 1) := by decide +kernel
theorem dX10_copyAll_2 : decode cX10_copyAll 2 = .ok (.aload_n 1, 1) := by decide +kernel
theorem dX10_copyAll_3 : decode cX10_copyAll 3 = .ok (.iconst 0, 1) := by decide +kernel
theorem dX10_copyAll_4 : decode cX10_copyAll 4 = .ok (.aload_n 0, 1) := by decide +kernel
theorem dX10_copyAll_5 : decode cX10_copyAll 5 = .ok (.arraylength, 1) := by decide +kernel
theorem dX10_copyAll_6 : decode cX10_copyAll 6 = .ok (.aload_n 1, 1) := by decide +kernel
theorem dX10_copyAll_7 : decode cX10_copyAll 7 = .ok (.arraylength, 1) := by decide +kernel
theorem dX10_copyAll_8 : decode cX10_copyAll 8 = .ok (.invokestatic 328, 3) := by decide +kernel
theorem dX10_copyAll_11 : decode cX10_copyAll 11 = .ok (.invokestatic 333, 3) := by decide +kernel
theorem dX10_copyAll_14 : decode cX10_copyAll 14 = .ok (.return_, 1) := by decide +kernel
theorem dJ9_max_7cf53_0 : decode cJ9_max_7cf53 0 = .ok (.iload_n 0, 1) := by decide +kernel
theorem dJ9_max_7cf53_1 : decode cJ9_max_7cf53 1 = .ok (.iload_n 1, 1) := by decide +kernel
theorem dJ9_max_7cf53_2 : decode cJ9_max_7cf53 2 = .ok (.if_icmp .lt 7, 3) := by decide +kernel
theorem dJ9_max_7cf53_5 : decode cJ9_max_7cf53 5 = .ok (.iload_n 0, 1) := by decide +kernel
theorem dJ9_max_7cf53_6 : decode cJ9_max_7cf53 6 = .ok (.goto 4, 3) := by decide +kernel
theorem dJ9_max_7cf53_9 : decode cJ9_max_7cf53 9 = .ok (.iload_n 1, 1) := by decide +kernel
theorem dJ9_max_7cf53_10 : decode cJ9_max_7cf53 10 = .ok (.ireturn, 1) := by decide +kernel
theorem dJ9_min_7cf53_0 : decode cJ9_min_7cf53 0 = .ok (.iload_n 0, 1) := by decide +kernel
theorem dJ9_min_7cf53_1 : decode cJ9_min_7cf53 1 = .ok (.iload_n 1, 1) := by decide +kernel
theorem dJ9_min_7cf53_2 : decode cJ9_min_7cf53 2 = .ok (.if_icmp .gt 7, 3) := by decide +kernel
theorem dJ9_min_7cf53_5 : decode cJ9_min_7cf53 5 = .ok (.iload_n 0, 1) := by decide +kernel
theorem dJ9_min_7cf53_6 : decode cJ9_min_7cf53 6 = .ok (.goto 4, 3) := by decide +kernel
theorem dJ9_min_7cf53_9 : decode cJ9_min_7cf53 9 = .ok (.iload_n 1, 1) := by decide +kernel
theorem dJ9_min_7cf53_10 : decode cJ9_min_7cf53 10 = .ok (.ireturn, 1) := by decide +kernel
theorem dJ7_fill_d0a16_0 : decode cJ7_fill_d0a16 0 = .ok (.iconst 0, 1) := by decide +kernel
theorem dJ7_fill_d0a16_1 : decode cJ7_fill_d0a16 1 = .ok (.istore_n 3, 1) := by decide +kernel
theorem dJ7_fill_d0a16_2 : decode cJ7_fill_d0a16 2 = .ok (.aload_n 0, 1) := by decide +kernel
theorem dJ7_fill_d0a16_3 : decode cJ7_fill_d0a16 3 = .ok (.arraylength, 1) := by decide +kernel
theorem dJ7_fill_d0a16_4 : decode cJ7_fill_d0a16 4 = .ok (.istore 4, 2) := by decide +kernel
theorem dJ7_fill_d0a16_6 : decode cJ7_fill_d0a16 6 = .ok (.iload_n 3, 1) := by decide +kernel
theorem dJ7_fill_d0a16_7 : decode cJ7_fill_d0a16 7 = .ok (.iload 4, 2) := by decide +kernel
theorem dJ7_fill_d0a16_9 : decode cJ7_fill_d0a16 9 = .ok (.if_icmp .ge 13, 3) := by decide +kernel
theorem dJ7_fill_d0a16_12 : decode cJ7_fill_d0a16 12 = .ok (.aload_n 0, 1) := by decide +kernel
theorem dJ7_fill_d0a16_13 : decode cJ7_fill_d0a16 13 = .ok (.iload_n 3, 1) := by decide +kernel
theorem dJ7_fill_d0a16_14 : decode cJ7_fill_d0a16 14 = .ok (.lload_n 1, 1) := by decide +kernel
theorem dJ7_fill_d0a16_15 : decode cJ7_fill_d0a16 15 = .ok (.lastore, 1) := by decide +kernel
theorem dJ7_fill_d0a16_16 : decode cJ7_fill_d0a16 16 = .ok (.iinc 3 1, 3) := by decide +kernel
theorem dJ7_fill_d0a16_19 : decode cJ7_fill_d0a16 19 = .ok (.goto (-13), 3) := by decide +kernel
theorem dJ7_fill_d0a16_22 : decode cJ7_fill_d0a16 22 = .ok (.return_, 1) := by decide +kernel
theorem dJ7_fill_53178_0 : decode cJ7_fill_53178 0 = .ok (.iconst 0, 1) := by decide +kernel
theorem dJ7_fill_53178_1 : decode cJ7_fill_53178 1 = .ok (.istore_n 2, 1) := by decide +kernel
theorem dJ7_fill_53178_2 : decode cJ7_fill_53178 2 = .ok (.aload_n 0, 1) := by decide +kernel
theorem dJ7_fill_53178_3 : decode cJ7_fill_53178 3 = .ok (.arraylength, 1) := by decide +kernel
theorem dJ7_fill_53178_4 : decode cJ7_fill_53178 4 = .ok (.istore_n 3, 1) := by decide +kernel
theorem dJ7_fill_53178_5 : decode cJ7_fill_53178 5 = .ok (.iload_n 2, 1) := by decide +kernel
theorem dJ7_fill_53178_6 : decode cJ7_fill_53178 6 = .ok (.iload_n 3, 1) := by decide +kernel
theorem dJ7_fill_53178_7 : decode cJ7_fill_53178 7 = .ok (.if_icmp .ge 13, 3) := by decide +kernel
theorem dJ7_fill_53178_10 : decode cJ7_fill_53178 10 = .ok (.aload_n 0, 1) := by decide +kernel
theorem dJ7_fill_53178_11 : decode cJ7_fill_53178 11 = .ok (.iload_n 2, 1) := by decide +kernel
theorem dJ7_fill_53178_12 : decode cJ7_fill_53178 12 = .ok (.iload_n 1, 1) := by decide +kernel
theorem dJ7_fill_53178_13 : decode cJ7_fill_53178 13 = .ok (.iastore, 1) := by decide +kernel
theorem dJ7_fill_53178_14 : decode cJ7_fill_53178 14 = .ok (.iinc 2 1, 3) := by decide +kernel
theorem dJ7_fill_53178_17 : decode cJ7_fill_53178 17 = .ok (.goto (-12), 3) := by decide +kernel
theorem dJ7_fill_53178_20 : decode cJ7_fill_53178 20 = .ok (.return_, 1) := by decide +kernel
