theorem dX0_init_0 : decode cX0_init 0 = .ok (.aload_n 0, 1) := by decide +kernel
theorem dX0_init_1 : decode cX0_init 1 = .ok (.invokespecial 3, 3) := by decide +kernel
theorem dX0_init_4 : decode cX0_init 4 = .ok (.aload_n 0, 1) := by decide +kernel
theorem dX0_init_5 : decode cX0_init 5 = .ok (.sipush 512, 3) := by decide +kernel
theorem dX0_init_8 : decode cX0_init 8 = .ok (.newarray .int, 2) := by decide +kernel
theorem dX0_init_10 : decode cX0_init 10 = .ok (.putfield 9, 3) := by decide +kernel
theorem dX0_init_13 : decode cX0_init 13 = .ok (.aload_n 0, 1) := by decide +kernel
theorem dX0_init_14 : decode cX0_init 14 = .ok (.sipush 512, 3) := by decide +kernel
theorem dX0_init_17 : decode cX0_init 17 = .ok (.newarray .int, 2) := by decide +kernel
theorem dX0_init_19 : decode cX0_init 19 = .ok (.putfield 15, 3) := by decide +kernel
theorem dX0_init_22 : decode cX0_init 22 = .ok (.aload_n 0, 1) := by decide +kernel
theorem dX0_init_23 : decode cX0_init 23 = .ok (.sipush 512, 3) := by decide +kernel
theorem dX0_init_26 : decode cX0_init 26 = .ok (.newarray .int, 2) := by decide +kernel
theorem dX0_init_28 : decode cX0_init 28 = .ok (.putfield 18, 3) := by decide +kernel
theorem dX0_init_31 : decode cX0_init 31 = .ok (.aload_n 0, 1) := by decide +kernel
theorem dX0_init_32 : decode cX0_init 32 = .ok (.sipush 512, 3) := by decide +kernel
theorem dX0_init_35 : decode cX0_init 35 = .ok (.newarray .int, 2) := by decide +kernel
theorem dX0_init_37 : decode cX0_init 37 = .ok (.putfield 21, 3) := by decide +kernel
theorem dX0_init_40 : decode cX0_init 40 = .ok (.aload_n 0, 1) := by decide +kernel
theorem dX0_init_41 : decode cX0_init 41 = .ok (.sipush 512, 3) := by decide +kernel
theorem dX0_init_44 : decode cX0_init 44 = .ok (.newarray .int, 2) := by decide +kernel
theorem dX0_init_46 : decode cX0_init 46 = .ok (.putfield 24, 3) := by decide +kernel
theorem dX0_init_49 : decode cX0_init 49 = .ok (.aload_n 0, 1) := by decide +kernel
theorem dX0_init_50 : decode cX0_init 50 = .ok (.bipush 25, 2) := by decide +kernel
theorem dX0_init_52 : decode cX0_init 52 = .ok (.newarray .int, 2) := by decide +kernel
theorem dX0_init_54 : decode cX0_init 54 = .ok (.putfield 27, 3) := by decide +kernel
theorem dX0_init_57 : decode cX0_init 57 = .ok (.return_, 1) := by decide +kernel
theorem dX0_clearAll_0 : decode cX0_clearAll 0 = .ok (.aload_n 0, 1) := by decide +kernel
theorem dX0_clearAll_1 : decode cX0_clearAll 1 = .ok (.iconst 0, 1) := by decide +kernel
theorem dX0_clearAll_2 : decode cX0_clearAll 2 = .ok (.putfield 30, 3) := by decide +kernel
theorem dX0_clearAll_5 : decode cX0_clearAll 5 = .ok (.aload_n 0, 1) := by decide +kernel
theorem dX0_clearAll_6 : decode cX0_clearAll 6 = .ok (.invokevirtual 34, 3) := by decide +kernel
theorem dX0_clearAll_9 : decode cX0_clearAll 9 = .ok (.return_, 1) := by decide +kernel
theorem dX0_copyFrom_0 : decode cX0_copyFrom 0 = .ok (.aload_n 0, 1) := by decide +kernel
theorem dX0_copyFrom_1 : decode cX0_copyFrom 1 = .ok (.aload_n 1, 1) := by decide +kernel
theorem dX0_copyFrom_2 : decode cX0_copyFrom 2 = .ok (.getfield 30, 3) := by decide +kernel
theorem dX0_copyFrom_5 : decode cX0_copyFrom 5 = .ok (.putfield 30, 3) := by decide +kernel
theorem dX0_copyFrom_8 : decode cX0_copyFrom 8 = .ok (.aload_n 1, 1) := by decide +kernel
theorem dX0_copyFrom_9 : decode cX0_copyFrom 9 = .ok (.getfield 9, 3) := by decide +kernel
theorem dX0_copyFrom_12 : decode cX0_copyFrom 12 = .ok (.aload_n 0, 1) := by decide +kernel
theorem dX0_copyFrom_13 : decode cX0_copyFrom 13 = .ok (.getfield 9, 3) := by decide +kernel
theorem dX0_copyFrom_16 : decode cX0_copyFrom 16 = .ok (.invokestatic 37, 3) := by decide +kernel
theorem dX0_copyFrom_19 : decode cX0_copyFrom 19 = .ok (.aload_n 1, 1) := by decide +kernel
theorem dX0_copyFrom_20 : decode cX0_copyFrom 20 = .ok (.getfield 15, 3) := by decide +kernel
theorem dX0_copyFrom_23 : decode cX0_copyFrom 23 = .ok (.aload_n 0, 1) := by decide +kernel
theorem dX0_copyFrom_24 : decode cX0_copyFrom 24 = .ok (.getfield 15, 3) := by decide +kernel
theorem dX0_copyFrom_27 : decode cX0_copyFrom 27 = .ok (.invokestatic 37, 3) := by decide +kernel
theorem dX0_copyFrom_30 : decode cX0_copyFrom 30 = .ok (.aload_n 1, 1) := by decide +kernel
theorem dX0_copyFrom_31 : decode cX0_copyFrom 31 = .ok (.getfield 18, 3) := by decide +kernel
theorem dX0_copyFrom_34 : decode cX0_copyFrom 34 = .ok (.aload_n 0, 1) := by decide +kernel
theorem dX0_copyFrom_35 : decode cX0_copyFrom 35 = .ok (.getfield 18, 3) := by decide +kernel
theorem dX0_copyFrom_38 : decode cX0_copyFrom 38 = .ok (.invokestatic 37, 3) := by decide +kernel
theorem dX0_copyFrom_41 : decode cX0_copyFrom 41 = .ok (.aload_n 1, 1) := by decide +kernel
theorem dX0_copyFrom_42 : decode cX0_copyFrom 42 = .ok (.getfield 21, 3) := by decide +kernel
theorem dX0_copyFrom_45 : decode cX0_copyFrom 45 = .ok (.aload_n 0, 1) := by decide +kernel
theorem dX0_copyFrom_46 : decode cX0_copyFrom 46 = .ok (.getfield 21, 3) := by decide +kernel
theorem dX0_copyFrom_49 : decode cX0_copyFrom 49 = .ok (.invokestatic 37, 3) := by decide +kernel
theorem dX0_copyFrom_52 : decode cX0_copyFrom 52 = .ok (.aload_n 1, 1) := by decide +kernel
theorem dX0_copyFrom_53 : decode cX0_copyFrom 53 = .ok (.getfield 24, 3) := by decide +kernel
theorem dX0_copyFrom_56 : decode cX0_copyFrom 56 = .ok (.aload_n 0, 1) := by decide +kernel
theorem dX0_copyFrom_57 : decode cX0_copyFrom 57 = .ok (.getfield 24, 3) := by decide +kernel
theorem dX0_copyFrom_60 : decode cX0_copyFrom 60 = .ok (.invokestatic 37, 3) := by decide +kernel
theorem dX0_copyFrom_63 : decode cX0_copyFrom 63 = .ok (.aload_n 1, 1) := by decide +kernel
theorem dX0_copyFrom_64 : decode cX0_copyFrom 64 = .ok (.getfield 27, 3) := by decide +kernel
theorem dX0_copyFrom_67 : decode cX0_copyFrom 67 = .ok (.aload_n 0, 1) := by decide +kernel
theorem dX0_copyFrom_68 : decode cX0_copyFrom 68 = .ok (.getfield 27, 3) := by decide +kernel
theorem dX0_copyFrom_71 : decode cX0_copyFrom 71 = .ok (.invokestatic 37, 3) := by decide +kernel
theorem dX0_copyFrom_74 : decode cX0_copyFrom 74 = .ok (.return_, 1) := by decide +kernel
theorem dX0_put_0 : decode cX0_put 0 = .ok (.aload_n 0, 1) := by decide +kernel
theorem dX0_put_1 : decode cX0_put 1 = .ok (.getfield 30, 3) := by decide +kernel
theorem dX0_put_4 : decode cX0_put 4 = .ok (.istore 5, 2) := by decide +kernel
theorem dX0_put_6 : decode cX0_put 6 = .ok (.aload_n 0, 1) := by decide +kernel
theorem dX0_put_7 : decode cX0_put 7 = .ok (.getfield 9, 3) := by decide +kernel
theorem dX0_put_10 : decode cX0_put 10 = .ok (.iload 5, 2) := by decide +kernel
theorem dX0_put_12 : decode cX0_put 12 = .ok (.iload_n 1, 1) := by decide +kernel
theorem dX0_put_13 : decode cX0_put 13 = .ok (.iastore, 1) := by decide +kernel
theorem dX0_put_14 : decode cX0_put 14 = .ok (.aload_n 0, 1) := by decide +kernel
theorem dX0_put_15 : decode cX0_put 15 = .ok (.getfield 15, 3) := by decide +kernel
theorem dX0_put_18 : decode cX0_put 18 = .ok (.iload 5, 2) := by decide +kernel
theorem dX0_put_20 : decode cX0_put 20 = .ok (.iload_n 2, 1) := by decide +kernel
theorem dX0_put_21 : decode cX0_put 21 = .ok (.iastore, 1) := by decide +kernel
theorem dX0_put_22 : decode cX0_put 22 = .ok (.aload_n 0, 1) := by decide +kernel
theorem dX0_put_23 : decode cX0_put 23 = .ok (.getfield 18, 3) := by decide +kernel
theorem dX0_put_26 : decode cX0_put 26 = .ok (.iload 5, 2) := by decide +kernel
theorem dX0_put_28 : decode cX0_put 28 = .ok (.iload_n 3, 1) := by decide +kernel
theorem dX0_put_29 : decode cX0_put 29 = .ok (.iastore, 1) := by decide +kernel
theorem dX0_put_30 : decode cX0_put 30 = .ok (.aload_n 0, 1) := by decide +kernel
theorem dX0_put_31 : decode cX0_put 31 = .ok (.getfield 21, 3) := by decide +kernel
theorem dX0_put_34 : decode cX0_put 34 = .ok (.iload 5, 2) := by decide +kernel
theorem dX0_put_36 : decode cX0_put 36 = .ok (.iload 4, 2) := by decide +kernel
theorem dX0_put_38 : decode cX0_put 38 = .ok (.iastore, 1) := by decide +kernel
theorem dX0_put_39 : decode cX0_put 39 = .ok (.aload_n 0, 1) := by decide +kernel
theorem dX0_put_40 : decode cX0_put 40 = .ok (.getfield 24, 3) := by decide +kernel
theorem dX0_put_43 : decode cX0_put 43 = .ok (.iload 5, 2) := by decide +kernel
theorem dX0_put_45 : decode cX0_put 45 = .ok (.iconst (-1), 1) := by decide +kernel
theorem dX0_put_46 : decode cX0_put 46 = .ok (.iastore, 1) := by decide +kernel
theorem dX0_put_47 : decode cX0_put 47 = .ok (.aload_n 0, 1) := by decide +kernel
theorem dX0_put_48 : decode cX0_put 48 = .ok (.dup, 1) := by decide +kernel
theorem dX0_put_49 : decode cX0_put 49 = .ok (.getfield 30, 3) := by decide +kernel
theorem dX0_put_52 : decode cX0_put 52 = .ok (.iconst 1, 1) := by decide +kernel
theorem dX0_put_53 : decode cX0_put 53 = .ok (.iadd, 1) := by decide +kernel
theorem dX0_put_54 : decode cX0_put 54 = .ok (.putfield 30, 3) := by decide +kernel
theorem dX0_put_57 : decode cX0_put 57 = .ok (.iload 5, 2) := by decide +kernel
theorem dX0_put_59 : decode cX0_put 59 = .ok (.ireturn, 1) := by decide +kernel
theorem dX0_putMarker_0 : decode cX0_putMarker 0 = .ok (.aload_n 0, 1) := by decide +kernel
theorem dX0_putMarker_1 : decode cX0_putMarker 1 = .ok (.getfield 27, 3) := by decide +kernel
theorem dX0_putMarker_4 : decode cX0_putMarker 4 = .ok (.iload_n 1, 1) := by decide +kernel
theorem dX0_putMarker_5 : decode cX0_putMarker 5 = .ok (.aload_n 0, 1) := by decide +kernel
theorem dX0_putMarker_6 : decode cX0_putMarker 6 = .ok (.getfield 30, 3) := by decide +kernel
theorem dX0_putMarker_9 : decode cX0_putMarker 9 = .ok (.iastore, 1) := by decide +kernel
theorem dX0_putMarker_10 : decode cX0_putMarker 10 = .ok (.return_, 1) := by decide +kernel
theorem dX0_dropMarkers_0 : decode cX0_dropMarkers 0 = .ok (.aload_n 0, 1) := by decide +kernel
theorem dX0_dropMarkers_1 : decode cX0_dropMarkers 1 = .ok (.getfield 27, 3) := by decide +kernel
theorem dX0_dropMarkers_4 : decode cX0_dropMarkers 4 = .ok (.iconst (-1), 1) := by decide +kernel
theorem dX0_dropMarkers_5 : decode cX0_dropMarkers 5 = .ok (.invokestatic 41, 3) := by decide +kernel
theorem dX0_dropMarkers_8 : decode cX0_dropMarkers 8 = .ok (.return_, 1) := by decide +kernel
theorem dX0_waitingMarkers_0 : decode cX0_waitingMarkers 0 = .ok (.iconst 0, 1) := by decide +kernel
theorem dX0_waitingMarkers_1 : decode cX0_waitingMarkers 1 = .ok (.istore_n 1, 1) := by decide +kernel
theorem dX0_waitingMarkers_2 : decode cX0_waitingMarkers 2 = .ok (.iconst 0, 1) := by decide +kernel
theorem dX0_waitingMarkers_3 : decode cX0_waitingMarkers 3 = .ok (.istore_n 2, 1) := by decide +kernel
theorem dX0_waitingMarkers_4 : decode cX0_waitingMarkers 4 = .ok (.iload_n 2, 1) := by decide +kernel
theorem dX0_waitingMarkers_5 : decode cX0_waitingMarkers 5 = .ok (.aload_n 0, 1) := by decide +kernel
theorem dX0_waitingMarkers_6 : decode cX0_waitingMarkers 6 = .ok (.getfield 27, 3) := by decide +kernel
theorem dX0_waitingMarkers_9 : decode cX0_waitingMarkers 9 = .ok (.arraylength, 1) := by decide +kernel
theorem dX0_waitingMarkers_10 : decode cX0_waitingMarkers 10 = .ok (.if_icmp .ge 22, 3) := by decide +kernel
theorem dX0_waitingMarkers_13 : decode cX0_waitingMarkers 13 = .ok (.aload_n 0, 1) := by decide +kernel
theorem dX0_waitingMarkers_14 : decode cX0_waitingMarkers 14 = .ok (.getfield 27, 3) := by decide +kernel
theorem dX0_waitingMarkers_17 : decode cX0_waitingMarkers 17 = .ok (.iload_n 2, 1) := by decide +kernel
theorem dX0_waitingMarkers_18 : decode cX0_waitingMarkers 18 = .ok (.iaload, 1) := by decide +kernel
theorem dX0_waitingMarkers_19 : decode cX0_waitingMarkers 19 = .ok (.iconst (-1), 1) := by decide +kernel
theorem dX0_waitingMarkers_20 : decode cX0_waitingMarkers 20 = .ok (.if_icmp .eq 6, 3) := by decide +kernel
theorem dX0_waitingMarkers_23 : decode cX0_waitingMarkers 23 = .ok (.iinc 1 1, 3) := by decide +kernel
theorem dX0_waitingMarkers_26 : decode cX0_waitingMarkers 26 = .ok (.iinc 2 1, 3) := by decide +kernel
theorem dX0_waitingMarkers_29 : decode cX0_waitingMarkers 29 = .ok (.goto (-25), 3) := by decide +kernel
theorem dX0_waitingMarkers_32 : decode cX0_waitingMarkers 32 = .ok (.iload_n 1, 1) := by decide +kernel
theorem dX0_waitingMarkers_33 : decode cX0_waitingMarkers 33 = .ok (.ireturn, 1) := by decide +kernel
theorem dX0_waitingMessages_0 : decode cX0_waitingMessages 0 = .ok (.iconst 0, 1) := by decide +kernel
theorem dX0_waitingMessages_1 : decode cX0_waitingMessages 1 = .ok (.istore_n 1, 1) := by decide +kernel
theorem dX0_waitingMessages_2 : decode cX0_waitingMessages 2 = .ok (.iconst 0, 1) := by decide +kernel
theorem dX0_waitingMessages_3 : decode cX0_waitingMessages 3 = .ok (.istore_n 2, 1) := by decide +kernel
theorem dX0_waitingMessages_4 : decode cX0_waitingMessages 4 = .ok (.iload_n 2, 1) := by decide +kernel
theorem dX0_waitingMessages_5 : decode cX0_waitingMessages 5 = .ok (.aload_n 0, 1) := by decide +kernel
theorem dX0_waitingMessages_6 : decode cX0_waitingMessages 6 = .ok (.getfield 30, 3) := by decide +kernel
theorem dX0_waitingMessages_9 : decode cX0_waitingMessages 9 = .ok (.if_icmp .ge 22, 3) := by decide +kernel
theorem dX0_waitingMessages_12 : decode cX0_waitingMessages 12 = .ok (.aload_n 0, 1) := by decide +kernel
theorem dX0_waitingMessages_13 : decode cX0_waitingMessages 13 = .ok (.getfield 24, 3) := by decide +kernel
theorem dX0_waitingMessages_16 : decode cX0_waitingMessages 16 = .ok (.iload_n 2, 1) := by decide +kernel
theorem dX0_waitingMessages_17 : decode cX0_waitingMessages 17 = .ok (.iaload, 1) := by decide +kernel
theorem dX0_waitingMessages_18 : decode cX0_waitingMessages 18 = .ok (.iconst (-1), 1) := by decide +kernel
theorem dX0_waitingMessages_19 : decode cX0_waitingMessages 19 = .ok (.if_icmp .ne 6, 3) := by decide +kernel
theorem dX0_waitingMessages_22 : decode cX0_waitingMessages 22 = .ok (.iinc 1 1, 3) := by decide +kernel
theorem dX0_waitingMessages_25 : decode cX0_waitingMessages 25 = .ok (.iinc 2 1, 3) := by decide +kernel
theorem dX0_waitingMessages_28 : decode cX0_waitingMessages 28 = .ok (.goto (-24), 3) := by decide +kernel
theorem dX0_waitingMessages_31 : decode cX0_waitingMessages 31 = .ok (.iload_n 1, 1) := by decide +kernel
theorem dX0_waitingMessages_32 : decode cX0_waitingMessages 32 = .ok (.ireturn, 1) := by decide +kernel
theorem dX0_waitingIn_0 : decode cX0_waitingIn 0 = .ok (.aload_n 0, 1) := by decide +kernel
theorem dX0_waitingIn_1 : decode cX0_waitingIn 1 = .ok (.iload_n 1, 1) := by decide +kernel
theorem dX0_waitingIn_2 : decode cX0_waitingIn 2 = .ok (.aload_n 0, 1) := by decide +kernel
theorem dX0_waitingIn_3 : decode cX0_waitingIn 3 = .ok (.getfield 30, 3) := by decide +kernel
theorem dX0_waitingIn_6 : decode cX0_waitingIn 6 = .ok (.invokevirtual 47, 3) := by decide +kernel
theorem dX0_waitingIn_9 : decode cX0_waitingIn 9 = .ok (.ireturn, 1) := by decide +kernel
theorem dX0_waitingAhead_0 : decode cX0_waitingAhead 0 = .ok (.iconst 0, 1) := by decide +kernel
theorem dX0_waitingAhead_1 : decode cX0_waitingAhead 1 = .ok (.istore_n 3, 1) := by decide +kernel
theorem dX0_waitingAhead_2 : decode cX0_waitingAhead 2 = .ok (.iconst 0, 1) := by decide +kernel
theorem dX0_waitingAhead_3 : decode cX0_waitingAhead 3 = .ok (.istore 4, 2) := by decide +kernel
theorem dX0_waitingAhead_5 : decode cX0_waitingAhead 5 = .ok (.iload 4, 2) := by decide +kernel
theorem dX0_waitingAhead_7 : decode cX0_waitingAhead 7 = .ok (.iload_n 2, 1) := by decide +kernel
theorem dX0_waitingAhead_8 : decode cX0_waitingAhead 8 = .ok (.if_icmp .ge 34, 3) := by decide +kernel
theorem dX0_waitingAhead_11 : decode cX0_waitingAhead 11 = .ok (.aload_n 0, 1) := by decide +kernel
theorem dX0_waitingAhead_12 : decode cX0_waitingAhead 12 = .ok (.getfield 9, 3) := by decide +kernel
theorem dX0_waitingAhead_15 : decode cX0_waitingAhead 15 = .ok (.iload 4, 2) := by decide +kernel
theorem dX0_waitingAhead_17 : decode cX0_waitingAhead 17 = .ok (.iaload, 1) := by decide +kernel
theorem dX0_waitingAhead_18 : decode cX0_waitingAhead 18 = .ok (.iload_n 1, 1) := by decide +kernel
theorem dX0_waitingAhead_19 : decode cX0_waitingAhead 19 = .ok (.if_icmp .ne 17, 3) := by decide +kernel
theorem dX0_waitingAhead_22 : decode cX0_waitingAhead 22 = .ok (.aload_n 0, 1) := by decide +kernel
theorem dX0_waitingAhead_23 : decode cX0_waitingAhead 23 = .ok (.getfield 24, 3) := by decide +kernel
theorem dX0_waitingAhead_26 : decode cX0_waitingAhead 26 = .ok (.iload 4, 2) := by decide +kernel
theorem dX0_waitingAhead_28 : decode cX0_waitingAhead 28 = .ok (.iaload, 1) := by decide +kernel
theorem dX0_waitingAhead_29 : decode cX0_waitingAhead 29 = .ok (.iconst (-1), 1) := by decide +kernel
theorem dX0_waitingAhead_30 : decode cX0_waitingAhead 30 = .ok (.if_icmp .ne 6, 3) := by decide +kernel
theorem dX0_waitingAhead_33 : decode cX0_waitingAhead 33 = .ok (.iinc 3 1, 3) := by decide +kernel
theorem dX0_waitingAhead_36 : decode cX0_waitingAhead 36 = .ok (.iinc 4 1, 3) := by decide +kernel
theorem dX0_waitingAhead_39 : decode cX0_waitingAhead 39 = .ok (.goto (-34), 3) := by decide +kernel
theorem dX0_waitingAhead_42 : decode cX0_waitingAhead 42 = .ok (.iload_n 3, 1) := by decide +kernel
theorem dX0_waitingAhead_43 : decode cX0_waitingAhead 43 = .ok (.ireturn, 1) := by decide +kernel
theorem dX0_messageAt_0 : decode cX0_messageAt 0 = .ok (.iconst 0, 1) := by decide +kernel
theorem dX0_messageAt_1 : decode cX0_messageAt 1 = .ok (.istore_n 3, 1) := by decide +kernel
theorem dX0_messageAt_2 : decode cX0_messageAt 2 = .ok (.iconst 0, 1) := by decide +kernel
theorem dX0_messageAt_3 : decode cX0_messageAt 3 = .ok (.istore 4, 2) := by decide +kernel
theorem dX0_messageAt_5 : decode cX0_messageAt 5 = .ok (.iload 4, 2) := by decide +kernel
theorem dX0_messageAt_7 : decode cX0_messageAt 7 = .ok (.aload_n 0, 1) := by decide +kernel
theorem dX0_messageAt_8 : decode cX0_messageAt 8 = .ok (.getfield 30, 3) := by decide +kernel
theorem dX0_messageAt_11 : decode cX0_messageAt 11 = .ok (.if_icmp .ge 42, 3) := by decide +kernel
theorem dX0_messageAt_14 : decode cX0_messageAt 14 = .ok (.aload_n 0, 1) := by decide +kernel
theorem dX0_messageAt_15 : decode cX0_messageAt 15 = .ok (.getfield 9, 3) := by decide +kernel
theorem dX0_messageAt_18 : decode cX0_messageAt 18 = .ok (.iload 4, 2) := by decide +kernel
theorem dX0_messageAt_20 : decode cX0_messageAt 20 = .ok (.iaload, 1) := by decide +kernel
theorem dX0_messageAt_21 : decode cX0_messageAt 21 = .ok (.iload_n 1, 1) := by decide +kernel
theorem dX0_messageAt_22 : decode cX0_messageAt 22 = .ok (.if_icmp .ne 25, 3) := by decide +kernel
theorem dX0_messageAt_25 : decode cX0_messageAt 25 = .ok (.aload_n 0, 1) := by decide +kernel
theorem dX0_messageAt_26 : decode cX0_messageAt 26 = .ok (.getfield 24, 3) := by decide +kernel
theorem dX0_messageAt_29 : decode cX0_messageAt 29 = .ok (.iload 4, 2) := by decide +kernel
theorem dX0_messageAt_31 : decode cX0_messageAt 31 = .ok (.iaload, 1) := by decide +kernel
theorem dX0_messageAt_32 : decode cX0_messageAt 32 = .ok (.iconst (-1), 1) := by decide +kernel
theorem dX0_messageAt_33 : decode cX0_messageAt 33 = .ok (.if_icmp .ne 14, 3) := by decide +kernel
theorem dX0_messageAt_36 : decode cX0_messageAt 36 = .ok (.iload_n 3, 1) := by decide +kernel
theorem dX0_messageAt_37 : decode cX0_messageAt 37 = .ok (.iload_n 2, 1) := by decide +kernel
theorem dX0_messageAt_38 : decode cX0_messageAt 38 = .ok (.if_icmp .ne 6, 3) := by decide +kernel
theorem dX0_messageAt_41 : decode cX0_messageAt 41 = .ok (.iload 4, 2) := by decide +kernel
theorem dX0_messageAt_43 : decode cX0_messageAt 43 = .ok (.ireturn, 1) := by decide +kernel
theorem dX0_messageAt_44 : decode cX0_messageAt 44 = .ok (.iinc 3 1, 3) := by decide +kernel
theorem dX0_messageAt_47 : decode cX0_messageAt 47 = .ok (.iinc 4 1, 3) := by decide +kernel
theorem dX0_messageAt_50 : decode cX0_messageAt 50 = .ok (.goto (-45), 3) := by decide +kernel
theorem dX0_messageAt_53 : decode cX0_messageAt 53 = .ok (.iconst (-1), 1) := by decide +kernel
theorem dX0_messageAt_54 : decode cX0_messageAt 54 = .ok (.ireturn, 1) := by decide +kernel
theorem dX0_markerPlace_0 : decode cX0_markerPlace 0 = .ok (.aload_n 0, 1) := by decide +kernel
theorem dX0_markerPlace_1 : decode cX0_markerPlace 1 = .ok (.getfield 27, 3) := by decide +kernel
theorem dX0_markerPlace_4 : decode cX0_markerPlace 4 = .ok (.iload_n 1, 1) := by decide +kernel
theorem dX0_markerPlace_5 : decode cX0_markerPlace 5 = .ok (.iaload, 1) := by decide +kernel
theorem dX0_markerPlace_6 : decode cX0_markerPlace 6 = .ok (.istore_n 2, 1) := by decide +kernel
theorem dX0_markerPlace_7 : decode cX0_markerPlace 7 = .ok (.iload_n 2, 1) := by decide +kernel
theorem dX0_markerPlace_8 : decode cX0_markerPlace 8 = .ok (.iconst (-1), 1) := by decide +kernel
theorem dX0_markerPlace_9 : decode cX0_markerPlace 9 = .ok (.if_icmp .ne 7, 3) := by decide +kernel
theorem dX0_markerPlace_12 : decode cX0_markerPlace 12 = .ok (.iconst (-1), 1) := by decide +kernel
theorem dX0_markerPlace_13 : decode cX0_markerPlace 13 = .ok (.goto 9, 3) := by decide +kernel
theorem dX0_markerPlace_16 : decode cX0_markerPlace 16 = .ok (.aload_n 0, 1) := by decide +kernel
theorem dX0_markerPlace_17 : decode cX0_markerPlace 17 = .ok (.iload_n 1, 1) := by decide +kernel
theorem dX0_markerPlace_18 : decode cX0_markerPlace 18 = .ok (.iload_n 2, 1) := by decide +kernel
theorem dX0_markerPlace_19 : decode cX0_markerPlace 19 = .ok (.invokevirtual 47, 3) := by decide +kernel
theorem dX0_markerPlace_22 : decode cX0_markerPlace 22 = .ok (.ireturn, 1) := by decide +kernel
theorem dX0_propertyAt_0 : decode cX0_propertyAt 0 = .ok (.aload_n 0, 1) := by decide +kernel
theorem dX0_propertyAt_1 : decode cX0_propertyAt 1 = .ok (.iload_n 1, 1) := by decide +kernel
theorem dX0_propertyAt_2 : decode cX0_propertyAt 2 = .ok (.invokevirtual 51, 3) := by decide +kernel
theorem dX0_propertyAt_5 : decode cX0_propertyAt 5 = .ok (.istore 4, 2) := by decide +kernel
theorem dX0_propertyAt_7 : decode cX0_propertyAt 7 = .ok (.iload 4, 2) := by decide +kernel
theorem dX0_propertyAt_9 : decode cX0_propertyAt 9 = .ok (.iload_n 2, 1) := by decide +kernel
theorem dX0_propertyAt_10 : decode cX0_propertyAt 10 = .ok (.if_icmp .ne 23, 3) := by decide +kernel
theorem dX0_propertyAt_13 : decode cX0_propertyAt 13 = .ok (.iload_n 3, 1) := by decide +kernel
theorem dX0_propertyAt_14 : decode cX0_propertyAt 14 = .ok (.ifCond .ne 7, 3) := by decide +kernel
theorem dX0_propertyAt_17 : decode cX0_propertyAt 17 = .ok (.iconst 2, 1) := by decide +kernel
theorem dX0_propertyAt_18 : decode cX0_propertyAt 18 = .ok (.goto 14, 3) := by decide +kernel
theorem dX0_propertyAt_21 : decode cX0_propertyAt 21 = .ok (.iload_n 3, 1) := by decide +kernel
theorem dX0_propertyAt_22 : decode cX0_propertyAt 22 = .ok (.iconst 1, 1) := by decide +kernel
theorem dX0_propertyAt_23 : decode cX0_propertyAt 23 = .ok (.if_icmp .ne 7, 3) := by decide +kernel
theorem dX0_propertyAt_26 : decode cX0_propertyAt 26 = .ok (.iconst 0, 1) := by decide +kernel
theorem dX0_propertyAt_27 : decode cX0_propertyAt 27 = .ok (.goto 5, 3) := by decide +kernel
theorem dX0_propertyAt_30 : decode cX0_propertyAt 30 = .ok (.ldc 55, 2) := by decide +kernel
theorem dX0_propertyAt_32 : decode cX0_propertyAt 32 = .ok (.ireturn, 1) := by decide +kernel
theorem dX0_propertyAt_33 : decode cX0_propertyAt 33 = .ok (.iload 4, 2) := by decide +kernel
theorem dX0_propertyAt_35 : decode cX0_propertyAt 35 = .ok (.iconst (-1), 1) := by decide +kernel
theorem dX0_propertyAt_36 : decode cX0_propertyAt 36 = .ok (.if_icmp .eq 13, 3) := by decide +kernel
theorem dX0_propertyAt_39 : decode cX0_propertyAt 39 = .ok (.iload_n 2, 1) := by decide +kernel
theorem dX0_propertyAt_40 : decode cX0_propertyAt 40 = .ok (.iload 4, 2) := by decide +kernel
theorem dX0_propertyAt_42 : decode cX0_propertyAt 42 = .ok (.if_icmp .le 7, 3) := by decide +kernel
theorem dX0_propertyAt_45 : decode cX0_propertyAt 45 = .ok (.iconst 1, 1) := by decide +kernel
theorem dX0_propertyAt_46 : decode cX0_propertyAt 46 = .ok (.goto 4, 3) := by decide +kernel
theorem dX0_propertyAt_49 : decode cX0_propertyAt 49 = .ok (.iconst 0, 1) := by decide +kernel
theorem dX0_propertyAt_50 : decode cX0_propertyAt 50 = .ok (.istore 5, 2) := by decide +kernel
theorem dX0_propertyAt_52 : decode cX0_propertyAt 52 = .ok (.aload_n 0, 1) := by decide +kernel
theorem dX0_propertyAt_53 : decode cX0_propertyAt 53 = .ok (.iload_n 1, 1) := by decide +kernel
theorem dX0_propertyAt_54 : decode cX0_propertyAt 54 = .ok (.iload 5, 2) := by decide +kernel
theorem dX0_propertyAt_56 : decode cX0_propertyAt 56 = .ok (.ifCond .eq 9, 3) := by decide +kernel
theorem dX0_propertyAt_59 : decode cX0_propertyAt 59 = .ok (.iload_n 2, 1) := by decide +kernel
theorem dX0_propertyAt_60 : decode cX0_propertyAt 60 = .ok (.iconst 1, 1) := by decide +kernel
theorem dX0_propertyAt_61 : decode cX0_propertyAt 61 = .ok (.isub, 1) := by decide +kernel
theorem dX0_propertyAt_62 : decode cX0_propertyAt 62 = .ok (.goto 4, 3) := by decide +kernel
theorem dX0_propertyAt_65 : decode cX0_propertyAt 65 = .ok (.iload_n 2, 1) := by decide +kernel
theorem dX0_propertyAt_66 : decode cX0_propertyAt 66 = .ok (.invokevirtual 56, 3) := by decide +kernel
theorem dX0_propertyAt_69 : decode cX0_propertyAt 69 = .ok (.istore 6, 2) := by decide +kernel
theorem dX0_propertyAt_71 : decode cX0_propertyAt 71 = .ok (.iload 6, 2) := by decide +kernel
theorem dX0_propertyAt_73 : decode cX0_propertyAt 73 = .ok (.iconst (-1), 1) := by decide +kernel
theorem dX0_propertyAt_74 : decode cX0_propertyAt 74 = .ok (.if_icmp .ne 6, 3) := by decide +kernel
theorem dX0_propertyAt_77 : decode cX0_propertyAt 77 = .ok (.ldc 55, 2) := by decide +kernel
theorem dX0_propertyAt_79 : decode cX0_propertyAt 79 = .ok (.ireturn, 1) := by decide +kernel
theorem dX0_propertyAt_80 : decode cX0_propertyAt 80 = .ok (.iload_n 3, 1) := by decide +kernel
theorem dX0_propertyAt_81 : decode cX0_propertyAt 81 = .ok (.ifCond .ne 11, 3) := by decide +kernel
theorem dX0_propertyAt_84 : decode cX0_propertyAt 84 = .ok (.aload_n 0, 1) := by decide +kernel
theorem dX0_propertyAt_85 : decode cX0_propertyAt 85 = .ok (.getfield 15, 3) := by decide +kernel
theorem dX0_propertyAt_88 : decode cX0_propertyAt 88 = .ok (.iload 6, 2) := by decide +kernel
theorem dX0_propertyAt_90 : decode cX0_propertyAt 90 = .ok (.iaload, 1) := by decide +kernel
theorem dX0_propertyAt_91 : decode cX0_propertyAt 91 = .ok (.ireturn, 1) := by decide +kernel
theorem dX0_propertyAt_92 : decode cX0_propertyAt 92 = .ok (.iload_n 3, 1) := by decide +kernel
theorem dX0_propertyAt_93 : decode cX0_propertyAt 93 = .ok (.iconst 1, 1) := by decide +kernel
theorem dX0_propertyAt_94 : decode cX0_propertyAt 94 = .ok (.if_icmp .ne 11, 3) := by decide +kernel
theorem dX0_propertyAt_97 : decode cX0_propertyAt 97 = .ok (.aload_n 0, 1) := by decide +kernel
theorem dX0_propertyAt_98 : decode cX0_propertyAt 98 = .ok (.getfield 18, 3) := by decide +kernel
theorem dX0_propertyAt_101 : decode cX0_propertyAt 101 = .ok (.iload 6, 2) := by decide +kernel
theorem dX0_propertyAt_103 : decode cX0_propertyAt 103 = .ok (.iaload, 1) := by decide +kernel
theorem dX0_propertyAt_104 : decode cX0_propertyAt 104 = .ok (.ireturn, 1) := by decide +kernel
theorem dX0_propertyAt_105 : decode cX0_propertyAt 105 = .ok (.aload_n 0, 1) := by decide +kernel
theorem dX0_propertyAt_106 : decode cX0_propertyAt 106 = .ok (.getfield 21, 3) := by decide +kernel
theorem dX0_propertyAt_109 : decode cX0_propertyAt 109 = .ok (.iload 6, 2) := by decide +kernel
theorem dX0_propertyAt_111 : decode cX0_propertyAt 111 = .ok (.iaload, 1) := by decide +kernel
theorem dX0_propertyAt_112 : decode cX0_propertyAt 112 = .ok (.iconst (-1), 1) := by decide +kernel
theorem dX0_propertyAt_113 : decode cX0_propertyAt 113 = .ok (.if_icmp .ne 8, 3) := by decide +kernel
theorem dX0_propertyAt_116 : decode cX0_propertyAt 116 = .ok (.ldc 55, 2) := by decide +kernel
theorem dX0_propertyAt_118 : decode cX0_propertyAt 118 = .ok (.goto 10, 3) := by decide +kernel
theorem dX0_propertyAt_121 : decode cX0_propertyAt 121 = .ok (.aload_n 0, 1) := by decide +kernel
theorem dX0_propertyAt_122 : decode cX0_propertyAt 122 = .ok (.getfield 21, 3) := by decide +kernel
theorem dX0_propertyAt_125 : decode cX0_propertyAt 125 = .ok (.iload 6, 2) := by decide +kernel
theorem dX0_propertyAt_127 : decode cX0_propertyAt 127 = .ok (.iaload, 1) := by decide +kernel
theorem dX0_propertyAt_128 : decode cX0_propertyAt 128 = .ok (.ireturn, 1) := by decide +kernel
theorem dX1_init_0 : decode cX1_init 0 = .ok (.aload_n 0, 1) := by decide +kernel
theorem dX1_init_1 : decode cX1_init 1 = .ok (.invokespecial 3, 3) := by decide +kernel
theorem dX1_init_4 : decode cX1_init 4 = .ok (.aload_n 0, 1) := by decide +kernel
theorem dX1_init_5 : decode cX1_init 5 = .ok (.bipush 25, 2) := by decide +kernel
theorem dX1_init_7 : decode cX1_init 7 = .ok (.newarray .int, 2) := by decide +kernel
theorem dX1_init_9 : decode cX1_init 9 = .ok (.putfield 9, 3) := by decide +kernel
theorem dX1_init_12 : decode cX1_init 12 = .ok (.return_, 1) := by decide +kernel
theorem dX1_setToFirst_0 : decode cX1_setToFirst 0 = .ok (.aload_n 0, 1) := by decide +kernel
theorem dX1_setToFirst_1 : decode cX1_setToFirst 1 = .ok (.getfield 9, 3) := by decide +kernel
theorem dX1_setToFirst_4 : decode cX1_setToFirst 4 = .ok (.iconst 1, 1) := by decide +kernel
theorem dX1_setToFirst_5 : decode cX1_setToFirst 5 = .ok (.invokestatic 15, 3) := by decide +kernel
theorem dX1_setToFirst_8 : decode cX1_setToFirst 8 = .ok (.aload_n 0, 1) := by decide +kernel
theorem dX1_setToFirst_9 : decode cX1_setToFirst 9 = .ok (.bipush 100, 2) := by decide +kernel
theorem dX1_setToFirst_11 : decode cX1_setToFirst 11 = .ok (.putfield 21, 3) := by decide +kernel
theorem dX1_setToFirst_14 : decode cX1_setToFirst 14 = .ok (.aload_n 0, 1) := by decide +kernel
theorem dX1_setToFirst_15 : decode cX1_setToFirst 15 = .ok (.bipush 100, 2) := by decide +kernel
theorem dX1_setToFirst_17 : decode cX1_setToFirst 17 = .ok (.putfield 25, 3) := by decide +kernel
theorem dX1_setToFirst_20 : decode cX1_setToFirst 20 = .ok (.return_, 1) := by decide +kernel
theorem dX2_init_0 : decode cX2_init 0 = .ok (.aload_n 0, 1) := by decide +kernel
theorem dX2_init_1 : decode cX2_init 1 = .ok (.invokespecial 3, 3) := by decide +kernel
theorem dX2_init_4 : decode cX2_init 4 = .ok (.aload_n 0, 1) := by decide +kernel
theorem dX2_init_5 : decode cX2_init 5 = .ok (.bipush 49, 2) := by decide +kernel
theorem dX2_init_7 : decode cX2_init 7 = .ok (.newarray .int, 2) := by decide +kernel
theorem dX2_init_9 : decode cX2_init 9 = .ok (.putfield 11, 3) := by decide +kernel
theorem dX2_init_12 : decode cX2_init 12 = .ok (.aload_n 0, 1) := by decide +kernel
theorem dX2_init_13 : decode cX2_init 13 = .ok (.bipush 49, 2) := by decide +kernel
theorem dX2_init_15 : decode cX2_init 15 = .ok (.newarray .int, 2) := by decide +kernel
theorem dX2_init_17 : decode cX2_init 17 = .ok (.putfield 15, 3) := by decide +kernel
theorem dX2_init_20 : decode cX2_init 20 = .ok (.aload_n 0, 1) := by decide +kernel
theorem dX2_init_21 : decode cX2_init 21 = .ok (.bipush 49, 2) := by decide +kernel
theorem dX2_init_23 : decode cX2_init 23 = .ok (.newarray .int, 2) := by decide +kernel
theorem dX2_init_25 : decode cX2_init 25 = .ok (.putfield 18, 3) := by decide +kernel
theorem dX2_init_28 : decode cX2_init 28 = .ok (.aload_n 0, 1) := by decide +kernel
theorem dX2_init_29 : decode cX2_init 29 = .ok (.bipush 49, 2) := by decide +kernel
theorem dX2_init_31 : decode cX2_init 31 = .ok (.newarray .long, 2) := by decide +kernel
theorem dX2_init_33 : decode cX2_init 33 = .ok (.putfield 21, 3) := by decide +kernel
theorem dX2_init_36 : decode cX2_init 36 = .ok (.aload_n 0, 1) := by decide +kernel
theorem dX2_init_37 : decode cX2_init 37 = .ok (.bipush 7, 2) := by decide +kernel
theorem dX2_init_39 : decode cX2_init 39 = .ok (.newarray .int, 2) := by decide +kernel
theorem dX2_init_41 : decode cX2_init 41 = .ok (.putfield 25, 3) := by decide +kernel
theorem dX2_init_44 : decode cX2_init 44 = .ok (.aload_n 0, 1) := by decide +kernel
theorem dX2_init_45 : decode cX2_init 45 = .ok (.bipush 7, 2) := by decide +kernel
theorem dX2_init_47 : decode cX2_init 47 = .ok (.newarray .long, 2) := by decide +kernel
theorem dX2_init_49 : decode cX2_init 49 = .ok (.putfield 28, 3) := by decide +kernel
theorem dX2_init_52 : decode cX2_init 52 = .ok (.aload_n 0, 1) := by decide +kernel
theorem dX2_init_53 : decode cX2_init 53 = .ok (.bipush 7, 2) := by decide +kernel
theorem dX2_init_55 : decode cX2_init 55 = .ok (.newarray .int, 2) := by decide +kernel
theorem dX2_init_57 : decode cX2_init 57 = .ok (.putfield 31, 3) := by decide +kernel
theorem dX2_init_60 : decode cX2_init 60 = .ok (.return_, 1) := by decide +kernel
theorem dX2_along_0 : decode cX2_along 0 = .ok (.aload_n 0, 1) := by decide +kernel
theorem dX2_along_1 : decode cX2_along 1 = .ok (.getfield 11, 3) := by decide +kernel
theorem dX2_along_4 : decode cX2_along 4 = .ok (.iload_n 1, 1) := by decide +kernel
theorem dX2_along_5 : decode cX2_along 5 = .ok (.iload_n 2, 1) := by decide +kernel
theorem dX2_along_6 : decode cX2_along 6 = .ok (.invokestatic 34, 3) := by decide +kernel
theorem dX2_along_9 : decode cX2_along 9 = .ok (.iaload, 1) := by decide +kernel
theorem dX2_along_10 : decode cX2_along 10 = .ok (.ireturn, 1) := by decide +kernel
theorem dX2_plainCost_0 : decode cX2_plainCost 0 = .ok (.lconst 0, 1) := by decide +kernel
theorem dX2_plainCost_1 : decode cX2_plainCost 1 = .ok (.lstore_n 1, 1) := by decide +kernel
theorem dX2_plainCost_2 : decode cX2_plainCost 2 = .ok (.iconst 0, 1) := by decide +kernel
theorem dX2_plainCost_3 : decode cX2_plainCost 3 = .ok (.istore_n 3, 1) := by decide +kernel
theorem dX2_plainCost_4 : decode cX2_plainCost 4 = .ok (.iload_n 3, 1) := by decide +kernel
theorem dX2_plainCost_5 : decode cX2_plainCost 5 = .ok (.aload_n 0, 1) := by decide +kernel
theorem dX2_plainCost_6 : decode cX2_plainCost 6 = .ok (.getfield 11, 3) := by decide +kernel
theorem dX2_plainCost_9 : decode cX2_plainCost 9 = .ok (.arraylength, 1) := by decide +kernel
theorem dX2_plainCost_10 : decode cX2_plainCost 10 = .ok (.if_icmp .ge 29, 3) := by decide +kernel
theorem dX2_plainCost_13 : decode cX2_plainCost 13 = .ok (.lload_n 1, 1) := by decide +kernel
theorem dX2_plainCost_14 : decode cX2_plainCost 14 = .ok (.aload_n 0, 1) := by decide +kernel
theorem dX2_plainCost_15 : decode cX2_plainCost 15 = .ok (.getfield 11, 3) := by decide +kernel
theorem dX2_plainCost_18 : decode cX2_plainCost 18 = .ok (.iload_n 3, 1) := by decide +kernel
theorem dX2_plainCost_19 : decode cX2_plainCost 19 = .ok (.iaload, 1) := by decide +kernel
theorem dX2_plainCost_20 : decode cX2_plainCost 20 = .ok (.i2l, 1) := by decide +kernel
theorem dX2_plainCost_21 : decode cX2_plainCost 21 = .ok (.aload_n 0, 1) := by decide +kernel
theorem dX2_plainCost_22 : decode cX2_plainCost 22 = .ok (.getfield 21, 3) := by decide +kernel
theorem dX2_plainCost_25 : decode cX2_plainCost 25 = .ok (.iload_n 3, 1) := by decide +kernel
theorem dX2_plainCost_26 : decode cX2_plainCost 26 = .ok (.laload, 1) := by decide +kernel
theorem dX2_plainCost_27 : decode cX2_plainCost 27 = .ok (.bipush 30, 2) := by decide +kernel
theorem dX2_plainCost_29 : decode cX2_plainCost 29 = .ok (.lshr, 1) := by decide +kernel
theorem dX2_plainCost_30 : decode cX2_plainCost 30 = .ok (.lmul, 1) := by decide +kernel
theorem dX2_plainCost_31 : decode cX2_plainCost 31 = .ok (.ladd, 1) := by decide +kernel
theorem dX2_plainCost_32 : decode cX2_plainCost 32 = .ok (.lstore_n 1, 1) := by decide +kernel
theorem dX2_plainCost_33 : decode cX2_plainCost 33 = .ok (.iinc 3 1, 3) := by decide +kernel
theorem dX2_plainCost_36 : decode cX2_plainCost 36 = .ok (.goto (-32), 3) := by decide +kernel
theorem dX2_plainCost_39 : decode cX2_plainCost 39 = .ok (.lload_n 1, 1) := by decide +kernel
theorem dX2_plainCost_40 : decode cX2_plainCost 40 = .ok (.l2i, 1) := by decide +kernel
theorem dX2_plainCost_41 : decode cX2_plainCost 41 = .ok (.ireturn, 1) := by decide +kernel
theorem dX2_layOut_0 : decode cX2_layOut 0 = .ok (.aload_n 0, 1) := by decide +kernel
theorem dX2_layOut_1 : decode cX2_layOut 1 = .ok (.getfield 11, 3) := by decide +kernel
theorem dX2_layOut_4 : decode cX2_layOut 4 = .ok (.iconst 0, 1) := by decide +kernel
theorem dX2_layOut_5 : decode cX2_layOut 5 = .ok (.invokestatic 38, 3) := by decide +kernel
theorem dX2_layOut_8 : decode cX2_layOut 8 = .ok (.aload_n 0, 1) := by decide +kernel
theorem dX2_layOut_9 : decode cX2_layOut 9 = .ok (.getfield 15, 3) := by decide +kernel
theorem dX2_layOut_12 : decode cX2_layOut 12 = .ok (.iconst 0, 1) := by decide +kernel
theorem dX2_layOut_13 : decode cX2_layOut 13 = .ok (.invokestatic 38, 3) := by decide +kernel
theorem dX2_layOut_16 : decode cX2_layOut 16 = .ok (.aload_n 0, 1) := by decide +kernel
theorem dX2_layOut_17 : decode cX2_layOut 17 = .ok (.getfield 18, 3) := by decide +kernel
theorem dX2_layOut_20 : decode cX2_layOut 20 = .ok (.iconst 0, 1) := by decide +kernel
theorem dX2_layOut_21 : decode cX2_layOut 21 = .ok (.invokestatic 38, 3) := by decide +kernel
theorem dX2_layOut_24 : decode cX2_layOut 24 = .ok (.aload_n 0, 1) := by decide +kernel
theorem dX2_layOut_25 : decode cX2_layOut 25 = .ok (.getfield 21, 3) := by decide +kernel
theorem dX2_layOut_28 : decode cX2_layOut 28 = .ok (.lconst 0, 1) := by decide +kernel
theorem dX2_layOut_29 : decode cX2_layOut 29 = .ok (.invokestatic 44, 3) := by decide +kernel
theorem dX2_layOut_32 : decode cX2_layOut 32 = .ok (.aload_n 0, 1) := by decide +kernel
theorem dX2_layOut_33 : decode cX2_layOut 33 = .ok (.getfield 25, 3) := by decide +kernel
theorem dX2_layOut_36 : decode cX2_layOut 36 = .ok (.iconst 0, 1) := by decide +kernel
theorem dX2_layOut_37 : decode cX2_layOut 37 = .ok (.invokestatic 38, 3) := by decide +kernel
theorem dX2_layOut_40 : decode cX2_layOut 40 = .ok (.aload_n 0, 1) := by decide +kernel
theorem dX2_layOut_41 : decode cX2_layOut 41 = .ok (.iload_n 1, 1) := by decide +kernel
theorem dX2_layOut_42 : decode cX2_layOut 42 = .ok (.aload_n 2, 1) := by decide +kernel
theorem dX2_layOut_43 : decode cX2_layOut 43 = .ok (.invokevirtual 47, 3) := by decide +kernel
theorem dX2_layOut_46 : decode cX2_layOut 46 = .ok (.iconst 0, 1) := by decide +kernel
theorem dX2_layOut_47 : decode cX2_layOut 47 = .ok (.istore_n 3, 1) := by decide +kernel
theorem dX2_layOut_48 : decode cX2_layOut 48 = .ok (.iload_n 3, 1) := by decide +kernel
theorem dX2_layOut_49 : decode cX2_layOut 49 = .ok (.iload_n 1, 1) := by decide +kernel
theorem dX2_layOut_50 : decode cX2_layOut 50 = .ok (.if_icmp .ge 23, 3) := by decide +kernel
theorem dX2_layOut_53 : decode cX2_layOut 53 = .ok (.aload_n 0, 1) := by decide +kernel
theorem dX2_layOut_54 : decode cX2_layOut 54 = .ok (.getfield 18, 3) := by decide +kernel
theorem dX2_layOut_57 : decode cX2_layOut 57 = .ok (.iload_n 3, 1) := by decide +kernel
theorem dX2_layOut_58 : decode cX2_layOut 58 = .ok (.bipush 6, 2) := by decide +kernel
theorem dX2_layOut_60 : decode cX2_layOut 60 = .ok (.invokestatic 34, 3) := by decide +kernel
theorem dX2_layOut_63 : decode cX2_layOut 63 = .ok (.sipush 1000, 3) := by decide +kernel
theorem dX2_layOut_66 : decode cX2_layOut 66 = .ok (.iastore, 1) := by decide +kernel
theorem dX2_layOut_67 : decode cX2_layOut 67 = .ok (.iinc 3 1, 3) := by decide +kernel
theorem dX2_layOut_70 : decode cX2_layOut 70 = .ok (.goto (-22), 3) := by decide +kernel
theorem dX2_layOut_73 : decode cX2_layOut 73 = .ok (.aload_n 0, 1) := by decide +kernel
theorem dX2_layOut_74 : decode cX2_layOut 74 = .ok (.getfield 18, 3) := by decide +kernel
theorem dX2_layOut_77 : decode cX2_layOut 77 = .ok (.bipush 6, 2) := by decide +kernel
theorem dX2_layOut_79 : decode cX2_layOut 79 = .ok (.iconst 5, 1) := by decide +kernel
theorem dX2_layOut_80 : decode cX2_layOut 80 = .ok (.invokestatic 34, 3) := by decide +kernel
theorem dX2_layOut_83 : decode cX2_layOut 83 = .ok (.iload_n 1, 1) := by decide +kernel
theorem dX2_layOut_84 : decode cX2_layOut 84 = .ok (.sipush 1000, 3) := by decide +kernel
theorem dX2_layOut_87 : decode cX2_layOut 87 = .ok (.imul, 1) := by decide +kernel
theorem dX2_layOut_88 : decode cX2_layOut 88 = .ok (.iastore, 1) := by decide +kernel
theorem dX2_layOut_89 : decode cX2_layOut 89 = .ok (.return_, 1) := by decide +kernel
theorem dX2_layPricedArcs_0 : decode cX2_layPricedArcs 0 = .ok (.bipush 29, 2) := by decide +kernel
theorem dX2_layPricedArcs_2 : decode cX2_layPricedArcs 2 = .ok (.istore_n 3, 1) := by decide +kernel
theorem dX2_layPricedArcs_3 : decode cX2_layPricedArcs 3 = .ok (.iconst 0, 1) := by decide +kernel
theorem dX2_layPricedArcs_4 : decode cX2_layPricedArcs 4 = .ok (.istore 4, 2) := by decide +kernel
theorem dX2_layPricedArcs_6 : decode cX2_layPricedArcs 6 = .ok (.iload 4, 2) := by decide +kernel
theorem dX2_layPricedArcs_8 : decode cX2_layPricedArcs 8 = .ok (.iload_n 1, 1) := by decide +kernel
theorem dX2_layPricedArcs_9 : decode cX2_layPricedArcs 9 = .ok (.if_icmp .ge 58, 3) := by decide +kernel
theorem dX2_layPricedArcs_12 : decode cX2_layPricedArcs 12 = .ok (.iconst 0, 1) := by decide +kernel
theorem dX2_layPricedArcs_13 : decode cX2_layPricedArcs 13 = .ok (.istore 5, 2) := by decide +kernel
theorem dX2_layPricedArcs_15 : decode cX2_layPricedArcs 15 = .ok (.iload 5, 2) := by decide +kernel
theorem dX2_layPricedArcs_17 : decode cX2_layPricedArcs 17 = .ok (.iload_n 1, 1) := by decide +kernel
theorem dX2_layPricedArcs_18 : decode cX2_layPricedArcs 18 = .ok (.if_icmp .ge 43, 3) := by decide +kernel
theorem dX2_layPricedArcs_21 : decode cX2_layPricedArcs 21 = .ok (.iload 4, 2) := by decide +kernel
theorem dX2_layPricedArcs_23 : decode cX2_layPricedArcs 23 = .ok (.iload 5, 2) := by decide +kernel
theorem dX2_layPricedArcs_25 : decode cX2_layPricedArcs 25 = .ok (.if_icmp .eq 30, 3) := by decide +kernel
theorem dX2_layPricedArcs_28 : decode cX2_layPricedArcs 28 = .ok (.aload_n 0, 1) := by decide +kernel
theorem dX2_layPricedArcs_29 : decode cX2_layPricedArcs 29 = .ok (.iload 4, 2) := by decide +kernel
theorem dX2_layPricedArcs_31 : decode cX2_layPricedArcs 31 = .ok (.iload 5, 2) := by decide +kernel
theorem dX2_layPricedArcs_33 : decode cX2_layPricedArcs 33 = .ok (.invokestatic 34, 3) := by decide +kernel
theorem dX2_layPricedArcs_36 : decode cX2_layPricedArcs 36 = .ok (.aload_n 2, 1) := by decide +kernel
theorem dX2_layPricedArcs_37 : decode cX2_layPricedArcs 37 = .ok (.getfield 51, 3) := by decide +kernel
theorem dX2_layPricedArcs_40 : decode cX2_layPricedArcs 40 = .ok (.iload 4, 2) := by decide +kernel
theorem dX2_layPricedArcs_42 : decode cX2_layPricedArcs 42 = .ok (.iload 5, 2) := by decide +kernel
theorem dX2_layPricedArcs_44 : decode cX2_layPricedArcs 44 = .ok (.invokestatic 56, 3) := by decide +kernel
theorem dX2_layPricedArcs_47 : decode cX2_layPricedArcs 47 = .ok (.iaload, 1) := by decide +kernel
theorem dX2_layPricedArcs_48 : decode cX2_layPricedArcs 48 = .ok (.iload_n 3, 1) := by decide +kernel
theorem dX2_layPricedArcs_49 : decode cX2_layPricedArcs 49 = .ok (.invokevirtual 59, 3) := by decide +kernel
theorem dX2_layPricedArcs_52 : decode cX2_layPricedArcs 52 = .ok (.iinc 3 (-1), 3) := by decide +kernel
theorem dX2_layPricedArcs_55 : decode cX2_layPricedArcs 55 = .ok (.iinc 5 1, 3) := by decide +kernel
theorem dX2_layPricedArcs_58 : decode cX2_layPricedArcs 58 = .ok (.goto (-43), 3) := by decide +kernel
theorem dX2_layPricedArcs_61 : decode cX2_layPricedArcs 61 = .ok (.iinc 4 1, 3) := by decide +kernel
theorem dX2_layPricedArcs_64 : decode cX2_layPricedArcs 64 = .ok (.goto (-58), 3) := by decide +kernel
theorem dX2_layPricedArcs_67 : decode cX2_layPricedArcs 67 = .ok (.iconst 0, 1) := by decide +kernel
theorem dX2_layPricedArcs_68 : decode cX2_layPricedArcs 68 = .ok (.istore 4, 2) := by decide +kernel
theorem dX2_layPricedArcs_70 : decode cX2_layPricedArcs 70 = .ok (.iload 4, 2) := by decide +kernel
theorem dX2_layPricedArcs_72 : decode cX2_layPricedArcs 72 = .ok (.iload_n 1, 1) := by decide +kernel
theorem dX2_layPricedArcs_73 : decode cX2_layPricedArcs 73 = .ok (.if_icmp .ge 27, 3) := by decide +kernel
theorem dX2_layPricedArcs_76 : decode cX2_layPricedArcs 76 = .ok (.aload_n 0, 1) := by decide +kernel
theorem dX2_layPricedArcs_77 : decode cX2_layPricedArcs 77 = .ok (.iconst 5, 1) := by decide +kernel
theorem dX2_layPricedArcs_78 : decode cX2_layPricedArcs 78 = .ok (.iload 4, 2) := by decide +kernel
theorem dX2_layPricedArcs_80 : decode cX2_layPricedArcs 80 = .ok (.invokestatic 34, 3) := by decide +kernel
theorem dX2_layPricedArcs_83 : decode cX2_layPricedArcs 83 = .ok (.aload_n 2, 1) := by decide +kernel
theorem dX2_layPricedArcs_84 : decode cX2_layPricedArcs 84 = .ok (.getfield 63, 3) := by decide +kernel
theorem dX2_layPricedArcs_87 : decode cX2_layPricedArcs 87 = .ok (.iload_n 3, 1) := by decide +kernel
theorem dX2_layPricedArcs_88 : decode cX2_layPricedArcs 88 = .ok (.invokevirtual 59, 3) := by decide +kernel
theorem dX2_layPricedArcs_91 : decode cX2_layPricedArcs 91 = .ok (.iinc 3 (-1), 3) := by decide +kernel
theorem dX2_layPricedArcs_94 : decode cX2_layPricedArcs 94 = .ok (.iinc 4 1, 3) := by decide +kernel
theorem dX2_layPricedArcs_97 : decode cX2_layPricedArcs 97 = .ok (.goto (-27), 3) := by decide +kernel
theorem dX2_layPricedArcs_100 : decode cX2_layPricedArcs 100 = .ok (.iconst 0, 1) := by decide +kernel
theorem dX2_layPricedArcs_101 : decode cX2_layPricedArcs 101 = .ok (.istore 4, 2) := by decide +kernel
theorem dX2_layPricedArcs_103 : decode cX2_layPricedArcs 103 = .ok (.iload 4, 2) := by decide +kernel
theorem dX2_layPricedArcs_105 : decode cX2_layPricedArcs 105 = .ok (.iload_n 1, 1) := by decide +kernel
theorem dX2_layPricedArcs_106 : decode cX2_layPricedArcs 106 = .ok (.if_icmp .ge 27, 3) := by decide +kernel
theorem dX2_layPricedArcs_109 : decode cX2_layPricedArcs 109 = .ok (.aload_n 0, 1) := by decide +kernel
theorem dX2_layPricedArcs_110 : decode cX2_layPricedArcs 110 = .ok (.iload 4, 2) := by decide +kernel
theorem dX2_layPricedArcs_112 : decode cX2_layPricedArcs 112 = .ok (.iconst 5, 1) := by decide +kernel
theorem dX2_layPricedArcs_113 : decode cX2_layPricedArcs 113 = .ok (.invokestatic 34, 3) := by decide +kernel
theorem dX2_layPricedArcs_116 : decode cX2_layPricedArcs 116 = .ok (.aload_n 2, 1) := by decide +kernel
theorem dX2_layPricedArcs_117 : decode cX2_layPricedArcs 117 = .ok (.getfield 67, 3) := by decide +kernel
theorem dX2_layPricedArcs_120 : decode cX2_layPricedArcs 120 = .ok (.iload_n 3, 1) := by decide +kernel
theorem dX2_layPricedArcs_121 : decode cX2_layPricedArcs 121 = .ok (.invokevirtual 59, 3) := by decide +kernel
theorem dX2_layPricedArcs_124 : decode cX2_layPricedArcs 124 = .ok (.iinc 3 (-1), 3) := by decide +kernel
theorem dX2_layPricedArcs_127 : decode cX2_layPricedArcs 127 = .ok (.iinc 4 1, 3) := by decide +kernel
theorem dX2_layPricedArcs_130 : decode cX2_layPricedArcs 130 = .ok (.goto (-27), 3) := by decide +kernel
theorem dX2_layPricedArcs_133 : decode cX2_layPricedArcs 133 = .ok (.return_, 1) := by decide +kernel
theorem dX2_layPriced_0 : decode cX2_layPriced 0 = .ok (.aload_n 0, 1) := by decide +kernel
theorem dX2_layPriced_1 : decode cX2_layPriced 1 = .ok (.getfield 18, 3) := by decide +kernel
theorem dX2_layPriced_4 : decode cX2_layPriced 4 = .ok (.iload_n 1, 1) := by decide +kernel
theorem dX2_layPriced_5 : decode cX2_layPriced 5 = .ok (.ldc 70, 2) := by decide +kernel
theorem dX2_layPriced_7 : decode cX2_layPriced 7 = .ok (.iastore, 1) := by decide +kernel
theorem dX2_layPriced_8 : decode cX2_layPriced 8 = .ok (.aload_n 0, 1) := by decide +kernel
theorem dX2_layPriced_9 : decode cX2_layPriced 9 = .ok (.getfield 21, 3) := by decide +kernel
theorem dX2_layPriced_12 : decode cX2_layPriced 12 = .ok (.iload_n 1, 1) := by decide +kernel
theorem dX2_layPriced_13 : decode cX2_layPriced 13 = .ok (.iload_n 2, 1) := by decide +kernel
theorem dX2_layPriced_14 : decode cX2_layPriced 14 = .ok (.i2l, 1) := by decide +kernel
theorem dX2_layPriced_15 : decode cX2_layPriced 15 = .ok (.bipush 30, 2) := by decide +kernel
theorem dX2_layPriced_17 : decode cX2_layPriced 17 = .ok (.lshl, 1) := by decide +kernel
theorem dX2_layPriced_18 : decode cX2_layPriced 18 = .ok (.lconst 1, 1) := by decide +kernel
theorem dX2_layPriced_19 : decode cX2_layPriced 19 = .ok (.iload_n 3, 1) := by decide +kernel
theorem dX2_layPriced_20 : decode cX2_layPriced 20 = .ok (.lshl, 1) := by decide +kernel
theorem dX2_layPriced_21 : decode cX2_layPriced 21 = .ok (.ladd, 1) := by decide +kernel
theorem dX2_layPriced_22 : decode cX2_layPriced 22 = .ok (.lastore, 1) := by decide +kernel
theorem dX2_layPriced_23 : decode cX2_layPriced 23 = .ok (.return_, 1) := by decide +kernel
theorem dX2_narrow_0 : decode cX2_narrow 0 = .ok (.iload_n 1, 1) := by decide +kernel
theorem dX2_narrow_1 : decode cX2_narrow 1 = .ok (.iload_n 2, 1) := by decide +kernel
theorem dX2_narrow_2 : decode cX2_narrow 2 = .ok (.invokestatic 34, 3) := by decide +kernel
theorem dX2_narrow_5 : decode cX2_narrow 5 = .ok (.istore 5, 2) := by decide +kernel
theorem dX2_narrow_7 : decode cX2_narrow 7 = .ok (.aload_n 0, 1) := by decide +kernel
theorem dX2_narrow_8 : decode cX2_narrow 8 = .ok (.getfield 15, 3) := by decide +kernel
theorem dX2_narrow_11 : decode cX2_narrow 11 = .ok (.iload 5, 2) := by decide +kernel
theorem dX2_narrow_13 : decode cX2_narrow 13 = .ok (.aload_n 0, 1) := by decide +kernel
theorem dX2_narrow_14 : decode cX2_narrow 14 = .ok (.getfield 15, 3) := by decide +kernel
theorem dX2_narrow_17 : decode cX2_narrow 17 = .ok (.iload 5, 2) := by decide +kernel
theorem dX2_narrow_19 : decode cX2_narrow 19 = .ok (.iaload, 1) := by decide +kernel
theorem dX2_narrow_20 : decode cX2_narrow 20 = .ok (.iload_n 3, 1) := by decide +kernel
theorem dX2_narrow_21 : decode cX2_narrow 21 = .ok (.invokestatic 71, 3) := by decide +kernel
theorem dX2_narrow_24 : decode cX2_narrow 24 = .ok (.iastore, 1) := by decide +kernel
theorem dX2_narrow_25 : decode cX2_narrow 25 = .ok (.aload_n 0, 1) := by decide +kernel
theorem dX2_narrow_26 : decode cX2_narrow 26 = .ok (.getfield 18, 3) := by decide +kernel
theorem dX2_narrow_29 : decode cX2_narrow 29 = .ok (.iload 5, 2) := by decide +kernel
theorem dX2_narrow_31 : decode cX2_narrow 31 = .ok (.aload_n 0, 1) := by decide +kernel
theorem dX2_narrow_32 : decode cX2_narrow 32 = .ok (.getfield 18, 3) := by decide +kernel
theorem dX2_narrow_35 : decode cX2_narrow 35 = .ok (.iload 5, 2) := by decide +kernel
theorem dX2_narrow_37 : decode cX2_narrow 37 = .ok (.iaload, 1) := by decide +kernel
theorem dX2_narrow_38 : decode cX2_narrow 38 = .ok (.iload 4, 2) := by decide +kernel
theorem dX2_narrow_40 : decode cX2_narrow 40 = .ok (.invokestatic 76, 3) := by decide +kernel
theorem dX2_narrow_43 : decode cX2_narrow 43 = .ok (.iastore, 1) := by decide +kernel
theorem dX2_narrow_44 : decode cX2_narrow 44 = .ok (.return_, 1) := by decide +kernel
theorem dX2_canBalance_0 : decode cX2_canBalance 0 = .ok (.iconst 0, 1) := by decide +kernel
theorem dX2_canBalance_1 : decode cX2_canBalance 1 = .ok (.istore_n 1, 1) := by decide +kernel
theorem dX2_canBalance_2 : decode cX2_canBalance 2 = .ok (.iconst 0, 1) := by decide +kernel
theorem dX2_canBalance_3 : decode cX2_canBalance 3 = .ok (.istore_n 2, 1) := by decide +kernel
theorem dX2_canBalance_4 : decode cX2_canBalance 4 = .ok (.iconst 0, 1) := by decide +kernel
theorem dX2_canBalance_5 : decode cX2_canBalance 5 = .ok (.istore_n 3, 1) := by decide +kernel
theorem dX2_canBalance_6 : decode cX2_canBalance 6 = .ok (.iload_n 3, 1) := by decide +kernel
theorem dX2_canBalance_7 : decode cX2_canBalance 7 = .ok (.iconst 5, 1) := by decide +kernel
theorem dX2_canBalance_8 : decode cX2_canBalance 8 = .ok (.if_icmp .ge 64, 3) := by decide +kernel
theorem dX2_canBalance_11 : decode cX2_canBalance 11 = .ok (.aload_n 0, 1) := by decide +kernel
theorem dX2_canBalance_12 : decode cX2_canBalance 12 = .ok (.getfield 15, 3) := by decide +kernel
theorem dX2_canBalance_15 : decode cX2_canBalance 15 = .ok (.iload_n 3, 1) := by decide +kernel
theorem dX2_canBalance_16 : decode cX2_canBalance 16 = .ok (.bipush 6, 2) := by decide +kernel
theorem dX2_canBalance_18 : decode cX2_canBalance 18 = .ok (.invokestatic 34, 3) := by decide +kernel
theorem dX2_canBalance_21 : decode cX2_canBalance 21 = .ok (.iaload, 1) := by decide +kernel
theorem dX2_canBalance_22 : decode cX2_canBalance 22 = .ok (.aload_n 0, 1) := by decide +kernel
theorem dX2_canBalance_23 : decode cX2_canBalance 23 = .ok (.getfield 18, 3) := by decide +kernel
theorem dX2_canBalance_26 : decode cX2_canBalance 26 = .ok (.iload_n 3, 1) := by decide +kernel
theorem dX2_canBalance_27 : decode cX2_canBalance 27 = .ok (.bipush 6, 2) := by decide +kernel
theorem dX2_canBalance_29 : decode cX2_canBalance 29 = .ok (.invokestatic 34, 3) := by decide +kernel
theorem dX2_canBalance_32 : decode cX2_canBalance 32 = .ok (.iaload, 1) := by decide +kernel
theorem dX2_canBalance_33 : decode cX2_canBalance 33 = .ok (.if_icmp .le 5, 3) := by decide +kernel
theorem dX2_canBalance_36 : decode cX2_canBalance 36 = .ok (.iconst 0, 1) := by decide +kernel
theorem dX2_canBalance_37 : decode cX2_canBalance 37 = .ok (.ireturn, 1) := by decide +kernel
theorem dX2_canBalance_38 : decode cX2_canBalance 38 = .ok (.iload_n 1, 1) := by decide +kernel
theorem dX2_canBalance_39 : decode cX2_canBalance 39 = .ok (.aload_n 0, 1) := by decide +kernel
theorem dX2_canBalance_40 : decode cX2_canBalance 40 = .ok (.getfield 15, 3) := by decide +kernel
theorem dX2_canBalance_43 : decode cX2_canBalance 43 = .ok (.iload_n 3, 1) := by decide +kernel
theorem dX2_canBalance_44 : decode cX2_canBalance 44 = .ok (.bipush 6, 2) := by decide +kernel
theorem dX2_canBalance_46 : decode cX2_canBalance 46 = .ok (.invokestatic 34, 3) := by decide +kernel
theorem dX2_canBalance_49 : decode cX2_canBalance 49 = .ok (.iaload, 1) := by decide +kernel
theorem dX2_canBalance_50 : decode cX2_canBalance 50 = .ok (.iadd, 1) := by decide +kernel
theorem dX2_canBalance_51 : decode cX2_canBalance 51 = .ok (.istore_n 1, 1) := by decide +kernel
theorem dX2_canBalance_52 : decode cX2_canBalance 52 = .ok (.iload_n 2, 1) := by decide +kernel
theorem dX2_canBalance_53 : decode cX2_canBalance 53 = .ok (.aload_n 0, 1) := by decide +kernel
theorem dX2_canBalance_54 : decode cX2_canBalance 54 = .ok (.getfield 18, 3) := by decide +kernel
theorem dX2_canBalance_57 : decode cX2_canBalance 57 = .ok (.iload_n 3, 1) := by decide +kernel
theorem dX2_canBalance_58 : decode cX2_canBalance 58 = .ok (.bipush 6, 2) := by decide +kernel
theorem dX2_canBalance_60 : decode cX2_canBalance 60 = .ok (.invokestatic 34, 3) := by decide +kernel
theorem dX2_canBalance_63 : decode cX2_canBalance 63 = .ok (.iaload, 1) := by decide +kernel
theorem dX2_canBalance_64 : decode cX2_canBalance 64 = .ok (.iadd, 1) := by decide +kernel
theorem dX2_canBalance_65 : decode cX2_canBalance 65 = .ok (.istore_n 2, 1) := by decide +kernel
theorem dX2_canBalance_66 : decode cX2_canBalance 66 = .ok (.iinc 3 1, 3) := by decide +kernel
theorem dX2_canBalance_69 : decode cX2_canBalance 69 = .ok (.goto (-63), 3) := by decide +kernel
theorem dX2_canBalance_72 : decode cX2_canBalance 72 = .ok (.bipush 6, 2) := by decide +kernel
theorem dX2_canBalance_74 : decode cX2_canBalance 74 = .ok (.iconst 5, 1) := by decide +kernel
theorem dX2_canBalance_75 : decode cX2_canBalance 75 = .ok (.invokestatic 34, 3) := by decide +kernel
theorem dX2_canBalance_78 : decode cX2_canBalance 78 = .ok (.istore_n 3, 1) := by decide +kernel
theorem dX2_canBalance_79 : decode cX2_canBalance 79 = .ok (.aload_n 0, 1) := by decide +kernel
theorem dX2_canBalance_80 : decode cX2_canBalance 80 = .ok (.getfield 15, 3) := by decide +kernel
theorem dX2_canBalance_83 : decode cX2_canBalance 83 = .ok (.iload_n 3, 1) := by decide +kernel
theorem dX2_canBalance_84 : decode cX2_canBalance 84 = .ok (.iaload, 1) := by decide +kernel
theorem dX2_canBalance_85 : decode cX2_canBalance 85 = .ok (.aload_n 0, 1) := by decide +kernel
theorem dX2_canBalance_86 : decode cX2_canBalance 86 = .ok (.getfield 18, 3) := by decide +kernel
theorem dX2_canBalance_89 : decode cX2_canBalance 89 = .ok (.iload_n 3, 1) := by decide +kernel
theorem dX2_canBalance_90 : decode cX2_canBalance 90 = .ok (.iaload, 1) := by decide +kernel
theorem dX2_canBalance_91 : decode cX2_canBalance 91 = .ok (.if_icmp .gt 27, 3) := by decide +kernel
theorem dX2_canBalance_94 : decode cX2_canBalance 94 = .ok (.iload_n 1, 1) := by decide +kernel
theorem dX2_canBalance_95 : decode cX2_canBalance 95 = .ok (.aload_n 0, 1) := by decide +kernel
theorem dX2_canBalance_96 : decode cX2_canBalance 96 = .ok (.getfield 18, 3) := by decide +kernel
theorem dX2_canBalance_99 : decode cX2_canBalance 99 = .ok (.iload_n 3, 1) := by decide +kernel
theorem dX2_canBalance_100 : decode cX2_canBalance 100 = .ok (.iaload, 1) := by decide +kernel
theorem dX2_canBalance_101 : decode cX2_canBalance 101 = .ok (.if_icmp .gt 17, 3) := by decide +kernel
theorem dX2_canBalance_104 : decode cX2_canBalance 104 = .ok (.iload_n 2, 1) := by decide +kernel
theorem dX2_canBalance_105 : decode cX2_canBalance 105 = .ok (.aload_n 0, 1) := by decide +kernel
theorem dX2_canBalance_106 : decode cX2_canBalance 106 = .ok (.getfield 15, 3) := by decide +kernel
theorem dX2_canBalance_109 : decode cX2_canBalance 109 = .ok (.iload_n 3, 1) := by decide +kernel
theorem dX2_canBalance_110 : decode cX2_canBalance 110 = .ok (.iaload, 1) := by decide +kernel
theorem dX2_canBalance_111 : decode cX2_canBalance 111 = .ok (.if_icmp .lt 7, 3) := by decide +kernel
theorem dX2_canBalance_114 : decode cX2_canBalance 114 = .ok (.iconst 1, 1) := by decide +kernel
theorem dX2_canBalance_115 : decode cX2_canBalance 115 = .ok (.goto 4, 3) := by decide +kernel
theorem dX2_canBalance_118 : decode cX2_canBalance 118 = .ok (.iconst 0, 1) := by decide +kernel
theorem dX2_canBalance_119 : decode cX2_canBalance 119 = .ok (.ireturn, 1) := by decide +kernel
theorem dX2_load_0 : decode cX2_load 0 = .ok (.iconst 0, 1) := by decide +kernel
theorem dX2_load_1 : decode cX2_load 1 = .ok (.istore_n 3, 1) := by decide +kernel
theorem dX2_load_2 : decode cX2_load 2 = .ok (.iconst 0, 1) := by decide +kernel
theorem dX2_load_3 : decode cX2_load 3 = .ok (.istore 4, 2) := by decide +kernel
theorem dX2_load_5 : decode cX2_load 5 = .ok (.iconst 0, 1) := by decide +kernel
theorem dX2_load_6 : decode cX2_load 6 = .ok (.istore 5, 2) := by decide +kernel
theorem dX2_load_8 : decode cX2_load 8 = .ok (.iload 5, 2) := by decide +kernel
theorem dX2_load_10 : decode cX2_load 10 = .ok (.aload_n 1, 1) := by decide +kernel
theorem dX2_load_11 : decode cX2_load 11 = .ok (.getfield 79, 3) := by decide +kernel
theorem dX2_load_14 : decode cX2_load 14 = .ok (.if_icmp .ge 61, 3) := by decide +kernel
theorem dX2_load_17 : decode cX2_load 17 = .ok (.aload_n 1, 1) := by decide +kernel
theorem dX2_load_18 : decode cX2_load 18 = .ok (.getfield 84, 3) := by decide +kernel
theorem dX2_load_21 : decode cX2_load 21 = .ok (.iload 5, 2) := by decide +kernel
theorem dX2_load_23 : decode cX2_load 23 = .ok (.iload_n 2, 1) := by decide +kernel
theorem dX2_load_24 : decode cX2_load 24 = .ok (.invokestatic 87, 3) := by decide +kernel
theorem dX2_load_27 : decode cX2_load 27 = .ok (.iaload, 1) := by decide +kernel
theorem dX2_load_28 : decode cX2_load 28 = .ok (.istore 6, 2) := by decide +kernel
theorem dX2_load_30 : decode cX2_load 30 = .ok (.aload_n 0, 1) := by decide +kernel
theorem dX2_load_31 : decode cX2_load 31 = .ok (.iload 5, 2) := by decide +kernel
theorem dX2_load_33 : decode cX2_load 33 = .ok (.bipush 6, 2) := by decide +kernel
theorem dX2_load_35 : decode cX2_load 35 = .ok (.invokestatic 34, 3) := by decide +kernel
theorem dX2_load_38 : decode cX2_load 38 = .ok (.iload 6, 2) := by decide +kernel
theorem dX2_load_40 : decode cX2_load 40 = .ok (.invokevirtual 90, 3) := by decide +kernel
theorem dX2_load_43 : decode cX2_load 43 = .ok (.istore 7, 2) := by decide +kernel
theorem dX2_load_45 : decode cX2_load 45 = .ok (.aload_n 0, 1) := by decide +kernel
theorem dX2_load_46 : decode cX2_load 46 = .ok (.getfield 25, 3) := by decide +kernel
theorem dX2_load_49 : decode cX2_load 49 = .ok (.iload 5, 2) := by decide +kernel
theorem dX2_load_51 : decode cX2_load 51 = .ok (.iload 6, 2) := by decide +kernel
theorem dX2_load_53 : decode cX2_load 53 = .ok (.iload 7, 2) := by decide +kernel
theorem dX2_load_55 : decode cX2_load 55 = .ok (.isub, 1) := by decide +kernel
theorem dX2_load_56 : decode cX2_load 56 = .ok (.iastore, 1) := by decide +kernel
theorem dX2_load_57 : decode cX2_load 57 = .ok (.iload_n 3, 1) := by decide +kernel
theorem dX2_load_58 : decode cX2_load 58 = .ok (.iload 7, 2) := by decide +kernel
theorem dX2_load_60 : decode cX2_load 60 = .ok (.iadd, 1) := by decide +kernel
theorem dX2_load_61 : decode cX2_load 61 = .ok (.istore_n 3, 1) := by decide +kernel
theorem dX2_load_62 : decode cX2_load 62 = .ok (.iload 4, 2) := by decide +kernel
theorem dX2_load_64 : decode cX2_load 64 = .ok (.iload 6, 2) := by decide +kernel
theorem dX2_load_66 : decode cX2_load 66 = .ok (.iadd, 1) := by decide +kernel
theorem dX2_load_67 : decode cX2_load 67 = .ok (.istore 4, 2) := by decide +kernel
theorem dX2_load_69 : decode cX2_load 69 = .ok (.iinc 5 1, 3) := by decide +kernel
theorem dX2_load_72 : decode cX2_load 72 = .ok (.goto (-64), 3) := by decide +kernel
theorem dX2_load_75 : decode cX2_load 75 = .ok (.aload_n 0, 1) := by decide +kernel
theorem dX2_load_76 : decode cX2_load 76 = .ok (.bipush 6, 2) := by decide +kernel
theorem dX2_load_78 : decode cX2_load 78 = .ok (.iconst 5, 1) := by decide +kernel
theorem dX2_load_79 : decode cX2_load 79 = .ok (.invokestatic 34, 3) := by decide +kernel
theorem dX2_load_82 : decode cX2_load 82 = .ok (.iload_n 3, 1) := by decide +kernel
theorem dX2_load_83 : decode cX2_load 83 = .ok (.invokevirtual 90, 3) := by decide +kernel
theorem dX2_load_86 : decode cX2_load 86 = .ok (.istore 5, 2) := by decide +kernel
theorem dX2_load_88 : decode cX2_load 88 = .ok (.aload_n 0, 1) := by decide +kernel
theorem dX2_load_89 : decode cX2_load 89 = .ok (.getfield 25, 3) := by decide +kernel
theorem dX2_load_92 : decode cX2_load 92 = .ok (.bipush 6, 2) := by decide +kernel
theorem dX2_load_94 : decode cX2_load 94 = .ok (.iload_n 3, 1) := by decide +kernel
theorem dX2_load_95 : decode cX2_load 95 = .ok (.iload 5, 2) := by decide +kernel
theorem dX2_load_97 : decode cX2_load 97 = .ok (.isub, 1) := by decide +kernel
theorem dX2_load_98 : decode cX2_load 98 = .ok (.iastore, 1) := by decide +kernel
theorem dX2_load_99 : decode cX2_load 99 = .ok (.aload_n 0, 1) := by decide +kernel
theorem dX2_load_100 : decode cX2_load 100 = .ok (.getfield 25, 3) := by decide +kernel
theorem dX2_load_103 : decode cX2_load 103 = .ok (.iconst 5, 1) := by decide +kernel
theorem dX2_load_104 : decode cX2_load 104 = .ok (.iload 5, 2) := by decide +kernel
theorem dX2_load_106 : decode cX2_load 106 = .ok (.iload 4, 2) := by decide +kernel
theorem dX2_load_108 : decode cX2_load 108 = .ok (.isub, 1) := by decide +kernel
theorem dX2_load_109 : decode cX2_load 109 = .ok (.iastore, 1) := by decide +kernel
theorem dX2_load_110 : decode cX2_load 110 = .ok (.return_, 1) := by decide +kernel
theorem dX2_fit_0 : decode cX2_fit 0 = .ok (.aload_n 0, 1) := by decide +kernel
theorem dX2_fit_1 : decode cX2_fit 1 = .ok (.getfield 11, 3) := by decide +kernel
theorem dX2_fit_4 : decode cX2_fit 4 = .ok (.iload_n 1, 1) := by decide +kernel
theorem dX2_fit_5 : decode cX2_fit 5 = .ok (.aload_n 0, 1) := by decide +kernel
theorem dX2_fit_6 : decode cX2_fit 6 = .ok (.getfield 15, 3) := by decide +kernel
theorem dX2_fit_9 : decode cX2_fit 9 = .ok (.iload_n 1, 1) := by decide +kernel
theorem dX2_fit_10 : decode cX2_fit 10 = .ok (.iaload, 1) := by decide +kernel
theorem dX2_fit_11 : decode cX2_fit 11 = .ok (.aload_n 0, 1) := by decide +kernel
theorem dX2_fit_12 : decode cX2_fit 12 = .ok (.getfield 18, 3) := by decide +kernel
theorem dX2_fit_15 : decode cX2_fit 15 = .ok (.iload_n 1, 1) := by decide +kernel
theorem dX2_fit_16 : decode cX2_fit 16 = .ok (.iaload, 1) := by decide +kernel
theorem dX2_fit_17 : decode cX2_fit 17 = .ok (.iload_n 2, 1) := by decide +kernel
theorem dX2_fit_18 : decode cX2_fit 18 = .ok (.invokestatic 76, 3) := by decide +kernel
theorem dX2_fit_21 : decode cX2_fit 21 = .ok (.invokestatic 71, 3) := by decide +kernel
theorem dX2_fit_24 : decode cX2_fit 24 = .ok (.iastore, 1) := by decide +kernel
theorem dX2_fit_25 : decode cX2_fit 25 = .ok (.aload_n 0, 1) := by decide +kernel
theorem dX2_fit_26 : decode cX2_fit 26 = .ok (.getfield 11, 3) := by decide +kernel
theorem dX2_fit_29 : decode cX2_fit 29 = .ok (.iload_n 1, 1) := by decide +kernel
theorem dX2_fit_30 : decode cX2_fit 30 = .ok (.iaload, 1) := by decide +kernel
theorem dX2_fit_31 : decode cX2_fit 31 = .ok (.ireturn, 1) := by decide +kernel
theorem dX2_balance_0 : decode cX2_balance 0 = .ok (.iconst 1, 1) := by decide +kernel
theorem dX2_balance_1 : decode cX2_balance 1 = .ok (.istore_n 1, 1) := by decide +kernel
theorem dX2_balance_2 : decode cX2_balance 2 = .ok (.iconst 0, 1) := by decide +kernel
theorem dX2_balance_3 : decode cX2_balance 3 = .ok (.istore_n 2, 1) := by decide +kernel
theorem dX2_balance_4 : decode cX2_balance 4 = .ok (.iload_n 2, 1) := by decide +kernel
theorem dX2_balance_5 : decode cX2_balance 5 = .ok (.ldc 70, 2) := by decide +kernel
theorem dX2_balance_7 : decode cX2_balance 7 = .ok (.if_icmp .ge 41, 3) := by decide +kernel
theorem dX2_balance_10 : decode cX2_balance 10 = .ok (.iload_n 1, 1) := by decide +kernel
theorem dX2_balance_11 : decode cX2_balance 11 = .ok (.ifCond .eq 37, 3) := by decide +kernel
theorem dX2_balance_14 : decode cX2_balance 14 = .ok (.aload_n 0, 1) := by decide +kernel
theorem dX2_balance_15 : decode cX2_balance 15 = .ok (.invokevirtual 93, 3) := by decide +kernel
theorem dX2_balance_18 : decode cX2_balance 18 = .ok (.aload_n 0, 1) := by decide +kernel
theorem dX2_balance_19 : decode cX2_balance 19 = .ok (.invokevirtual 96, 3) := by decide +kernel
theorem dX2_balance_22 : decode cX2_balance 22 = .ok (.istore_n 3, 1) := by decide +kernel
theorem dX2_balance_23 : decode cX2_balance 23 = .ok (.iload_n 3, 1) := by decide +kernel
theorem dX2_balance_24 : decode cX2_balance 24 = .ok (.iconst (-1), 1) := by decide +kernel
theorem dX2_balance_25 : decode cX2_balance 25 = .ok (.if_icmp .eq 15, 3) := by decide +kernel
theorem dX2_balance_28 : decode cX2_balance 28 = .ok (.aload_n 0, 1) := by decide +kernel
theorem dX2_balance_29 : decode cX2_balance 29 = .ok (.iload_n 3, 1) := by decide +kernel
theorem dX2_balance_30 : decode cX2_balance 30 = .ok (.invokevirtual 100, 3) := by decide +kernel
theorem dX2_balance_33 : decode cX2_balance 33 = .ok (.ifCond .eq 7, 3) := by decide +kernel
theorem dX2_balance_36 : decode cX2_balance 36 = .ok (.iconst 1, 1) := by decide +kernel
theorem dX2_balance_37 : decode cX2_balance 37 = .ok (.goto 4, 3) := by decide +kernel
theorem dX2_balance_40 : decode cX2_balance 40 = .ok (.iconst 0, 1) := by decide +kernel
theorem dX2_balance_41 : decode cX2_balance 41 = .ok (.istore_n 1, 1) := by decide +kernel
theorem dX2_balance_42 : decode cX2_balance 42 = .ok (.iinc 2 1, 3) := by decide +kernel
theorem dX2_balance_45 : decode cX2_balance 45 = .ok (.goto (-41), 3) := by decide +kernel
theorem dX2_balance_48 : decode cX2_balance 48 = .ok (.return_, 1) := by decide +kernel
theorem dX2_findWays_0 : decode cX2_findWays 0 = .ok (.iconst 0, 1) := by decide +kernel
theorem dX2_findWays_1 : decode cX2_findWays 1 = .ok (.istore_n 1, 1) := by decide +kernel
theorem dX2_findWays_2 : decode cX2_findWays 2 = .ok (.iload_n 1, 1) := by decide +kernel
theorem dX2_findWays_3 : decode cX2_findWays 3 = .ok (.bipush 7, 2) := by decide +kernel
theorem dX2_findWays_5 : decode cX2_findWays 5 = .ok (.if_icmp .ge 38, 3) := by decide +kernel
theorem dX2_findWays_8 : decode cX2_findWays 8 = .ok (.aload_n 0, 1) := by decide +kernel
theorem dX2_findWays_9 : decode cX2_findWays 9 = .ok (.getfield 28, 3) := by decide +kernel
theorem dX2_findWays_12 : decode cX2_findWays 12 = .ok (.iload_n 1, 1) := by decide +kernel
theorem dX2_findWays_13 : decode cX2_findWays 13 = .ok (.aload_n 0, 1) := by decide +kernel
theorem dX2_findWays_14 : decode cX2_findWays 14 = .ok (.getfield 25, 3) := by decide +kernel
theorem dX2_findWays_17 : decode cX2_findWays 17 = .ok (.iload_n 1, 1) := by decide +kernel
theorem dX2_findWays_18 : decode cX2_findWays 18 = .ok (.iaload, 1) := by decide +kernel
theorem dX2_findWays_19 : decode cX2_findWays 19 = .ok (.ifCond .le 7, 3) := by decide +kernel
theorem dX2_findWays_22 : decode cX2_findWays 22 = .ok (.lconst 0, 1) := by decide +kernel
theorem dX2_findWays_23 : decode cX2_findWays 23 = .ok (.goto 6, 3) := by decide +kernel
theorem dX2_findWays_26 : decode cX2_findWays 26 = .ok (.ldc2_w 104, 3) := by decide +kernel
theorem dX2_findWays_29 : decode cX2_findWays 29 = .ok (.lastore, 1) := by decide +kernel
theorem dX2_findWays_30 : decode cX2_findWays 30 = .ok (.aload_n 0, 1) := by decide +kernel
theorem dX2_findWays_31 : decode cX2_findWays 31 = .ok (.getfield 31, 3) := by decide +kernel
theorem dX2_findWays_34 : decode cX2_findWays 34 = .ok (.iload_n 1, 1) := by decide +kernel
theorem dX2_findWays_35 : decode cX2_findWays 35 = .ok (.iconst (-1), 1) := by decide +kernel
theorem dX2_findWays_36 : decode cX2_findWays 36 = .ok (.iastore, 1) := by decide +kernel
theorem dX2_findWays_37 : decode cX2_findWays 37 = .ok (.iinc 1 1, 3) := by decide +kernel
theorem dX2_findWays_40 : decode cX2_findWays 40 = .ok (.goto (-38), 3) := by decide +kernel
theorem dX2_findWays_43 : decode cX2_findWays 43 = .ok (.iconst 1, 1) := by decide +kernel
theorem dX2_findWays_44 : decode cX2_findWays 44 = .ok (.istore_n 1, 1) := by decide +kernel
theorem dX2_findWays_45 : decode cX2_findWays 45 = .ok (.iconst 0, 1) := by decide +kernel
theorem dX2_findWays_46 : decode cX2_findWays 46 = .ok (.istore_n 2, 1) := by decide +kernel
theorem dX2_findWays_47 : decode cX2_findWays 47 = .ok (.iload_n 2, 1) := by decide +kernel
theorem dX2_findWays_48 : decode cX2_findWays 48 = .ok (.bipush 7, 2) := by decide +kernel
theorem dX2_findWays_50 : decode cX2_findWays 50 = .ok (.if_icmp .ge 52, 3) := by decide +kernel
theorem dX2_findWays_53 : decode cX2_findWays 53 = .ok (.iload_n 1, 1) := by decide +kernel
theorem dX2_findWays_54 : decode cX2_findWays 54 = .ok (.ifCond .eq 48, 3) := by decide +kernel
theorem dX2_findWays_57 : decode cX2_findWays 57 = .ok (.iconst 0, 1) := by decide +kernel
theorem dX2_findWays_58 : decode cX2_findWays 58 = .ok (.istore_n 1, 1) := by decide +kernel
theorem dX2_findWays_59 : decode cX2_findWays 59 = .ok (.iconst 0, 1) := by decide +kernel
theorem dX2_findWays_60 : decode cX2_findWays 60 = .ok (.istore_n 3, 1) := by decide +kernel
theorem dX2_findWays_61 : decode cX2_findWays 61 = .ok (.iload_n 3, 1) := by decide +kernel
theorem dX2_findWays_62 : decode cX2_findWays 62 = .ok (.bipush 7, 2) := by decide +kernel
theorem dX2_findWays_64 : decode cX2_findWays 64 = .ok (.if_icmp .ge 32, 3) := by decide +kernel
theorem dX2_findWays_67 : decode cX2_findWays 67 = .ok (.aload_n 0, 1) := by decide +kernel
theorem dX2_findWays_68 : decode cX2_findWays 68 = .ok (.getfield 28, 3) := by decide +kernel
theorem dX2_findWays_71 : decode cX2_findWays 71 = .ok (.iload_n 3, 1) := by decide +kernel
theorem dX2_findWays_72 : decode cX2_findWays 72 = .ok (.laload, 1) := by decide +kernel
theorem dX2_findWays_73 : decode cX2_findWays 73 = .ok (.ldc2_w 104, 3) := by decide +kernel
theorem dX2_findWays_76 : decode cX2_findWays 76 = .ok (.lcmp, 1) := by decide +kernel
theorem dX2_findWays_77 : decode cX2_findWays 77 = .ok (.ifCond .ge 13, 3) := by decide +kernel
theorem dX2_findWays_80 : decode cX2_findWays 80 = .ok (.aload_n 0, 1) := by decide +kernel
theorem dX2_findWays_81 : decode cX2_findWays 81 = .ok (.iload_n 3, 1) := by decide +kernel
theorem dX2_findWays_82 : decode cX2_findWays 82 = .ok (.invokevirtual 106, 3) := by decide +kernel
theorem dX2_findWays_85 : decode cX2_findWays 85 = .ok (.ifCond .eq 5, 3) := by decide +kernel
theorem dX2_findWays_88 : decode cX2_findWays 88 = .ok (.iconst 1, 1) := by decide +kernel
theorem dX2_findWays_89 : decode cX2_findWays 89 = .ok (.istore_n 1, 1) := by decide +kernel
theorem dX2_findWays_90 : decode cX2_findWays 90 = .ok (.iinc 3 1, 3) := by decide +kernel
theorem dX2_findWays_93 : decode cX2_findWays 93 = .ok (.goto (-32), 3) := by decide +kernel
theorem dX2_findWays_96 : decode cX2_findWays 96 = .ok (.iinc 2 1, 3) := by decide +kernel
theorem dX2_findWays_99 : decode cX2_findWays 99 = .ok (.goto (-52), 3) := by decide +kernel
theorem dX2_findWays_102 : decode cX2_findWays 102 = .ok (.return_, 1) := by decide +kernel
theorem dX2_shortenFrom_0 : decode cX2_shortenFrom 0 = .ok (.iconst 0, 1) := by decide +kernel
theorem dX2_shortenFrom_1 : decode cX2_shortenFrom 1 = .ok (.istore_n 2, 1) := by decide +kernel
theorem dX2_shortenFrom_2 : decode cX2_shortenFrom 2 = .ok (.iconst 0, 1) := by decide +kernel
theorem dX2_shortenFrom_3 : decode cX2_shortenFrom 3 = .ok (.istore_n 3, 1) := by decide +kernel
theorem dX2_shortenFrom_4 : decode cX2_shortenFrom 4 = .ok (.iload_n 3, 1) := by decide +kernel
theorem dX2_shortenFrom_5 : decode cX2_shortenFrom 5 = .ok (.bipush 7, 2) := by decide +kernel
theorem dX2_shortenFrom_7 : decode cX2_shortenFrom 7 = .ok (.if_icmp .ge 74, 3) := by decide +kernel
theorem dX2_shortenFrom_10 : decode cX2_shortenFrom 10 = .ok (.iload_n 3, 1) := by decide +kernel
theorem dX2_shortenFrom_11 : decode cX2_shortenFrom 11 = .ok (.iload_n 1, 1) := by decide +kernel
theorem dX2_shortenFrom_12 : decode cX2_shortenFrom 12 = .ok (.if_icmp .eq 63, 3) := by decide +kernel
theorem dX2_shortenFrom_15 : decode cX2_shortenFrom 15 = .ok (.aload_n 0, 1) := by decide +kernel
theorem dX2_shortenFrom_16 : decode cX2_shortenFrom 16 = .ok (.iload_n 1, 1) := by decide +kernel
theorem dX2_shortenFrom_17 : decode cX2_shortenFrom 17 = .ok (.iload_n 3, 1) := by decide +kernel
theorem dX2_shortenFrom_18 : decode cX2_shortenFrom 18 = .ok (.invokevirtual 109, 3) := by decide +kernel
theorem dX2_shortenFrom_21 : decode cX2_shortenFrom 21 = .ok (.ifCond .le 54, 3) := by decide +kernel
theorem dX2_shortenFrom_24 : decode cX2_shortenFrom 24 = .ok (.aload_n 0, 1) := by decide +kernel
theorem dX2_shortenFrom_25 : decode cX2_shortenFrom 25 = .ok (.getfield 28, 3) := by decide +kernel
theorem dX2_shortenFrom_28 : decode cX2_shortenFrom 28 = .ok (.iload_n 1, 1) := by decide +kernel
theorem dX2_shortenFrom_29 : decode cX2_shortenFrom 29 = .ok (.laload, 1) := by decide +kernel
theorem dX2_shortenFrom_30 : decode cX2_shortenFrom 30 = .ok (.aload_n 0, 1) := by decide +kernel
theorem dX2_shortenFrom_31 : decode cX2_shortenFrom 31 = .ok (.iload_n 1, 1) := by decide +kernel
theorem dX2_shortenFrom_32 : decode cX2_shortenFrom 32 = .ok (.iload_n 3, 1) := by decide +kernel
theorem dX2_shortenFrom_33 : decode cX2_shortenFrom 33 = .ok (.invokevirtual 112, 3) := by decide +kernel
theorem dX2_shortenFrom_36 : decode cX2_shortenFrom 36 = .ok (.ladd, 1) := by decide +kernel
theorem dX2_shortenFrom_37 : decode cX2_shortenFrom 37 = .ok (.aload_n 0, 1) := by decide +kernel
theorem dX2_shortenFrom_38 : decode cX2_shortenFrom 38 = .ok (.getfield 28, 3) := by decide +kernel
theorem dX2_shortenFrom_41 : decode cX2_shortenFrom 41 = .ok (.iload_n 3, 1) := by decide +kernel
theorem dX2_shortenFrom_42 : decode cX2_shortenFrom 42 = .ok (.laload, 1) := by decide +kernel
theorem dX2_shortenFrom_43 : decode cX2_shortenFrom 43 = .ok (.lcmp, 1) := by decide +kernel
theorem dX2_shortenFrom_44 : decode cX2_shortenFrom 44 = .ok (.ifCond .ge 31, 3) := by decide +kernel
theorem dX2_shortenFrom_47 : decode cX2_shortenFrom 47 = .ok (.aload_n 0, 1) := by decide +kernel
theorem dX2_shortenFrom_48 : decode cX2_shortenFrom 48 = .ok (.getfield 28, 3) := by decide +kernel
theorem dX2_shortenFrom_51 : decode cX2_shortenFrom 51 = .ok (.iload_n 3, 1) := by decide +kernel
theorem dX2_shortenFrom_52 : decode cX2_shortenFrom 52 = .ok (.aload_n 0, 1) := by decide +kernel
theorem dX2_shortenFrom_53 : decode cX2_shortenFrom 53 = .ok (.getfield 28, 3) := by decide +kernel
theorem dX2_shortenFrom_56 : decode cX2_shortenFrom 56 = .ok (.iload_n 1, 1) := by decide +kernel
theorem dX2_shortenFrom_57 : decode cX2_shortenFrom 57 = .ok (.laload, 1) := by decide +kernel
theorem dX2_shortenFrom_58 : decode cX2_shortenFrom 58 = .ok (.aload_n 0, 1) := by decide +kernel
theorem dX2_shortenFrom_59 : decode cX2_shortenFrom 59 = .ok (.iload_n 1, 1) := by decide +kernel
theorem dX2_shortenFrom_60 : decode cX2_shortenFrom 60 = .ok (.iload_n 3, 1) := by decide +kernel
theorem dX2_shortenFrom_61 : decode cX2_shortenFrom 61 = .ok (.invokevirtual 112, 3) := by decide +kernel
theorem dX2_shortenFrom_64 : decode cX2_shortenFrom 64 = .ok (.ladd, 1) := by decide +kernel
theorem dX2_shortenFrom_65 : decode cX2_shortenFrom 65 = .ok (.lastore, 1) := by decide +kernel
theorem dX2_shortenFrom_66 : decode cX2_shortenFrom 66 = .ok (.aload_n 0, 1) := by decide +kernel
theorem dX2_shortenFrom_67 : decode cX2_shortenFrom 67 = .ok (.getfield 31, 3) := by decide +kernel
theorem dX2_shortenFrom_70 : decode cX2_shortenFrom 70 = .ok (.iload_n 3, 1) := by decide +kernel
theorem dX2_shortenFrom_71 : decode cX2_shortenFrom 71 = .ok (.iload_n 1, 1) := by decide +kernel
theorem dX2_shortenFrom_72 : decode cX2_shortenFrom 72 = .ok (.iastore, 1) := by decide +kernel
theorem dX2_shortenFrom_73 : decode cX2_shortenFrom 73 = .ok (.iconst 1, 1) := by decide +kernel
theorem dX2_shortenFrom_74 : decode cX2_shortenFrom 74 = .ok (.istore_n 2, 1) := by decide +kernel
theorem dX2_shortenFrom_75 : decode cX2_shortenFrom 75 = .ok (.iinc 3 1, 3) := by decide +kernel
theorem dX2_shortenFrom_78 : decode cX2_shortenFrom 78 = .ok (.goto (-74), 3) := by decide +kernel
theorem dX2_shortenFrom_81 : decode cX2_shortenFrom 81 = .ok (.iload_n 2, 1) := by decide +kernel
theorem dX2_shortenFrom_82 : decode cX2_shortenFrom 82 = .ok (.ireturn, 1) := by decide +kernel
theorem dX2_nearestLack_0 : decode cX2_nearestLack 0 = .ok (.iconst (-1), 1) := by decide +kernel
theorem dX2_nearestLack_1 : decode cX2_nearestLack 1 = .ok (.istore_n 1, 1) := by decide +kernel
theorem dX2_nearestLack_2 : decode cX2_nearestLack 2 = .ok (.iconst 0, 1) := by decide +kernel
theorem dX2_nearestLack_3 : decode cX2_nearestLack 3 = .ok (.istore_n 2, 1) := by decide +kernel
theorem dX2_nearestLack_4 : decode cX2_nearestLack 4 = .ok (.iload_n 2, 1) := by decide +kernel
theorem dX2_nearestLack_5 : decode cX2_nearestLack 5 = .ok (.bipush 7, 2) := by decide +kernel
theorem dX2_nearestLack_7 : decode cX2_nearestLack 7 = .ok (.if_icmp .ge 54, 3) := by decide +kernel
theorem dX2_nearestLack_10 : decode cX2_nearestLack 10 = .ok (.aload_n 0, 1) := by decide +kernel
theorem dX2_nearestLack_11 : decode cX2_nearestLack 11 = .ok (.getfield 25, 3) := by decide +kernel
theorem dX2_nearestLack_14 : decode cX2_nearestLack 14 = .ok (.iload_n 2, 1) := by decide +kernel
theorem dX2_nearestLack_15 : decode cX2_nearestLack 15 = .ok (.iaload, 1) := by decide +kernel
theorem dX2_nearestLack_16 : decode cX2_nearestLack 16 = .ok (.ifCond .ge 39, 3) := by decide +kernel
theorem dX2_nearestLack_19 : decode cX2_nearestLack 19 = .ok (.aload_n 0, 1) := by decide +kernel
theorem dX2_nearestLack_20 : decode cX2_nearestLack 20 = .ok (.getfield 28, 3) := by decide +kernel
theorem dX2_nearestLack_23 : decode cX2_nearestLack 23 = .ok (.iload_n 2, 1) := by decide +kernel
theorem dX2_nearestLack_24 : decode cX2_nearestLack 24 = .ok (.laload, 1) := by decide +kernel
theorem dX2_nearestLack_25 : decode cX2_nearestLack 25 = .ok (.ldc2_w 104, 3) := by decide +kernel
theorem dX2_nearestLack_28 : decode cX2_nearestLack 28 = .ok (.lcmp, 1) := by decide +kernel
theorem dX2_nearestLack_29 : decode cX2_nearestLack 29 = .ok (.ifCond .ge 26, 3) := by decide +kernel
theorem dX2_nearestLack_32 : decode cX2_nearestLack 32 = .ok (.iload_n 1, 1) := by decide +kernel
theorem dX2_nearestLack_33 : decode cX2_nearestLack 33 = .ok (.iconst (-1), 1) := by decide +kernel
theorem dX2_nearestLack_34 : decode cX2_nearestLack 34 = .ok (.if_icmp .eq 19, 3) := by decide +kernel
theorem dX2_nearestLack_37 : decode cX2_nearestLack 37 = .ok (.aload_n 0, 1) := by decide +kernel
theorem dX2_nearestLack_38 : decode cX2_nearestLack 38 = .ok (.getfield 28, 3) := by decide +kernel
theorem dX2_nearestLack_41 : decode cX2_nearestLack 41 = .ok (.iload_n 2, 1) := by decide +kernel
theorem dX2_nearestLack_42 : decode cX2_nearestLack 42 = .ok (.laload, 1) := by decide +kernel
theorem dX2_nearestLack_43 : decode cX2_nearestLack 43 = .ok (.aload_n 0, 1) := by decide +kernel
theorem dX2_nearestLack_44 : decode cX2_nearestLack 44 = .ok (.getfield 28, 3) := by decide +kernel
theorem dX2_nearestLack_47 : decode cX2_nearestLack 47 = .ok (.iload_n 1, 1) := by decide +kernel
theorem dX2_nearestLack_48 : decode cX2_nearestLack 48 = .ok (.laload, 1) := by decide +kernel
theorem dX2_nearestLack_49 : decode cX2_nearestLack 49 = .ok (.lcmp, 1) := by decide +kernel
theorem dX2_nearestLack_50 : decode cX2_nearestLack 50 = .ok (.ifCond .ge 5, 3) := by decide +kernel
theorem dX2_nearestLack_53 : decode cX2_nearestLack 53 = .ok (.iload_n 2, 1) := by decide +kernel
theorem dX2_nearestLack_54 : decode cX2_nearestLack 54 = .ok (.istore_n 1, 1) := by decide +kernel
theorem dX2_nearestLack_55 : decode cX2_nearestLack 55 = .ok (.iinc 2 1, 3) := by decide +kernel
theorem dX2_nearestLack_58 : decode cX2_nearestLack 58 = .ok (.goto (-54), 3) := by decide +kernel
theorem dX2_nearestLack_61 : decode cX2_nearestLack 61 = .ok (.iload_n 1, 1) := by decide +kernel
theorem dX2_nearestLack_62 : decode cX2_nearestLack 62 = .ok (.ireturn, 1) := by decide +kernel
theorem dX2_pushTo_0 : decode cX2_pushTo 0 = .ok (.aload_n 0, 1) := by decide +kernel
theorem dX2_pushTo_1 : decode cX2_pushTo 1 = .ok (.getfield 25, 3) := by decide +kernel
theorem dX2_pushTo_4 : decode cX2_pushTo 4 = .ok (.iload_n 1, 1) := by decide +kernel
theorem dX2_pushTo_5 : decode cX2_pushTo 5 = .ok (.iaload, 1) := by decide +kernel
theorem dX2_pushTo_6 : decode cX2_pushTo 6 = .ok (.ineg, 1) := by decide +kernel
theorem dX2_pushTo_7 : decode cX2_pushTo 7 = .ok (.istore_n 2, 1) := by decide +kernel
theorem dX2_pushTo_8 : decode cX2_pushTo 8 = .ok (.iload_n 1, 1) := by decide +kernel
theorem dX2_pushTo_9 : decode cX2_pushTo 9 = .ok (.istore_n 3, 1) := by decide +kernel
theorem dX2_pushTo_10 : decode cX2_pushTo 10 = .ok (.iconst 0, 1) := by decide +kernel
theorem dX2_pushTo_11 : decode cX2_pushTo 11 = .ok (.istore 4, 2) := by decide +kernel
theorem dX2_pushTo_13 : decode cX2_pushTo 13 = .ok (.iload 4, 2) := by decide +kernel
theorem dX2_pushTo_15 : decode cX2_pushTo 15 = .ok (.bipush 7, 2) := by decide +kernel
theorem dX2_pushTo_17 : decode cX2_pushTo 17 = .ok (.if_icmp .ge 42, 3) := by decide +kernel
theorem dX2_pushTo_20 : decode cX2_pushTo 20 = .ok (.aload_n 0, 1) := by decide +kernel
theorem dX2_pushTo_21 : decode cX2_pushTo 21 = .ok (.getfield 31, 3) := by decide +kernel
theorem dX2_pushTo_24 : decode cX2_pushTo 24 = .ok (.iload_n 3, 1) := by decide +kernel
theorem dX2_pushTo_25 : decode cX2_pushTo 25 = .ok (.iaload, 1) := by decide +kernel
theorem dX2_pushTo_26 : decode cX2_pushTo 26 = .ok (.iconst (-1), 1) := by decide +kernel
theorem dX2_pushTo_27 : decode cX2_pushTo 27 = .ok (.if_icmp .eq 32, 3) := by decide +kernel
theorem dX2_pushTo_30 : decode cX2_pushTo 30 = .ok (.iload_n 2, 1) := by decide +kernel
theorem dX2_pushTo_31 : decode cX2_pushTo 31 = .ok (.aload_n 0, 1) := by decide +kernel
theorem dX2_pushTo_32 : decode cX2_pushTo 32 = .ok (.aload_n 0, 1) := by decide +kernel
theorem dX2_pushTo_33 : decode cX2_pushTo 33 = .ok (.getfield 31, 3) := by decide +kernel
theorem dX2_pushTo_36 : decode cX2_pushTo 36 = .ok (.iload_n 3, 1) := by decide +kernel
theorem dX2_pushTo_37 : decode cX2_pushTo 37 = .ok (.iaload, 1) := by decide +kernel
theorem dX2_pushTo_38 : decode cX2_pushTo 38 = .ok (.iload_n 3, 1) := by decide +kernel
theorem dX2_pushTo_39 : decode cX2_pushTo 39 = .ok (.invokevirtual 109, 3) := by decide +kernel
theorem dX2_pushTo_42 : decode cX2_pushTo 42 = .ok (.invokestatic 76, 3) := by decide +kernel
theorem dX2_pushTo_45 : decode cX2_pushTo 45 = .ok (.istore_n 2, 1) := by decide +kernel
theorem dX2_pushTo_46 : decode cX2_pushTo 46 = .ok (.aload_n 0, 1) := by decide +kernel
theorem dX2_pushTo_47 : decode cX2_pushTo 47 = .ok (.getfield 31, 3) := by decide +kernel
theorem dX2_pushTo_50 : decode cX2_pushTo 50 = .ok (.iload_n 3, 1) := by decide +kernel
theorem dX2_pushTo_51 : decode cX2_pushTo 51 = .ok (.iaload, 1) := by decide +kernel
theorem dX2_pushTo_52 : decode cX2_pushTo 52 = .ok (.istore_n 3, 1) := by decide +kernel
theorem dX2_pushTo_53 : decode cX2_pushTo 53 = .ok (.iinc 4 1, 3) := by decide +kernel
theorem dX2_pushTo_56 : decode cX2_pushTo 56 = .ok (.goto (-43), 3) := by decide +kernel
theorem dX2_pushTo_59 : decode cX2_pushTo 59 = .ok (.iload_n 2, 1) := by decide +kernel
theorem dX2_pushTo_60 : decode cX2_pushTo 60 = .ok (.aload_n 0, 1) := by decide +kernel
theorem dX2_pushTo_61 : decode cX2_pushTo 61 = .ok (.getfield 25, 3) := by decide +kernel
theorem dX2_pushTo_64 : decode cX2_pushTo 64 = .ok (.iload_n 3, 1) := by decide +kernel
theorem dX2_pushTo_65 : decode cX2_pushTo 65 = .ok (.iaload, 1) := by decide +kernel
theorem dX2_pushTo_66 : decode cX2_pushTo 66 = .ok (.invokestatic 76, 3) := by decide +kernel
theorem dX2_pushTo_69 : decode cX2_pushTo 69 = .ok (.istore_n 2, 1) := by decide +kernel
theorem dX2_pushTo_70 : decode cX2_pushTo 70 = .ok (.iload_n 2, 1) := by decide +kernel
theorem dX2_pushTo_71 : decode cX2_pushTo 71 = .ok (.ifCond .gt 5, 3) := by decide +kernel
theorem dX2_pushTo_74 : decode cX2_pushTo 74 = .ok (.iconst 0, 1) := by decide +kernel
theorem dX2_pushTo_75 : decode cX2_pushTo 75 = .ok (.ireturn, 1) := by decide +kernel
theorem dX2_pushTo_76 : decode cX2_pushTo 76 = .ok (.iload_n 1, 1) := by decide +kernel
theorem dX2_pushTo_77 : decode cX2_pushTo 77 = .ok (.istore 4, 2) := by decide +kernel
theorem dX2_pushTo_79 : decode cX2_pushTo 79 = .ok (.iconst 0, 1) := by decide +kernel
theorem dX2_pushTo_80 : decode cX2_pushTo 80 = .ok (.istore 5, 2) := by decide +kernel
theorem dX2_pushTo_82 : decode cX2_pushTo 82 = .ok (.iload 5, 2) := by decide +kernel
theorem dX2_pushTo_84 : decode cX2_pushTo 84 = .ok (.bipush 7, 2) := by decide +kernel
theorem dX2_pushTo_86 : decode cX2_pushTo 86 = .ok (.if_icmp .ge 43, 3) := by decide +kernel
theorem dX2_pushTo_89 : decode cX2_pushTo 89 = .ok (.aload_n 0, 1) := by decide +kernel
theorem dX2_pushTo_90 : decode cX2_pushTo 90 = .ok (.getfield 31, 3) := by decide +kernel
theorem dX2_pushTo_93 : decode cX2_pushTo 93 = .ok (.iload 4, 2) := by decide +kernel
theorem dX2_pushTo_95 : decode cX2_pushTo 95 = .ok (.iaload, 1) := by decide +kernel
theorem dX2_pushTo_96 : decode cX2_pushTo 96 = .ok (.iconst (-1), 1) := by decide +kernel
theorem dX2_pushTo_97 : decode cX2_pushTo 97 = .ok (.if_icmp .eq 32, 3) := by decide +kernel
theorem dX2_pushTo_100 : decode cX2_pushTo 100 = .ok (.aload_n 0, 1) := by decide +kernel
theorem dX2_pushTo_101 : decode cX2_pushTo 101 = .ok (.aload_n 0, 1) := by decide +kernel
theorem dX2_pushTo_102 : decode cX2_pushTo 102 = .ok (.getfield 31, 3) := by decide +kernel
theorem dX2_pushTo_105 : decode cX2_pushTo 105 = .ok (.iload 4, 2) := by decide +kernel
theorem dX2_pushTo_107 : decode cX2_pushTo 107 = .ok (.iaload, 1) := by decide +kernel
theorem dX2_pushTo_108 : decode cX2_pushTo 108 = .ok (.iload 4, 2) := by decide +kernel
theorem dX2_pushTo_110 : decode cX2_pushTo 110 = .ok (.iload_n 2, 1) := by decide +kernel
theorem dX2_pushTo_111 : decode cX2_pushTo 111 = .ok (.invokevirtual 116, 3) := by decide +kernel
theorem dX2_pushTo_114 : decode cX2_pushTo 114 = .ok (.aload_n 0, 1) := by decide +kernel
theorem dX2_pushTo_115 : decode cX2_pushTo 115 = .ok (.getfield 31, 3) := by decide +kernel
theorem dX2_pushTo_118 : decode cX2_pushTo 118 = .ok (.iload 4, 2) := by decide +kernel
theorem dX2_pushTo_120 : decode cX2_pushTo 120 = .ok (.iaload, 1) := by decide +kernel
theorem dX2_pushTo_121 : decode cX2_pushTo 121 = .ok (.istore 4, 2) := by decide +kernel
theorem dX2_pushTo_123 : decode cX2_pushTo 123 = .ok (.iinc 5 1, 3) := by decide +kernel
theorem dX2_pushTo_126 : decode cX2_pushTo 126 = .ok (.goto (-44), 3) := by decide +kernel
theorem dX2_pushTo_129 : decode cX2_pushTo 129 = .ok (.aload_n 0, 1) := by decide +kernel
theorem dX2_pushTo_130 : decode cX2_pushTo 130 = .ok (.getfield 25, 3) := by decide +kernel
theorem dX2_pushTo_133 : decode cX2_pushTo 133 = .ok (.iload_n 1, 1) := by decide +kernel
theorem dX2_pushTo_134 : decode cX2_pushTo 134 = .ok (.dup2, 1) := by decide +kernel
theorem dX2_pushTo_135 : decode cX2_pushTo 135 = .ok (.iaload, 1) := by decide +kernel
theorem dX2_pushTo_136 : decode cX2_pushTo 136 = .ok (.iload_n 2, 1) := by decide +kernel
theorem dX2_pushTo_137 : decode cX2_pushTo 137 = .ok (.iadd, 1) := by decide +kernel
theorem dX2_pushTo_138 : decode cX2_pushTo 138 = .ok (.iastore, 1) := by decide +kernel
theorem dX2_pushTo_139 : decode cX2_pushTo 139 = .ok (.aload_n 0, 1) := by decide +kernel
theorem dX2_pushTo_140 : decode cX2_pushTo 140 = .ok (.getfield 25, 3) := by decide +kernel
theorem dX2_pushTo_143 : decode cX2_pushTo 143 = .ok (.iload_n 3, 1) := by decide +kernel
theorem dX2_pushTo_144 : decode cX2_pushTo 144 = .ok (.dup2, 1) := by decide +kernel
theorem dX2_pushTo_145 : decode cX2_pushTo 145 = .ok (.iaload, 1) := by decide +kernel
theorem dX2_pushTo_146 : decode cX2_pushTo 146 = .ok (.iload_n 2, 1) := by decide +kernel
theorem dX2_pushTo_147 : decode cX2_pushTo 147 = .ok (.isub, 1) := by decide +kernel
theorem dX2_pushTo_148 : decode cX2_pushTo 148 = .ok (.iastore, 1) := by decide +kernel
theorem dX2_pushTo_149 : decode cX2_pushTo 149 = .ok (.iconst 1, 1) := by decide +kernel
theorem dX2_pushTo_150 : decode cX2_pushTo 150 = .ok (.ireturn, 1) := by decide +kernel
theorem dX2_shiftUnits_0 : decode cX2_shiftUnits 0 = .ok (.iload_n 2, 1) := by decide +kernel
theorem dX2_shiftUnits_1 : decode cX2_shiftUnits 1 = .ok (.iload_n 1, 1) := by decide +kernel
theorem dX2_shiftUnits_2 : decode cX2_shiftUnits 2 = .ok (.invokestatic 34, 3) := by decide +kernel
theorem dX2_shiftUnits_5 : decode cX2_shiftUnits 5 = .ok (.istore 4, 2) := by decide +kernel
theorem dX2_shiftUnits_7 : decode cX2_shiftUnits 7 = .ok (.aload_n 0, 1) := by decide +kernel
theorem dX2_shiftUnits_8 : decode cX2_shiftUnits 8 = .ok (.iload 4, 2) := by decide +kernel
theorem dX2_shiftUnits_10 : decode cX2_shiftUnits 10 = .ok (.invokevirtual 119, 3) := by decide +kernel
theorem dX2_shiftUnits_13 : decode cX2_shiftUnits 13 = .ok (.ifCond .eq 17, 3) := by decide +kernel
theorem dX2_shiftUnits_16 : decode cX2_shiftUnits 16 = .ok (.aload_n 0, 1) := by decide +kernel
theorem dX2_shiftUnits_17 : decode cX2_shiftUnits 17 = .ok (.getfield 11, 3) := by decide +kernel
theorem dX2_shiftUnits_20 : decode cX2_shiftUnits 20 = .ok (.iload 4, 2) := by decide +kernel
theorem dX2_shiftUnits_22 : decode cX2_shiftUnits 22 = .ok (.dup2, 1) := by decide +kernel
theorem dX2_shiftUnits_23 : decode cX2_shiftUnits 23 = .ok (.iaload, 1) := by decide +kernel
theorem dX2_shiftUnits_24 : decode cX2_shiftUnits 24 = .ok (.iload_n 3, 1) := by decide +kernel
theorem dX2_shiftUnits_25 : decode cX2_shiftUnits 25 = .ok (.isub, 1) := by decide +kernel
theorem dX2_shiftUnits_26 : decode cX2_shiftUnits 26 = .ok (.iastore, 1) := by decide +kernel
theorem dX2_shiftUnits_27 : decode cX2_shiftUnits 27 = .ok (.goto 17, 3) := by decide +kernel
theorem dX2_shiftUnits_30 : decode cX2_shiftUnits 30 = .ok (.aload_n 0, 1) := by decide +kernel
theorem dX2_shiftUnits_31 : decode cX2_shiftUnits 31 = .ok (.getfield 11, 3) := by decide +kernel
theorem dX2_shiftUnits_34 : decode cX2_shiftUnits 34 = .ok (.iload_n 1, 1) := by decide +kernel
theorem dX2_shiftUnits_35 : decode cX2_shiftUnits 35 = .ok (.iload_n 2, 1) := by decide +kernel
theorem dX2_shiftUnits_36 : decode cX2_shiftUnits 36 = .ok (.invokestatic 34, 3) := by decide +kernel
theorem dX2_shiftUnits_39 : decode cX2_shiftUnits 39 = .ok (.dup2, 1) := by decide +kernel
theorem dX2_shiftUnits_40 : decode cX2_shiftUnits 40 = .ok (.iaload, 1) := by decide +kernel
theorem dX2_shiftUnits_41 : decode cX2_shiftUnits 41 = .ok (.iload_n 3, 1) := by decide +kernel
theorem dX2_shiftUnits_42 : decode cX2_shiftUnits 42 = .ok (.iadd, 1) := by decide +kernel
theorem dX2_shiftUnits_43 : decode cX2_shiftUnits 43 = .ok (.iastore, 1) := by decide +kernel
theorem dX2_shiftUnits_44 : decode cX2_shiftUnits 44 = .ok (.return_, 1) := by decide +kernel
theorem dX2_room_0 : decode cX2_room 0 = .ok (.iload_n 2, 1) := by decide +kernel
theorem dX2_room_1 : decode cX2_room 1 = .ok (.iload_n 1, 1) := by decide +kernel
theorem dX2_room_2 : decode cX2_room 2 = .ok (.invokestatic 34, 3) := by decide +kernel
theorem dX2_room_5 : decode cX2_room 5 = .ok (.istore_n 3, 1) := by decide +kernel
theorem dX2_room_6 : decode cX2_room 6 = .ok (.iload_n 1, 1) := by decide +kernel
theorem dX2_room_7 : decode cX2_room 7 = .ok (.iload_n 2, 1) := by decide +kernel
theorem dX2_room_8 : decode cX2_room 8 = .ok (.invokestatic 34, 3) := by decide +kernel
theorem dX2_room_11 : decode cX2_room 11 = .ok (.istore 4, 2) := by decide +kernel
theorem dX2_room_13 : decode cX2_room 13 = .ok (.aload_n 0, 1) := by decide +kernel
theorem dX2_room_14 : decode cX2_room 14 = .ok (.iload_n 3, 1) := by decide +kernel
theorem dX2_room_15 : decode cX2_room 15 = .ok (.invokevirtual 119, 3) := by decide +kernel
theorem dX2_room_18 : decode cX2_room 18 = .ok (.ifCond .eq 19, 3) := by decide +kernel
theorem dX2_room_21 : decode cX2_room 21 = .ok (.aload_n 0, 1) := by decide +kernel
theorem dX2_room_22 : decode cX2_room 22 = .ok (.getfield 11, 3) := by decide +kernel
theorem dX2_room_25 : decode cX2_room 25 = .ok (.iload_n 3, 1) := by decide +kernel
theorem dX2_room_26 : decode cX2_room 26 = .ok (.iaload, 1) := by decide +kernel
theorem dX2_room_27 : decode cX2_room 27 = .ok (.aload_n 0, 1) := by decide +kernel
theorem dX2_room_28 : decode cX2_room 28 = .ok (.getfield 15, 3) := by decide +kernel
theorem dX2_room_31 : decode cX2_room 31 = .ok (.iload_n 3, 1) := by decide +kernel
theorem dX2_room_32 : decode cX2_room 32 = .ok (.iaload, 1) := by decide +kernel
theorem dX2_room_33 : decode cX2_room 33 = .ok (.isub, 1) := by decide +kernel
theorem dX2_room_34 : decode cX2_room 34 = .ok (.goto 18, 3) := by decide +kernel
theorem dX2_room_37 : decode cX2_room 37 = .ok (.aload_n 0, 1) := by decide +kernel
theorem dX2_room_38 : decode cX2_room 38 = .ok (.getfield 18, 3) := by decide +kernel
theorem dX2_room_41 : decode cX2_room 41 = .ok (.iload 4, 2) := by decide +kernel
theorem dX2_room_43 : decode cX2_room 43 = .ok (.iaload, 1) := by decide +kernel
theorem dX2_room_44 : decode cX2_room 44 = .ok (.aload_n 0, 1) := by decide +kernel
theorem dX2_room_45 : decode cX2_room 45 = .ok (.getfield 11, 3) := by decide +kernel
theorem dX2_room_48 : decode cX2_room 48 = .ok (.iload 4, 2) := by decide +kernel
theorem dX2_room_50 : decode cX2_room 50 = .ok (.iaload, 1) := by decide +kernel
theorem dX2_room_51 : decode cX2_room 51 = .ok (.isub, 1) := by decide +kernel
theorem dX2_room_52 : decode cX2_room 52 = .ok (.ireturn, 1) := by decide +kernel
theorem dX2_price_0 : decode cX2_price 0 = .ok (.iload_n 2, 1) := by decide +kernel
theorem dX2_price_1 : decode cX2_price 1 = .ok (.iload_n 1, 1) := by decide +kernel
theorem dX2_price_2 : decode cX2_price 2 = .ok (.invokestatic 34, 3) := by decide +kernel
theorem dX2_price_5 : decode cX2_price 5 = .ok (.istore_n 3, 1) := by decide +kernel
theorem dX2_price_6 : decode cX2_price 6 = .ok (.aload_n 0, 1) := by decide +kernel
theorem dX2_price_7 : decode cX2_price 7 = .ok (.iload_n 3, 1) := by decide +kernel
theorem dX2_price_8 : decode cX2_price 8 = .ok (.invokevirtual 119, 3) := by decide +kernel
theorem dX2_price_11 : decode cX2_price 11 = .ok (.ifCond .eq 13, 3) := by decide +kernel
theorem dX2_price_14 : decode cX2_price 14 = .ok (.aload_n 0, 1) := by decide +kernel
theorem dX2_price_15 : decode cX2_price 15 = .ok (.getfield 21, 3) := by decide +kernel
theorem dX2_price_18 : decode cX2_price 18 = .ok (.iload_n 3, 1) := by decide +kernel
theorem dX2_price_19 : decode cX2_price 19 = .ok (.laload, 1) := by decide +kernel
theorem dX2_price_20 : decode cX2_price 20 = .ok (.lneg, 1) := by decide +kernel
theorem dX2_price_21 : decode cX2_price 21 = .ok (.goto 13, 3) := by decide +kernel
theorem dX2_price_24 : decode cX2_price 24 = .ok (.aload_n 0, 1) := by decide +kernel
theorem dX2_price_25 : decode cX2_price 25 = .ok (.getfield 21, 3) := by decide +kernel
theorem dX2_price_28 : decode cX2_price 28 = .ok (.iload_n 1, 1) := by decide +kernel
theorem dX2_price_29 : decode cX2_price 29 = .ok (.iload_n 2, 1) := by decide +kernel
theorem dX2_price_30 : decode cX2_price 30 = .ok (.invokestatic 34, 3) := by decide +kernel
theorem dX2_price_33 : decode cX2_price 33 = .ok (.laload, 1) := by decide +kernel
theorem dX2_price_34 : decode cX2_price 34 = .ok (.lreturn, 1) := by decide +kernel
theorem dX2_canTakeBack_0 : decode cX2_canTakeBack 0 = .ok (.aload_n 0, 1) := by decide +kernel
theorem dX2_canTakeBack_1 : decode cX2_canTakeBack 1 = .ok (.getfield 11, 3) := by decide +kernel
theorem dX2_canTakeBack_4 : decode cX2_canTakeBack 4 = .ok (.iload_n 1, 1) := by decide +kernel
theorem dX2_canTakeBack_5 : decode cX2_canTakeBack 5 = .ok (.iaload, 1) := by decide +kernel
theorem dX2_canTakeBack_6 : decode cX2_canTakeBack 6 = .ok (.aload_n 0, 1) := by decide +kernel
theorem dX2_canTakeBack_7 : decode cX2_canTakeBack 7 = .ok (.getfield 15, 3) := by decide +kernel
theorem dX2_canTakeBack_10 : decode cX2_canTakeBack 10 = .ok (.iload_n 1, 1) := by decide +kernel
theorem dX2_canTakeBack_11 : decode cX2_canTakeBack 11 = .ok (.iaload, 1) := by decide +kernel
theorem dX2_canTakeBack_12 : decode cX2_canTakeBack 12 = .ok (.if_icmp .le 7, 3) := by decide +kernel
theorem dX2_canTakeBack_15 : decode cX2_canTakeBack 15 = .ok (.iconst 1, 1) := by decide +kernel
theorem dX2_canTakeBack_16 : decode cX2_canTakeBack 16 = .ok (.goto 4, 3) := by decide +kernel
theorem dX2_canTakeBack_19 : decode cX2_canTakeBack 19 = .ok (.iconst 0, 1) := by decide +kernel
theorem dX2_canTakeBack_20 : decode cX2_canTakeBack 20 = .ok (.ireturn, 1) := by decide +kernel
theorem dX2_arc_0 : decode cX2_arc 0 = .ok (.iload_n 0, 1) := by decide +kernel
theorem dX2_arc_1 : decode cX2_arc 1 = .ok (.bipush 7, 2) := by decide +kernel
theorem dX2_arc_3 : decode cX2_arc 3 = .ok (.imul, 1) := by decide +kernel
theorem dX2_arc_4 : decode cX2_arc 4 = .ok (.iload_n 1, 1) := by decide +kernel
theorem dX2_arc_5 : decode cX2_arc 5 = .ok (.iadd, 1) := by decide +kernel
theorem dX2_arc_6 : decode cX2_arc 6 = .ok (.ireturn, 1) := by decide +kernel
theorem dX3_init_0 : decode cX3_init 0 = .ok (.aload_n 0, 1) := by decide +kernel
theorem dX3_init_1 : decode cX3_init 1 = .ok (.invokespecial 3, 3) := by decide +kernel
theorem dX3_init_4 : decode cX3_init 4 = .ok (.aload_n 0, 1) := by decide +kernel
theorem dX3_init_5 : decode cX3_init 5 = .ok (.bipush 100, 2) := by decide +kernel
theorem dX3_init_7 : decode cX3_init 7 = .ok (.newarray .int, 2) := by decide +kernel
theorem dX3_init_9 : decode cX3_init 9 = .ok (.putfield 9, 3) := by decide +kernel
theorem dX3_init_12 : decode cX3_init 12 = .ok (.aload_n 0, 1) := by decide +kernel
theorem dX3_init_13 : decode cX3_init 13 = .ok (.bipush 100, 2) := by decide +kernel
theorem dX3_init_15 : decode cX3_init 15 = .ok (.newarray .int, 2) := by decide +kernel
theorem dX3_init_17 : decode cX3_init 17 = .ok (.putfield 15, 3) := by decide +kernel
theorem dX3_init_20 : decode cX3_init 20 = .ok (.aload_n 0, 1) := by decide +kernel
theorem dX3_init_21 : decode cX3_init 21 = .ok (.bipush 100, 2) := by decide +kernel
theorem dX3_init_23 : decode cX3_init 23 = .ok (.newarray .int, 2) := by decide +kernel
theorem dX3_init_25 : decode cX3_init 25 = .ok (.putfield 18, 3) := by decide +kernel
theorem dX3_init_28 : decode cX3_init 28 = .ok (.aload_n 0, 1) := by decide +kernel
theorem dX3_init_29 : decode cX3_init 29 = .ok (.bipush 100, 2) := by decide +kernel
theorem dX3_init_31 : decode cX3_init 31 = .ok (.newarray .int, 2) := by decide +kernel
theorem dX3_init_33 : decode cX3_init 33 = .ok (.putfield 21, 3) := by decide +kernel
theorem dX3_init_36 : decode cX3_init 36 = .ok (.aload_n 0, 1) := by decide +kernel
theorem dX3_init_37 : decode cX3_init 37 = .ok (.bipush 100, 2) := by decide +kernel
theorem dX3_init_39 : decode cX3_init 39 = .ok (.newarray .int, 2) := by decide +kernel
theorem dX3_init_41 : decode cX3_init 41 = .ok (.putfield 24, 3) := by decide +kernel
theorem dX3_init_44 : decode cX3_init 44 = .ok (.aload_n 0, 1) := by decide +kernel
theorem dX3_init_45 : decode cX3_init 45 = .ok (.bipush 100, 2) := by decide +kernel
theorem dX3_init_47 : decode cX3_init 47 = .ok (.newarray .int, 2) := by decide +kernel
theorem dX3_init_49 : decode cX3_init 49 = .ok (.putfield 27, 3) := by decide +kernel
theorem dX3_init_52 : decode cX3_init 52 = .ok (.aload_n 0, 1) := by decide +kernel
theorem dX3_init_53 : decode cX3_init 53 = .ok (.bipush 100, 2) := by decide +kernel
theorem dX3_init_55 : decode cX3_init 55 = .ok (.newarray .int, 2) := by decide +kernel
theorem dX3_init_57 : decode cX3_init 57 = .ok (.putfield 30, 3) := by decide +kernel
theorem dX3_init_60 : decode cX3_init 60 = .ok (.aload_n 0, 1) := by decide +kernel
theorem dX3_init_61 : decode cX3_init 61 = .ok (.sipush 500, 3) := by decide +kernel
theorem dX3_init_64 : decode cX3_init 64 = .ok (.newarray .int, 2) := by decide +kernel
theorem dX3_init_66 : decode cX3_init 66 = .ok (.putfield 33, 3) := by decide +kernel
theorem dX3_init_69 : decode cX3_init 69 = .ok (.aload_n 0, 1) := by decide +kernel
theorem dX3_init_70 : decode cX3_init 70 = .ok (.iconst 5, 1) := by decide +kernel
theorem dX3_init_71 : decode cX3_init 71 = .ok (.newarray .int, 2) := by decide +kernel
theorem dX3_init_73 : decode cX3_init 73 = .ok (.putfield 36, 3) := by decide +kernel
theorem dX3_init_76 : decode cX3_init 76 = .ok (.return_, 1) := by decide +kernel
theorem dX3_forget_0 : decode cX3_forget 0 = .ok (.aload_n 0, 1) := by decide +kernel
theorem dX3_forget_1 : decode cX3_forget 1 = .ok (.iconst 0, 1) := by decide +kernel
theorem dX3_forget_2 : decode cX3_forget 2 = .ok (.putfield 39, 3) := by decide +kernel
theorem dX3_forget_5 : decode cX3_forget 5 = .ok (.aload_n 0, 1) := by decide +kernel
theorem dX3_forget_6 : decode cX3_forget 6 = .ok (.getfield 36, 3) := by decide +kernel
theorem dX3_forget_9 : decode cX3_forget 9 = .ok (.iconst 0, 1) := by decide +kernel
theorem dX3_forget_10 : decode cX3_forget 10 = .ok (.invokestatic 43, 3) := by decide +kernel
theorem dX3_forget_13 : decode cX3_forget 13 = .ok (.return_, 1) := by decide +kernel
theorem dX3_copyFrom_0 : decode cX3_copyFrom 0 = .ok (.aload_n 0, 1) := by decide +kernel
theorem dX3_copyFrom_1 : decode cX3_copyFrom 1 = .ok (.aload_n 1, 1) := by decide +kernel
theorem dX3_copyFrom_2 : decode cX3_copyFrom 2 = .ok (.getfield 39, 3) := by decide +kernel
theorem dX3_copyFrom_5 : decode cX3_copyFrom 5 = .ok (.putfield 39, 3) := by decide +kernel
theorem dX3_copyFrom_8 : decode cX3_copyFrom 8 = .ok (.aload_n 1, 1) := by decide +kernel
theorem dX3_copyFrom_9 : decode cX3_copyFrom 9 = .ok (.getfield 9, 3) := by decide +kernel
theorem dX3_copyFrom_12 : decode cX3_copyFrom 12 = .ok (.aload_n 0, 1) := by decide +kernel
theorem dX3_copyFrom_13 : decode cX3_copyFrom 13 = .ok (.getfield 9, 3) := by decide +kernel
theorem dX3_copyFrom_16 : decode cX3_copyFrom 16 = .ok (.invokestatic 49, 3) := by decide +kernel
theorem dX3_copyFrom_19 : decode cX3_copyFrom 19 = .ok (.aload_n 1, 1) := by decide +kernel
theorem dX3_copyFrom_20 : decode cX3_copyFrom 20 = .ok (.getfield 15, 3) := by decide +kernel
theorem dX3_copyFrom_23 : decode cX3_copyFrom 23 = .ok (.aload_n 0, 1) := by decide +kernel
theorem dX3_copyFrom_24 : decode cX3_copyFrom 24 = .ok (.getfield 15, 3) := by decide +kernel
theorem dX3_copyFrom_27 : decode cX3_copyFrom 27 = .ok (.invokestatic 49, 3) := by decide +kernel
theorem dX3_copyFrom_30 : decode cX3_copyFrom 30 = .ok (.aload_n 1, 1) := by decide +kernel
theorem dX3_copyFrom_31 : decode cX3_copyFrom 31 = .ok (.getfield 18, 3) := by decide +kernel
theorem dX3_copyFrom_34 : decode cX3_copyFrom 34 = .ok (.aload_n 0, 1) := by decide +kernel
theorem dX3_copyFrom_35 : decode cX3_copyFrom 35 = .ok (.getfield 18, 3) := by decide +kernel
theorem dX3_copyFrom_38 : decode cX3_copyFrom 38 = .ok (.invokestatic 49, 3) := by decide +kernel
theorem dX3_copyFrom_41 : decode cX3_copyFrom 41 = .ok (.aload_n 1, 1) := by decide +kernel
theorem dX3_copyFrom_42 : decode cX3_copyFrom 42 = .ok (.getfield 21, 3) := by decide +kernel
theorem dX3_copyFrom_45 : decode cX3_copyFrom 45 = .ok (.aload_n 0, 1) := by decide +kernel
theorem dX3_copyFrom_46 : decode cX3_copyFrom 46 = .ok (.getfield 21, 3) := by decide +kernel
theorem dX3_copyFrom_49 : decode cX3_copyFrom 49 = .ok (.invokestatic 49, 3) := by decide +kernel
theorem dX3_copyFrom_52 : decode cX3_copyFrom 52 = .ok (.aload_n 1, 1) := by decide +kernel
theorem dX3_copyFrom_53 : decode cX3_copyFrom 53 = .ok (.getfield 24, 3) := by decide +kernel
theorem dX3_copyFrom_56 : decode cX3_copyFrom 56 = .ok (.aload_n 0, 1) := by decide +kernel
theorem dX3_copyFrom_57 : decode cX3_copyFrom 57 = .ok (.getfield 24, 3) := by decide +kernel
theorem dX3_copyFrom_60 : decode cX3_copyFrom 60 = .ok (.invokestatic 49, 3) := by decide +kernel
theorem dX3_copyFrom_63 : decode cX3_copyFrom 63 = .ok (.aload_n 1, 1) := by decide +kernel
theorem dX3_copyFrom_64 : decode cX3_copyFrom 64 = .ok (.getfield 27, 3) := by decide +kernel
theorem dX3_copyFrom_67 : decode cX3_copyFrom 67 = .ok (.aload_n 0, 1) := by decide +kernel
theorem dX3_copyFrom_68 : decode cX3_copyFrom 68 = .ok (.getfield 27, 3) := by decide +kernel
theorem dX3_copyFrom_71 : decode cX3_copyFrom 71 = .ok (.invokestatic 49, 3) := by decide +kernel
theorem dX3_copyFrom_74 : decode cX3_copyFrom 74 = .ok (.aload_n 1, 1) := by decide +kernel
theorem dX3_copyFrom_75 : decode cX3_copyFrom 75 = .ok (.getfield 30, 3) := by decide +kernel
theorem dX3_copyFrom_78 : decode cX3_copyFrom 78 = .ok (.aload_n 0, 1) := by decide +kernel
theorem dX3_copyFrom_79 : decode cX3_copyFrom 79 = .ok (.getfield 30, 3) := by decide +kernel
theorem dX3_copyFrom_82 : decode cX3_copyFrom 82 = .ok (.invokestatic 49, 3) := by decide +kernel
theorem dX3_copyFrom_85 : decode cX3_copyFrom 85 = .ok (.aload_n 1, 1) := by decide +kernel
theorem dX3_copyFrom_86 : decode cX3_copyFrom 86 = .ok (.getfield 33, 3) := by decide +kernel
theorem dX3_copyFrom_89 : decode cX3_copyFrom 89 = .ok (.aload_n 0, 1) := by decide +kernel
theorem dX3_copyFrom_90 : decode cX3_copyFrom 90 = .ok (.getfield 33, 3) := by decide +kernel
theorem dX3_copyFrom_93 : decode cX3_copyFrom 93 = .ok (.invokestatic 49, 3) := by decide +kernel
theorem dX3_copyFrom_96 : decode cX3_copyFrom 96 = .ok (.aload_n 1, 1) := by decide +kernel
theorem dX3_copyFrom_97 : decode cX3_copyFrom 97 = .ok (.getfield 36, 3) := by decide +kernel
theorem dX3_copyFrom_100 : decode cX3_copyFrom 100 = .ok (.aload_n 0, 1) := by decide +kernel
theorem dX3_copyFrom_101 : decode cX3_copyFrom 101 = .ok (.getfield 36, 3) := by decide +kernel
theorem dX3_copyFrom_104 : decode cX3_copyFrom 104 = .ok (.invokestatic 49, 3) := by decide +kernel
theorem dX3_copyFrom_107 : decode cX3_copyFrom 107 = .ok (.return_, 1) := by decide +kernel
theorem dX3_add_0 : decode cX3_add 0 = .ok (.aload_n 0, 1) := by decide +kernel
theorem dX3_add_1 : decode cX3_add 1 = .ok (.getfield 39, 3) := by decide +kernel
theorem dX3_add_4 : decode cX3_add 4 = .ok (.istore 4, 2) := by decide +kernel
theorem dX3_add_6 : decode cX3_add 6 = .ok (.aload_n 0, 1) := by decide +kernel
theorem dX3_add_7 : decode cX3_add 7 = .ok (.iload_n 1, 1) := by decide +kernel
theorem dX3_add_8 : decode cX3_add 8 = .ok (.invokevirtual 53, 3) := by decide +kernel
theorem dX3_add_11 : decode cX3_add 11 = .ok (.istore 5, 2) := by decide +kernel
theorem dX3_add_13 : decode cX3_add 13 = .ok (.aload_n 0, 1) := by decide +kernel
theorem dX3_add_14 : decode cX3_add 14 = .ok (.getfield 9, 3) := by decide +kernel
theorem dX3_add_17 : decode cX3_add 17 = .ok (.iload 4, 2) := by decide +kernel
theorem dX3_add_19 : decode cX3_add 19 = .ok (.iload_n 1, 1) := by decide +kernel
theorem dX3_add_20 : decode cX3_add 20 = .ok (.iastore, 1) := by decide +kernel
theorem dX3_add_21 : decode cX3_add 21 = .ok (.aload_n 0, 1) := by decide +kernel
theorem dX3_add_22 : decode cX3_add 22 = .ok (.getfield 15, 3) := by decide +kernel
theorem dX3_add_25 : decode cX3_add 25 = .ok (.iload 4, 2) := by decide +kernel
theorem dX3_add_27 : decode cX3_add 27 = .ok (.iload_n 2, 1) := by decide +kernel
theorem dX3_add_28 : decode cX3_add 28 = .ok (.iastore, 1) := by decide +kernel
theorem dX3_add_29 : decode cX3_add 29 = .ok (.aload_n 0, 1) := by decide +kernel
theorem dX3_add_30 : decode cX3_add 30 = .ok (.getfield 27, 3) := by decide +kernel
theorem dX3_add_33 : decode cX3_add 33 = .ok (.iload 4, 2) := by decide +kernel
theorem dX3_add_35 : decode cX3_add 35 = .ok (.iload_n 3, 1) := by decide +kernel
theorem dX3_add_36 : decode cX3_add 36 = .ok (.iastore, 1) := by decide +kernel
theorem dX3_add_37 : decode cX3_add 37 = .ok (.aload_n 0, 1) := by decide +kernel
theorem dX3_add_38 : decode cX3_add 38 = .ok (.getfield 30, 3) := by decide +kernel
theorem dX3_add_41 : decode cX3_add 41 = .ok (.iload 4, 2) := by decide +kernel
theorem dX3_add_43 : decode cX3_add 43 = .ok (.aload_n 0, 1) := by decide +kernel
theorem dX3_add_44 : decode cX3_add 44 = .ok (.getfield 36, 3) := by decide +kernel
theorem dX3_add_47 : decode cX3_add 47 = .ok (.iload_n 1, 1) := by decide +kernel
theorem dX3_add_48 : decode cX3_add 48 = .ok (.iaload, 1) := by decide +kernel
theorem dX3_add_49 : decode cX3_add 49 = .ok (.iastore, 1) := by decide +kernel
theorem dX3_add_50 : decode cX3_add 50 = .ok (.iconst 0, 1) := by decide +kernel
theorem dX3_add_51 : decode cX3_add 51 = .ok (.istore 6, 2) := by decide +kernel
theorem dX3_add_53 : decode cX3_add 53 = .ok (.iload 6, 2) := by decide +kernel
theorem dX3_add_55 : decode cX3_add 55 = .ok (.iconst 5, 1) := by decide +kernel
theorem dX3_add_56 : decode cX3_add 56 = .ok (.if_icmp .ge 43, 3) := by decide +kernel
theorem dX3_add_59 : decode cX3_add 59 = .ok (.aload_n 0, 1) := by decide +kernel
theorem dX3_add_60 : decode cX3_add 60 = .ok (.getfield 33, 3) := by decide +kernel
theorem dX3_add_63 : decode cX3_add 63 = .ok (.iload 4, 2) := by decide +kernel
theorem dX3_add_65 : decode cX3_add 65 = .ok (.iconst 5, 1) := by decide +kernel
theorem dX3_add_66 : decode cX3_add 66 = .ok (.imul, 1) := by decide +kernel
theorem dX3_add_67 : decode cX3_add 67 = .ok (.iload 6, 2) := by decide +kernel
theorem dX3_add_69 : decode cX3_add 69 = .ok (.iadd, 1) := by decide +kernel
theorem dX3_add_70 : decode cX3_add 70 = .ok (.iload 5, 2) := by decide +kernel
theorem dX3_add_72 : decode cX3_add 72 = .ok (.iconst (-1), 1) := by decide +kernel
theorem dX3_add_73 : decode cX3_add 73 = .ok (.if_icmp .ne 7, 3) := by decide +kernel
theorem dX3_add_76 : decode cX3_add 76 = .ok (.iconst 0, 1) := by decide +kernel
theorem dX3_add_77 : decode cX3_add 77 = .ok (.goto 15, 3) := by decide +kernel
theorem dX3_add_80 : decode cX3_add 80 = .ok (.aload_n 0, 1) := by decide +kernel
theorem dX3_add_81 : decode cX3_add 81 = .ok (.getfield 33, 3) := by decide +kernel
theorem dX3_add_84 : decode cX3_add 84 = .ok (.iload 5, 2) := by decide +kernel
theorem dX3_add_86 : decode cX3_add 86 = .ok (.iconst 5, 1) := by decide +kernel
theorem dX3_add_87 : decode cX3_add 87 = .ok (.imul, 1) := by decide +kernel
theorem dX3_add_88 : decode cX3_add 88 = .ok (.iload 6, 2) := by decide +kernel
theorem dX3_add_90 : decode cX3_add 90 = .ok (.iadd, 1) := by decide +kernel
theorem dX3_add_91 : decode cX3_add 91 = .ok (.iaload, 1) := by decide +kernel
theorem dX3_add_92 : decode cX3_add 92 = .ok (.iastore, 1) := by decide +kernel
theorem dX3_add_93 : decode cX3_add 93 = .ok (.iinc 6 1, 3) := by decide +kernel
theorem dX3_add_96 : decode cX3_add 96 = .ok (.goto (-43), 3) := by decide +kernel
theorem dX3_add_99 : decode cX3_add 99 = .ok (.aload_n 0, 1) := by decide +kernel
theorem dX3_add_100 : decode cX3_add 100 = .ok (.getfield 33, 3) := by decide +kernel
theorem dX3_add_103 : decode cX3_add 103 = .ok (.iload 4, 2) := by decide +kernel
theorem dX3_add_105 : decode cX3_add 105 = .ok (.iconst 5, 1) := by decide +kernel
theorem dX3_add_106 : decode cX3_add 106 = .ok (.imul, 1) := by decide +kernel
theorem dX3_add_107 : decode cX3_add 107 = .ok (.iload_n 1, 1) := by decide +kernel
theorem dX3_add_108 : decode cX3_add 108 = .ok (.iadd, 1) := by decide +kernel
theorem dX3_add_109 : decode cX3_add 109 = .ok (.dup2, 1) := by decide +kernel
theorem dX3_add_110 : decode cX3_add 110 = .ok (.iaload, 1) := by decide +kernel
theorem dX3_add_111 : decode cX3_add 111 = .ok (.iconst 1, 1) := by decide +kernel
theorem dX3_add_112 : decode cX3_add 112 = .ok (.iadd, 1) := by decide +kernel
theorem dX3_add_113 : decode cX3_add 113 = .ok (.iastore, 1) := by decide +kernel
theorem dX3_add_114 : decode cX3_add 114 = .ok (.aload_n 0, 1) := by decide +kernel
theorem dX3_add_115 : decode cX3_add 115 = .ok (.getfield 36, 3) := by decide +kernel
theorem dX3_add_118 : decode cX3_add 118 = .ok (.iload_n 1, 1) := by decide +kernel
theorem dX3_add_119 : decode cX3_add 119 = .ok (.dup2, 1) := by decide +kernel
theorem dX3_add_120 : decode cX3_add 120 = .ok (.iaload, 1) := by decide +kernel
theorem dX3_add_121 : decode cX3_add 121 = .ok (.iconst 1, 1) := by decide +kernel
theorem dX3_add_122 : decode cX3_add 122 = .ok (.iadd, 1) := by decide +kernel
theorem dX3_add_123 : decode cX3_add 123 = .ok (.iastore, 1) := by decide +kernel
theorem dX3_add_124 : decode cX3_add 124 = .ok (.aload_n 0, 1) := by decide +kernel
theorem dX3_add_125 : decode cX3_add 125 = .ok (.dup, 1) := by decide +kernel
theorem dX3_add_126 : decode cX3_add 126 = .ok (.getfield 39, 3) := by decide +kernel
theorem dX3_add_129 : decode cX3_add 129 = .ok (.iconst 1, 1) := by decide +kernel
theorem dX3_add_130 : decode cX3_add 130 = .ok (.iadd, 1) := by decide +kernel
theorem dX3_add_131 : decode cX3_add 131 = .ok (.putfield 39, 3) := by decide +kernel
theorem dX3_add_134 : decode cX3_add 134 = .ok (.iload 4, 2) := by decide +kernel
theorem dX3_add_136 : decode cX3_add 136 = .ok (.ireturn, 1) := by decide +kernel
theorem dX3_describe_0 : decode cX3_describe 0 = .ok (.aload_n 0, 1) := by decide +kernel
theorem dX3_describe_1 : decode cX3_describe 1 = .ok (.getfield 18, 3) := by decide +kernel
theorem dX3_describe_4 : decode cX3_describe 4 = .ok (.iload_n 1, 1) := by decide +kernel
theorem dX3_describe_5 : decode cX3_describe 5 = .ok (.iload_n 2, 1) := by decide +kernel
theorem dX3_describe_6 : decode cX3_describe 6 = .ok (.iastore, 1) := by decide +kernel
theorem dX3_describe_7 : decode cX3_describe 7 = .ok (.aload_n 0, 1) := by decide +kernel
theorem dX3_describe_8 : decode cX3_describe 8 = .ok (.getfield 21, 3) := by decide +kernel
theorem dX3_describe_11 : decode cX3_describe 11 = .ok (.iload_n 1, 1) := by decide +kernel
theorem dX3_describe_12 : decode cX3_describe 12 = .ok (.iload_n 3, 1) := by decide +kernel
theorem dX3_describe_13 : decode cX3_describe 13 = .ok (.iastore, 1) := by decide +kernel
theorem dX3_describe_14 : decode cX3_describe 14 = .ok (.aload_n 0, 1) := by decide +kernel
theorem dX3_describe_15 : decode cX3_describe 15 = .ok (.getfield 24, 3) := by decide +kernel
theorem dX3_describe_18 : decode cX3_describe 18 = .ok (.iload_n 1, 1) := by decide +kernel
theorem dX3_describe_19 : decode cX3_describe 19 = .ok (.iload 4, 2) := by decide +kernel
theorem dX3_describe_21 : decode cX3_describe 21 = .ok (.iastore, 1) := by decide +kernel
theorem dX3_describe_22 : decode cX3_describe 22 = .ok (.return_, 1) := by decide +kernel
theorem dX3_learnFrom_0 : decode cX3_learnFrom 0 = .ok (.iload_n 2, 1) := by decide +kernel
theorem dX3_learnFrom_1 : decode cX3_learnFrom 1 = .ok (.iconst (-1), 1) := by decide +kernel
theorem dX3_learnFrom_2 : decode cX3_learnFrom 2 = .ok (.if_icmp .ne 4, 3) := by decide +kernel
theorem dX3_learnFrom_5 : decode cX3_learnFrom 5 = .ok (.return_, 1) := by decide +kernel
theorem dX3_learnFrom_6 : decode cX3_learnFrom 6 = .ok (.iconst 0, 1) := by decide +kernel
theorem dX3_learnFrom_7 : decode cX3_learnFrom 7 = .ok (.istore_n 3, 1) := by decide +kernel
theorem dX3_learnFrom_8 : decode cX3_learnFrom 8 = .ok (.iload_n 3, 1) := by decide +kernel
theorem dX3_learnFrom_9 : decode cX3_learnFrom 9 = .ok (.iconst 5, 1) := by decide +kernel
theorem dX3_learnFrom_10 : decode cX3_learnFrom 10 = .ok (.if_icmp .ge 43, 3) := by decide +kernel
theorem dX3_learnFrom_13 : decode cX3_learnFrom 13 = .ok (.iload_n 1, 1) := by decide +kernel
theorem dX3_learnFrom_14 : decode cX3_learnFrom 14 = .ok (.iconst 5, 1) := by decide +kernel
theorem dX3_learnFrom_15 : decode cX3_learnFrom 15 = .ok (.imul, 1) := by decide +kernel
theorem dX3_learnFrom_16 : decode cX3_learnFrom 16 = .ok (.iload_n 3, 1) := by decide +kernel
theorem dX3_learnFrom_17 : decode cX3_learnFrom 17 = .ok (.iadd, 1) := by decide +kernel
theorem dX3_learnFrom_18 : decode cX3_learnFrom 18 = .ok (.istore 4, 2) := by decide +kernel
theorem dX3_learnFrom_20 : decode cX3_learnFrom 20 = .ok (.aload_n 0, 1) := by decide +kernel
theorem dX3_learnFrom_21 : decode cX3_learnFrom 21 = .ok (.getfield 33, 3) := by decide +kernel
theorem dX3_learnFrom_24 : decode cX3_learnFrom 24 = .ok (.iload 4, 2) := by decide +kernel
theorem dX3_learnFrom_26 : decode cX3_learnFrom 26 = .ok (.aload_n 0, 1) := by decide +kernel
theorem dX3_learnFrom_27 : decode cX3_learnFrom 27 = .ok (.getfield 33, 3) := by decide +kernel
theorem dX3_learnFrom_30 : decode cX3_learnFrom 30 = .ok (.iload 4, 2) := by decide +kernel
theorem dX3_learnFrom_32 : decode cX3_learnFrom 32 = .ok (.iaload, 1) := by decide +kernel
theorem dX3_learnFrom_33 : decode cX3_learnFrom 33 = .ok (.aload_n 0, 1) := by decide +kernel
theorem dX3_learnFrom_34 : decode cX3_learnFrom 34 = .ok (.getfield 33, 3) := by decide +kernel
theorem dX3_learnFrom_37 : decode cX3_learnFrom 37 = .ok (.iload_n 2, 1) := by decide +kernel
theorem dX3_learnFrom_38 : decode cX3_learnFrom 38 = .ok (.iconst 5, 1) := by decide +kernel
theorem dX3_learnFrom_39 : decode cX3_learnFrom 39 = .ok (.imul, 1) := by decide +kernel
theorem dX3_learnFrom_40 : decode cX3_learnFrom 40 = .ok (.iload_n 3, 1) := by decide +kernel
theorem dX3_learnFrom_41 : decode cX3_learnFrom 41 = .ok (.iadd, 1) := by decide +kernel
theorem dX3_learnFrom_42 : decode cX3_learnFrom 42 = .ok (.iaload, 1) := by decide +kernel
theorem dX3_learnFrom_43 : decode cX3_learnFrom 43 = .ok (.invokestatic 57, 3) := by decide +kernel
theorem dX3_learnFrom_46 : decode cX3_learnFrom 46 = .ok (.iastore, 1) := by decide +kernel
theorem dX3_learnFrom_47 : decode cX3_learnFrom 47 = .ok (.iinc 3 1, 3) := by decide +kernel
theorem dX3_learnFrom_50 : decode cX3_learnFrom 50 = .ok (.goto (-42), 3) := by decide +kernel
theorem dX3_learnFrom_53 : decode cX3_learnFrom 53 = .ok (.return_, 1) := by decide +kernel
theorem dX3_latestOf_0 : decode cX3_latestOf 0 = .ok (.aload_n 0, 1) := by decide +kernel
theorem dX3_latestOf_1 : decode cX3_latestOf 1 = .ok (.getfield 39, 3) := by decide +kernel
theorem dX3_latestOf_4 : decode cX3_latestOf 4 = .ok (.iconst 1, 1) := by decide +kernel
theorem dX3_latestOf_5 : decode cX3_latestOf 5 = .ok (.isub, 1) := by decide +kernel
theorem dX3_latestOf_6 : decode cX3_latestOf 6 = .ok (.istore_n 2, 1) := by decide +kernel
theorem dX3_latestOf_7 : decode cX3_latestOf 7 = .ok (.iload_n 2, 1) := by decide +kernel
theorem dX3_latestOf_8 : decode cX3_latestOf 8 = .ok (.ifCond .lt 21, 3) := by decide +kernel
theorem dX3_latestOf_11 : decode cX3_latestOf 11 = .ok (.aload_n 0, 1) := by decide +kernel
theorem dX3_latestOf_12 : decode cX3_latestOf 12 = .ok (.getfield 9, 3) := by decide +kernel
theorem dX3_latestOf_15 : decode cX3_latestOf 15 = .ok (.iload_n 2, 1) := by decide +kernel
theorem dX3_latestOf_16 : decode cX3_latestOf 16 = .ok (.iaload, 1) := by decide +kernel
theorem dX3_latestOf_17 : decode cX3_latestOf 17 = .ok (.iload_n 1, 1) := by decide +kernel
theorem dX3_latestOf_18 : decode cX3_latestOf 18 = .ok (.if_icmp .ne 5, 3) := by decide +kernel
theorem dX3_latestOf_21 : decode cX3_latestOf 21 = .ok (.iload_n 2, 1) := by decide +kernel
theorem dX3_latestOf_22 : decode cX3_latestOf 22 = .ok (.ireturn, 1) := by decide +kernel
theorem dX3_latestOf_23 : decode cX3_latestOf 23 = .ok (.iinc 2 (-1), 3) := by decide +kernel
theorem dX3_latestOf_26 : decode cX3_latestOf 26 = .ok (.goto (-19), 3) := by decide +kernel
theorem dX3_latestOf_29 : decode cX3_latestOf 29 = .ok (.iconst (-1), 1) := by decide +kernel
theorem dX3_latestOf_30 : decode cX3_latestOf 30 = .ok (.ireturn, 1) := by decide +kernel
theorem dX3_happensBefore_0 : decode cX3_happensBefore 0 = .ok (.iload_n 1, 1) := by decide +kernel
theorem dX3_happensBefore_1 : decode cX3_happensBefore 1 = .ok (.iload_n 2, 1) := by decide +kernel
theorem dX3_happensBefore_2 : decode cX3_happensBefore 2 = .ok (.if_icmp .eq 31, 3) := by decide +kernel
theorem dX3_happensBefore_5 : decode cX3_happensBefore 5 = .ok (.aload_n 0, 1) := by decide +kernel
theorem dX3_happensBefore_6 : decode cX3_happensBefore 6 = .ok (.getfield 33, 3) := by decide +kernel
theorem dX3_happensBefore_9 : decode cX3_happensBefore 9 = .ok (.iload_n 2, 1) := by decide +kernel
theorem dX3_happensBefore_10 : decode cX3_happensBefore 10 = .ok (.iconst 5, 1) := by decide +kernel
theorem dX3_happensBefore_11 : decode cX3_happensBefore 11 = .ok (.imul, 1) := by decide +kernel
theorem dX3_happensBefore_12 : decode cX3_happensBefore 12 = .ok (.aload_n 0, 1) := by decide +kernel
theorem dX3_happensBefore_13 : decode cX3_happensBefore 13 = .ok (.getfield 9, 3) := by decide +kernel
theorem dX3_happensBefore_16 : decode cX3_happensBefore 16 = .ok (.iload_n 1, 1) := by decide +kernel
theorem dX3_happensBefore_17 : decode cX3_happensBefore 17 = .ok (.iaload, 1) := by decide +kernel
theorem dX3_happensBefore_18 : decode cX3_happensBefore 18 = .ok (.iadd, 1) := by decide +kernel
theorem dX3_happensBefore_19 : decode cX3_happensBefore 19 = .ok (.iaload, 1) := by decide +kernel
theorem dX3_happensBefore_20 : decode cX3_happensBefore 20 = .ok (.aload_n 0, 1) := by decide +kernel
theorem dX3_happensBefore_21 : decode cX3_happensBefore 21 = .ok (.getfield 30, 3) := by decide +kernel
theorem dX3_happensBefore_24 : decode cX3_happensBefore 24 = .ok (.iload_n 1, 1) := by decide +kernel
theorem dX3_happensBefore_25 : decode cX3_happensBefore 25 = .ok (.iaload, 1) := by decide +kernel
theorem dX3_happensBefore_26 : decode cX3_happensBefore 26 = .ok (.if_icmp .le 7, 3) := by decide +kernel
theorem dX3_happensBefore_29 : decode cX3_happensBefore 29 = .ok (.iconst 1, 1) := by decide +kernel
theorem dX3_happensBefore_30 : decode cX3_happensBefore 30 = .ok (.goto 4, 3) := by decide +kernel
theorem dX3_happensBefore_33 : decode cX3_happensBefore 33 = .ok (.iconst 0, 1) := by decide +kernel
theorem dX3_happensBefore_34 : decode cX3_happensBefore 34 = .ok (.ireturn, 1) := by decide +kernel
theorem dX4_init_0 : decode cX4_init 0 = .ok (.aload_n 0, 1) := by decide +kernel
theorem dX4_init_1 : decode cX4_init 1 = .ok (.invokespecial 3, 3) := by decide +kernel
theorem dX4_init_4 : decode cX4_init 4 = .ok (.aload_n 0, 1) := by decide +kernel
theorem dX4_init_5 : decode cX4_init 5 = .ok (.iconst 2, 1) := by decide +kernel
theorem dX4_init_6 : decode cX4_init 6 = .ok (.anewarray 9, 3) := by decide +kernel
theorem dX4_init_9 : decode cX4_init 9 = .ok (.dup, 1) := by decide +kernel
theorem dX4_init_10 : decode cX4_init 10 = .ok (.iconst 0, 1) := by decide +kernel
theorem dX4_init_11 : decode cX4_init 11 = .ok (.new 9, 3) := by decide +kernel
theorem dX4_init_14 : decode cX4_init 14 = .ok (.dup, 1) := by decide +kernel
theorem dX4_init_15 : decode cX4_init 15 = .ok (.invokespecial 11, 3) := by decide +kernel
theorem dX4_init_18 : decode cX4_init 18 = .ok (.aastore, 1) := by decide +kernel
theorem dX4_init_19 : decode cX4_init 19 = .ok (.dup, 1) := by decide +kernel
theorem dX4_init_20 : decode cX4_init 20 = .ok (.iconst 1, 1) := by decide +kernel
theorem dX4_init_21 : decode cX4_init 21 = .ok (.new 9, 3) := by decide +kernel
theorem dX4_init_24 : decode cX4_init 24 = .ok (.dup, 1) := by decide +kernel
theorem dX4_init_25 : decode cX4_init 25 = .ok (.invokespecial 11, 3) := by decide +kernel
theorem dX4_init_28 : decode cX4_init 28 = .ok (.aastore, 1) := by decide +kernel
theorem dX4_init_29 : decode cX4_init 29 = .ok (.putfield 12, 3) := by decide +kernel
theorem dX4_init_32 : decode cX4_init 32 = .ok (.return_, 1) := by decide +kernel
theorem dX4_layOut_0 : decode cX4_layOut 0 = .ok (.iconst 0, 1) := by decide +kernel
theorem dX4_layOut_1 : decode cX4_layOut 1 = .ok (.istore 4, 2) := by decide +kernel
theorem dX4_layOut_3 : decode cX4_layOut 3 = .ok (.iload 4, 2) := by decide +kernel
theorem dX4_layOut_5 : decode cX4_layOut 5 = .ok (.iconst 2, 1) := by decide +kernel
theorem dX4_layOut_6 : decode cX4_layOut 6 = .ok (.if_icmp .ge 63, 3) := by decide +kernel
theorem dX4_layOut_9 : decode cX4_layOut 9 = .ok (.aload_n 0, 1) := by decide +kernel
theorem dX4_layOut_10 : decode cX4_layOut 10 = .ok (.getfield 12, 3) := by decide +kernel
theorem dX4_layOut_13 : decode cX4_layOut 13 = .ok (.iload 4, 2) := by decide +kernel
theorem dX4_layOut_15 : decode cX4_layOut 15 = .ok (.aaload, 1) := by decide +kernel
theorem dX4_layOut_16 : decode cX4_layOut 16 = .ok (.aload_n 1, 1) := by decide +kernel
theorem dX4_layOut_17 : decode cX4_layOut 17 = .ok (.getfield 18, 3) := by decide +kernel
theorem dX4_layOut_20 : decode cX4_layOut 20 = .ok (.aload_n 3, 1) := by decide +kernel
theorem dX4_layOut_21 : decode cX4_layOut 21 = .ok (.invokevirtual 24, 3) := by decide +kernel
theorem dX4_layOut_24 : decode cX4_layOut 24 = .ok (.aload_n 0, 1) := by decide +kernel
theorem dX4_layOut_25 : decode cX4_layOut 25 = .ok (.aload_n 2, 1) := by decide +kernel
theorem dX4_layOut_26 : decode cX4_layOut 26 = .ok (.aload_n 1, 1) := by decide +kernel
theorem dX4_layOut_27 : decode cX4_layOut 27 = .ok (.iload 4, 2) := by decide +kernel
theorem dX4_layOut_29 : decode cX4_layOut 29 = .ok (.invokevirtual 28, 3) := by decide +kernel
theorem dX4_layOut_32 : decode cX4_layOut 32 = .ok (.ifCond .eq 16, 3) := by decide +kernel
theorem dX4_layOut_35 : decode cX4_layOut 35 = .ok (.aload_n 0, 1) := by decide +kernel
theorem dX4_layOut_36 : decode cX4_layOut 36 = .ok (.getfield 12, 3) := by decide +kernel
theorem dX4_layOut_39 : decode cX4_layOut 39 = .ok (.iload 4, 2) := by decide +kernel
theorem dX4_layOut_41 : decode cX4_layOut 41 = .ok (.aaload, 1) := by decide +kernel
theorem dX4_layOut_42 : decode cX4_layOut 42 = .ok (.invokevirtual 32, 3) := by decide +kernel
theorem dX4_layOut_45 : decode cX4_layOut 45 = .ok (.ifCond .ne 5, 3) := by decide +kernel
theorem dX4_layOut_48 : decode cX4_layOut 48 = .ok (.iconst 0, 1) := by decide +kernel
theorem dX4_layOut_49 : decode cX4_layOut 49 = .ok (.ireturn, 1) := by decide +kernel
theorem dX4_layOut_50 : decode cX4_layOut 50 = .ok (.aload_n 0, 1) := by decide +kernel
theorem dX4_layOut_51 : decode cX4_layOut 51 = .ok (.getfield 12, 3) := by decide +kernel
theorem dX4_layOut_54 : decode cX4_layOut 54 = .ok (.iload 4, 2) := by decide +kernel
theorem dX4_layOut_56 : decode cX4_layOut 56 = .ok (.aaload, 1) := by decide +kernel
theorem dX4_layOut_57 : decode cX4_layOut 57 = .ok (.aload_n 1, 1) := by decide +kernel
theorem dX4_layOut_58 : decode cX4_layOut 58 = .ok (.iload 4, 2) := by decide +kernel
theorem dX4_layOut_60 : decode cX4_layOut 60 = .ok (.invokevirtual 36, 3) := by decide +kernel
theorem dX4_layOut_63 : decode cX4_layOut 63 = .ok (.iinc 4 1, 3) := by decide +kernel
theorem dX4_layOut_66 : decode cX4_layOut 66 = .ok (.goto (-63), 3) := by decide +kernel
theorem dX4_layOut_69 : decode cX4_layOut 69 = .ok (.iconst 1, 1) := by decide +kernel
theorem dX4_layOut_70 : decode cX4_layOut 70 = .ok (.ireturn, 1) := by decide +kernel
theorem dX4_obey_0 : decode cX4_obey 0 = .ok (.iconst 0, 1) := by decide +kernel
theorem dX4_obey_1 : decode cX4_obey 1 = .ok (.istore 4, 2) := by decide +kernel
theorem dX4_obey_3 : decode cX4_obey 3 = .ok (.iload 4, 2) := by decide +kernel
theorem dX4_obey_5 : decode cX4_obey 5 = .ok (.aload_n 1, 1) := by decide +kernel
theorem dX4_obey_6 : decode cX4_obey 6 = .ok (.getfield 40, 3) := by decide +kernel
theorem dX4_obey_9 : decode cX4_obey 9 = .ok (.if_icmp .ge 124, 3) := by decide +kernel
theorem dX4_obey_12 : decode cX4_obey 12 = .ok (.aload_n 1, 1) := by decide +kernel
theorem dX4_obey_13 : decode cX4_obey 13 = .ok (.getfield 45, 3) := by decide +kernel
theorem dX4_obey_16 : decode cX4_obey 16 = .ok (.iload 4, 2) := by decide +kernel
theorem dX4_obey_18 : decode cX4_obey 18 = .ok (.iaload, 1) := by decide +kernel
theorem dX4_obey_19 : decode cX4_obey 19 = .ok (.iload_n 3, 1) := by decide +kernel
theorem dX4_obey_20 : decode cX4_obey 20 = .ok (.if_icmp .eq 6, 3) := by decide +kernel
theorem dX4_obey_23 : decode cX4_obey 23 = .ok (.goto 104, 3) := by decide +kernel
theorem dX4_obey_26 : decode cX4_obey 26 = .ok (.aload_n 1, 1) := by decide +kernel
theorem dX4_obey_27 : decode cX4_obey 27 = .ok (.getfield 49, 3) := by decide +kernel
theorem dX4_obey_30 : decode cX4_obey 30 = .ok (.iload 4, 2) := by decide +kernel
theorem dX4_obey_32 : decode cX4_obey 32 = .ok (.iaload, 1) := by decide +kernel
theorem dX4_obey_33 : decode cX4_obey 33 = .ok (.istore 5, 2) := by decide +kernel
theorem dX4_obey_35 : decode cX4_obey 35 = .ok (.iload 5, 2) := by decide +kernel
theorem dX4_obey_37 : decode cX4_obey 37 = .ok (.bipush 9, 2) := by decide +kernel
theorem dX4_obey_39 : decode cX4_obey 39 = .ok (.if_icmp .ne 15, 3) := by decide +kernel
theorem dX4_obey_42 : decode cX4_obey 42 = .ok (.aload_n 1, 1) := by decide +kernel
theorem dX4_obey_43 : decode cX4_obey 43 = .ok (.iload 4, 2) := by decide +kernel
theorem dX4_obey_45 : decode cX4_obey 45 = .ok (.aload_n 2, 1) := by decide +kernel
theorem dX4_obey_46 : decode cX4_obey 46 = .ok (.invokevirtual 52, 3) := by decide +kernel
theorem dX4_obey_49 : decode cX4_obey 49 = .ok (.ifCond .ne 78, 3) := by decide +kernel
theorem dX4_obey_52 : decode cX4_obey 52 = .ok (.iconst 0, 1) := by decide +kernel
theorem dX4_obey_53 : decode cX4_obey 53 = .ok (.ireturn, 1) := by decide +kernel
theorem dX4_obey_54 : decode cX4_obey 54 = .ok (.iload 5, 2) := by decide +kernel
theorem dX4_obey_56 : decode cX4_obey 56 = .ok (.bipush 8, 2) := by decide +kernel
theorem dX4_obey_58 : decode cX4_obey 58 = .ok (.if_icmp .ne 44, 3) := by decide +kernel
theorem dX4_obey_61 : decode cX4_obey 61 = .ok (.aload_n 2, 1) := by decide +kernel
theorem dX4_obey_62 : decode cX4_obey 62 = .ok (.getfield 56, 3) := by decide +kernel
theorem dX4_obey_65 : decode cX4_obey 65 = .ok (.iload_n 3, 1) := by decide +kernel
theorem dX4_obey_66 : decode cX4_obey 66 = .ok (.iaload, 1) := by decide +kernel
theorem dX4_obey_67 : decode cX4_obey 67 = .ok (.istore 6, 2) := by decide +kernel
theorem dX4_obey_69 : decode cX4_obey 69 = .ok (.aload_n 0, 1) := by decide +kernel
theorem dX4_obey_70 : decode cX4_obey 70 = .ok (.getfield 12, 3) := by decide +kernel
theorem dX4_obey_73 : decode cX4_obey 73 = .ok (.iload_n 3, 1) := by decide +kernel
theorem dX4_obey_74 : decode cX4_obey 74 = .ok (.aaload, 1) := by decide +kernel
theorem dX4_obey_75 : decode cX4_obey 75 = .ok (.bipush 6, 2) := by decide +kernel
theorem dX4_obey_77 : decode cX4_obey 77 = .ok (.iconst 5, 1) := by decide +kernel
theorem dX4_obey_78 : decode cX4_obey 78 = .ok (.aload_n 1, 1) := by decide +kernel
theorem dX4_obey_79 : decode cX4_obey 79 = .ok (.iload 4, 2) := by decide +kernel
theorem dX4_obey_81 : decode cX4_obey 81 = .ok (.invokevirtual 59, 3) := by decide +kernel
theorem dX4_obey_84 : decode cX4_obey 84 = .ok (.iload 6, 2) := by decide +kernel
theorem dX4_obey_86 : decode cX4_obey 86 = .ok (.isub, 1) := by decide +kernel
theorem dX4_obey_87 : decode cX4_obey 87 = .ok (.aload_n 1, 1) := by decide +kernel
theorem dX4_obey_88 : decode cX4_obey 88 = .ok (.iload 4, 2) := by decide +kernel
theorem dX4_obey_90 : decode cX4_obey 90 = .ok (.invokevirtual 63, 3) := by decide +kernel
theorem dX4_obey_93 : decode cX4_obey 93 = .ok (.iload 6, 2) := by decide +kernel
theorem dX4_obey_95 : decode cX4_obey 95 = .ok (.isub, 1) := by decide +kernel
theorem dX4_obey_96 : decode cX4_obey 96 = .ok (.invokevirtual 66, 3) := by decide +kernel
theorem dX4_obey_99 : decode cX4_obey 99 = .ok (.goto 28, 3) := by decide +kernel
theorem dX4_obey_102 : decode cX4_obey 102 = .ok (.aload_n 0, 1) := by decide +kernel
theorem dX4_obey_103 : decode cX4_obey 103 = .ok (.getfield 12, 3) := by decide +kernel
theorem dX4_obey_106 : decode cX4_obey 106 = .ok (.iload_n 3, 1) := by decide +kernel
theorem dX4_obey_107 : decode cX4_obey 107 = .ok (.aaload, 1) := by decide +kernel
theorem dX4_obey_108 : decode cX4_obey 108 = .ok (.iload 5, 2) := by decide +kernel
theorem dX4_obey_110 : decode cX4_obey 110 = .ok (.bipush 6, 2) := by decide +kernel
theorem dX4_obey_112 : decode cX4_obey 112 = .ok (.aload_n 1, 1) := by decide +kernel
theorem dX4_obey_113 : decode cX4_obey 113 = .ok (.iload 4, 2) := by decide +kernel
theorem dX4_obey_115 : decode cX4_obey 115 = .ok (.invokevirtual 59, 3) := by decide +kernel
theorem dX4_obey_118 : decode cX4_obey 118 = .ok (.aload_n 1, 1) := by decide +kernel
theorem dX4_obey_119 : decode cX4_obey 119 = .ok (.iload 4, 2) := by decide +kernel
theorem dX4_obey_121 : decode cX4_obey 121 = .ok (.invokevirtual 63, 3) := by decide +kernel
theorem dX4_obey_124 : decode cX4_obey 124 = .ok (.invokevirtual 66, 3) := by decide +kernel
theorem dX4_obey_127 : decode cX4_obey 127 = .ok (.iinc 4 1, 3) := by decide +kernel
theorem dX4_obey_130 : decode cX4_obey 130 = .ok (.goto (-127), 3) := by decide +kernel
theorem dX4_obey_133 : decode cX4_obey 133 = .ok (.iconst 1, 1) := by decide +kernel
theorem dX4_obey_134 : decode cX4_obey 134 = .ok (.ireturn, 1) := by decide +kernel
theorem dX4_totalCost_0 : decode cX4_totalCost 0 = .ok (.aload_n 0, 1) := by decide +kernel
theorem dX4_totalCost_1 : decode cX4_totalCost 1 = .ok (.getfield 12, 3) := by decide +kernel
theorem dX4_totalCost_4 : decode cX4_totalCost 4 = .ok (.iconst 0, 1) := by decide +kernel
theorem dX4_totalCost_5 : decode cX4_totalCost 5 = .ok (.aaload, 1) := by decide +kernel
theorem dX4_totalCost_6 : decode cX4_totalCost 6 = .ok (.invokevirtual 70, 3) := by decide +kernel
theorem dX4_totalCost_9 : decode cX4_totalCost 9 = .ok (.aload_n 0, 1) := by decide +kernel
theorem dX4_totalCost_10 : decode cX4_totalCost 10 = .ok (.getfield 12, 3) := by decide +kernel
theorem dX4_totalCost_13 : decode cX4_totalCost 13 = .ok (.iconst 1, 1) := by decide +kernel
theorem dX4_totalCost_14 : decode cX4_totalCost 14 = .ok (.aaload, 1) := by decide +kernel
theorem dX4_totalCost_15 : decode cX4_totalCost 15 = .ok (.invokevirtual 70, 3) := by decide +kernel
theorem dX4_totalCost_18 : decode cX4_totalCost 18 = .ok (.iadd, 1) := by decide +kernel
theorem dX4_totalCost_19 : decode cX4_totalCost 19 = .ok (.ireturn, 1) := by decide +kernel
theorem dX4_amountMoved_0 : decode cX4_amountMoved 0 = .ok (.aload_n 0, 1) := by decide +kernel
theorem dX4_amountMoved_1 : decode cX4_amountMoved 1 = .ok (.getfield 12, 3) := by decide +kernel
theorem dX4_amountMoved_4 : decode cX4_amountMoved 4 = .ok (.iload_n 3, 1) := by decide +kernel
theorem dX4_amountMoved_5 : decode cX4_amountMoved 5 = .ok (.aaload, 1) := by decide +kernel
theorem dX4_amountMoved_6 : decode cX4_amountMoved 6 = .ok (.iload_n 1, 1) := by decide +kernel
theorem dX4_amountMoved_7 : decode cX4_amountMoved 7 = .ok (.iload_n 2, 1) := by decide +kernel
theorem dX4_amountMoved_8 : decode cX4_amountMoved 8 = .ok (.invokevirtual 74, 3) := by decide +kernel
theorem dX4_amountMoved_11 : decode cX4_amountMoved 11 = .ok (.ireturn, 1) := by decide +kernel
theorem dX4_amountGranted_0 : decode cX4_amountGranted 0 = .ok (.aload_n 0, 1) := by decide +kernel
theorem dX4_amountGranted_1 : decode cX4_amountGranted 1 = .ok (.getfield 12, 3) := by decide +kernel
theorem dX4_amountGranted_4 : decode cX4_amountGranted 4 = .ok (.iload_n 2, 1) := by decide +kernel
theorem dX4_amountGranted_5 : decode cX4_amountGranted 5 = .ok (.aaload, 1) := by decide +kernel
theorem dX4_amountGranted_6 : decode cX4_amountGranted 6 = .ok (.iconst 5, 1) := by decide +kernel
theorem dX4_amountGranted_7 : decode cX4_amountGranted 7 = .ok (.iload_n 1, 1) := by decide +kernel
theorem dX4_amountGranted_8 : decode cX4_amountGranted 8 = .ok (.invokevirtual 74, 3) := by decide +kernel
theorem dX4_amountGranted_11 : decode cX4_amountGranted 11 = .ok (.ireturn, 1) := by decide +kernel
theorem dX4_amountBurnt_0 : decode cX4_amountBurnt 0 = .ok (.aload_n 0, 1) := by decide +kernel
theorem dX4_amountBurnt_1 : decode cX4_amountBurnt 1 = .ok (.getfield 12, 3) := by decide +kernel
theorem dX4_amountBurnt_4 : decode cX4_amountBurnt 4 = .ok (.iload_n 2, 1) := by decide +kernel
theorem dX4_amountBurnt_5 : decode cX4_amountBurnt 5 = .ok (.aaload, 1) := by decide +kernel
theorem dX4_amountBurnt_6 : decode cX4_amountBurnt 6 = .ok (.iload_n 1, 1) := by decide +kernel
theorem dX4_amountBurnt_7 : decode cX4_amountBurnt 7 = .ok (.iconst 5, 1) := by decide +kernel
theorem dX4_amountBurnt_8 : decode cX4_amountBurnt 8 = .ok (.invokevirtual 74, 3) := by decide +kernel
theorem dX4_amountBurnt_11 : decode cX4_amountBurnt 11 = .ok (.ireturn, 1) := by decide +kernel
theorem dX4_stockAfter_0 : decode cX4_stockAfter 0 = .ok (.aload_n 0, 1) := by decide +kernel
theorem dX4_stockAfter_1 : decode cX4_stockAfter 1 = .ok (.getfield 12, 3) := by decide +kernel
theorem dX4_stockAfter_4 : decode cX4_stockAfter 4 = .ok (.iload_n 2, 1) := by decide +kernel
theorem dX4_stockAfter_5 : decode cX4_stockAfter 5 = .ok (.aaload, 1) := by decide +kernel
theorem dX4_stockAfter_6 : decode cX4_stockAfter 6 = .ok (.iload_n 1, 1) := by decide +kernel
theorem dX4_stockAfter_7 : decode cX4_stockAfter 7 = .ok (.bipush 6, 2) := by decide +kernel
theorem dX4_stockAfter_9 : decode cX4_stockAfter 9 = .ok (.invokevirtual 74, 3) := by decide +kernel
theorem dX4_stockAfter_12 : decode cX4_stockAfter 12 = .ok (.ireturn, 1) := by decide +kernel
theorem dX5_init_0 : decode cX5_init 0 = .ok (.aload_n 0, 1) := by decide +kernel
theorem dX5_init_1 : decode cX5_init 1 = .ok (.invokespecial 3, 3) := by decide +kernel
theorem dX5_init_4 : decode cX5_init 4 = .ok (.aload_n 0, 1) := by decide +kernel
theorem dX5_init_5 : decode cX5_init 5 = .ok (.bipush 12, 2) := by decide +kernel
theorem dX5_init_7 : decode cX5_init 7 = .ok (.newarray .int, 2) := by decide +kernel
theorem dX5_init_9 : decode cX5_init 9 = .ok (.putfield 9, 3) := by decide +kernel
theorem dX5_init_12 : decode cX5_init 12 = .ok (.aload_n 0, 1) := by decide +kernel
theorem dX5_init_13 : decode cX5_init 13 = .ok (.bipush 12, 2) := by decide +kernel
theorem dX5_init_15 : decode cX5_init 15 = .ok (.newarray .int, 2) := by decide +kernel
theorem dX5_init_17 : decode cX5_init 17 = .ok (.putfield 15, 3) := by decide +kernel
theorem dX5_init_20 : decode cX5_init 20 = .ok (.aload_n 0, 1) := by decide +kernel
theorem dX5_init_21 : decode cX5_init 21 = .ok (.bipush 12, 2) := by decide +kernel
theorem dX5_init_23 : decode cX5_init 23 = .ok (.newarray .int, 2) := by decide +kernel
theorem dX5_init_25 : decode cX5_init 25 = .ok (.putfield 18, 3) := by decide +kernel
theorem dX5_init_28 : decode cX5_init 28 = .ok (.aload_n 0, 1) := by decide +kernel
theorem dX5_init_29 : decode cX5_init 29 = .ok (.bipush 12, 2) := by decide +kernel
theorem dX5_init_31 : decode cX5_init 31 = .ok (.newarray .int, 2) := by decide +kernel
theorem dX5_init_33 : decode cX5_init 33 = .ok (.putfield 21, 3) := by decide +kernel
theorem dX5_init_36 : decode cX5_init 36 = .ok (.return_, 1) := by decide +kernel
theorem dX5_append_0 : decode cX5_append 0 = .ok (.aload_n 0, 1) := by decide +kernel
theorem dX5_append_1 : decode cX5_append 1 = .ok (.getfield 9, 3) := by decide +kernel
theorem dX5_append_4 : decode cX5_append 4 = .ok (.aload_n 0, 1) := by decide +kernel
theorem dX5_append_5 : decode cX5_append 5 = .ok (.getfield 24, 3) := by decide +kernel
theorem dX5_append_8 : decode cX5_append 8 = .ok (.aload_n 1, 1) := by decide +kernel
theorem dX5_append_9 : decode cX5_append 9 = .ok (.getfield 28, 3) := by decide +kernel
theorem dX5_append_12 : decode cX5_append 12 = .ok (.iastore, 1) := by decide +kernel
theorem dX5_append_13 : decode cX5_append 13 = .ok (.aload_n 0, 1) := by decide +kernel
theorem dX5_append_14 : decode cX5_append 14 = .ok (.getfield 15, 3) := by decide +kernel
theorem dX5_append_17 : decode cX5_append 17 = .ok (.aload_n 0, 1) := by decide +kernel
theorem dX5_append_18 : decode cX5_append 18 = .ok (.getfield 24, 3) := by decide +kernel
theorem dX5_append_21 : decode cX5_append 21 = .ok (.aload_n 1, 1) := by decide +kernel
theorem dX5_append_22 : decode cX5_append 22 = .ok (.getfield 33, 3) := by decide +kernel
theorem dX5_append_25 : decode cX5_append 25 = .ok (.iastore, 1) := by decide +kernel
theorem dX5_append_26 : decode cX5_append 26 = .ok (.aload_n 0, 1) := by decide +kernel
theorem dX5_append_27 : decode cX5_append 27 = .ok (.getfield 18, 3) := by decide +kernel
theorem dX5_append_30 : decode cX5_append 30 = .ok (.aload_n 0, 1) := by decide +kernel
theorem dX5_append_31 : decode cX5_append 31 = .ok (.getfield 24, 3) := by decide +kernel
theorem dX5_append_34 : decode cX5_append 34 = .ok (.aload_n 1, 1) := by decide +kernel
theorem dX5_append_35 : decode cX5_append 35 = .ok (.getfield 36, 3) := by decide +kernel
theorem dX5_append_38 : decode cX5_append 38 = .ok (.iastore, 1) := by decide +kernel
theorem dX5_append_39 : decode cX5_append 39 = .ok (.aload_n 0, 1) := by decide +kernel
theorem dX5_append_40 : decode cX5_append 40 = .ok (.getfield 21, 3) := by decide +kernel
theorem dX5_append_43 : decode cX5_append 43 = .ok (.aload_n 0, 1) := by decide +kernel
theorem dX5_append_44 : decode cX5_append 44 = .ok (.getfield 24, 3) := by decide +kernel
theorem dX5_append_47 : decode cX5_append 47 = .ok (.aload_n 1, 1) := by decide +kernel
theorem dX5_append_48 : decode cX5_append 48 = .ok (.getfield 39, 3) := by decide +kernel
theorem dX5_append_51 : decode cX5_append 51 = .ok (.iastore, 1) := by decide +kernel
theorem dX5_append_52 : decode cX5_append 52 = .ok (.aload_n 0, 1) := by decide +kernel
theorem dX5_append_53 : decode cX5_append 53 = .ok (.dup, 1) := by decide +kernel
theorem dX5_append_54 : decode cX5_append 54 = .ok (.getfield 24, 3) := by decide +kernel
theorem dX5_append_57 : decode cX5_append 57 = .ok (.iconst 1, 1) := by decide +kernel
theorem dX5_append_58 : decode cX5_append 58 = .ok (.iadd, 1) := by decide +kernel
theorem dX5_append_59 : decode cX5_append 59 = .ok (.putfield 24, 3) := by decide +kernel
theorem dX5_append_62 : decode cX5_append 62 = .ok (.return_, 1) := by decide +kernel
theorem dX5_drop_0 : decode cX5_drop 0 = .ok (.aload_n 0, 1) := by decide +kernel
theorem dX5_drop_1 : decode cX5_drop 1 = .ok (.dup, 1) := by decide +kernel
theorem dX5_drop_2 : decode cX5_drop 2 = .ok (.getfield 24, 3) := by decide +kernel
theorem dX5_drop_5 : decode cX5_drop 5 = .ok (.iconst 1, 1) := by decide +kernel
theorem dX5_drop_6 : decode cX5_drop 6 = .ok (.isub, 1) := by decide +kernel
theorem dX5_drop_7 : decode cX5_drop 7 = .ok (.putfield 24, 3) := by decide +kernel
theorem dX5_drop_10 : decode cX5_drop 10 = .ok (.iload_n 1, 1) := by decide +kernel
theorem dX5_drop_11 : decode cX5_drop 11 = .ok (.istore_n 2, 1) := by decide +kernel
theorem dX5_drop_12 : decode cX5_drop 12 = .ok (.iload_n 2, 1) := by decide +kernel
theorem dX5_drop_13 : decode cX5_drop 13 = .ok (.aload_n 0, 1) := by decide +kernel
theorem dX5_drop_14 : decode cX5_drop 14 = .ok (.getfield 24, 3) := by decide +kernel
theorem dX5_drop_17 : decode cX5_drop 17 = .ok (.if_icmp .ge 65, 3) := by decide +kernel
theorem dX5_drop_20 : decode cX5_drop 20 = .ok (.aload_n 0, 1) := by decide +kernel
theorem dX5_drop_21 : decode cX5_drop 21 = .ok (.getfield 9, 3) := by decide +kernel
theorem dX5_drop_24 : decode cX5_drop 24 = .ok (.iload_n 2, 1) := by decide +kernel
theorem dX5_drop_25 : decode cX5_drop 25 = .ok (.aload_n 0, 1) := by decide +kernel
theorem dX5_drop_26 : decode cX5_drop 26 = .ok (.getfield 9, 3) := by decide +kernel
theorem dX5_drop_29 : decode cX5_drop 29 = .ok (.iload_n 2, 1) := by decide +kernel
theorem dX5_drop_30 : decode cX5_drop 30 = .ok (.iconst 1, 1) := by decide +kernel
theorem dX5_drop_31 : decode cX5_drop 31 = .ok (.iadd, 1) := by decide +kernel
theorem dX5_drop_32 : decode cX5_drop 32 = .ok (.iaload, 1) := by decide +kernel
theorem dX5_drop_33 : decode cX5_drop 33 = .ok (.iastore, 1) := by decide +kernel
theorem dX5_drop_34 : decode cX5_drop 34 = .ok (.aload_n 0, 1) := by decide +kernel
theorem dX5_drop_35 : decode cX5_drop 35 = .ok (.getfield 15, 3) := by decide +kernel
theorem dX5_drop_38 : decode cX5_drop 38 = .ok (.iload_n 2, 1) := by decide +kernel
theorem dX5_drop_39 : decode cX5_drop 39 = .ok (.aload_n 0, 1) := by decide +kernel
theorem dX5_drop_40 : decode cX5_drop 40 = .ok (.getfield 15, 3) := by decide +kernel
theorem dX5_drop_43 : decode cX5_drop 43 = .ok (.iload_n 2, 1) := by decide +kernel
theorem dX5_drop_44 : decode cX5_drop 44 = .ok (.iconst 1, 1) := by decide +kernel
theorem dX5_drop_45 : decode cX5_drop 45 = .ok (.iadd, 1) := by decide +kernel
theorem dX5_drop_46 : decode cX5_drop 46 = .ok (.iaload, 1) := by decide +kernel
theorem dX5_drop_47 : decode cX5_drop 47 = .ok (.iastore, 1) := by decide +kernel
theorem dX5_drop_48 : decode cX5_drop 48 = .ok (.aload_n 0, 1) := by decide +kernel
theorem dX5_drop_49 : decode cX5_drop 49 = .ok (.getfield 18, 3) := by decide +kernel
theorem dX5_drop_52 : decode cX5_drop 52 = .ok (.iload_n 2, 1) := by decide +kernel
theorem dX5_drop_53 : decode cX5_drop 53 = .ok (.aload_n 0, 1) := by decide +kernel
theorem dX5_drop_54 : decode cX5_drop 54 = .ok (.getfield 18, 3) := by decide +kernel
theorem dX5_drop_57 : decode cX5_drop 57 = .ok (.iload_n 2, 1) := by decide +kernel
theorem dX5_drop_58 : decode cX5_drop 58 = .ok (.iconst 1, 1) := by decide +kernel
theorem dX5_drop_59 : decode cX5_drop 59 = .ok (.iadd, 1) := by decide +kernel
theorem dX5_drop_60 : decode cX5_drop 60 = .ok (.iaload, 1) := by decide +kernel
theorem dX5_drop_61 : decode cX5_drop 61 = .ok (.iastore, 1) := by decide +kernel
theorem dX5_drop_62 : decode cX5_drop 62 = .ok (.aload_n 0, 1) := by decide +kernel
theorem dX5_drop_63 : decode cX5_drop 63 = .ok (.getfield 21, 3) := by decide +kernel
theorem dX5_drop_66 : decode cX5_drop 66 = .ok (.iload_n 2, 1) := by decide +kernel
theorem dX5_drop_67 : decode cX5_drop 67 = .ok (.aload_n 0, 1) := by decide +kernel
theorem dX5_drop_68 : decode cX5_drop 68 = .ok (.getfield 21, 3) := by decide +kernel
theorem dX5_drop_71 : decode cX5_drop 71 = .ok (.iload_n 2, 1) := by decide +kernel
theorem dX5_drop_72 : decode cX5_drop 72 = .ok (.iconst 1, 1) := by decide +kernel
theorem dX5_drop_73 : decode cX5_drop 73 = .ok (.iadd, 1) := by decide +kernel
theorem dX5_drop_74 : decode cX5_drop 74 = .ok (.iaload, 1) := by decide +kernel
theorem dX5_drop_75 : decode cX5_drop 75 = .ok (.iastore, 1) := by decide +kernel
theorem dX5_drop_76 : decode cX5_drop 76 = .ok (.iinc 2 1, 3) := by decide +kernel
theorem dX5_drop_79 : decode cX5_drop 79 = .ok (.goto (-67), 3) := by decide +kernel
theorem dX5_drop_82 : decode cX5_drop 82 = .ok (.return_, 1) := by decide +kernel
theorem dX5_brokenIn_0 : decode cX5_brokenIn 0 = .ok (.iconst 0, 1) := by decide +kernel
theorem dX5_brokenIn_1 : decode cX5_brokenIn 1 = .ok (.istore_n 2, 1) := by decide +kernel
theorem dX5_brokenIn_2 : decode cX5_brokenIn 2 = .ok (.iconst 0, 1) := by decide +kernel
theorem dX5_brokenIn_3 : decode cX5_brokenIn 3 = .ok (.istore_n 3, 1) := by decide +kernel
theorem dX5_brokenIn_4 : decode cX5_brokenIn 4 = .ok (.iload_n 3, 1) := by decide +kernel
theorem dX5_brokenIn_5 : decode cX5_brokenIn 5 = .ok (.aload_n 0, 1) := by decide +kernel
theorem dX5_brokenIn_6 : decode cX5_brokenIn 6 = .ok (.getfield 24, 3) := by decide +kernel
theorem dX5_brokenIn_9 : decode cX5_brokenIn 9 = .ok (.if_icmp .ge 24, 3) := by decide +kernel
theorem dX5_brokenIn_12 : decode cX5_brokenIn 12 = .ok (.aload_n 0, 1) := by decide +kernel
theorem dX5_brokenIn_13 : decode cX5_brokenIn 13 = .ok (.iload_n 3, 1) := by decide +kernel
theorem dX5_brokenIn_14 : decode cX5_brokenIn 14 = .ok (.aload_n 1, 1) := by decide +kernel
theorem dX5_brokenIn_15 : decode cX5_brokenIn 15 = .ok (.invokevirtual 42, 3) := by decide +kernel
theorem dX5_brokenIn_18 : decode cX5_brokenIn 18 = .ok (.ifCond .ne 9, 3) := by decide +kernel
theorem dX5_brokenIn_21 : decode cX5_brokenIn 21 = .ok (.iload_n 2, 1) := by decide +kernel
theorem dX5_brokenIn_22 : decode cX5_brokenIn 22 = .ok (.iconst 1, 1) := by decide +kernel
theorem dX5_brokenIn_23 : decode cX5_brokenIn 23 = .ok (.iload_n 3, 1) := by decide +kernel
theorem dX5_brokenIn_24 : decode cX5_brokenIn 24 = .ok (.ishl, 1) := by decide +kernel
theorem dX5_brokenIn_25 : decode cX5_brokenIn 25 = .ok (.ior, 1) := by decide +kernel
theorem dX5_brokenIn_26 : decode cX5_brokenIn 26 = .ok (.istore_n 2, 1) := by decide +kernel
theorem dX5_brokenIn_27 : decode cX5_brokenIn 27 = .ok (.iinc 3 1, 3) := by decide +kernel
theorem dX5_brokenIn_30 : decode cX5_brokenIn 30 = .ok (.goto (-26), 3) := by decide +kernel
theorem dX5_brokenIn_33 : decode cX5_brokenIn 33 = .ok (.iload_n 2, 1) := by decide +kernel
theorem dX5_brokenIn_34 : decode cX5_brokenIn 34 = .ok (.ireturn, 1) := by decide +kernel
theorem dX5_isKept_0 : decode cX5_isKept 0 = .ok (.aload_n 2, 1) := by decide +kernel
theorem dX5_isKept_1 : decode cX5_isKept 1 = .ok (.aload_n 0, 1) := by decide +kernel
theorem dX5_isKept_2 : decode cX5_isKept 2 = .ok (.getfield 9, 3) := by decide +kernel
theorem dX5_isKept_5 : decode cX5_isKept 5 = .ok (.iload_n 1, 1) := by decide +kernel
theorem dX5_isKept_6 : decode cX5_isKept 6 = .ok (.iaload, 1) := by decide +kernel
theorem dX5_isKept_7 : decode cX5_isKept 7 = .ok (.aload_n 0, 1) := by decide +kernel
theorem dX5_isKept_8 : decode cX5_isKept 8 = .ok (.getfield 15, 3) := by decide +kernel
theorem dX5_isKept_11 : decode cX5_isKept 11 = .ok (.iload_n 1, 1) := by decide +kernel
theorem dX5_isKept_12 : decode cX5_isKept 12 = .ok (.iaload, 1) := by decide +kernel
theorem dX5_isKept_13 : decode cX5_isKept 13 = .ok (.invokevirtual 46, 3) := by decide +kernel
theorem dX5_isKept_16 : decode cX5_isKept 16 = .ok (.aload_n 0, 1) := by decide +kernel
theorem dX5_isKept_17 : decode cX5_isKept 17 = .ok (.iload_n 1, 1) := by decide +kernel
theorem dX5_isKept_18 : decode cX5_isKept 18 = .ok (.invokevirtual 52, 3) := by decide +kernel
theorem dX5_isKept_21 : decode cX5_isKept 21 = .ok (.aload_n 0, 1) := by decide +kernel
theorem dX5_isKept_22 : decode cX5_isKept 22 = .ok (.iload_n 1, 1) := by decide +kernel
theorem dX5_isKept_23 : decode cX5_isKept 23 = .ok (.invokevirtual 56, 3) := by decide +kernel
theorem dX5_isKept_26 : decode cX5_isKept 26 = .ok (.invokestatic 59, 3) := by decide +kernel
theorem dX5_isKept_29 : decode cX5_isKept 29 = .ok (.ireturn, 1) := by decide +kernel
theorem dX5_lowest_0 : decode cX5_lowest 0 = .ok (.aload_n 0, 1) := by decide +kernel
theorem dX5_lowest_1 : decode cX5_lowest 1 = .ok (.getfield 18, 3) := by decide +kernel
theorem dX5_lowest_4 : decode cX5_lowest 4 = .ok (.iload_n 1, 1) := by decide +kernel
theorem dX5_lowest_5 : decode cX5_lowest 5 = .ok (.iaload, 1) := by decide +kernel
theorem dX5_lowest_6 : decode cX5_lowest 6 = .ok (.ifCond .ne 8, 3) := by decide +kernel
theorem dX5_lowest_9 : decode cX5_lowest 9 = .ok (.ldc 63, 2) := by decide +kernel
theorem dX5_lowest_11 : decode cX5_lowest 11 = .ok (.goto 9, 3) := by decide +kernel
theorem dX5_lowest_14 : decode cX5_lowest 14 = .ok (.aload_n 0, 1) := by decide +kernel
theorem dX5_lowest_15 : decode cX5_lowest 15 = .ok (.getfield 21, 3) := by decide +kernel
theorem dX5_lowest_18 : decode cX5_lowest 18 = .ok (.iload_n 1, 1) := by decide +kernel
theorem dX5_lowest_19 : decode cX5_lowest 19 = .ok (.iaload, 1) := by decide +kernel
theorem dX5_lowest_20 : decode cX5_lowest 20 = .ok (.ireturn, 1) := by decide +kernel
theorem dX5_highest_0 : decode cX5_highest 0 = .ok (.aload_n 0, 1) := by decide +kernel
theorem dX5_highest_1 : decode cX5_highest 1 = .ok (.getfield 18, 3) := by decide +kernel
theorem dX5_highest_4 : decode cX5_highest 4 = .ok (.iload_n 1, 1) := by decide +kernel
theorem dX5_highest_5 : decode cX5_highest 5 = .ok (.iaload, 1) := by decide +kernel
theorem dX5_highest_6 : decode cX5_highest 6 = .ok (.iconst 1, 1) := by decide +kernel
theorem dX5_highest_7 : decode cX5_highest 7 = .ok (.if_icmp .ne 8, 3) := by decide +kernel
theorem dX5_highest_10 : decode cX5_highest 10 = .ok (.ldc 64, 2) := by decide +kernel
theorem dX5_highest_12 : decode cX5_highest 12 = .ok (.goto 9, 3) := by decide +kernel
theorem dX5_highest_15 : decode cX5_highest 15 = .ok (.aload_n 0, 1) := by decide +kernel
theorem dX5_highest_16 : decode cX5_highest 16 = .ok (.getfield 21, 3) := by decide +kernel
theorem dX5_highest_19 : decode cX5_highest 19 = .ok (.iload_n 1, 1) := by decide +kernel
theorem dX5_highest_20 : decode cX5_highest 20 = .ok (.iaload, 1) := by decide +kernel
theorem dX5_highest_21 : decode cX5_highest 21 = .ok (.ireturn, 1) := by decide +kernel
theorem dX6_init_0 : decode cX6_init 0 = .ok (.aload_n 0, 1) := by decide +kernel
theorem dX6_init_1 : decode cX6_init 1 = .ok (.invokespecial 3, 3) := by decide +kernel
theorem dX6_init_4 : decode cX6_init 4 = .ok (.aload_n 0, 1) := by decide +kernel
theorem dX6_init_5 : decode cX6_init 5 = .ok (.bipush 20, 2) := by decide +kernel
theorem dX6_init_7 : decode cX6_init 7 = .ok (.newarray .char, 2) := by decide +kernel
theorem dX6_init_9 : decode cX6_init 9 = .ok (.putfield 9, 3) := by decide +kernel
theorem dX6_init_12 : decode cX6_init 12 = .ok (.return_, 1) := by decide +kernel
theorem dX6_append_0 : decode cX6_append 0 = .ok (.aload_n 0, 1) := by decide +kernel
theorem dX6_append_1 : decode cX6_append 1 = .ok (.getfield 9, 3) := by decide +kernel
theorem dX6_append_4 : decode cX6_append 4 = .ok (.aload_n 0, 1) := by decide +kernel
theorem dX6_append_5 : decode cX6_append 5 = .ok (.getfield 15, 3) := by decide +kernel
theorem dX6_append_8 : decode cX6_append 8 = .ok (.iload_n 1, 1) := by decide +kernel
theorem dX6_append_9 : decode cX6_append 9 = .ok (.castore, 1) := by decide +kernel
theorem dX6_append_10 : decode cX6_append 10 = .ok (.aload_n 0, 1) := by decide +kernel
theorem dX6_append_11 : decode cX6_append 11 = .ok (.dup, 1) := by decide +kernel
theorem dX6_append_12 : decode cX6_append 12 = .ok (.getfield 15, 3) := by decide +kernel
theorem dX6_append_15 : decode cX6_append 15 = .ok (.iconst 1, 1) := by decide +kernel
theorem dX6_append_16 : decode cX6_append 16 = .ok (.iadd, 1) := by decide +kernel
theorem dX6_append_17 : decode cX6_append 17 = .ok (.putfield 15, 3) := by decide +kernel
theorem dX6_append_20 : decode cX6_append 20 = .ok (.return_, 1) := by decide +kernel
theorem dX6_read_0 : decode cX6_read 0 = .ok (.aload_n 0, 1) := by decide +kernel
theorem dX6_read_1 : decode cX6_read 1 = .ok (.aload_n 0, 1) := by decide +kernel
theorem dX6_read_2 : decode cX6_read 2 = .ok (.aload_n 0, 1) := by decide +kernel
theorem dX6_read_3 : decode cX6_read 3 = .ok (.iconst 0, 1) := by decide +kernel
theorem dX6_read_4 : decode cX6_read 4 = .ok (.invokevirtual 19, 3) := by decide +kernel
theorem dX6_read_7 : decode cX6_read 7 = .ok (.iload_n 1, 1) := by decide +kernel
theorem dX6_read_8 : decode cX6_read 8 = .ok (.invokevirtual 23, 3) := by decide +kernel
theorem dX6_read_11 : decode cX6_read 11 = .ok (.putfield 27, 3) := by decide +kernel
theorem dX6_read_14 : decode cX6_read 14 = .ok (.aload_n 0, 1) := by decide +kernel
theorem dX6_read_15 : decode cX6_read 15 = .ok (.getfield 27, 3) := by decide +kernel
theorem dX6_read_18 : decode cX6_read 18 = .ok (.iconst (-1), 1) := by decide +kernel
theorem dX6_read_19 : decode cX6_read 19 = .ok (.if_icmp .ne 5, 3) := by decide +kernel
theorem dX6_read_22 : decode cX6_read 22 = .ok (.iconst 0, 1) := by decide +kernel
theorem dX6_read_23 : decode cX6_read 23 = .ok (.ireturn, 1) := by decide +kernel
theorem dX6_read_24 : decode cX6_read 24 = .ok (.aload_n 0, 1) := by decide +kernel
theorem dX6_read_25 : decode cX6_read 25 = .ok (.aload_n 0, 1) := by decide +kernel
theorem dX6_read_26 : decode cX6_read 26 = .ok (.iconst 1, 1) := by decide +kernel
theorem dX6_read_27 : decode cX6_read 27 = .ok (.invokevirtual 19, 3) := by decide +kernel
theorem dX6_read_30 : decode cX6_read 30 = .ok (.bipush 97, 2) := by decide +kernel
theorem dX6_read_32 : decode cX6_read 32 = .ok (.isub, 1) := by decide +kernel
theorem dX6_read_33 : decode cX6_read 33 = .ok (.putfield 30, 3) := by decide +kernel
theorem dX6_read_36 : decode cX6_read 36 = .ok (.aload_n 0, 1) := by decide +kernel
theorem dX6_read_37 : decode cX6_read 37 = .ok (.getfield 30, 3) := by decide +kernel
theorem dX6_read_40 : decode cX6_read 40 = .ok (.invokestatic 33, 3) := by decide +kernel
theorem dX6_read_43 : decode cX6_read 43 = .ok (.ifCond .ne 5, 3) := by decide +kernel
theorem dX6_read_46 : decode cX6_read 46 = .ok (.iconst 1, 1) := by decide +kernel
theorem dX6_read_47 : decode cX6_read 47 = .ok (.ireturn, 1) := by decide +kernel
theorem dX6_read_48 : decode cX6_read 48 = .ok (.aload_n 0, 1) := by decide +kernel
theorem dX6_read_49 : decode cX6_read 49 = .ok (.aload_n 0, 1) := by decide +kernel
theorem dX6_read_50 : decode cX6_read 50 = .ok (.aload_n 0, 1) := by decide +kernel
theorem dX6_read_51 : decode cX6_read 51 = .ok (.iconst 2, 1) := by decide +kernel
theorem dX6_read_52 : decode cX6_read 52 = .ok (.invokevirtual 19, 3) := by decide +kernel
theorem dX6_read_55 : decode cX6_read 55 = .ok (.invokevirtual 37, 3) := by decide +kernel
theorem dX6_read_58 : decode cX6_read 58 = .ok (.putfield 40, 3) := by decide +kernel
theorem dX6_read_61 : decode cX6_read 61 = .ok (.aload_n 0, 1) := by decide +kernel
theorem dX6_read_62 : decode cX6_read 62 = .ok (.getfield 40, 3) := by decide +kernel
theorem dX6_read_65 : decode cX6_read 65 = .ok (.iconst (-1), 1) := by decide +kernel
theorem dX6_read_66 : decode cX6_read 66 = .ok (.if_icmp .ne 5, 3) := by decide +kernel
theorem dX6_read_69 : decode cX6_read 69 = .ok (.iconst 2, 1) := by decide +kernel
theorem dX6_read_70 : decode cX6_read 70 = .ok (.ireturn, 1) := by decide +kernel
theorem dX6_read_71 : decode cX6_read 71 = .ok (.aload_n 0, 1) := by decide +kernel
theorem dX6_read_72 : decode cX6_read 72 = .ok (.getfield 40, 3) := by decide +kernel
theorem dX6_read_75 : decode cX6_read 75 = .ok (.iconst 2, 1) := by decide +kernel
theorem dX6_read_76 : decode cX6_read 76 = .ok (.if_icmp .ne 9, 3) := by decide +kernel
theorem dX6_read_79 : decode cX6_read 79 = .ok (.aload_n 0, 1) := by decide +kernel
theorem dX6_read_80 : decode cX6_read 80 = .ok (.iconst 3, 1) := by decide +kernel
theorem dX6_read_81 : decode cX6_read 81 = .ok (.invokevirtual 43, 3) := by decide +kernel
theorem dX6_read_84 : decode cX6_read 84 = .ok (.ireturn, 1) := by decide +kernel
theorem dX6_read_85 : decode cX6_read 85 = .ok (.aload_n 0, 1) := by decide +kernel
theorem dX6_read_86 : decode cX6_read 86 = .ok (.iconst 3, 1) := by decide +kernel
theorem dX6_read_87 : decode cX6_read 87 = .ok (.invokevirtual 19, 3) := by decide +kernel
theorem dX6_read_90 : decode cX6_read 90 = .ok (.bipush 61, 2) := by decide +kernel
theorem dX6_read_92 : decode cX6_read 92 = .ok (.if_icmp .ne 11, 3) := by decide +kernel
theorem dX6_read_95 : decode cX6_read 95 = .ok (.aload_n 0, 1) := by decide +kernel
theorem dX6_read_96 : decode cX6_read 96 = .ok (.iconst 4, 1) := by decide +kernel
theorem dX6_read_97 : decode cX6_read 97 = .ok (.invokevirtual 43, 3) := by decide +kernel
theorem dX6_read_100 : decode cX6_read 100 = .ok (.goto 4, 3) := by decide +kernel
theorem dX6_read_103 : decode cX6_read 103 = .ok (.iconst 3, 1) := by decide +kernel
theorem dX6_read_104 : decode cX6_read 104 = .ok (.ireturn, 1) := by decide +kernel
theorem dX6_readNumber_0 : decode cX6_readNumber 0 = .ok (.iload_n 1, 1) := by decide +kernel
theorem dX6_readNumber_1 : decode cX6_readNumber 1 = .ok (.istore_n 2, 1) := by decide +kernel
theorem dX6_readNumber_2 : decode cX6_readNumber 2 = .ok (.aload_n 0, 1) := by decide +kernel
theorem dX6_readNumber_3 : decode cX6_readNumber 3 = .ok (.iconst 0, 1) := by decide +kernel
theorem dX6_readNumber_4 : decode cX6_readNumber 4 = .ok (.putfield 46, 3) := by decide +kernel
theorem dX6_readNumber_7 : decode cX6_readNumber 7 = .ok (.iload_n 2, 1) := by decide +kernel
theorem dX6_readNumber_8 : decode cX6_readNumber 8 = .ok (.iload_n 1, 1) := by decide +kernel
theorem dX6_readNumber_9 : decode cX6_readNumber 9 = .ok (.iconst 4, 1) := by decide +kernel
theorem dX6_readNumber_10 : decode cX6_readNumber 10 = .ok (.iadd, 1) := by decide +kernel
theorem dX6_readNumber_11 : decode cX6_readNumber 11 = .ok (.if_icmp .ge 44, 3) := by decide +kernel
theorem dX6_readNumber_14 : decode cX6_readNumber 14 = .ok (.aload_n 0, 1) := by decide +kernel
theorem dX6_readNumber_15 : decode cX6_readNumber 15 = .ok (.iload_n 2, 1) := by decide +kernel
theorem dX6_readNumber_16 : decode cX6_readNumber 16 = .ok (.invokevirtual 19, 3) := by decide +kernel
theorem dX6_readNumber_19 : decode cX6_readNumber 19 = .ok (.bipush 48, 2) := by decide +kernel
theorem dX6_readNumber_21 : decode cX6_readNumber 21 = .ok (.bipush 57, 2) := by decide +kernel
theorem dX6_readNumber_23 : decode cX6_readNumber 23 = .ok (.invokestatic 49, 3) := by decide +kernel
theorem dX6_readNumber_26 : decode cX6_readNumber 26 = .ok (.ifCond .eq 29, 3) := by decide +kernel
theorem dX6_readNumber_29 : decode cX6_readNumber 29 = .ok (.aload_n 0, 1) := by decide +kernel
theorem dX6_readNumber_30 : decode cX6_readNumber 30 = .ok (.aload_n 0, 1) := by decide +kernel
theorem dX6_readNumber_31 : decode cX6_readNumber 31 = .ok (.getfield 46, 3) := by decide +kernel
theorem dX6_readNumber_34 : decode cX6_readNumber 34 = .ok (.bipush 10, 2) := by decide +kernel
theorem dX6_readNumber_36 : decode cX6_readNumber 36 = .ok (.imul, 1) := by decide +kernel
theorem dX6_readNumber_37 : decode cX6_readNumber 37 = .ok (.aload_n 0, 1) := by decide +kernel
theorem dX6_readNumber_38 : decode cX6_readNumber 38 = .ok (.iload_n 2, 1) := by decide +kernel
theorem dX6_readNumber_39 : decode cX6_readNumber 39 = .ok (.invokevirtual 19, 3) := by decide +kernel
theorem dX6_readNumber_42 : decode cX6_readNumber 42 = .ok (.iadd, 1) := by decide +kernel
theorem dX6_readNumber_43 : decode cX6_readNumber 43 = .ok (.bipush 48, 2) := by decide +kernel
theorem dX6_readNumber_45 : decode cX6_readNumber 45 = .ok (.isub, 1) := by decide +kernel
theorem dX6_readNumber_46 : decode cX6_readNumber 46 = .ok (.putfield 46, 3) := by decide +kernel
theorem dX6_readNumber_49 : decode cX6_readNumber 49 = .ok (.iinc 2 1, 3) := by decide +kernel
theorem dX6_readNumber_52 : decode cX6_readNumber 52 = .ok (.goto (-45), 3) := by decide +kernel
theorem dX6_readNumber_55 : decode cX6_readNumber 55 = .ok (.iload_n 2, 1) := by decide +kernel
theorem dX6_readNumber_56 : decode cX6_readNumber 56 = .ok (.iload_n 1, 1) := by decide +kernel
theorem dX6_readNumber_57 : decode cX6_readNumber 57 = .ok (.if_icmp .le 15, 3) := by decide +kernel
theorem dX6_readNumber_60 : decode cX6_readNumber 60 = .ok (.iload_n 2, 1) := by decide +kernel
theorem dX6_readNumber_61 : decode cX6_readNumber 61 = .ok (.aload_n 0, 1) := by decide +kernel
theorem dX6_readNumber_62 : decode cX6_readNumber 62 = .ok (.getfield 15, 3) := by decide +kernel
theorem dX6_readNumber_65 : decode cX6_readNumber 65 = .ok (.if_icmp .ne 7, 3) := by decide +kernel
theorem dX6_readNumber_68 : decode cX6_readNumber 68 = .ok (.iconst (-1), 1) := by decide +kernel
theorem dX6_readNumber_69 : decode cX6_readNumber 69 = .ok (.goto 4, 3) := by decide +kernel
theorem dX6_readNumber_72 : decode cX6_readNumber 72 = .ok (.iload_n 2, 1) := by decide +kernel
theorem dX6_readNumber_73 : decode cX6_readNumber 73 = .ok (.ireturn, 1) := by decide +kernel
theorem dX6_subjectFor_0 : decode cX6_subjectFor 0 = .ok (.iload_n 1, 1) := by decide +kernel
theorem dX6_subjectFor_1 : decode cX6_subjectFor 1 = .ok (.bipush 42, 2) := by decide +kernel
theorem dX6_subjectFor_3 : decode cX6_subjectFor 3 = .ok (.if_icmp .ne 6, 3) := by decide +kernel
theorem dX6_subjectFor_6 : decode cX6_subjectFor 6 = .ok (.bipush 8, 2) := by decide +kernel
theorem dX6_subjectFor_8 : decode cX6_subjectFor 8 = .ok (.ireturn, 1) := by decide +kernel
theorem dX6_subjectFor_9 : decode cX6_subjectFor 9 = .ok (.iload_n 1, 1) := by decide +kernel
theorem dX6_subjectFor_10 : decode cX6_subjectFor 10 = .ok (.bipush 126, 2) := by decide +kernel
theorem dX6_subjectFor_12 : decode cX6_subjectFor 12 = .ok (.if_icmp .ne 6, 3) := by decide +kernel
theorem dX6_subjectFor_15 : decode cX6_subjectFor 15 = .ok (.bipush 9, 2) := by decide +kernel
theorem dX6_subjectFor_17 : decode cX6_subjectFor 17 = .ok (.ireturn, 1) := by decide +kernel
theorem dX6_subjectFor_18 : decode cX6_subjectFor 18 = .ok (.iload_n 1, 1) := by decide +kernel
theorem dX6_subjectFor_19 : decode cX6_subjectFor 19 = .ok (.bipush 48, 2) := by decide +kernel
theorem dX6_subjectFor_21 : decode cX6_subjectFor 21 = .ok (.bipush 48, 2) := by decide +kernel
theorem dX6_subjectFor_23 : decode cX6_subjectFor 23 = .ok (.iload_n 2, 1) := by decide +kernel
theorem dX6_subjectFor_24 : decode cX6_subjectFor 24 = .ok (.iadd, 1) := by decide +kernel
theorem dX6_subjectFor_25 : decode cX6_subjectFor 25 = .ok (.iconst 1, 1) := by decide +kernel
theorem dX6_subjectFor_26 : decode cX6_subjectFor 26 = .ok (.isub, 1) := by decide +kernel
theorem dX6_subjectFor_27 : decode cX6_subjectFor 27 = .ok (.invokestatic 49, 3) := by decide +kernel
theorem dX6_subjectFor_30 : decode cX6_subjectFor 30 = .ok (.ifCond .eq 10, 3) := by decide +kernel
theorem dX6_subjectFor_33 : decode cX6_subjectFor 33 = .ok (.iload_n 1, 1) := by decide +kernel
theorem dX6_subjectFor_34 : decode cX6_subjectFor 34 = .ok (.bipush 48, 2) := by decide +kernel
theorem dX6_subjectFor_36 : decode cX6_subjectFor 36 = .ok (.isub, 1) := by decide +kernel
theorem dX6_subjectFor_37 : decode cX6_subjectFor 37 = .ok (.goto 4, 3) := by decide +kernel
theorem dX6_subjectFor_40 : decode cX6_subjectFor 40 = .ok (.iconst (-1), 1) := by decide +kernel
theorem dX6_subjectFor_41 : decode cX6_subjectFor 41 = .ok (.ireturn, 1) := by decide +kernel
theorem dX6_relationFor_0 : decode cX6_relationFor 0 = .ok (.iload_n 1, 1) := by decide +kernel
theorem dX6_relationFor_1 : decode cX6_relationFor 1 = .ok (.tableswitch 33 60 62 #[27, 31, 29], 27) := by decide +kernel
theorem dX6_relationFor_28 : decode cX6_relationFor 28 = .ok (.iconst 0, 1) := by decide +kernel
theorem dX6_relationFor_29 : decode cX6_relationFor 29 = .ok (.ireturn, 1) := by decide +kernel
theorem dX6_relationFor_30 : decode cX6_relationFor 30 = .ok (.iconst 1, 1) := by decide +kernel
theorem dX6_relationFor_31 : decode cX6_relationFor 31 = .ok (.ireturn, 1) := by decide +kernel
theorem dX6_relationFor_32 : decode cX6_relationFor 32 = .ok (.iconst 2, 1) := by decide +kernel
theorem dX6_relationFor_33 : decode cX6_relationFor 33 = .ok (.ireturn, 1) := by decide +kernel
theorem dX6_relationFor_34 : decode cX6_relationFor 34 = .ok (.iconst (-1), 1) := by decide +kernel
theorem dX6_relationFor_35 : decode cX6_relationFor 35 = .ok (.ireturn, 1) := by decide +kernel
theorem dX6_characterAt_0 : decode cX6_characterAt 0 = .ok (.iload_n 1, 1) := by decide +kernel
theorem dX6_characterAt_1 : decode cX6_characterAt 1 = .ok (.iconst 0, 1) := by decide +kernel
theorem dX6_characterAt_2 : decode cX6_characterAt 2 = .ok (.aload_n 0, 1) := by decide +kernel
theorem dX6_characterAt_3 : decode cX6_characterAt 3 = .ok (.getfield 15, 3) := by decide +kernel
theorem dX6_characterAt_6 : decode cX6_characterAt 6 = .ok (.iconst 1, 1) := by decide +kernel
theorem dX6_characterAt_7 : decode cX6_characterAt 7 = .ok (.isub, 1) := by decide +kernel
theorem dX6_characterAt_8 : decode cX6_characterAt 8 = .ok (.invokestatic 49, 3) := by decide +kernel
theorem dX6_characterAt_11 : decode cX6_characterAt 11 = .ok (.ifCond .eq 12, 3) := by decide +kernel
theorem dX6_characterAt_14 : decode cX6_characterAt 14 = .ok (.aload_n 0, 1) := by decide +kernel
theorem dX6_characterAt_15 : decode cX6_characterAt 15 = .ok (.getfield 9, 3) := by decide +kernel
theorem dX6_characterAt_18 : decode cX6_characterAt 18 = .ok (.iload_n 1, 1) := by decide +kernel
theorem dX6_characterAt_19 : decode cX6_characterAt 19 = .ok (.caload, 1) := by decide +kernel
theorem dX6_characterAt_20 : decode cX6_characterAt 20 = .ok (.goto 4, 3) := by decide +kernel
theorem dX6_characterAt_23 : decode cX6_characterAt 23 = .ok (.iconst (-1), 1) := by decide +kernel
theorem dX6_characterAt_24 : decode cX6_characterAt 24 = .ok (.ireturn, 1) := by decide +kernel
theorem dX7_init_0 : decode cX7_init 0 = .ok (.aload_n 0, 1) := by decide +kernel
theorem dX7_init_1 : decode cX7_init 1 = .ok (.invokespecial 3, 3) := by decide +kernel
theorem dX7_init_4 : decode cX7_init 4 = .ok (.aload_n 0, 1) := by decide +kernel
theorem dX7_init_5 : decode cX7_init 5 = .ok (.iconst 5, 1) := by decide +kernel
theorem dX7_init_6 : decode cX7_init 6 = .ok (.newarray .int, 2) := by decide +kernel
theorem dX7_init_8 : decode cX7_init 8 = .ok (.putfield 9, 3) := by decide +kernel
theorem dX7_init_11 : decode cX7_init 11 = .ok (.return_, 1) := by decide +kernel
theorem dX7_forget_0 : decode cX7_forget 0 = .ok (.aload_n 0, 1) := by decide +kernel
theorem dX7_forget_1 : decode cX7_forget 1 = .ok (.iconst 0, 1) := by decide +kernel
theorem dX7_forget_2 : decode cX7_forget 2 = .ok (.putfield 15, 3) := by decide +kernel
theorem dX7_forget_5 : decode cX7_forget 5 = .ok (.aload_n 0, 1) := by decide +kernel
theorem dX7_forget_6 : decode cX7_forget 6 = .ok (.getfield 9, 3) := by decide +kernel
theorem dX7_forget_9 : decode cX7_forget 9 = .ok (.iconst (-1), 1) := by decide +kernel
theorem dX7_forget_10 : decode cX7_forget 10 = .ok (.invokestatic 19, 3) := by decide +kernel
theorem dX7_forget_13 : decode cX7_forget 13 = .ok (.return_, 1) := by decide +kernel
theorem dX7_copyFrom_0 : decode cX7_copyFrom 0 = .ok (.aload_n 0, 1) := by decide +kernel
theorem dX7_copyFrom_1 : decode cX7_copyFrom 1 = .ok (.aload_n 1, 1) := by decide +kernel
theorem dX7_copyFrom_2 : decode cX7_copyFrom 2 = .ok (.getfield 15, 3) := by decide +kernel
theorem dX7_copyFrom_5 : decode cX7_copyFrom 5 = .ok (.putfield 15, 3) := by decide +kernel
theorem dX7_copyFrom_8 : decode cX7_copyFrom 8 = .ok (.aload_n 1, 1) := by decide +kernel
theorem dX7_copyFrom_9 : decode cX7_copyFrom 9 = .ok (.getfield 9, 3) := by decide +kernel
theorem dX7_copyFrom_12 : decode cX7_copyFrom 12 = .ok (.aload_n 0, 1) := by decide +kernel
theorem dX7_copyFrom_13 : decode cX7_copyFrom 13 = .ok (.getfield 9, 3) := by decide +kernel
theorem dX7_copyFrom_16 : decode cX7_copyFrom 16 = .ok (.invokestatic 25, 3) := by decide +kernel
theorem dX7_copyFrom_19 : decode cX7_copyFrom 19 = .ok (.return_, 1) := by decide +kernel
theorem dX7_hasAll_0 : decode cX7_hasAll 0 = .ok (.iconst 0, 1) := by decide +kernel
theorem dX7_hasAll_1 : decode cX7_hasAll 1 = .ok (.istore_n 2, 1) := by decide +kernel
theorem dX7_hasAll_2 : decode cX7_hasAll 2 = .ok (.iload_n 2, 1) := by decide +kernel
theorem dX7_hasAll_3 : decode cX7_hasAll 3 = .ok (.iload_n 1, 1) := by decide +kernel
theorem dX7_hasAll_4 : decode cX7_hasAll 4 = .ok (.if_icmp .ge 21, 3) := by decide +kernel
theorem dX7_hasAll_7 : decode cX7_hasAll 7 = .ok (.aload_n 0, 1) := by decide +kernel
theorem dX7_hasAll_8 : decode cX7_hasAll 8 = .ok (.getfield 9, 3) := by decide +kernel
theorem dX7_hasAll_11 : decode cX7_hasAll 11 = .ok (.iload_n 2, 1) := by decide +kernel
theorem dX7_hasAll_12 : decode cX7_hasAll 12 = .ok (.iaload, 1) := by decide +kernel
theorem dX7_hasAll_13 : decode cX7_hasAll 13 = .ok (.iconst (-1), 1) := by decide +kernel
theorem dX7_hasAll_14 : decode cX7_hasAll 14 = .ok (.if_icmp .ne 5, 3) := by decide +kernel
theorem dX7_hasAll_17 : decode cX7_hasAll 17 = .ok (.iconst 0, 1) := by decide +kernel
theorem dX7_hasAll_18 : decode cX7_hasAll 18 = .ok (.ireturn, 1) := by decide +kernel
theorem dX7_hasAll_19 : decode cX7_hasAll 19 = .ok (.iinc 2 1, 3) := by decide +kernel
theorem dX7_hasAll_22 : decode cX7_hasAll 22 = .ok (.goto (-20), 3) := by decide +kernel
theorem dX7_hasAll_25 : decode cX7_hasAll 25 = .ok (.iconst 1, 1) := by decide +kernel
theorem dX7_hasAll_26 : decode cX7_hasAll 26 = .ok (.ireturn, 1) := by decide +kernel
theorem dX8_init_0 : decode cX8_init 0 = .ok (.aload_n 0, 1) := by decide +kernel
theorem dX8_init_1 : decode cX8_init 1 = .ok (.invokespecial 3, 3) := by decide +kernel
theorem dX8_init_4 : decode cX8_init 4 = .ok (.aload_n 0, 1) := by decide +kernel
theorem dX8_init_5 : decode cX8_init 5 = .ok (.bipush 10, 2) := by decide +kernel
theorem dX8_init_7 : decode cX8_init 7 = .ok (.newarray .int, 2) := by decide +kernel
theorem dX8_init_9 : decode cX8_init 9 = .ok (.putfield 9, 3) := by decide +kernel
theorem dX8_init_12 : decode cX8_init 12 = .ok (.aload_n 0, 1) := by decide +kernel
theorem dX8_init_13 : decode cX8_init 13 = .ok (.iconst 2, 1) := by decide +kernel
theorem dX8_init_14 : decode cX8_init 14 = .ok (.newarray .int, 2) := by decide +kernel
theorem dX8_init_16 : decode cX8_init 16 = .ok (.putfield 15, 3) := by decide +kernel
theorem dX8_init_19 : decode cX8_init 19 = .ok (.return_, 1) := by decide +kernel
theorem dX8_readPresent_0 : decode cX8_readPresent 0 = .ok (.aload_n 0, 1) := by decide +kernel
theorem dX8_readPresent_1 : decode cX8_readPresent 1 = .ok (.aload_n 1, 1) := by decide +kernel
theorem dX8_readPresent_2 : decode cX8_readPresent 2 = .ok (.getfield 18, 3) := by decide +kernel
theorem dX8_readPresent_5 : decode cX8_readPresent 5 = .ok (.putfield 24, 3) := by decide +kernel
theorem dX8_readPresent_8 : decode cX8_readPresent 8 = .ok (.aload_n 1, 1) := by decide +kernel
theorem dX8_readPresent_9 : decode cX8_readPresent 9 = .ok (.getfield 25, 3) := by decide +kernel
theorem dX8_readPresent_12 : decode cX8_readPresent 12 = .ok (.aload_n 0, 1) := by decide +kernel
theorem dX8_readPresent_13 : decode cX8_readPresent 13 = .ok (.getfield 9, 3) := by decide +kernel
theorem dX8_readPresent_16 : decode cX8_readPresent 16 = .ok (.invokestatic 26, 3) := by decide +kernel
theorem dX8_readPresent_19 : decode cX8_readPresent 19 = .ok (.aload_n 0, 1) := by decide +kernel
theorem dX8_readPresent_20 : decode cX8_readPresent 20 = .ok (.getfield 15, 3) := by decide +kernel
theorem dX8_readPresent_23 : decode cX8_readPresent 23 = .ok (.iconst 0, 1) := by decide +kernel
theorem dX8_readPresent_24 : decode cX8_readPresent 24 = .ok (.invokestatic 30, 3) := by decide +kernel
theorem dX8_readPresent_27 : decode cX8_readPresent 27 = .ok (.iconst 0, 1) := by decide +kernel
theorem dX8_readPresent_28 : decode cX8_readPresent 28 = .ok (.istore_n 2, 1) := by decide +kernel
theorem dX8_readPresent_29 : decode cX8_readPresent 29 = .ok (.iload_n 2, 1) := by decide +kernel
theorem dX8_readPresent_30 : decode cX8_readPresent 30 = .ok (.aload_n 1, 1) := by decide +kernel
theorem dX8_readPresent_31 : decode cX8_readPresent 31 = .ok (.getfield 36, 3) := by decide +kernel
theorem dX8_readPresent_34 : decode cX8_readPresent 34 = .ok (.getfield 40, 3) := by decide +kernel
theorem dX8_readPresent_37 : decode cX8_readPresent 37 = .ok (.if_icmp .ge 48, 3) := by decide +kernel
theorem dX8_readPresent_40 : decode cX8_readPresent 40 = .ok (.aload_n 1, 1) := by decide +kernel
theorem dX8_readPresent_41 : decode cX8_readPresent 41 = .ok (.getfield 36, 3) := by decide +kernel
theorem dX8_readPresent_44 : decode cX8_readPresent 44 = .ok (.getfield 45, 3) := by decide +kernel
theorem dX8_readPresent_47 : decode cX8_readPresent 47 = .ok (.iload_n 2, 1) := by decide +kernel
theorem dX8_readPresent_48 : decode cX8_readPresent 48 = .ok (.iaload, 1) := by decide +kernel
theorem dX8_readPresent_49 : decode cX8_readPresent 49 = .ok (.iconst (-1), 1) := by decide +kernel
theorem dX8_readPresent_50 : decode cX8_readPresent 50 = .ok (.if_icmp .ne 29, 3) := by decide +kernel
theorem dX8_readPresent_53 : decode cX8_readPresent 53 = .ok (.aload_n 0, 1) := by decide +kernel
theorem dX8_readPresent_54 : decode cX8_readPresent 54 = .ok (.getfield 15, 3) := by decide +kernel
theorem dX8_readPresent_57 : decode cX8_readPresent 57 = .ok (.aload_n 1, 1) := by decide +kernel
theorem dX8_readPresent_58 : decode cX8_readPresent 58 = .ok (.getfield 36, 3) := by decide +kernel
theorem dX8_readPresent_61 : decode cX8_readPresent 61 = .ok (.getfield 48, 3) := by decide +kernel
theorem dX8_readPresent_64 : decode cX8_readPresent 64 = .ok (.iload_n 2, 1) := by decide +kernel
theorem dX8_readPresent_65 : decode cX8_readPresent 65 = .ok (.iaload, 1) := by decide +kernel
theorem dX8_readPresent_66 : decode cX8_readPresent 66 = .ok (.dup2, 1) := by decide +kernel
theorem dX8_readPresent_67 : decode cX8_readPresent 67 = .ok (.iaload, 1) := by decide +kernel
theorem dX8_readPresent_68 : decode cX8_readPresent 68 = .ok (.aload_n 1, 1) := by decide +kernel
theorem dX8_readPresent_69 : decode cX8_readPresent 69 = .ok (.getfield 36, 3) := by decide +kernel
theorem dX8_readPresent_72 : decode cX8_readPresent 72 = .ok (.getfield 51, 3) := by decide +kernel
theorem dX8_readPresent_75 : decode cX8_readPresent 75 = .ok (.iload_n 2, 1) := by decide +kernel
theorem dX8_readPresent_76 : decode cX8_readPresent 76 = .ok (.iaload, 1) := by decide +kernel
theorem dX8_readPresent_77 : decode cX8_readPresent 77 = .ok (.iadd, 1) := by decide +kernel
theorem dX8_readPresent_78 : decode cX8_readPresent 78 = .ok (.iastore, 1) := by decide +kernel
theorem dX8_readPresent_79 : decode cX8_readPresent 79 = .ok (.iinc 2 1, 3) := by decide +kernel
theorem dX8_readPresent_82 : decode cX8_readPresent 82 = .ok (.goto (-53), 3) := by decide +kernel
theorem dX8_readPresent_85 : decode cX8_readPresent 85 = .ok (.return_, 1) := by decide +kernel
theorem dX8_readCut_0 : decode cX8_readCut 0 = .ok (.aload_n 0, 1) := by decide +kernel
theorem dX8_readCut_1 : decode cX8_readCut 1 = .ok (.aload_n 1, 1) := by decide +kernel
theorem dX8_readCut_2 : decode cX8_readCut 2 = .ok (.getfield 18, 3) := by decide +kernel
theorem dX8_readCut_5 : decode cX8_readCut 5 = .ok (.putfield 24, 3) := by decide +kernel
theorem dX8_readCut_8 : decode cX8_readCut 8 = .ok (.iconst 0, 1) := by decide +kernel
theorem dX8_readCut_9 : decode cX8_readCut 9 = .ok (.istore_n 2, 1) := by decide +kernel
theorem dX8_readCut_10 : decode cX8_readCut 10 = .ok (.iload_n 2, 1) := by decide +kernel
theorem dX8_readCut_11 : decode cX8_readCut 11 = .ok (.aload_n 0, 1) := by decide +kernel
theorem dX8_readCut_12 : decode cX8_readCut 12 = .ok (.getfield 24, 3) := by decide +kernel
theorem dX8_readCut_15 : decode cX8_readCut 15 = .ok (.if_icmp .ge 38, 3) := by decide +kernel
theorem dX8_readCut_18 : decode cX8_readCut 18 = .ok (.iconst 0, 1) := by decide +kernel
theorem dX8_readCut_19 : decode cX8_readCut 19 = .ok (.istore_n 3, 1) := by decide +kernel
theorem dX8_readCut_20 : decode cX8_readCut 20 = .ok (.iload_n 3, 1) := by decide +kernel
theorem dX8_readCut_21 : decode cX8_readCut 21 = .ok (.iconst 2, 1) := by decide +kernel
theorem dX8_readCut_22 : decode cX8_readCut 22 = .ok (.if_icmp .ge 25, 3) := by decide +kernel
theorem dX8_readCut_25 : decode cX8_readCut 25 = .ok (.aload_n 0, 1) := by decide +kernel
theorem dX8_readCut_26 : decode cX8_readCut 26 = .ok (.getfield 9, 3) := by decide +kernel
theorem dX8_readCut_29 : decode cX8_readCut 29 = .ok (.iload_n 2, 1) := by decide +kernel
theorem dX8_readCut_30 : decode cX8_readCut 30 = .ok (.iload_n 3, 1) := by decide +kernel
theorem dX8_readCut_31 : decode cX8_readCut 31 = .ok (.invokestatic 54, 3) := by decide +kernel
theorem dX8_readCut_34 : decode cX8_readCut 34 = .ok (.aload_n 1, 1) := by decide +kernel
theorem dX8_readCut_35 : decode cX8_readCut 35 = .ok (.iload_n 2, 1) := by decide +kernel
theorem dX8_readCut_36 : decode cX8_readCut 36 = .ok (.iload_n 3, 1) := by decide +kernel
theorem dX8_readCut_37 : decode cX8_readCut 37 = .ok (.invokevirtual 58, 3) := by decide +kernel
theorem dX8_readCut_40 : decode cX8_readCut 40 = .ok (.iastore, 1) := by decide +kernel
theorem dX8_readCut_41 : decode cX8_readCut 41 = .ok (.iinc 3 1, 3) := by decide +kernel
theorem dX8_readCut_44 : decode cX8_readCut 44 = .ok (.goto (-24), 3) := by decide +kernel
theorem dX8_readCut_47 : decode cX8_readCut 47 = .ok (.iinc 2 1, 3) := by decide +kernel
theorem dX8_readCut_50 : decode cX8_readCut 50 = .ok (.goto (-40), 3) := by decide +kernel
theorem dX8_readCut_53 : decode cX8_readCut 53 = .ok (.aload_n 0, 1) := by decide +kernel
theorem dX8_readCut_54 : decode cX8_readCut 54 = .ok (.getfield 15, 3) := by decide +kernel
theorem dX8_readCut_57 : decode cX8_readCut 57 = .ok (.iconst 0, 1) := by decide +kernel
theorem dX8_readCut_58 : decode cX8_readCut 58 = .ok (.invokestatic 30, 3) := by decide +kernel
theorem dX8_readCut_61 : decode cX8_readCut 61 = .ok (.iconst 0, 1) := by decide +kernel
theorem dX8_readCut_62 : decode cX8_readCut 62 = .ok (.istore_n 2, 1) := by decide +kernel
theorem dX8_readCut_63 : decode cX8_readCut 63 = .ok (.iload_n 2, 1) := by decide +kernel
theorem dX8_readCut_64 : decode cX8_readCut 64 = .ok (.aload_n 1, 1) := by decide +kernel
theorem dX8_readCut_65 : decode cX8_readCut 65 = .ok (.getfield 36, 3) := by decide +kernel
theorem dX8_readCut_68 : decode cX8_readCut 68 = .ok (.getfield 40, 3) := by decide +kernel
theorem dX8_readCut_71 : decode cX8_readCut 71 = .ok (.if_icmp .ge 43, 3) := by decide +kernel
theorem dX8_readCut_74 : decode cX8_readCut 74 = .ok (.aload_n 1, 1) := by decide +kernel
theorem dX8_readCut_75 : decode cX8_readCut 75 = .ok (.iload_n 2, 1) := by decide +kernel
theorem dX8_readCut_76 : decode cX8_readCut 76 = .ok (.invokevirtual 61, 3) := by decide +kernel
theorem dX8_readCut_79 : decode cX8_readCut 79 = .ok (.ifCond .eq 29, 3) := by decide +kernel
theorem dX8_readCut_82 : decode cX8_readCut 82 = .ok (.aload_n 0, 1) := by decide +kernel
theorem dX8_readCut_83 : decode cX8_readCut 83 = .ok (.getfield 15, 3) := by decide +kernel
theorem dX8_readCut_86 : decode cX8_readCut 86 = .ok (.aload_n 1, 1) := by decide +kernel
theorem dX8_readCut_87 : decode cX8_readCut 87 = .ok (.getfield 36, 3) := by decide +kernel
theorem dX8_readCut_90 : decode cX8_readCut 90 = .ok (.getfield 48, 3) := by decide +kernel
theorem dX8_readCut_93 : decode cX8_readCut 93 = .ok (.iload_n 2, 1) := by decide +kernel
theorem dX8_readCut_94 : decode cX8_readCut 94 = .ok (.iaload, 1) := by decide +kernel
theorem dX8_readCut_95 : decode cX8_readCut 95 = .ok (.dup2, 1) := by decide +kernel
theorem dX8_readCut_96 : decode cX8_readCut 96 = .ok (.iaload, 1) := by decide +kernel
theorem dX8_readCut_97 : decode cX8_readCut 97 = .ok (.aload_n 1, 1) := by decide +kernel
theorem dX8_readCut_98 : decode cX8_readCut 98 = .ok (.getfield 36, 3) := by decide +kernel
theorem dX8_readCut_101 : decode cX8_readCut 101 = .ok (.getfield 51, 3) := by decide +kernel
theorem dX8_readCut_104 : decode cX8_readCut 104 = .ok (.iload_n 2, 1) := by decide +kernel
theorem dX8_readCut_105 : decode cX8_readCut 105 = .ok (.iaload, 1) := by decide +kernel
theorem dX8_readCut_106 : decode cX8_readCut 106 = .ok (.iadd, 1) := by decide +kernel
theorem dX8_readCut_107 : decode cX8_readCut 107 = .ok (.iastore, 1) := by decide +kernel
theorem dX8_readCut_108 : decode cX8_readCut 108 = .ok (.iinc 2 1, 3) := by decide +kernel
theorem dX8_readCut_111 : decode cX8_readCut 111 = .ok (.goto (-48), 3) := by decide +kernel
theorem dX8_readCut_114 : decode cX8_readCut 114 = .ok (.return_, 1) := by decide +kernel
theorem dX8_shift_0 : decode cX8_shift 0 = .ok (.aload_n 0, 1) := by decide +kernel
theorem dX8_shift_1 : decode cX8_shift 1 = .ok (.getfield 9, 3) := by decide +kernel
theorem dX8_shift_4 : decode cX8_shift 4 = .ok (.iload_n 1, 1) := by decide +kernel
theorem dX8_shift_5 : decode cX8_shift 5 = .ok (.iload_n 2, 1) := by decide +kernel
theorem dX8_shift_6 : decode cX8_shift 6 = .ok (.invokestatic 54, 3) := by decide +kernel
theorem dX8_shift_9 : decode cX8_shift 9 = .ok (.dup2, 1) := by decide +kernel
theorem dX8_shift_10 : decode cX8_shift 10 = .ok (.iaload, 1) := by decide +kernel
theorem dX8_shift_11 : decode cX8_shift 11 = .ok (.iload_n 3, 1) := by decide +kernel
theorem dX8_shift_12 : decode cX8_shift 12 = .ok (.iadd, 1) := by decide +kernel
theorem dX8_shift_13 : decode cX8_shift 13 = .ok (.iastore, 1) := by decide +kernel
theorem dX8_shift_14 : decode cX8_shift 14 = .ok (.aload_n 0, 1) := by decide +kernel
theorem dX8_shift_15 : decode cX8_shift 15 = .ok (.getfield 15, 3) := by decide +kernel
theorem dX8_shift_18 : decode cX8_shift 18 = .ok (.iload_n 2, 1) := by decide +kernel
theorem dX8_shift_19 : decode cX8_shift 19 = .ok (.dup2, 1) := by decide +kernel
theorem dX8_shift_20 : decode cX8_shift 20 = .ok (.iaload, 1) := by decide +kernel
theorem dX8_shift_21 : decode cX8_shift 21 = .ok (.iload 4, 2) := by decide +kernel
theorem dX8_shift_23 : decode cX8_shift 23 = .ok (.iadd, 1) := by decide +kernel
theorem dX8_shift_24 : decode cX8_shift 24 = .ok (.iastore, 1) := by decide +kernel
theorem dX8_shift_25 : decode cX8_shift 25 = .ok (.return_, 1) := by decide +kernel
theorem dX8_valueOf_0 : decode cX8_valueOf 0 = .ok (.iload_n 1, 1) := by decide +kernel
theorem dX8_valueOf_1 : decode cX8_valueOf 1 = .ok (.bipush 9, 2) := by decide +kernel
theorem dX8_valueOf_3 : decode cX8_valueOf 3 = .ok (.if_icmp .ne 10, 3) := by decide +kernel
theorem dX8_valueOf_6 : decode cX8_valueOf 6 = .ok (.aload_n 0, 1) := by decide +kernel
theorem dX8_valueOf_7 : decode cX8_valueOf 7 = .ok (.getfield 15, 3) := by decide +kernel
theorem dX8_valueOf_10 : decode cX8_valueOf 10 = .ok (.iload_n 2, 1) := by decide +kernel
theorem dX8_valueOf_11 : decode cX8_valueOf 11 = .ok (.iaload, 1) := by decide +kernel
theorem dX8_valueOf_12 : decode cX8_valueOf 12 = .ok (.ireturn, 1) := by decide +kernel
theorem dX8_valueOf_13 : decode cX8_valueOf 13 = .ok (.iload_n 1, 1) := by decide +kernel
theorem dX8_valueOf_14 : decode cX8_valueOf 14 = .ok (.bipush 8, 2) := by decide +kernel
theorem dX8_valueOf_16 : decode cX8_valueOf 16 = .ok (.if_icmp .eq 32, 3) := by decide +kernel
theorem dX8_valueOf_19 : decode cX8_valueOf 19 = .ok (.iload_n 1, 1) := by decide +kernel
theorem dX8_valueOf_20 : decode cX8_valueOf 20 = .ok (.iconst 0, 1) := by decide +kernel
theorem dX8_valueOf_21 : decode cX8_valueOf 21 = .ok (.aload_n 0, 1) := by decide +kernel
theorem dX8_valueOf_22 : decode cX8_valueOf 22 = .ok (.getfield 24, 3) := by decide +kernel
theorem dX8_valueOf_25 : decode cX8_valueOf 25 = .ok (.iconst 1, 1) := by decide +kernel
theorem dX8_valueOf_26 : decode cX8_valueOf 26 = .ok (.isub, 1) := by decide +kernel
theorem dX8_valueOf_27 : decode cX8_valueOf 27 = .ok (.invokestatic 65, 3) := by decide +kernel
theorem dX8_valueOf_30 : decode cX8_valueOf 30 = .ok (.ifCond .eq 16, 3) := by decide +kernel
theorem dX8_valueOf_33 : decode cX8_valueOf 33 = .ok (.aload_n 0, 1) := by decide +kernel
theorem dX8_valueOf_34 : decode cX8_valueOf 34 = .ok (.getfield 9, 3) := by decide +kernel
theorem dX8_valueOf_37 : decode cX8_valueOf 37 = .ok (.iload_n 1, 1) := by decide +kernel
theorem dX8_valueOf_38 : decode cX8_valueOf 38 = .ok (.iload_n 2, 1) := by decide +kernel
theorem dX8_valueOf_39 : decode cX8_valueOf 39 = .ok (.invokestatic 54, 3) := by decide +kernel
theorem dX8_valueOf_42 : decode cX8_valueOf 42 = .ok (.iaload, 1) := by decide +kernel
theorem dX8_valueOf_43 : decode cX8_valueOf 43 = .ok (.goto 4, 3) := by decide +kernel
theorem dX8_valueOf_46 : decode cX8_valueOf 46 = .ok (.iconst 0, 1) := by decide +kernel
theorem dX8_valueOf_47 : decode cX8_valueOf 47 = .ok (.ireturn, 1) := by decide +kernel
theorem dX8_valueOf_48 : decode cX8_valueOf 48 = .ok (.aload_n 0, 1) := by decide +kernel
theorem dX8_valueOf_49 : decode cX8_valueOf 49 = .ok (.getfield 15, 3) := by decide +kernel
theorem dX8_valueOf_52 : decode cX8_valueOf 52 = .ok (.iload_n 2, 1) := by decide +kernel
theorem dX8_valueOf_53 : decode cX8_valueOf 53 = .ok (.iaload, 1) := by decide +kernel
theorem dX8_valueOf_54 : decode cX8_valueOf 54 = .ok (.istore_n 3, 1) := by decide +kernel
theorem dX8_valueOf_55 : decode cX8_valueOf 55 = .ok (.iconst 0, 1) := by decide +kernel
theorem dX8_valueOf_56 : decode cX8_valueOf 56 = .ok (.istore 4, 2) := by decide +kernel
theorem dX8_valueOf_58 : decode cX8_valueOf 58 = .ok (.iload 4, 2) := by decide +kernel
theorem dX8_valueOf_60 : decode cX8_valueOf 60 = .ok (.aload_n 0, 1) := by decide +kernel
theorem dX8_valueOf_61 : decode cX8_valueOf 61 = .ok (.getfield 24, 3) := by decide +kernel
theorem dX8_valueOf_64 : decode cX8_valueOf 64 = .ok (.if_icmp .ge 23, 3) := by decide +kernel
theorem dX8_valueOf_67 : decode cX8_valueOf 67 = .ok (.iload_n 3, 1) := by decide +kernel
theorem dX8_valueOf_68 : decode cX8_valueOf 68 = .ok (.aload_n 0, 1) := by decide +kernel
theorem dX8_valueOf_69 : decode cX8_valueOf 69 = .ok (.getfield 9, 3) := by decide +kernel
theorem dX8_valueOf_72 : decode cX8_valueOf 72 = .ok (.iload 4, 2) := by decide +kernel
theorem dX8_valueOf_74 : decode cX8_valueOf 74 = .ok (.iload_n 2, 1) := by decide +kernel
theorem dX8_valueOf_75 : decode cX8_valueOf 75 = .ok (.invokestatic 54, 3) := by decide +kernel
theorem dX8_valueOf_78 : decode cX8_valueOf 78 = .ok (.iaload, 1) := by decide +kernel
theorem dX8_valueOf_79 : decode cX8_valueOf 79 = .ok (.iadd, 1) := by decide +kernel
theorem dX8_valueOf_80 : decode cX8_valueOf 80 = .ok (.istore_n 3, 1) := by decide +kernel
theorem dX8_valueOf_81 : decode cX8_valueOf 81 = .ok (.iinc 4 1, 3) := by decide +kernel
theorem dX8_valueOf_84 : decode cX8_valueOf 84 = .ok (.goto (-26), 3) := by decide +kernel
theorem dX8_valueOf_87 : decode cX8_valueOf 87 = .ok (.iload_n 3, 1) := by decide +kernel
theorem dX8_valueOf_88 : decode cX8_valueOf 88 = .ok (.ireturn, 1) := by decide +kernel
