theorem dX0_init_0 : decode cX0_init 0 = .ok (.aload_n 0, 1) := by decide +kernel
theorem dX0_init_1 : decode cX0_init 1 = .ok (.invokespecial 3, 3) := by decide +kernel
theorem dX0_init_4 : decode cX0_init 4 = .ok (.return_, 1) := by decide +kernel
theorem dX0_copyFrom_0 : decode cX0_copyFrom 0 = .ok (.aload_n 0, 1) := by decide +kernel
theorem dX0_copyFrom_1 : decode cX0_copyFrom 1 = .ok (.aload_n 1, 1) := by decide +kernel
theorem dX0_copyFrom_2 : decode cX0_copyFrom 2 = .ok (.getfield 9, 3) := by decide +kernel
theorem dX0_copyFrom_5 : decode cX0_copyFrom 5 = .ok (.putfield 9, 3) := by decide +kernel
theorem dX0_copyFrom_8 : decode cX0_copyFrom 8 = .ok (.aload_n 0, 1) := by decide +kernel
theorem dX0_copyFrom_9 : decode cX0_copyFrom 9 = .ok (.aload_n 1, 1) := by decide +kernel
theorem dX0_copyFrom_10 : decode cX0_copyFrom 10 = .ok (.getfield 15, 3) := by decide +kernel
theorem dX0_copyFrom_13 : decode cX0_copyFrom 13 = .ok (.putfield 15, 3) := by decide +kernel
theorem dX0_copyFrom_16 : decode cX0_copyFrom 16 = .ok (.return_, 1) := by decide +kernel
theorem dX0_isAt_0 : decode cX0_isAt 0 = .ok (.aload_n 0, 1) := by decide +kernel
theorem dX0_isAt_1 : decode cX0_isAt 1 = .ok (.getfield 9, 3) := by decide +kernel
theorem dX0_isAt_4 : decode cX0_isAt 4 = .ok (.iload_n 1, 1) := by decide +kernel
theorem dX0_isAt_5 : decode cX0_isAt 5 = .ok (.if_icmp .ne 15, 3) := by decide +kernel
theorem dX0_isAt_8 : decode cX0_isAt 8 = .ok (.aload_n 0, 1) := by decide +kernel
theorem dX0_isAt_9 : decode cX0_isAt 9 = .ok (.getfield 15, 3) := by decide +kernel
theorem dX0_isAt_12 : decode cX0_isAt 12 = .ok (.iload_n 2, 1) := by decide +kernel
theorem dX0_isAt_13 : decode cX0_isAt 13 = .ok (.if_icmp .ne 7, 3) := by decide +kernel
theorem dX0_isAt_16 : decode cX0_isAt 16 = .ok (.iconst 1, 1) := by decide +kernel
theorem dX0_isAt_17 : decode cX0_isAt 17 = .ok (.goto 4, 3) := by decide +kernel
theorem dX0_isAt_20 : decode cX0_isAt 20 = .ok (.iconst 0, 1) := by decide +kernel
theorem dX0_isAt_21 : decode cX0_isAt 21 = .ok (.ireturn, 1) := by decide +kernel
theorem dX0_step_0 : decode cX0_step 0 = .ok (.aload_n 0, 1) := by decide +kernel
theorem dX0_step_1 : decode cX0_step 1 = .ok (.getfield 15, 3) := by decide +kernel
theorem dX0_step_4 : decode cX0_step 4 = .ok (.ifCond .lt 25, 3) := by decide +kernel
theorem dX0_step_7 : decode cX0_step 7 = .ok (.aload_n 0, 1) := by decide +kernel
theorem dX0_step_8 : decode cX0_step 8 = .ok (.getfield 15, 3) := by decide +kernel
theorem dX0_step_11 : decode cX0_step 11 = .ok (.getstatic 18, 3) := by decide +kernel
theorem dX0_step_14 : decode cX0_step 14 = .ok (.arraylength, 1) := by decide +kernel
theorem dX0_step_15 : decode cX0_step 15 = .ok (.if_icmp .ge 14, 3) := by decide +kernel
theorem dX0_step_18 : decode cX0_step 18 = .ok (.getstatic 18, 3) := by decide +kernel
theorem dX0_step_21 : decode cX0_step 21 = .ok (.aload_n 0, 1) := by decide +kernel
theorem dX0_step_22 : decode cX0_step 22 = .ok (.getfield 15, 3) := by decide +kernel
theorem dX0_step_25 : decode cX0_step 25 = .ok (.iaload, 1) := by decide +kernel
theorem dX0_step_26 : decode cX0_step 26 = .ok (.goto 4, 3) := by decide +kernel
theorem dX0_step_29 : decode cX0_step 29 = .ok (.iconst 0, 1) := by decide +kernel
theorem dX0_step_30 : decode cX0_step 30 = .ok (.ireturn, 1) := by decide +kernel
theorem dX0_codeFor_0 : decode cX0_codeFor 0 = .ok (.aload_n 0, 1) := by decide +kernel
theorem dX0_codeFor_1 : decode cX0_codeFor 1 = .ok (.invokevirtual 22, 3) := by decide +kernel
theorem dX0_codeFor_4 : decode cX0_codeFor 4 = .ok (.istore_n 2, 1) := by decide +kernel
theorem dX0_codeFor_5 : decode cX0_codeFor 5 = .ok (.iload_n 1, 1) := by decide +kernel
theorem dX0_codeFor_6 : decode cX0_codeFor 6 = .ok (.aload_n 0, 1) := by decide +kernel
theorem dX0_codeFor_7 : decode cX0_codeFor 7 = .ok (.getfield 9, 3) := by decide +kernel
theorem dX0_codeFor_10 : decode cX0_codeFor 10 = .ok (.isub, 1) := by decide +kernel
theorem dX0_codeFor_11 : decode cX0_codeFor 11 = .ok (.istore_n 3, 1) := by decide +kernel
theorem dX0_codeFor_12 : decode cX0_codeFor 12 = .ok (.iconst 0, 1) := by decide +kernel
theorem dX0_codeFor_13 : decode cX0_codeFor 13 = .ok (.istore 4, 2) := by decide +kernel
theorem dX0_codeFor_15 : decode cX0_codeFor 15 = .ok (.iload_n 3, 1) := by decide +kernel
theorem dX0_codeFor_16 : decode cX0_codeFor 16 = .ok (.ifCond .ge 10, 3) := by decide +kernel
theorem dX0_codeFor_19 : decode cX0_codeFor 19 = .ok (.bipush 8, 2) := by decide +kernel
theorem dX0_codeFor_21 : decode cX0_codeFor 21 = .ok (.istore 4, 2) := by decide +kernel
theorem dX0_codeFor_23 : decode cX0_codeFor 23 = .ok (.iload_n 3, 1) := by decide +kernel
theorem dX0_codeFor_24 : decode cX0_codeFor 24 = .ok (.ineg, 1) := by decide +kernel
theorem dX0_codeFor_25 : decode cX0_codeFor 25 = .ok (.istore_n 3, 1) := by decide +kernel
theorem dX0_codeFor_26 : decode cX0_codeFor 26 = .ok (.iload_n 3, 1) := by decide +kernel
theorem dX0_codeFor_27 : decode cX0_codeFor 27 = .ok (.iload_n 2, 1) := by decide +kernel
theorem dX0_codeFor_28 : decode cX0_codeFor 28 = .ok (.if_icmp .lt 10, 3) := by decide +kernel
theorem dX0_codeFor_31 : decode cX0_codeFor 31 = .ok (.iinc 4 4, 3) := by decide +kernel
theorem dX0_codeFor_34 : decode cX0_codeFor 34 = .ok (.iload_n 3, 1) := by decide +kernel
theorem dX0_codeFor_35 : decode cX0_codeFor 35 = .ok (.iload_n 2, 1) := by decide +kernel
theorem dX0_codeFor_36 : decode cX0_codeFor 36 = .ok (.isub, 1) := by decide +kernel
theorem dX0_codeFor_37 : decode cX0_codeFor 37 = .ok (.istore_n 3, 1) := by decide +kernel
theorem dX0_codeFor_38 : decode cX0_codeFor 38 = .ok (.iload_n 3, 1) := by decide +kernel
theorem dX0_codeFor_39 : decode cX0_codeFor 39 = .ok (.iload_n 2, 1) := by decide +kernel
theorem dX0_codeFor_40 : decode cX0_codeFor 40 = .ok (.iconst 2, 1) := by decide +kernel
theorem dX0_codeFor_41 : decode cX0_codeFor 41 = .ok (.idiv, 1) := by decide +kernel
theorem dX0_codeFor_42 : decode cX0_codeFor 42 = .ok (.if_icmp .lt 12, 3) := by decide +kernel
theorem dX0_codeFor_45 : decode cX0_codeFor 45 = .ok (.iinc 4 2, 3) := by decide +kernel
theorem dX0_codeFor_48 : decode cX0_codeFor 48 = .ok (.iload_n 3, 1) := by decide +kernel
theorem dX0_codeFor_49 : decode cX0_codeFor 49 = .ok (.iload_n 2, 1) := by decide +kernel
theorem dX0_codeFor_50 : decode cX0_codeFor 50 = .ok (.iconst 2, 1) := by decide +kernel
theorem dX0_codeFor_51 : decode cX0_codeFor 51 = .ok (.idiv, 1) := by decide +kernel
theorem dX0_codeFor_52 : decode cX0_codeFor 52 = .ok (.isub, 1) := by decide +kernel
theorem dX0_codeFor_53 : decode cX0_codeFor 53 = .ok (.istore_n 3, 1) := by decide +kernel
theorem dX0_codeFor_54 : decode cX0_codeFor 54 = .ok (.iload_n 3, 1) := by decide +kernel
theorem dX0_codeFor_55 : decode cX0_codeFor 55 = .ok (.iload_n 2, 1) := by decide +kernel
theorem dX0_codeFor_56 : decode cX0_codeFor 56 = .ok (.iconst 4, 1) := by decide +kernel
theorem dX0_codeFor_57 : decode cX0_codeFor 57 = .ok (.idiv, 1) := by decide +kernel
theorem dX0_codeFor_58 : decode cX0_codeFor 58 = .ok (.if_icmp .lt 6, 3) := by decide +kernel
theorem dX0_codeFor_61 : decode cX0_codeFor 61 = .ok (.iinc 4 1, 3) := by decide +kernel
theorem dX0_codeFor_64 : decode cX0_codeFor 64 = .ok (.iload 4, 2) := by decide +kernel
theorem dX0_codeFor_66 : decode cX0_codeFor 66 = .ok (.ireturn, 1) := by decide +kernel
theorem dX0_nearestCodeFor_0 : decode cX0_nearestCodeFor 0 = .ok (.iconst 0, 1) := by decide +kernel
theorem dX0_nearestCodeFor_1 : decode cX0_nearestCodeFor 1 = .ok (.istore_n 2, 1) := by decide +kernel
theorem dX0_nearestCodeFor_2 : decode cX0_nearestCodeFor 2 = .ok (.aload_n 0, 1) := by decide +kernel
theorem dX0_nearestCodeFor_3 : decode cX0_nearestCodeFor 3 = .ok (.iconst 0, 1) := by decide +kernel
theorem dX0_nearestCodeFor_4 : decode cX0_nearestCodeFor 4 = .ok (.aload_n 0, 1) := by decide +kernel
theorem dX0_nearestCodeFor_5 : decode cX0_nearestCodeFor 5 = .ok (.invokevirtual 22, 3) := by decide +kernel
theorem dX0_nearestCodeFor_8 : decode cX0_nearestCodeFor 8 = .ok (.invokevirtual 26, 3) := by decide +kernel
theorem dX0_nearestCodeFor_11 : decode cX0_nearestCodeFor 11 = .ok (.iload_n 1, 1) := by decide +kernel
theorem dX0_nearestCodeFor_12 : decode cX0_nearestCodeFor 12 = .ok (.invokestatic 30, 3) := by decide +kernel
theorem dX0_nearestCodeFor_15 : decode cX0_nearestCodeFor 15 = .ok (.istore_n 3, 1) := by decide +kernel
theorem dX0_nearestCodeFor_16 : decode cX0_nearestCodeFor 16 = .ok (.iconst 1, 1) := by decide +kernel
theorem dX0_nearestCodeFor_17 : decode cX0_nearestCodeFor 17 = .ok (.istore 4, 2) := by decide +kernel
theorem dX0_nearestCodeFor_19 : decode cX0_nearestCodeFor 19 = .ok (.iload 4, 2) := by decide +kernel
theorem dX0_nearestCodeFor_21 : decode cX0_nearestCodeFor 21 = .ok (.bipush 16, 2) := by decide +kernel
theorem dX0_nearestCodeFor_23 : decode cX0_nearestCodeFor 23 = .ok (.if_icmp .ge 37, 3) := by decide +kernel
theorem dX0_nearestCodeFor_26 : decode cX0_nearestCodeFor 26 = .ok (.aload_n 0, 1) := by decide +kernel
theorem dX0_nearestCodeFor_27 : decode cX0_nearestCodeFor 27 = .ok (.iload 4, 2) := by decide +kernel
theorem dX0_nearestCodeFor_29 : decode cX0_nearestCodeFor 29 = .ok (.aload_n 0, 1) := by decide +kernel
theorem dX0_nearestCodeFor_30 : decode cX0_nearestCodeFor 30 = .ok (.invokevirtual 22, 3) := by decide +kernel
theorem dX0_nearestCodeFor_33 : decode cX0_nearestCodeFor 33 = .ok (.invokevirtual 26, 3) := by decide +kernel
theorem dX0_nearestCodeFor_36 : decode cX0_nearestCodeFor 36 = .ok (.iload_n 1, 1) := by decide +kernel
theorem dX0_nearestCodeFor_37 : decode cX0_nearestCodeFor 37 = .ok (.invokestatic 30, 3) := by decide +kernel
theorem dX0_nearestCodeFor_40 : decode cX0_nearestCodeFor 40 = .ok (.istore 5, 2) := by decide +kernel
theorem dX0_nearestCodeFor_42 : decode cX0_nearestCodeFor 42 = .ok (.iload 5, 2) := by decide +kernel
theorem dX0_nearestCodeFor_44 : decode cX0_nearestCodeFor 44 = .ok (.iload_n 3, 1) := by decide +kernel
theorem dX0_nearestCodeFor_45 : decode cX0_nearestCodeFor 45 = .ok (.if_icmp .ge 9, 3) := by decide +kernel
theorem dX0_nearestCodeFor_48 : decode cX0_nearestCodeFor 48 = .ok (.iload 5, 2) := by decide +kernel
theorem dX0_nearestCodeFor_50 : decode cX0_nearestCodeFor 50 = .ok (.istore_n 3, 1) := by decide +kernel
theorem dX0_nearestCodeFor_51 : decode cX0_nearestCodeFor 51 = .ok (.iload 4, 2) := by decide +kernel
theorem dX0_nearestCodeFor_53 : decode cX0_nearestCodeFor 53 = .ok (.istore_n 2, 1) := by decide +kernel
theorem dX0_nearestCodeFor_54 : decode cX0_nearestCodeFor 54 = .ok (.iinc 4 1, 3) := by decide +kernel
theorem dX0_nearestCodeFor_57 : decode cX0_nearestCodeFor 57 = .ok (.goto (-38), 3) := by decide +kernel
theorem dX0_nearestCodeFor_60 : decode cX0_nearestCodeFor 60 = .ok (.iload_n 2, 1) := by decide +kernel
theorem dX0_nearestCodeFor_61 : decode cX0_nearestCodeFor 61 = .ok (.ireturn, 1) := by decide +kernel
theorem dX0_guessBehind_0 : decode cX0_guessBehind 0 = .ok (.iload_n 2, 1) := by decide +kernel
theorem dX0_guessBehind_1 : decode cX0_guessBehind 1 = .ok (.bipush 8, 2) := by decide +kernel
theorem dX0_guessBehind_3 : decode cX0_guessBehind 3 = .ok (.idiv, 1) := by decide +kernel
theorem dX0_guessBehind_4 : decode cX0_guessBehind 4 = .ok (.istore_n 3, 1) := by decide +kernel
theorem dX0_guessBehind_5 : decode cX0_guessBehind 5 = .ok (.iload_n 1, 1) := by decide +kernel
theorem dX0_guessBehind_6 : decode cX0_guessBehind 6 = .ok (.iconst 4, 1) := by decide +kernel
theorem dX0_guessBehind_7 : decode cX0_guessBehind 7 = .ok (.iand, 1) := by decide +kernel
theorem dX0_guessBehind_8 : decode cX0_guessBehind 8 = .ok (.ifCond .eq 7, 3) := by decide +kernel
theorem dX0_guessBehind_11 : decode cX0_guessBehind 11 = .ok (.iload_n 3, 1) := by decide +kernel
theorem dX0_guessBehind_12 : decode cX0_guessBehind 12 = .ok (.iload_n 2, 1) := by decide +kernel
theorem dX0_guessBehind_13 : decode cX0_guessBehind 13 = .ok (.iadd, 1) := by decide +kernel
theorem dX0_guessBehind_14 : decode cX0_guessBehind 14 = .ok (.istore_n 3, 1) := by decide +kernel
theorem dX0_guessBehind_15 : decode cX0_guessBehind 15 = .ok (.iload_n 1, 1) := by decide +kernel
theorem dX0_guessBehind_16 : decode cX0_guessBehind 16 = .ok (.iconst 2, 1) := by decide +kernel
theorem dX0_guessBehind_17 : decode cX0_guessBehind 17 = .ok (.iand, 1) := by decide +kernel
theorem dX0_guessBehind_18 : decode cX0_guessBehind 18 = .ok (.ifCond .eq 9, 3) := by decide +kernel
theorem dX0_guessBehind_21 : decode cX0_guessBehind 21 = .ok (.iload_n 3, 1) := by decide +kernel
theorem dX0_guessBehind_22 : decode cX0_guessBehind 22 = .ok (.iload_n 2, 1) := by decide +kernel
theorem dX0_guessBehind_23 : decode cX0_guessBehind 23 = .ok (.iconst 2, 1) := by decide +kernel
theorem dX0_guessBehind_24 : decode cX0_guessBehind 24 = .ok (.idiv, 1) := by decide +kernel
theorem dX0_guessBehind_25 : decode cX0_guessBehind 25 = .ok (.iadd, 1) := by decide +kernel
theorem dX0_guessBehind_26 : decode cX0_guessBehind 26 = .ok (.istore_n 3, 1) := by decide +kernel
theorem dX0_guessBehind_27 : decode cX0_guessBehind 27 = .ok (.iload_n 1, 1) := by decide +kernel
theorem dX0_guessBehind_28 : decode cX0_guessBehind 28 = .ok (.iconst 1, 1) := by decide +kernel
theorem dX0_guessBehind_29 : decode cX0_guessBehind 29 = .ok (.iand, 1) := by decide +kernel
theorem dX0_guessBehind_30 : decode cX0_guessBehind 30 = .ok (.ifCond .eq 9, 3) := by decide +kernel
theorem dX0_guessBehind_33 : decode cX0_guessBehind 33 = .ok (.iload_n 3, 1) := by decide +kernel
theorem dX0_guessBehind_34 : decode cX0_guessBehind 34 = .ok (.iload_n 2, 1) := by decide +kernel
theorem dX0_guessBehind_35 : decode cX0_guessBehind 35 = .ok (.iconst 4, 1) := by decide +kernel
theorem dX0_guessBehind_36 : decode cX0_guessBehind 36 = .ok (.idiv, 1) := by decide +kernel
theorem dX0_guessBehind_37 : decode cX0_guessBehind 37 = .ok (.iadd, 1) := by decide +kernel
theorem dX0_guessBehind_38 : decode cX0_guessBehind 38 = .ok (.istore_n 3, 1) := by decide +kernel
theorem dX0_guessBehind_39 : decode cX0_guessBehind 39 = .ok (.iload_n 1, 1) := by decide +kernel
theorem dX0_guessBehind_40 : decode cX0_guessBehind 40 = .ok (.bipush 8, 2) := by decide +kernel
theorem dX0_guessBehind_42 : decode cX0_guessBehind 42 = .ok (.iand, 1) := by decide +kernel
theorem dX0_guessBehind_43 : decode cX0_guessBehind 43 = .ok (.ifCond .eq 12, 3) := by decide +kernel
theorem dX0_guessBehind_46 : decode cX0_guessBehind 46 = .ok (.aload_n 0, 1) := by decide +kernel
theorem dX0_guessBehind_47 : decode cX0_guessBehind 47 = .ok (.getfield 9, 3) := by decide +kernel
theorem dX0_guessBehind_50 : decode cX0_guessBehind 50 = .ok (.iload_n 3, 1) := by decide +kernel
theorem dX0_guessBehind_51 : decode cX0_guessBehind 51 = .ok (.isub, 1) := by decide +kernel
theorem dX0_guessBehind_52 : decode cX0_guessBehind 52 = .ok (.goto 9, 3) := by decide +kernel
theorem dX0_guessBehind_55 : decode cX0_guessBehind 55 = .ok (.aload_n 0, 1) := by decide +kernel
theorem dX0_guessBehind_56 : decode cX0_guessBehind 56 = .ok (.getfield 9, 3) := by decide +kernel
theorem dX0_guessBehind_59 : decode cX0_guessBehind 59 = .ok (.iload_n 3, 1) := by decide +kernel
theorem dX0_guessBehind_60 : decode cX0_guessBehind 60 = .ok (.iadd, 1) := by decide +kernel
theorem dX0_guessBehind_61 : decode cX0_guessBehind 61 = .ok (.istore 4, 2) := by decide +kernel
theorem dX0_guessBehind_63 : decode cX0_guessBehind 63 = .ok (.sipush (-2000), 3) := by decide +kernel
theorem dX0_guessBehind_66 : decode cX0_guessBehind 66 = .ok (.iload 4, 2) := by decide +kernel
theorem dX0_guessBehind_68 : decode cX0_guessBehind 68 = .ok (.sipush 2000, 3) := by decide +kernel
theorem dX0_guessBehind_71 : decode cX0_guessBehind 71 = .ok (.invokestatic 33, 3) := by decide +kernel
theorem dX0_guessBehind_74 : decode cX0_guessBehind 74 = .ok (.invokestatic 38, 3) := by decide +kernel
theorem dX0_guessBehind_77 : decode cX0_guessBehind 77 = .ok (.ireturn, 1) := by decide +kernel
theorem dX0_follow_0 : decode cX0_follow 0 = .ok (.aload_n 0, 1) := by decide +kernel
theorem dX0_follow_1 : decode cX0_follow 1 = .ok (.aload_n 0, 1) := by decide +kernel
theorem dX0_follow_2 : decode cX0_follow 2 = .ok (.iload_n 1, 1) := by decide +kernel
theorem dX0_follow_3 : decode cX0_follow 3 = .ok (.aload_n 0, 1) := by decide +kernel
theorem dX0_follow_4 : decode cX0_follow 4 = .ok (.invokevirtual 22, 3) := by decide +kernel
theorem dX0_follow_7 : decode cX0_follow 7 = .ok (.invokevirtual 26, 3) := by decide +kernel
theorem dX0_follow_10 : decode cX0_follow 10 = .ok (.putfield 9, 3) := by decide +kernel
theorem dX0_follow_13 : decode cX0_follow 13 = .ok (.iload_n 1, 1) := by decide +kernel
theorem dX0_follow_14 : decode cX0_follow 14 = .ok (.bipush 7, 2) := by decide +kernel
theorem dX0_follow_16 : decode cX0_follow 16 = .ok (.iand, 1) := by decide +kernel
theorem dX0_follow_17 : decode cX0_follow 17 = .ok (.istore_n 2, 1) := by decide +kernel
theorem dX0_follow_18 : decode cX0_follow 18 = .ok (.iload_n 2, 1) := by decide +kernel
theorem dX0_follow_19 : decode cX0_follow 19 = .ok (.iconst 4, 1) := by decide +kernel
theorem dX0_follow_20 : decode cX0_follow 20 = .ok (.if_icmp .ge 7, 3) := by decide +kernel
theorem dX0_follow_23 : decode cX0_follow 23 = .ok (.iconst (-1), 1) := by decide +kernel
theorem dX0_follow_24 : decode cX0_follow 24 = .ok (.goto 8, 3) := by decide +kernel
theorem dX0_follow_27 : decode cX0_follow 27 = .ok (.iconst 2, 1) := by decide +kernel
theorem dX0_follow_28 : decode cX0_follow 28 = .ok (.iload_n 2, 1) := by decide +kernel
theorem dX0_follow_29 : decode cX0_follow 29 = .ok (.iconst 3, 1) := by decide +kernel
theorem dX0_follow_30 : decode cX0_follow 30 = .ok (.isub, 1) := by decide +kernel
theorem dX0_follow_31 : decode cX0_follow 31 = .ok (.imul, 1) := by decide +kernel
theorem dX0_follow_32 : decode cX0_follow 32 = .ok (.istore_n 3, 1) := by decide +kernel
theorem dX0_follow_33 : decode cX0_follow 33 = .ok (.aload_n 0, 1) := by decide +kernel
theorem dX0_follow_34 : decode cX0_follow 34 = .ok (.iconst 0, 1) := by decide +kernel
theorem dX0_follow_35 : decode cX0_follow 35 = .ok (.aload_n 0, 1) := by decide +kernel
theorem dX0_follow_36 : decode cX0_follow 36 = .ok (.getfield 15, 3) := by decide +kernel
theorem dX0_follow_39 : decode cX0_follow 39 = .ok (.iload_n 3, 1) := by decide +kernel
theorem dX0_follow_40 : decode cX0_follow 40 = .ok (.iadd, 1) := by decide +kernel
theorem dX0_follow_41 : decode cX0_follow 41 = .ok (.bipush 24, 2) := by decide +kernel
theorem dX0_follow_43 : decode cX0_follow 43 = .ok (.invokestatic 33, 3) := by decide +kernel
theorem dX0_follow_46 : decode cX0_follow 46 = .ok (.invokestatic 38, 3) := by decide +kernel
theorem dX0_follow_49 : decode cX0_follow 49 = .ok (.putfield 15, 3) := by decide +kernel
theorem dX0_follow_52 : decode cX0_follow 52 = .ok (.return_, 1) := by decide +kernel
theorem dX0_followAll_0 : decode cX0_followAll 0 = .ok (.iconst 0, 1) := by decide +kernel
theorem dX0_followAll_1 : decode cX0_followAll 1 = .ok (.istore_n 2, 1) := by decide +kernel
theorem dX0_followAll_2 : decode cX0_followAll 2 = .ok (.iload_n 2, 1) := by decide +kernel
theorem dX0_followAll_3 : decode cX0_followAll 3 = .ok (.aload_n 1, 1) := by decide +kernel
theorem dX0_followAll_4 : decode cX0_followAll 4 = .ok (.getfield 41, 3) := by decide +kernel
theorem dX0_followAll_7 : decode cX0_followAll 7 = .ok (.if_icmp .ge 18, 3) := by decide +kernel
theorem dX0_followAll_10 : decode cX0_followAll 10 = .ok (.aload_n 0, 1) := by decide +kernel
theorem dX0_followAll_11 : decode cX0_followAll 11 = .ok (.aload_n 1, 1) := by decide +kernel
theorem dX0_followAll_12 : decode cX0_followAll 12 = .ok (.iload_n 2, 1) := by decide +kernel
theorem dX0_followAll_13 : decode cX0_followAll 13 = .ok (.invokevirtual 46, 3) := by decide +kernel
theorem dX0_followAll_16 : decode cX0_followAll 16 = .ok (.invokevirtual 50, 3) := by decide +kernel
theorem dX0_followAll_19 : decode cX0_followAll 19 = .ok (.iinc 2 1, 3) := by decide +kernel
theorem dX0_followAll_22 : decode cX0_followAll 22 = .ok (.goto (-20), 3) := by decide +kernel
theorem dX0_followAll_25 : decode cX0_followAll 25 = .ok (.return_, 1) := by decide +kernel
theorem dX0_fade_0 : decode cX0_fade 0 = .ok (.aload_n 0, 1) := by decide +kernel
theorem dX0_fade_1 : decode cX0_fade 1 = .ok (.iconst 3, 1) := by decide +kernel
theorem dX0_fade_2 : decode cX0_fade 2 = .ok (.aload_n 0, 1) := by decide +kernel
theorem dX0_fade_3 : decode cX0_fade 3 = .ok (.getfield 9, 3) := by decide +kernel
theorem dX0_fade_6 : decode cX0_fade 6 = .ok (.imul, 1) := by decide +kernel
theorem dX0_fade_7 : decode cX0_fade 7 = .ok (.iconst 4, 1) := by decide +kernel
theorem dX0_fade_8 : decode cX0_fade 8 = .ok (.idiv, 1) := by decide +kernel
theorem dX0_fade_9 : decode cX0_fade 9 = .ok (.putfield 9, 3) := by decide +kernel
theorem dX0_fade_12 : decode cX0_fade 12 = .ok (.return_, 1) := by decide +kernel
theorem dX1_init_0 : decode cX1_init 0 = .ok (.aload_n 0, 1) := by decide +kernel
theorem dX1_init_1 : decode cX1_init 1 = .ok (.invokespecial 3, 3) := by decide +kernel
theorem dX1_init_4 : decode cX1_init 4 = .ok (.aload_n 0, 1) := by decide +kernel
theorem dX1_init_5 : decode cX1_init 5 = .ok (.new 9, 3) := by decide +kernel
theorem dX1_init_8 : decode cX1_init 8 = .ok (.dup, 1) := by decide +kernel
theorem dX1_init_9 : decode cX1_init 9 = .ok (.invokespecial 11, 3) := by decide +kernel
theorem dX1_init_12 : decode cX1_init 12 = .ok (.putfield 12, 3) := by decide +kernel
theorem dX1_init_15 : decode cX1_init 15 = .ok (.return_, 1) := by decide +kernel
theorem dX1_copyFrom_0 : decode cX1_copyFrom 0 = .ok (.aload_n 0, 1) := by decide +kernel
theorem dX1_copyFrom_1 : decode cX1_copyFrom 1 = .ok (.getfield 12, 3) := by decide +kernel
theorem dX1_copyFrom_4 : decode cX1_copyFrom 4 = .ok (.aload_n 1, 1) := by decide +kernel
theorem dX1_copyFrom_5 : decode cX1_copyFrom 5 = .ok (.getfield 12, 3) := by decide +kernel
theorem dX1_copyFrom_8 : decode cX1_copyFrom 8 = .ok (.invokevirtual 18, 3) := by decide +kernel
theorem dX1_copyFrom_11 : decode cX1_copyFrom 11 = .ok (.aload_n 0, 1) := by decide +kernel
theorem dX1_copyFrom_12 : decode cX1_copyFrom 12 = .ok (.aload_n 1, 1) := by decide +kernel
theorem dX1_copyFrom_13 : decode cX1_copyFrom 13 = .ok (.getfield 22, 3) := by decide +kernel
theorem dX1_copyFrom_16 : decode cX1_copyFrom 16 = .ok (.putfield 22, 3) := by decide +kernel
theorem dX1_copyFrom_19 : decode cX1_copyFrom 19 = .ok (.aload_n 0, 1) := by decide +kernel
theorem dX1_copyFrom_20 : decode cX1_copyFrom 20 = .ok (.aload_n 1, 1) := by decide +kernel
theorem dX1_copyFrom_21 : decode cX1_copyFrom 21 = .ok (.getfield 26, 3) := by decide +kernel
theorem dX1_copyFrom_24 : decode cX1_copyFrom 24 = .ok (.putfield 26, 3) := by decide +kernel
theorem dX1_copyFrom_27 : decode cX1_copyFrom 27 = .ok (.aload_n 0, 1) := by decide +kernel
theorem dX1_copyFrom_28 : decode cX1_copyFrom 28 = .ok (.aload_n 1, 1) := by decide +kernel
theorem dX1_copyFrom_29 : decode cX1_copyFrom 29 = .ok (.getfield 29, 3) := by decide +kernel
theorem dX1_copyFrom_32 : decode cX1_copyFrom 32 = .ok (.putfield 29, 3) := by decide +kernel
theorem dX1_copyFrom_35 : decode cX1_copyFrom 35 = .ok (.aload_n 0, 1) := by decide +kernel
theorem dX1_copyFrom_36 : decode cX1_copyFrom 36 = .ok (.aload_n 1, 1) := by decide +kernel
theorem dX1_copyFrom_37 : decode cX1_copyFrom 37 = .ok (.getfield 32, 3) := by decide +kernel
theorem dX1_copyFrom_40 : decode cX1_copyFrom 40 = .ok (.putfield 32, 3) := by decide +kernel
theorem dX1_copyFrom_43 : decode cX1_copyFrom 43 = .ok (.aload_n 0, 1) := by decide +kernel
theorem dX1_copyFrom_44 : decode cX1_copyFrom 44 = .ok (.aload_n 1, 1) := by decide +kernel
theorem dX1_copyFrom_45 : decode cX1_copyFrom 45 = .ok (.getfield 35, 3) := by decide +kernel
theorem dX1_copyFrom_48 : decode cX1_copyFrom 48 = .ok (.putfield 35, 3) := by decide +kernel
theorem dX1_copyFrom_51 : decode cX1_copyFrom 51 = .ok (.aload_n 0, 1) := by decide +kernel
theorem dX1_copyFrom_52 : decode cX1_copyFrom 52 = .ok (.aload_n 1, 1) := by decide +kernel
theorem dX1_copyFrom_53 : decode cX1_copyFrom 53 = .ok (.getfield 38, 3) := by decide +kernel
theorem dX1_copyFrom_56 : decode cX1_copyFrom 56 = .ok (.putfield 38, 3) := by decide +kernel
theorem dX1_copyFrom_59 : decode cX1_copyFrom 59 = .ok (.aload_n 0, 1) := by decide +kernel
theorem dX1_copyFrom_60 : decode cX1_copyFrom 60 = .ok (.aload_n 1, 1) := by decide +kernel
theorem dX1_copyFrom_61 : decode cX1_copyFrom 61 = .ok (.getfield 41, 3) := by decide +kernel
theorem dX1_copyFrom_64 : decode cX1_copyFrom 64 = .ok (.putfield 41, 3) := by decide +kernel
theorem dX1_copyFrom_67 : decode cX1_copyFrom 67 = .ok (.aload_n 0, 1) := by decide +kernel
theorem dX1_copyFrom_68 : decode cX1_copyFrom 68 = .ok (.aload_n 1, 1) := by decide +kernel
theorem dX1_copyFrom_69 : decode cX1_copyFrom 69 = .ok (.getfield 44, 3) := by decide +kernel
theorem dX1_copyFrom_72 : decode cX1_copyFrom 72 = .ok (.putfield 44, 3) := by decide +kernel
theorem dX1_copyFrom_75 : decode cX1_copyFrom 75 = .ok (.aload_n 0, 1) := by decide +kernel
theorem dX1_copyFrom_76 : decode cX1_copyFrom 76 = .ok (.aload_n 1, 1) := by decide +kernel
theorem dX1_copyFrom_77 : decode cX1_copyFrom 77 = .ok (.getfield 47, 3) := by decide +kernel
theorem dX1_copyFrom_80 : decode cX1_copyFrom 80 = .ok (.putfield 47, 3) := by decide +kernel
theorem dX1_copyFrom_83 : decode cX1_copyFrom 83 = .ok (.return_, 1) := by decide +kernel
theorem dX1_receive_0 : decode cX1_receive 0 = .ok (.aload_n 0, 1) := by decide +kernel
theorem dX1_receive_1 : decode cX1_receive 1 = .ok (.dup, 1) := by decide +kernel
theorem dX1_receive_2 : decode cX1_receive 2 = .ok (.getfield 47, 3) := by decide +kernel
theorem dX1_receive_5 : decode cX1_receive 5 = .ok (.iconst 1, 1) := by decide +kernel
theorem dX1_receive_6 : decode cX1_receive 6 = .ok (.iadd, 1) := by decide +kernel
theorem dX1_receive_7 : decode cX1_receive 7 = .ok (.putfield 47, 3) := by decide +kernel
theorem dX1_receive_10 : decode cX1_receive 10 = .ok (.aload_n 1, 1) := by decide +kernel
theorem dX1_receive_11 : decode cX1_receive 11 = .ok (.getfield 50, 3) := by decide +kernel
theorem dX1_receive_14 : decode cX1_receive 14 = .ok (.aload_n 0, 1) := by decide +kernel
theorem dX1_receive_15 : decode cX1_receive 15 = .ok (.getfield 22, 3) := by decide +kernel
theorem dX1_receive_18 : decode cX1_receive 18 = .ok (.if_icmp .ge 17, 3) := by decide +kernel
theorem dX1_receive_21 : decode cX1_receive 21 = .ok (.aload_n 0, 1) := by decide +kernel
theorem dX1_receive_22 : decode cX1_receive 22 = .ok (.dup, 1) := by decide +kernel
theorem dX1_receive_23 : decode cX1_receive 23 = .ok (.getfield 32, 3) := by decide +kernel
theorem dX1_receive_26 : decode cX1_receive 26 = .ok (.iconst 1, 1) := by decide +kernel
theorem dX1_receive_27 : decode cX1_receive 27 = .ok (.iadd, 1) := by decide +kernel
theorem dX1_receive_28 : decode cX1_receive 28 = .ok (.putfield 32, 3) := by decide +kernel
theorem dX1_receive_31 : decode cX1_receive 31 = .ok (.sipush (-10000), 3) := by decide +kernel
theorem dX1_receive_34 : decode cX1_receive 34 = .ok (.ireturn, 1) := by decide +kernel
theorem dX1_receive_35 : decode cX1_receive 35 = .ok (.aload_n 1, 1) := by decide +kernel
theorem dX1_receive_36 : decode cX1_receive 36 = .ok (.getfield 50, 3) := by decide +kernel
theorem dX1_receive_39 : decode cX1_receive 39 = .ok (.aload_n 0, 1) := by decide +kernel
theorem dX1_receive_40 : decode cX1_receive 40 = .ok (.getfield 22, 3) := by decide +kernel
theorem dX1_receive_43 : decode cX1_receive 43 = .ok (.isub, 1) := by decide +kernel
theorem dX1_receive_44 : decode cX1_receive 44 = .ok (.istore_n 2, 1) := by decide +kernel
theorem dX1_receive_45 : decode cX1_receive 45 = .ok (.iconst 0, 1) := by decide +kernel
theorem dX1_receive_46 : decode cX1_receive 46 = .ok (.istore_n 3, 1) := by decide +kernel
theorem dX1_receive_47 : decode cX1_receive 47 = .ok (.iload_n 3, 1) := by decide +kernel
theorem dX1_receive_48 : decode cX1_receive 48 = .ok (.iload_n 2, 1) := by decide +kernel
theorem dX1_receive_49 : decode cX1_receive 49 = .ok (.if_icmp .ge 16, 3) := by decide +kernel
theorem dX1_receive_52 : decode cX1_receive 52 = .ok (.aload_n 0, 1) := by decide +kernel
theorem dX1_receive_53 : decode cX1_receive 53 = .ok (.getfield 12, 3) := by decide +kernel
theorem dX1_receive_56 : decode cX1_receive 56 = .ok (.invokevirtual 55, 3) := by decide +kernel
theorem dX1_receive_59 : decode cX1_receive 59 = .ok (.iinc 3 1, 3) := by decide +kernel
theorem dX1_receive_62 : decode cX1_receive 62 = .ok (.goto (-15), 3) := by decide +kernel
theorem dX1_receive_65 : decode cX1_receive 65 = .ok (.aload_n 0, 1) := by decide +kernel
theorem dX1_receive_66 : decode cX1_receive 66 = .ok (.dup, 1) := by decide +kernel
theorem dX1_receive_67 : decode cX1_receive 67 = .ok (.getfield 29, 3) := by decide +kernel
theorem dX1_receive_70 : decode cX1_receive 70 = .ok (.iload_n 2, 1) := by decide +kernel
theorem dX1_receive_71 : decode cX1_receive 71 = .ok (.iadd, 1) := by decide +kernel
theorem dX1_receive_72 : decode cX1_receive 72 = .ok (.putfield 29, 3) := by decide +kernel
theorem dX1_receive_75 : decode cX1_receive 75 = .ok (.aload_n 1, 1) := by decide +kernel
theorem dX1_receive_76 : decode cX1_receive 76 = .ok (.getfield 58, 3) := by decide +kernel
theorem dX1_receive_79 : decode cX1_receive 79 = .ok (.ifCond .eq 11, 3) := by decide +kernel
theorem dX1_receive_82 : decode cX1_receive 82 = .ok (.aload_n 0, 1) := by decide +kernel
theorem dX1_receive_83 : decode cX1_receive 83 = .ok (.aload_n 1, 1) := by decide +kernel
theorem dX1_receive_84 : decode cX1_receive 84 = .ok (.getfield 62, 3) := by decide +kernel
theorem dX1_receive_87 : decode cX1_receive 87 = .ok (.invokevirtual 65, 3) := by decide +kernel
theorem dX1_receive_90 : decode cX1_receive 90 = .ok (.iconst 0, 1) := by decide +kernel
theorem dX1_receive_91 : decode cX1_receive 91 = .ok (.istore_n 3, 1) := by decide +kernel
theorem dX1_receive_92 : decode cX1_receive 92 = .ok (.iload_n 3, 1) := by decide +kernel
theorem dX1_receive_93 : decode cX1_receive 93 = .ok (.aload_n 1, 1) := by decide +kernel
theorem dX1_receive_94 : decode cX1_receive 94 = .ok (.getfield 68, 3) := by decide +kernel
theorem dX1_receive_97 : decode cX1_receive 97 = .ok (.if_icmp .ge 40, 3) := by decide +kernel
theorem dX1_receive_100 : decode cX1_receive 100 = .ok (.aload_n 0, 1) := by decide +kernel
theorem dX1_receive_101 : decode cX1_receive 101 = .ok (.getfield 12, 3) := by decide +kernel
theorem dX1_receive_104 : decode cX1_receive 104 = .ok (.aload_n 1, 1) := by decide +kernel
theorem dX1_receive_105 : decode cX1_receive 105 = .ok (.iload_n 3, 1) := by decide +kernel
theorem dX1_receive_106 : decode cX1_receive 106 = .ok (.invokevirtual 71, 3) := by decide +kernel
theorem dX1_receive_109 : decode cX1_receive 109 = .ok (.invokevirtual 75, 3) := by decide +kernel
theorem dX1_receive_112 : decode cX1_receive 112 = .ok (.aload_n 0, 1) := by decide +kernel
theorem dX1_receive_113 : decode cX1_receive 113 = .ok (.aload_n 0, 1) := by decide +kernel
theorem dX1_receive_114 : decode cX1_receive 114 = .ok (.getfield 12, 3) := by decide +kernel
theorem dX1_receive_117 : decode cX1_receive 117 = .ok (.getfield 79, 3) := by decide +kernel
theorem dX1_receive_120 : decode cX1_receive 120 = .ok (.aload_n 1, 1) := by decide +kernel
theorem dX1_receive_121 : decode cX1_receive 121 = .ok (.iload_n 3, 1) := by decide +kernel
theorem dX1_receive_122 : decode cX1_receive 122 = .ok (.invokevirtual 82, 3) := by decide +kernel
theorem dX1_receive_125 : decode cX1_receive 125 = .ok (.invokestatic 85, 3) := by decide +kernel
theorem dX1_receive_128 : decode cX1_receive 128 = .ok (.invokevirtual 89, 3) := by decide +kernel
theorem dX1_receive_131 : decode cX1_receive 131 = .ok (.iinc 3 1, 3) := by decide +kernel
theorem dX1_receive_134 : decode cX1_receive 134 = .ok (.goto (-42), 3) := by decide +kernel
theorem dX1_receive_137 : decode cX1_receive 137 = .ok (.aload_n 0, 1) := by decide +kernel
theorem dX1_receive_138 : decode cX1_receive 138 = .ok (.aload_n 1, 1) := by decide +kernel
theorem dX1_receive_139 : decode cX1_receive 139 = .ok (.getfield 50, 3) := by decide +kernel
theorem dX1_receive_142 : decode cX1_receive 142 = .ok (.iconst 1, 1) := by decide +kernel
theorem dX1_receive_143 : decode cX1_receive 143 = .ok (.iadd, 1) := by decide +kernel
theorem dX1_receive_144 : decode cX1_receive 144 = .ok (.putfield 22, 3) := by decide +kernel
theorem dX1_receive_147 : decode cX1_receive 147 = .ok (.iload_n 2, 1) := by decide +kernel
theorem dX1_receive_148 : decode cX1_receive 148 = .ok (.ireturn, 1) := by decide +kernel
theorem dX1_moveTo_0 : decode cX1_moveTo 0 = .ok (.aload_n 0, 1) := by decide +kernel
theorem dX1_moveTo_1 : decode cX1_moveTo 1 = .ok (.getfield 12, 3) := by decide +kernel
theorem dX1_moveTo_4 : decode cX1_moveTo 4 = .ok (.aload_n 1, 1) := by decide +kernel
theorem dX1_moveTo_5 : decode cX1_moveTo 5 = .ok (.getfield 79, 3) := by decide +kernel
theorem dX1_moveTo_8 : decode cX1_moveTo 8 = .ok (.aload_n 1, 1) := by decide +kernel
theorem dX1_moveTo_9 : decode cX1_moveTo 9 = .ok (.getfield 92, 3) := by decide +kernel
theorem dX1_moveTo_12 : decode cX1_moveTo 12 = .ok (.invokevirtual 95, 3) := by decide +kernel
theorem dX1_moveTo_15 : decode cX1_moveTo 15 = .ok (.ifCond .ne 13, 3) := by decide +kernel
theorem dX1_moveTo_18 : decode cX1_moveTo 18 = .ok (.aload_n 0, 1) := by decide +kernel
theorem dX1_moveTo_19 : decode cX1_moveTo 19 = .ok (.dup, 1) := by decide +kernel
theorem dX1_moveTo_20 : decode cX1_moveTo 20 = .ok (.getfield 35, 3) := by decide +kernel
theorem dX1_moveTo_23 : decode cX1_moveTo 23 = .ok (.iconst 1, 1) := by decide +kernel
theorem dX1_moveTo_24 : decode cX1_moveTo 24 = .ok (.iadd, 1) := by decide +kernel
theorem dX1_moveTo_25 : decode cX1_moveTo 25 = .ok (.putfield 35, 3) := by decide +kernel
theorem dX1_moveTo_28 : decode cX1_moveTo 28 = .ok (.aload_n 0, 1) := by decide +kernel
theorem dX1_moveTo_29 : decode cX1_moveTo 29 = .ok (.getfield 12, 3) := by decide +kernel
theorem dX1_moveTo_32 : decode cX1_moveTo 32 = .ok (.aload_n 1, 1) := by decide +kernel
theorem dX1_moveTo_33 : decode cX1_moveTo 33 = .ok (.invokevirtual 18, 3) := by decide +kernel
theorem dX1_moveTo_36 : decode cX1_moveTo 36 = .ok (.return_, 1) := by decide +kernel
theorem dX1_noteHeard_0 : decode cX1_noteHeard 0 = .ok (.aload_n 0, 1) := by decide +kernel
theorem dX1_noteHeard_1 : decode cX1_noteHeard 1 = .ok (.dup, 1) := by decide +kernel
theorem dX1_noteHeard_2 : decode cX1_noteHeard 2 = .ok (.getfield 26, 3) := by decide +kernel
theorem dX1_noteHeard_5 : decode cX1_noteHeard 5 = .ok (.iconst 1, 1) := by decide +kernel
theorem dX1_noteHeard_6 : decode cX1_noteHeard 6 = .ok (.iadd, 1) := by decide +kernel
theorem dX1_noteHeard_7 : decode cX1_noteHeard 7 = .ok (.putfield 26, 3) := by decide +kernel
theorem dX1_noteHeard_10 : decode cX1_noteHeard 10 = .ok (.aload_n 0, 1) := by decide +kernel
theorem dX1_noteHeard_11 : decode cX1_noteHeard 11 = .ok (.dup, 1) := by decide +kernel
theorem dX1_noteHeard_12 : decode cX1_noteHeard 12 = .ok (.getfield 44, 3) := by decide +kernel
theorem dX1_noteHeard_15 : decode cX1_noteHeard 15 = .ok (.aload_n 0, 1) := by decide +kernel
theorem dX1_noteHeard_16 : decode cX1_noteHeard 16 = .ok (.getfield 12, 3) := by decide +kernel
theorem dX1_noteHeard_19 : decode cX1_noteHeard 19 = .ok (.getfield 79, 3) := by decide +kernel
theorem dX1_noteHeard_22 : decode cX1_noteHeard 22 = .ok (.iadd, 1) := by decide +kernel
theorem dX1_noteHeard_23 : decode cX1_noteHeard 23 = .ok (.putfield 44, 3) := by decide +kernel
theorem dX1_noteHeard_26 : decode cX1_noteHeard 26 = .ok (.aload_n 0, 1) := by decide +kernel
theorem dX1_noteHeard_27 : decode cX1_noteHeard 27 = .ok (.dup, 1) := by decide +kernel
theorem dX1_noteHeard_28 : decode cX1_noteHeard 28 = .ok (.getfield 38, 3) := by decide +kernel
theorem dX1_noteHeard_31 : decode cX1_noteHeard 31 = .ok (.iload_n 1, 1) := by decide +kernel
theorem dX1_noteHeard_32 : decode cX1_noteHeard 32 = .ok (.iadd, 1) := by decide +kernel
theorem dX1_noteHeard_33 : decode cX1_noteHeard 33 = .ok (.putfield 38, 3) := by decide +kernel
theorem dX1_noteHeard_36 : decode cX1_noteHeard 36 = .ok (.iload_n 1, 1) := by decide +kernel
theorem dX1_noteHeard_37 : decode cX1_noteHeard 37 = .ok (.aload_n 0, 1) := by decide +kernel
theorem dX1_noteHeard_38 : decode cX1_noteHeard 38 = .ok (.getfield 41, 3) := by decide +kernel
theorem dX1_noteHeard_41 : decode cX1_noteHeard 41 = .ok (.if_icmp .le 8, 3) := by decide +kernel
theorem dX1_noteHeard_44 : decode cX1_noteHeard 44 = .ok (.aload_n 0, 1) := by decide +kernel
theorem dX1_noteHeard_45 : decode cX1_noteHeard 45 = .ok (.iload_n 1, 1) := by decide +kernel
theorem dX1_noteHeard_46 : decode cX1_noteHeard 46 = .ok (.putfield 41, 3) := by decide +kernel
theorem dX1_noteHeard_49 : decode cX1_noteHeard 49 = .ok (.return_, 1) := by decide +kernel
theorem dX1_meanOfErrors_0 : decode cX1_meanOfErrors 0 = .ok (.aload_n 0, 1) := by decide +kernel
theorem dX1_meanOfErrors_1 : decode cX1_meanOfErrors 1 = .ok (.getfield 26, 3) := by decide +kernel
theorem dX1_meanOfErrors_4 : decode cX1_meanOfErrors 4 = .ok (.ifCond .le 17, 3) := by decide +kernel
theorem dX1_meanOfErrors_7 : decode cX1_meanOfErrors 7 = .ok (.aload_n 0, 1) := by decide +kernel
theorem dX1_meanOfErrors_8 : decode cX1_meanOfErrors 8 = .ok (.getfield 38, 3) := by decide +kernel
theorem dX1_meanOfErrors_11 : decode cX1_meanOfErrors 11 = .ok (.i2d, 1) := by decide +kernel
theorem dX1_meanOfErrors_12 : decode cX1_meanOfErrors 12 = .ok (.aload_n 0, 1) := by decide +kernel
theorem dX1_meanOfErrors_13 : decode cX1_meanOfErrors 13 = .ok (.getfield 26, 3) := by decide +kernel
theorem dX1_meanOfErrors_16 : decode cX1_meanOfErrors 16 = .ok (.i2d, 1) := by decide +kernel
theorem dX1_meanOfErrors_17 : decode cX1_meanOfErrors 17 = .ok (.ddiv, 1) := by decide +kernel
theorem dX1_meanOfErrors_18 : decode cX1_meanOfErrors 18 = .ok (.goto 4, 3) := by decide +kernel
theorem dX1_meanOfErrors_21 : decode cX1_meanOfErrors 21 = .ok (.dconst 0, 1) := by decide +kernel
theorem dX1_meanOfErrors_22 : decode cX1_meanOfErrors 22 = .ok (.dreturn, 1) := by decide +kernel
theorem dX1_tell_0 : decode cX1_tell 0 = .ok (.iload_n 1, 1) := by decide +kernel
theorem dX1_tell_1 : decode cX1_tell 1 = .ok (.tableswitch 114 0 9 #[55, 63, 71, 79, 84, 89, 94, 99, 104, 109], 55) := by decide +kernel
theorem dX1_tell_56 : decode cX1_tell 56 = .ok (.aload_n 0, 1) := by decide +kernel
theorem dX1_tell_57 : decode cX1_tell 57 = .ok (.getfield 12, 3) := by decide +kernel
theorem dX1_tell_60 : decode cX1_tell 60 = .ok (.getfield 79, 3) := by decide +kernel
theorem dX1_tell_63 : decode cX1_tell 63 = .ok (.ireturn, 1) := by decide +kernel
theorem dX1_tell_64 : decode cX1_tell 64 = .ok (.aload_n 0, 1) := by decide +kernel
theorem dX1_tell_65 : decode cX1_tell 65 = .ok (.getfield 12, 3) := by decide +kernel
theorem dX1_tell_68 : decode cX1_tell 68 = .ok (.getfield 92, 3) := by decide +kernel
theorem dX1_tell_71 : decode cX1_tell 71 = .ok (.ireturn, 1) := by decide +kernel
theorem dX1_tell_72 : decode cX1_tell 72 = .ok (.aload_n 0, 1) := by decide +kernel
theorem dX1_tell_73 : decode cX1_tell 73 = .ok (.getfield 12, 3) := by decide +kernel
theorem dX1_tell_76 : decode cX1_tell 76 = .ok (.invokevirtual 99, 3) := by decide +kernel
theorem dX1_tell_79 : decode cX1_tell 79 = .ok (.ireturn, 1) := by decide +kernel
theorem dX1_tell_80 : decode cX1_tell 80 = .ok (.aload_n 0, 1) := by decide +kernel
theorem dX1_tell_81 : decode cX1_tell 81 = .ok (.getfield 22, 3) := by decide +kernel
theorem dX1_tell_84 : decode cX1_tell 84 = .ok (.ireturn, 1) := by decide +kernel
theorem dX1_tell_85 : decode cX1_tell 85 = .ok (.aload_n 0, 1) := by decide +kernel
theorem dX1_tell_86 : decode cX1_tell 86 = .ok (.getfield 26, 3) := by decide +kernel
theorem dX1_tell_89 : decode cX1_tell 89 = .ok (.ireturn, 1) := by decide +kernel
theorem dX1_tell_90 : decode cX1_tell 90 = .ok (.aload_n 0, 1) := by decide +kernel
theorem dX1_tell_91 : decode cX1_tell 91 = .ok (.getfield 29, 3) := by decide +kernel
theorem dX1_tell_94 : decode cX1_tell 94 = .ok (.ireturn, 1) := by decide +kernel
theorem dX1_tell_95 : decode cX1_tell 95 = .ok (.aload_n 0, 1) := by decide +kernel
theorem dX1_tell_96 : decode cX1_tell 96 = .ok (.getfield 32, 3) := by decide +kernel
theorem dX1_tell_99 : decode cX1_tell 99 = .ok (.ireturn, 1) := by decide +kernel
theorem dX1_tell_100 : decode cX1_tell 100 = .ok (.aload_n 0, 1) := by decide +kernel
theorem dX1_tell_101 : decode cX1_tell 101 = .ok (.getfield 35, 3) := by decide +kernel
theorem dX1_tell_104 : decode cX1_tell 104 = .ok (.ireturn, 1) := by decide +kernel
theorem dX1_tell_105 : decode cX1_tell 105 = .ok (.aload_n 0, 1) := by decide +kernel
theorem dX1_tell_106 : decode cX1_tell 106 = .ok (.getfield 38, 3) := by decide +kernel
theorem dX1_tell_109 : decode cX1_tell 109 = .ok (.ireturn, 1) := by decide +kernel
theorem dX1_tell_110 : decode cX1_tell 110 = .ok (.aload_n 0, 1) := by decide +kernel
theorem dX1_tell_111 : decode cX1_tell 111 = .ok (.getfield 41, 3) := by decide +kernel
theorem dX1_tell_114 : decode cX1_tell 114 = .ok (.ireturn, 1) := by decide +kernel
theorem dX1_tell_115 : decode cX1_tell 115 = .ok (.aload_n 0, 1) := by decide +kernel
theorem dX1_tell_116 : decode cX1_tell 116 = .ok (.getfield 44, 3) := by decide +kernel
theorem dX1_tell_119 : decode cX1_tell 119 = .ok (.ireturn, 1) := by decide +kernel
theorem dX2_init_0 : decode cX2_init 0 = .ok (.aload_n 0, 1) := by decide +kernel
theorem dX2_init_1 : decode cX2_init 1 = .ok (.invokespecial 3, 3) := by decide +kernel
theorem dX2_init_4 : decode cX2_init 4 = .ok (.aload_n 0, 1) := by decide +kernel
theorem dX2_init_5 : decode cX2_init 5 = .ok (.bipush 8, 2) := by decide +kernel
theorem dX2_init_7 : decode cX2_init 7 = .ok (.newarray .int, 2) := by decide +kernel
theorem dX2_init_9 : decode cX2_init 9 = .ok (.putfield 9, 3) := by decide +kernel
theorem dX2_init_12 : decode cX2_init 12 = .ok (.aload_n 0, 1) := by decide +kernel
theorem dX2_init_13 : decode cX2_init 13 = .ok (.bipush 8, 2) := by decide +kernel
theorem dX2_init_15 : decode cX2_init 15 = .ok (.newarray .int, 2) := by decide +kernel
theorem dX2_init_17 : decode cX2_init 17 = .ok (.putfield 15, 3) := by decide +kernel
theorem dX2_init_20 : decode cX2_init 20 = .ok (.aload_n 0, 1) := by decide +kernel
theorem dX2_init_21 : decode cX2_init 21 = .ok (.new 18, 3) := by decide +kernel
theorem dX2_init_24 : decode cX2_init 24 = .ok (.dup, 1) := by decide +kernel
theorem dX2_init_25 : decode cX2_init 25 = .ok (.invokespecial 20, 3) := by decide +kernel
theorem dX2_init_28 : decode cX2_init 28 = .ok (.putfield 21, 3) := by decide +kernel
theorem dX2_init_31 : decode cX2_init 31 = .ok (.return_, 1) := by decide +kernel
theorem dX2_copyFrom_0 : decode cX2_copyFrom 0 = .ok (.aload_n 1, 1) := by decide +kernel
theorem dX2_copyFrom_1 : decode cX2_copyFrom 1 = .ok (.getfield 9, 3) := by decide +kernel
theorem dX2_copyFrom_4 : decode cX2_copyFrom 4 = .ok (.iconst 0, 1) := by decide +kernel
theorem dX2_copyFrom_5 : decode cX2_copyFrom 5 = .ok (.aload_n 0, 1) := by decide +kernel
theorem dX2_copyFrom_6 : decode cX2_copyFrom 6 = .ok (.getfield 9, 3) := by decide +kernel
theorem dX2_copyFrom_9 : decode cX2_copyFrom 9 = .ok (.iconst 0, 1) := by decide +kernel
theorem dX2_copyFrom_10 : decode cX2_copyFrom 10 = .ok (.bipush 8, 2) := by decide +kernel
theorem dX2_copyFrom_12 : decode cX2_copyFrom 12 = .ok (.invokestatic 25, 3) := by decide +kernel
theorem dX2_copyFrom_15 : decode cX2_copyFrom 15 = .ok (.aload_n 1, 1) := by decide +kernel
theorem dX2_copyFrom_16 : decode cX2_copyFrom 16 = .ok (.getfield 15, 3) := by decide +kernel
theorem dX2_copyFrom_19 : decode cX2_copyFrom 19 = .ok (.iconst 0, 1) := by decide +kernel
theorem dX2_copyFrom_20 : decode cX2_copyFrom 20 = .ok (.aload_n 0, 1) := by decide +kernel
theorem dX2_copyFrom_21 : decode cX2_copyFrom 21 = .ok (.getfield 15, 3) := by decide +kernel
theorem dX2_copyFrom_24 : decode cX2_copyFrom 24 = .ok (.iconst 0, 1) := by decide +kernel
theorem dX2_copyFrom_25 : decode cX2_copyFrom 25 = .ok (.bipush 8, 2) := by decide +kernel
theorem dX2_copyFrom_27 : decode cX2_copyFrom 27 = .ok (.invokestatic 25, 3) := by decide +kernel
theorem dX2_copyFrom_30 : decode cX2_copyFrom 30 = .ok (.aload_n 0, 1) := by decide +kernel
theorem dX2_copyFrom_31 : decode cX2_copyFrom 31 = .ok (.aload_n 1, 1) := by decide +kernel
theorem dX2_copyFrom_32 : decode cX2_copyFrom 32 = .ok (.getfield 31, 3) := by decide +kernel
theorem dX2_copyFrom_35 : decode cX2_copyFrom 35 = .ok (.putfield 31, 3) := by decide +kernel
theorem dX2_copyFrom_38 : decode cX2_copyFrom 38 = .ok (.aload_n 0, 1) := by decide +kernel
theorem dX2_copyFrom_39 : decode cX2_copyFrom 39 = .ok (.aload_n 1, 1) := by decide +kernel
theorem dX2_copyFrom_40 : decode cX2_copyFrom 40 = .ok (.getfield 35, 3) := by decide +kernel
theorem dX2_copyFrom_43 : decode cX2_copyFrom 43 = .ok (.putfield 35, 3) := by decide +kernel
theorem dX2_copyFrom_46 : decode cX2_copyFrom 46 = .ok (.aload_n 0, 1) := by decide +kernel
theorem dX2_copyFrom_47 : decode cX2_copyFrom 47 = .ok (.aload_n 1, 1) := by decide +kernel
theorem dX2_copyFrom_48 : decode cX2_copyFrom 48 = .ok (.getfield 38, 3) := by decide +kernel
theorem dX2_copyFrom_51 : decode cX2_copyFrom 51 = .ok (.putfield 38, 3) := by decide +kernel
theorem dX2_copyFrom_54 : decode cX2_copyFrom 54 = .ok (.aload_n 0, 1) := by decide +kernel
theorem dX2_copyFrom_55 : decode cX2_copyFrom 55 = .ok (.getfield 21, 3) := by decide +kernel
theorem dX2_copyFrom_58 : decode cX2_copyFrom 58 = .ok (.aload_n 1, 1) := by decide +kernel
theorem dX2_copyFrom_59 : decode cX2_copyFrom 59 = .ok (.getfield 21, 3) := by decide +kernel
theorem dX2_copyFrom_62 : decode cX2_copyFrom 62 = .ok (.invokevirtual 42, 3) := by decide +kernel
theorem dX2_copyFrom_65 : decode cX2_copyFrom 65 = .ok (.return_, 1) := by decide +kernel
theorem dX2_add_0 : decode cX2_add 0 = .ok (.aload_n 0, 1) := by decide +kernel
theorem dX2_add_1 : decode cX2_add 1 = .ok (.getfield 31, 3) := by decide +kernel
theorem dX2_add_4 : decode cX2_add 4 = .ok (.ifCond .lt 42, 3) := by decide +kernel
theorem dX2_add_7 : decode cX2_add 7 = .ok (.aload_n 0, 1) := by decide +kernel
theorem dX2_add_8 : decode cX2_add 8 = .ok (.getfield 31, 3) := by decide +kernel
theorem dX2_add_11 : decode cX2_add 11 = .ok (.bipush 8, 2) := by decide +kernel
theorem dX2_add_13 : decode cX2_add 13 = .ok (.if_icmp .ge 33, 3) := by decide +kernel
theorem dX2_add_16 : decode cX2_add 16 = .ok (.aload_n 0, 1) := by decide +kernel
theorem dX2_add_17 : decode cX2_add 17 = .ok (.getfield 9, 3) := by decide +kernel
theorem dX2_add_20 : decode cX2_add 20 = .ok (.aload_n 0, 1) := by decide +kernel
theorem dX2_add_21 : decode cX2_add 21 = .ok (.getfield 31, 3) := by decide +kernel
theorem dX2_add_24 : decode cX2_add 24 = .ok (.iload_n 1, 1) := by decide +kernel
theorem dX2_add_25 : decode cX2_add 25 = .ok (.iastore, 1) := by decide +kernel
theorem dX2_add_26 : decode cX2_add 26 = .ok (.aload_n 0, 1) := by decide +kernel
theorem dX2_add_27 : decode cX2_add 27 = .ok (.getfield 15, 3) := by decide +kernel
theorem dX2_add_30 : decode cX2_add 30 = .ok (.aload_n 0, 1) := by decide +kernel
theorem dX2_add_31 : decode cX2_add 31 = .ok (.getfield 31, 3) := by decide +kernel
theorem dX2_add_34 : decode cX2_add 34 = .ok (.iload_n 2, 1) := by decide +kernel
theorem dX2_add_35 : decode cX2_add 35 = .ok (.iastore, 1) := by decide +kernel
theorem dX2_add_36 : decode cX2_add 36 = .ok (.aload_n 0, 1) := by decide +kernel
theorem dX2_add_37 : decode cX2_add 37 = .ok (.dup, 1) := by decide +kernel
theorem dX2_add_38 : decode cX2_add 38 = .ok (.getfield 31, 3) := by decide +kernel
theorem dX2_add_41 : decode cX2_add 41 = .ok (.iconst 1, 1) := by decide +kernel
theorem dX2_add_42 : decode cX2_add 42 = .ok (.iadd, 1) := by decide +kernel
theorem dX2_add_43 : decode cX2_add 43 = .ok (.putfield 31, 3) := by decide +kernel
theorem dX2_add_46 : decode cX2_add 46 = .ok (.return_, 1) := by decide +kernel
theorem dX2_codeAt_0 : decode cX2_codeAt 0 = .ok (.iload_n 1, 1) := by decide +kernel
theorem dX2_codeAt_1 : decode cX2_codeAt 1 = .ok (.ifCond .lt 21, 3) := by decide +kernel
theorem dX2_codeAt_4 : decode cX2_codeAt 4 = .ok (.iload_n 1, 1) := by decide +kernel
theorem dX2_codeAt_5 : decode cX2_codeAt 5 = .ok (.aload_n 0, 1) := by decide +kernel
theorem dX2_codeAt_6 : decode cX2_codeAt 6 = .ok (.getfield 9, 3) := by decide +kernel
theorem dX2_codeAt_9 : decode cX2_codeAt 9 = .ok (.arraylength, 1) := by decide +kernel
theorem dX2_codeAt_10 : decode cX2_codeAt 10 = .ok (.if_icmp .ge 12, 3) := by decide +kernel
theorem dX2_codeAt_13 : decode cX2_codeAt 13 = .ok (.aload_n 0, 1) := by decide +kernel
theorem dX2_codeAt_14 : decode cX2_codeAt 14 = .ok (.getfield 9, 3) := by decide +kernel
theorem dX2_codeAt_17 : decode cX2_codeAt 17 = .ok (.iload_n 1, 1) := by decide +kernel
theorem dX2_codeAt_18 : decode cX2_codeAt 18 = .ok (.iaload, 1) := by decide +kernel
theorem dX2_codeAt_19 : decode cX2_codeAt 19 = .ok (.goto 4, 3) := by decide +kernel
theorem dX2_codeAt_22 : decode cX2_codeAt 22 = .ok (.iconst 0, 1) := by decide +kernel
theorem dX2_codeAt_23 : decode cX2_codeAt 23 = .ok (.ireturn, 1) := by decide +kernel
theorem dX2_meanAt_0 : decode cX2_meanAt 0 = .ok (.iload_n 1, 1) := by decide +kernel
theorem dX2_meanAt_1 : decode cX2_meanAt 1 = .ok (.ifCond .lt 21, 3) := by decide +kernel
theorem dX2_meanAt_4 : decode cX2_meanAt 4 = .ok (.iload_n 1, 1) := by decide +kernel
theorem dX2_meanAt_5 : decode cX2_meanAt 5 = .ok (.aload_n 0, 1) := by decide +kernel
theorem dX2_meanAt_6 : decode cX2_meanAt 6 = .ok (.getfield 15, 3) := by decide +kernel
theorem dX2_meanAt_9 : decode cX2_meanAt 9 = .ok (.arraylength, 1) := by decide +kernel
theorem dX2_meanAt_10 : decode cX2_meanAt 10 = .ok (.if_icmp .ge 12, 3) := by decide +kernel
theorem dX2_meanAt_13 : decode cX2_meanAt 13 = .ok (.aload_n 0, 1) := by decide +kernel
theorem dX2_meanAt_14 : decode cX2_meanAt 14 = .ok (.getfield 15, 3) := by decide +kernel
theorem dX2_meanAt_17 : decode cX2_meanAt 17 = .ok (.iload_n 1, 1) := by decide +kernel
theorem dX2_meanAt_18 : decode cX2_meanAt 18 = .ok (.iaload, 1) := by decide +kernel
theorem dX2_meanAt_19 : decode cX2_meanAt 19 = .ok (.goto 4, 3) := by decide +kernel
theorem dX2_meanAt_22 : decode cX2_meanAt 22 = .ok (.iconst 0, 1) := by decide +kernel
theorem dX2_meanAt_23 : decode cX2_meanAt 23 = .ok (.ireturn, 1) := by decide +kernel
theorem dX2_tell_0 : decode cX2_tell 0 = .ok (.iload_n 1, 1) := by decide +kernel
theorem dX2_tell_1 : decode cX2_tell 1 = .ok (.tableswitch 100 0 4 #[35, 40, 45, 58, 79], 35) := by decide +kernel
theorem dX2_tell_36 : decode cX2_tell 36 = .ok (.aload_n 0, 1) := by decide +kernel
theorem dX2_tell_37 : decode cX2_tell 37 = .ok (.getfield 35, 3) := by decide +kernel
theorem dX2_tell_40 : decode cX2_tell 40 = .ok (.ireturn, 1) := by decide +kernel
theorem dX2_tell_41 : decode cX2_tell 41 = .ok (.aload_n 0, 1) := by decide +kernel
theorem dX2_tell_42 : decode cX2_tell 42 = .ok (.getfield 31, 3) := by decide +kernel
theorem dX2_tell_45 : decode cX2_tell 45 = .ok (.ireturn, 1) := by decide +kernel
theorem dX2_tell_46 : decode cX2_tell 46 = .ok (.aload_n 0, 1) := by decide +kernel
theorem dX2_tell_47 : decode cX2_tell 47 = .ok (.getfield 38, 3) := by decide +kernel
theorem dX2_tell_50 : decode cX2_tell 50 = .ok (.ifCond .eq 7, 3) := by decide +kernel
theorem dX2_tell_53 : decode cX2_tell 53 = .ok (.iconst 1, 1) := by decide +kernel
theorem dX2_tell_54 : decode cX2_tell 54 = .ok (.goto 4, 3) := by decide +kernel
theorem dX2_tell_57 : decode cX2_tell 57 = .ok (.iconst 0, 1) := by decide +kernel
theorem dX2_tell_58 : decode cX2_tell 58 = .ok (.ireturn, 1) := by decide +kernel
theorem dX2_tell_59 : decode cX2_tell 59 = .ok (.aload_n 0, 1) := by decide +kernel
theorem dX2_tell_60 : decode cX2_tell 60 = .ok (.getfield 38, 3) := by decide +kernel
theorem dX2_tell_63 : decode cX2_tell 63 = .ok (.ifCond .eq 13, 3) := by decide +kernel
theorem dX2_tell_66 : decode cX2_tell 66 = .ok (.aload_n 0, 1) := by decide +kernel
theorem dX2_tell_67 : decode cX2_tell 67 = .ok (.getfield 21, 3) := by decide +kernel
theorem dX2_tell_70 : decode cX2_tell 70 = .ok (.getfield 46, 3) := by decide +kernel
theorem dX2_tell_73 : decode cX2_tell 73 = .ok (.goto 6, 3) := by decide +kernel
theorem dX2_tell_76 : decode cX2_tell 76 = .ok (.sipush (-10000), 3) := by decide +kernel
theorem dX2_tell_79 : decode cX2_tell 79 = .ok (.ireturn, 1) := by decide +kernel
theorem dX2_tell_80 : decode cX2_tell 80 = .ok (.aload_n 0, 1) := by decide +kernel
theorem dX2_tell_81 : decode cX2_tell 81 = .ok (.getfield 38, 3) := by decide +kernel
theorem dX2_tell_84 : decode cX2_tell 84 = .ok (.ifCond .eq 13, 3) := by decide +kernel
theorem dX2_tell_87 : decode cX2_tell 87 = .ok (.aload_n 0, 1) := by decide +kernel
theorem dX2_tell_88 : decode cX2_tell 88 = .ok (.getfield 21, 3) := by decide +kernel
theorem dX2_tell_91 : decode cX2_tell 91 = .ok (.getfield 49, 3) := by decide +kernel
theorem dX2_tell_94 : decode cX2_tell 94 = .ok (.goto 6, 3) := by decide +kernel
theorem dX2_tell_97 : decode cX2_tell 97 = .ok (.sipush (-10000), 3) := by decide +kernel
theorem dX2_tell_100 : decode cX2_tell 100 = .ok (.ireturn, 1) := by decide +kernel
theorem dX2_tell_101 : decode cX2_tell 101 = .ok (.aload_n 0, 1) := by decide +kernel
theorem dX2_tell_102 : decode cX2_tell 102 = .ok (.invokevirtual 52, 3) := by decide +kernel
theorem dX2_tell_105 : decode cX2_tell 105 = .ok (.ireturn, 1) := by decide +kernel
theorem dX2_codesAsOne_0 : decode cX2_codesAsOne 0 = .ok (.iconst 0, 1) := by decide +kernel
theorem dX2_codesAsOne_1 : decode cX2_codesAsOne 1 = .ok (.istore_n 1, 1) := by decide +kernel
theorem dX2_codesAsOne_2 : decode cX2_codesAsOne 2 = .ok (.iconst 0, 1) := by decide +kernel
theorem dX2_codesAsOne_3 : decode cX2_codesAsOne 3 = .ok (.istore_n 2, 1) := by decide +kernel
theorem dX2_codesAsOne_4 : decode cX2_codesAsOne 4 = .ok (.iload_n 2, 1) := by decide +kernel
theorem dX2_codesAsOne_5 : decode cX2_codesAsOne 5 = .ok (.aload_n 0, 1) := by decide +kernel
theorem dX2_codesAsOne_6 : decode cX2_codesAsOne 6 = .ok (.getfield 31, 3) := by decide +kernel
theorem dX2_codesAsOne_9 : decode cX2_codesAsOne 9 = .ok (.if_icmp .ge 20, 3) := by decide +kernel
theorem dX2_codesAsOne_12 : decode cX2_codesAsOne 12 = .ok (.bipush 16, 2) := by decide +kernel
theorem dX2_codesAsOne_14 : decode cX2_codesAsOne 14 = .ok (.iload_n 1, 1) := by decide +kernel
theorem dX2_codesAsOne_15 : decode cX2_codesAsOne 15 = .ok (.imul, 1) := by decide +kernel
theorem dX2_codesAsOne_16 : decode cX2_codesAsOne 16 = .ok (.aload_n 0, 1) := by decide +kernel
theorem dX2_codesAsOne_17 : decode cX2_codesAsOne 17 = .ok (.iload_n 2, 1) := by decide +kernel
theorem dX2_codesAsOne_18 : decode cX2_codesAsOne 18 = .ok (.invokevirtual 56, 3) := by decide +kernel
theorem dX2_codesAsOne_21 : decode cX2_codesAsOne 21 = .ok (.iadd, 1) := by decide +kernel
theorem dX2_codesAsOne_22 : decode cX2_codesAsOne 22 = .ok (.istore_n 1, 1) := by decide +kernel
theorem dX2_codesAsOne_23 : decode cX2_codesAsOne 23 = .ok (.iinc 2 1, 3) := by decide +kernel
theorem dX2_codesAsOne_26 : decode cX2_codesAsOne 26 = .ok (.goto (-22), 3) := by decide +kernel
theorem dX2_codesAsOne_29 : decode cX2_codesAsOne 29 = .ok (.iload_n 1, 1) := by decide +kernel
theorem dX2_codesAsOne_30 : decode cX2_codesAsOne 30 = .ok (.ireturn, 1) := by decide +kernel
theorem dX3_init_0 : decode cX3_init 0 = .ok (.aload_n 0, 1) := by decide +kernel
theorem dX3_init_1 : decode cX3_init 1 = .ok (.invokespecial 3, 3) := by decide +kernel
theorem dX3_init_4 : decode cX3_init 4 = .ok (.aload_n 0, 1) := by decide +kernel
theorem dX3_init_5 : decode cX3_init 5 = .ok (.new 9, 3) := by decide +kernel
theorem dX3_init_8 : decode cX3_init 8 = .ok (.dup, 1) := by decide +kernel
theorem dX3_init_9 : decode cX3_init 9 = .ok (.invokespecial 11, 3) := by decide +kernel
theorem dX3_init_12 : decode cX3_init 12 = .ok (.putfield 12, 3) := by decide +kernel
theorem dX3_init_15 : decode cX3_init 15 = .ok (.aload_n 0, 1) := by decide +kernel
theorem dX3_init_16 : decode cX3_init 16 = .ok (.new 18, 3) := by decide +kernel
theorem dX3_init_19 : decode cX3_init 19 = .ok (.dup, 1) := by decide +kernel
theorem dX3_init_20 : decode cX3_init 20 = .ok (.invokespecial 20, 3) := by decide +kernel
theorem dX3_init_23 : decode cX3_init 23 = .ok (.putfield 21, 3) := by decide +kernel
theorem dX3_init_26 : decode cX3_init 26 = .ok (.aload_n 0, 1) := by decide +kernel
theorem dX3_init_27 : decode cX3_init 27 = .ok (.new 9, 3) := by decide +kernel
theorem dX3_init_30 : decode cX3_init 30 = .ok (.dup, 1) := by decide +kernel
theorem dX3_init_31 : decode cX3_init 31 = .ok (.invokespecial 11, 3) := by decide +kernel
theorem dX3_init_34 : decode cX3_init 34 = .ok (.putfield 25, 3) := by decide +kernel
theorem dX3_init_37 : decode cX3_init 37 = .ok (.aload_n 0, 1) := by decide +kernel
theorem dX3_init_38 : decode cX3_init 38 = .ok (.bipush 72, 2) := by decide +kernel
theorem dX3_init_40 : decode cX3_init 40 = .ok (.newarray .int, 2) := by decide +kernel
theorem dX3_init_42 : decode cX3_init 42 = .ok (.putfield 28, 3) := by decide +kernel
theorem dX3_init_45 : decode cX3_init 45 = .ok (.return_, 1) := by decide +kernel
theorem dX3_copyFrom_0 : decode cX3_copyFrom 0 = .ok (.aload_n 0, 1) := by decide +kernel
theorem dX3_copyFrom_1 : decode cX3_copyFrom 1 = .ok (.getfield 12, 3) := by decide +kernel
theorem dX3_copyFrom_4 : decode cX3_copyFrom 4 = .ok (.aload_n 1, 1) := by decide +kernel
theorem dX3_copyFrom_5 : decode cX3_copyFrom 5 = .ok (.getfield 12, 3) := by decide +kernel
theorem dX3_copyFrom_8 : decode cX3_copyFrom 8 = .ok (.invokevirtual 32, 3) := by decide +kernel
theorem dX3_copyFrom_11 : decode cX3_copyFrom 11 = .ok (.aload_n 0, 1) := by decide +kernel
theorem dX3_copyFrom_12 : decode cX3_copyFrom 12 = .ok (.aload_n 1, 1) := by decide +kernel
theorem dX3_copyFrom_13 : decode cX3_copyFrom 13 = .ok (.getfield 36, 3) := by decide +kernel
theorem dX3_copyFrom_16 : decode cX3_copyFrom 16 = .ok (.putfield 36, 3) := by decide +kernel
theorem dX3_copyFrom_19 : decode cX3_copyFrom 19 = .ok (.aload_n 0, 1) := by decide +kernel
theorem dX3_copyFrom_20 : decode cX3_copyFrom 20 = .ok (.aload_n 1, 1) := by decide +kernel
theorem dX3_copyFrom_21 : decode cX3_copyFrom 21 = .ok (.getfield 40, 3) := by decide +kernel
theorem dX3_copyFrom_24 : decode cX3_copyFrom 24 = .ok (.putfield 40, 3) := by decide +kernel
theorem dX3_copyFrom_27 : decode cX3_copyFrom 27 = .ok (.aload_n 0, 1) := by decide +kernel
theorem dX3_copyFrom_28 : decode cX3_copyFrom 28 = .ok (.aload_n 1, 1) := by decide +kernel
theorem dX3_copyFrom_29 : decode cX3_copyFrom 29 = .ok (.getfield 43, 3) := by decide +kernel
theorem dX3_copyFrom_32 : decode cX3_copyFrom 32 = .ok (.putfield 43, 3) := by decide +kernel
theorem dX3_copyFrom_35 : decode cX3_copyFrom 35 = .ok (.aload_n 0, 1) := by decide +kernel
theorem dX3_copyFrom_36 : decode cX3_copyFrom 36 = .ok (.getfield 21, 3) := by decide +kernel
theorem dX3_copyFrom_39 : decode cX3_copyFrom 39 = .ok (.aload_n 1, 1) := by decide +kernel
theorem dX3_copyFrom_40 : decode cX3_copyFrom 40 = .ok (.getfield 21, 3) := by decide +kernel
theorem dX3_copyFrom_43 : decode cX3_copyFrom 43 = .ok (.invokevirtual 46, 3) := by decide +kernel
theorem dX3_copyFrom_46 : decode cX3_copyFrom 46 = .ok (.aload_n 0, 1) := by decide +kernel
theorem dX3_copyFrom_47 : decode cX3_copyFrom 47 = .ok (.aload_n 1, 1) := by decide +kernel
theorem dX3_copyFrom_48 : decode cX3_copyFrom 48 = .ok (.getfield 49, 3) := by decide +kernel
theorem dX3_copyFrom_51 : decode cX3_copyFrom 51 = .ok (.putfield 49, 3) := by decide +kernel
theorem dX3_copyFrom_54 : decode cX3_copyFrom 54 = .ok (.aload_n 0, 1) := by decide +kernel
theorem dX3_copyFrom_55 : decode cX3_copyFrom 55 = .ok (.aload_n 1, 1) := by decide +kernel
theorem dX3_copyFrom_56 : decode cX3_copyFrom 56 = .ok (.getfield 52, 3) := by decide +kernel
theorem dX3_copyFrom_59 : decode cX3_copyFrom 59 = .ok (.putfield 52, 3) := by decide +kernel
theorem dX3_copyFrom_62 : decode cX3_copyFrom 62 = .ok (.aload_n 0, 1) := by decide +kernel
theorem dX3_copyFrom_63 : decode cX3_copyFrom 63 = .ok (.aload_n 1, 1) := by decide +kernel
theorem dX3_copyFrom_64 : decode cX3_copyFrom 64 = .ok (.getfield 55, 3) := by decide +kernel
theorem dX3_copyFrom_67 : decode cX3_copyFrom 67 = .ok (.putfield 55, 3) := by decide +kernel
theorem dX3_copyFrom_70 : decode cX3_copyFrom 70 = .ok (.aload_n 0, 1) := by decide +kernel
theorem dX3_copyFrom_71 : decode cX3_copyFrom 71 = .ok (.getfield 25, 3) := by decide +kernel
theorem dX3_copyFrom_74 : decode cX3_copyFrom 74 = .ok (.aload_n 1, 1) := by decide +kernel
theorem dX3_copyFrom_75 : decode cX3_copyFrom 75 = .ok (.getfield 25, 3) := by decide +kernel
theorem dX3_copyFrom_78 : decode cX3_copyFrom 78 = .ok (.invokevirtual 32, 3) := by decide +kernel
theorem dX3_copyFrom_81 : decode cX3_copyFrom 81 = .ok (.aload_n 1, 1) := by decide +kernel
theorem dX3_copyFrom_82 : decode cX3_copyFrom 82 = .ok (.getfield 28, 3) := by decide +kernel
theorem dX3_copyFrom_85 : decode cX3_copyFrom 85 = .ok (.iconst 0, 1) := by decide +kernel
theorem dX3_copyFrom_86 : decode cX3_copyFrom 86 = .ok (.aload_n 0, 1) := by decide +kernel
theorem dX3_copyFrom_87 : decode cX3_copyFrom 87 = .ok (.getfield 28, 3) := by decide +kernel
theorem dX3_copyFrom_90 : decode cX3_copyFrom 90 = .ok (.iconst 0, 1) := by decide +kernel
theorem dX3_copyFrom_91 : decode cX3_copyFrom 91 = .ok (.bipush 72, 2) := by decide +kernel
theorem dX3_copyFrom_93 : decode cX3_copyFrom 93 = .ok (.invokestatic 58, 3) := by decide +kernel
theorem dX3_copyFrom_96 : decode cX3_copyFrom 96 = .ok (.aload_n 0, 1) := by decide +kernel
theorem dX3_copyFrom_97 : decode cX3_copyFrom 97 = .ok (.aload_n 1, 1) := by decide +kernel
theorem dX3_copyFrom_98 : decode cX3_copyFrom 98 = .ok (.getfield 64, 3) := by decide +kernel
theorem dX3_copyFrom_101 : decode cX3_copyFrom 101 = .ok (.putfield 64, 3) := by decide +kernel
theorem dX3_copyFrom_104 : decode cX3_copyFrom 104 = .ok (.return_, 1) := by decide +kernel
theorem dX3_wouldClose_0 : decode cX3_wouldClose 0 = .ok (.aload_n 0, 1) := by decide +kernel
theorem dX3_wouldClose_1 : decode cX3_wouldClose 1 = .ok (.getfield 40, 3) := by decide +kernel
theorem dX3_wouldClose_4 : decode cX3_wouldClose 4 = .ok (.iconst 1, 1) := by decide +kernel
theorem dX3_wouldClose_5 : decode cX3_wouldClose 5 = .ok (.iadd, 1) := by decide +kernel
theorem dX3_wouldClose_6 : decode cX3_wouldClose 6 = .ok (.aload_n 1, 1) := by decide +kernel
theorem dX3_wouldClose_7 : decode cX3_wouldClose 7 = .ok (.iconst 0, 1) := by decide +kernel
theorem dX3_wouldClose_8 : decode cX3_wouldClose 8 = .ok (.invokevirtual 67, 3) := by decide +kernel
theorem dX3_wouldClose_11 : decode cX3_wouldClose 11 = .ok (.if_icmp .lt 15, 3) := by decide +kernel
theorem dX3_wouldClose_14 : decode cX3_wouldClose 14 = .ok (.aload_n 0, 1) := by decide +kernel
theorem dX3_wouldClose_15 : decode cX3_wouldClose 15 = .ok (.getfield 21, 3) := by decide +kernel
theorem dX3_wouldClose_18 : decode cX3_wouldClose 18 = .ok (.getfield 73, 3) := by decide +kernel
theorem dX3_wouldClose_21 : decode cX3_wouldClose 21 = .ok (.iconst 1, 1) := by decide +kernel
theorem dX3_wouldClose_22 : decode cX3_wouldClose 22 = .ok (.iadd, 1) := by decide +kernel
theorem dX3_wouldClose_23 : decode cX3_wouldClose 23 = .ok (.goto 10, 3) := by decide +kernel
theorem dX3_wouldClose_26 : decode cX3_wouldClose 26 = .ok (.aload_n 0, 1) := by decide +kernel
theorem dX3_wouldClose_27 : decode cX3_wouldClose 27 = .ok (.getfield 21, 3) := by decide +kernel
theorem dX3_wouldClose_30 : decode cX3_wouldClose 30 = .ok (.getfield 73, 3) := by decide +kernel
theorem dX3_wouldClose_33 : decode cX3_wouldClose 33 = .ok (.istore_n 2, 1) := by decide +kernel
theorem dX3_wouldClose_34 : decode cX3_wouldClose 34 = .ok (.iload_n 2, 1) := by decide +kernel
theorem dX3_wouldClose_35 : decode cX3_wouldClose 35 = .ok (.aload_n 1, 1) := by decide +kernel
theorem dX3_wouldClose_36 : decode cX3_wouldClose 36 = .ok (.iconst 2, 1) := by decide +kernel
theorem dX3_wouldClose_37 : decode cX3_wouldClose 37 = .ok (.invokevirtual 67, 3) := by decide +kernel
theorem dX3_wouldClose_40 : decode cX3_wouldClose 40 = .ok (.if_icmp .lt 7, 3) := by decide +kernel
theorem dX3_wouldClose_43 : decode cX3_wouldClose 43 = .ok (.iconst 1, 1) := by decide +kernel
theorem dX3_wouldClose_44 : decode cX3_wouldClose 44 = .ok (.goto 4, 3) := by decide +kernel
theorem dX3_wouldClose_47 : decode cX3_wouldClose 47 = .ok (.iconst 0, 1) := by decide +kernel
theorem dX3_wouldClose_48 : decode cX3_wouldClose 48 = .ok (.ireturn, 1) := by decide +kernel
theorem dX3_gather_0 : decode cX3_gather 0 = .ok (.aload_n 0, 1) := by decide +kernel
theorem dX3_gather_1 : decode cX3_gather 1 = .ok (.dup, 1) := by decide +kernel
theorem dX3_gather_2 : decode cX3_gather 2 = .ok (.getfield 36, 3) := by decide +kernel
theorem dX3_gather_5 : decode cX3_gather 5 = .ok (.iconst 1, 1) := by decide +kernel
theorem dX3_gather_6 : decode cX3_gather 6 = .ok (.iadd, 1) := by decide +kernel
theorem dX3_gather_7 : decode cX3_gather 7 = .ok (.putfield 36, 3) := by decide +kernel
theorem dX3_gather_10 : decode cX3_gather 10 = .ok (.aload_n 0, 1) := by decide +kernel
theorem dX3_gather_11 : decode cX3_gather 11 = .ok (.dup, 1) := by decide +kernel
theorem dX3_gather_12 : decode cX3_gather 12 = .ok (.getfield 40, 3) := by decide +kernel
theorem dX3_gather_15 : decode cX3_gather 15 = .ok (.iconst 1, 1) := by decide +kernel
theorem dX3_gather_16 : decode cX3_gather 16 = .ok (.iadd, 1) := by decide +kernel
theorem dX3_gather_17 : decode cX3_gather 17 = .ok (.putfield 40, 3) := by decide +kernel
theorem dX3_gather_20 : decode cX3_gather 20 = .ok (.aload_n 0, 1) := by decide +kernel
theorem dX3_gather_21 : decode cX3_gather 21 = .ok (.dup, 1) := by decide +kernel
theorem dX3_gather_22 : decode cX3_gather 22 = .ok (.getfield 43, 3) := by decide +kernel
theorem dX3_gather_25 : decode cX3_gather 25 = .ok (.iload_n 1, 1) := by decide +kernel
theorem dX3_gather_26 : decode cX3_gather 26 = .ok (.iadd, 1) := by decide +kernel
theorem dX3_gather_27 : decode cX3_gather 27 = .ok (.putfield 43, 3) := by decide +kernel
theorem dX3_gather_30 : decode cX3_gather 30 = .ok (.return_, 1) := by decide +kernel
theorem dX3_takeMean_0 : decode cX3_takeMean 0 = .ok (.aload_n 0, 1) := by decide +kernel
theorem dX3_takeMean_1 : decode cX3_takeMean 1 = .ok (.getfield 40, 3) := by decide +kernel
theorem dX3_takeMean_4 : decode cX3_takeMean 4 = .ok (.ifCond .le 15, 3) := by decide +kernel
theorem dX3_takeMean_7 : decode cX3_takeMean 7 = .ok (.aload_n 0, 1) := by decide +kernel
theorem dX3_takeMean_8 : decode cX3_takeMean 8 = .ok (.getfield 43, 3) := by decide +kernel
theorem dX3_takeMean_11 : decode cX3_takeMean 11 = .ok (.aload_n 0, 1) := by decide +kernel
theorem dX3_takeMean_12 : decode cX3_takeMean 12 = .ok (.getfield 40, 3) := by decide +kernel
theorem dX3_takeMean_15 : decode cX3_takeMean 15 = .ok (.idiv, 1) := by decide +kernel
theorem dX3_takeMean_16 : decode cX3_takeMean 16 = .ok (.goto 4, 3) := by decide +kernel
theorem dX3_takeMean_19 : decode cX3_takeMean 19 = .ok (.iconst 0, 1) := by decide +kernel
theorem dX3_takeMean_20 : decode cX3_takeMean 20 = .ok (.istore_n 2, 1) := by decide +kernel
theorem dX3_takeMean_21 : decode cX3_takeMean 21 = .ok (.aload_n 0, 1) := by decide +kernel
theorem dX3_takeMean_22 : decode cX3_takeMean 22 = .ok (.iconst 0, 1) := by decide +kernel
theorem dX3_takeMean_23 : decode cX3_takeMean 23 = .ok (.putfield 40, 3) := by decide +kernel
theorem dX3_takeMean_26 : decode cX3_takeMean 26 = .ok (.aload_n 0, 1) := by decide +kernel
theorem dX3_takeMean_27 : decode cX3_takeMean 27 = .ok (.iconst 0, 1) := by decide +kernel
theorem dX3_takeMean_28 : decode cX3_takeMean 28 = .ok (.putfield 43, 3) := by decide +kernel
theorem dX3_takeMean_31 : decode cX3_takeMean 31 = .ok (.iload_n 2, 1) := by decide +kernel
theorem dX3_takeMean_32 : decode cX3_takeMean 32 = .ok (.iconst 0, 1) := by decide +kernel
theorem dX3_takeMean_33 : decode cX3_takeMean 33 = .ok (.invokestatic 76, 3) := by decide +kernel
theorem dX3_takeMean_36 : decode cX3_takeMean 36 = .ok (.iload_n 1, 1) := by decide +kernel
theorem dX3_takeMean_37 : decode cX3_takeMean 37 = .ok (.if_icmp .ge 7, 3) := by decide +kernel
theorem dX3_takeMean_40 : decode cX3_takeMean 40 = .ok (.iconst 0, 1) := by decide +kernel
theorem dX3_takeMean_41 : decode cX3_takeMean 41 = .ok (.goto 4, 3) := by decide +kernel
theorem dX3_takeMean_44 : decode cX3_takeMean 44 = .ok (.iload_n 2, 1) := by decide +kernel
theorem dX3_takeMean_45 : decode cX3_takeMean 45 = .ok (.ireturn, 1) := by decide +kernel
theorem dX3_fold_0 : decode cX3_fold 0 = .ok (.aload_n 0, 1) := by decide +kernel
theorem dX3_fold_1 : decode cX3_fold 1 = .ok (.getfield 12, 3) := by decide +kernel
theorem dX3_fold_4 : decode cX3_fold 4 = .ok (.iload_n 1, 1) := by decide +kernel
theorem dX3_fold_5 : decode cX3_fold 5 = .ok (.invokevirtual 80, 3) := by decide +kernel
theorem dX3_fold_8 : decode cX3_fold 8 = .ok (.istore_n 2, 1) := by decide +kernel
theorem dX3_fold_9 : decode cX3_fold 9 = .ok (.aload_n 0, 1) := by decide +kernel
theorem dX3_fold_10 : decode cX3_fold 10 = .ok (.getfield 21, 3) := by decide +kernel
theorem dX3_fold_13 : decode cX3_fold 13 = .ok (.getfield 73, 3) := by decide +kernel
theorem dX3_fold_16 : decode cX3_fold 16 = .ok (.ifCond .ne 17, 3) := by decide +kernel
theorem dX3_fold_19 : decode cX3_fold 19 = .ok (.aload_n 0, 1) := by decide +kernel
theorem dX3_fold_20 : decode cX3_fold 20 = .ok (.getfield 21, 3) := by decide +kernel
theorem dX3_fold_23 : decode cX3_fold 23 = .ok (.getfield 83, 3) := by decide +kernel
theorem dX3_fold_26 : decode cX3_fold 26 = .ok (.aload_n 0, 1) := by decide +kernel
theorem dX3_fold_27 : decode cX3_fold 27 = .ok (.getfield 12, 3) := by decide +kernel
theorem dX3_fold_30 : decode cX3_fold 30 = .ok (.invokevirtual 32, 3) := by decide +kernel
theorem dX3_fold_33 : decode cX3_fold 33 = .ok (.aload_n 0, 1) := by decide +kernel
theorem dX3_fold_34 : decode cX3_fold 34 = .ok (.getfield 21, 3) := by decide +kernel
theorem dX3_fold_37 : decode cX3_fold 37 = .ok (.iload_n 2, 1) := by decide +kernel
theorem dX3_fold_38 : decode cX3_fold 38 = .ok (.iload_n 1, 1) := by decide +kernel
theorem dX3_fold_39 : decode cX3_fold 39 = .ok (.invokevirtual 86, 3) := by decide +kernel
theorem dX3_fold_42 : decode cX3_fold 42 = .ok (.aload_n 0, 1) := by decide +kernel
theorem dX3_fold_43 : decode cX3_fold 43 = .ok (.getfield 12, 3) := by decide +kernel
theorem dX3_fold_46 : decode cX3_fold 46 = .ok (.iload_n 2, 1) := by decide +kernel
theorem dX3_fold_47 : decode cX3_fold 47 = .ok (.invokevirtual 90, 3) := by decide +kernel
theorem dX3_fold_50 : decode cX3_fold 50 = .ok (.aload_n 0, 1) := by decide +kernel
theorem dX3_fold_51 : decode cX3_fold 51 = .ok (.dup, 1) := by decide +kernel
theorem dX3_fold_52 : decode cX3_fold 52 = .ok (.getfield 52, 3) := by decide +kernel
theorem dX3_fold_55 : decode cX3_fold 55 = .ok (.iconst 1, 1) := by decide +kernel
theorem dX3_fold_56 : decode cX3_fold 56 = .ok (.iadd, 1) := by decide +kernel
theorem dX3_fold_57 : decode cX3_fold 57 = .ok (.putfield 52, 3) := by decide +kernel
theorem dX3_fold_60 : decode cX3_fold 60 = .ok (.iload_n 2, 1) := by decide +kernel
theorem dX3_fold_61 : decode cX3_fold 61 = .ok (.ireturn, 1) := by decide +kernel
theorem dX3_closeInto_0 : decode cX3_closeInto 0 = .ok (.aload_n 1, 1) := by decide +kernel
theorem dX3_closeInto_1 : decode cX3_closeInto 1 = .ok (.aload_n 0, 1) := by decide +kernel
theorem dX3_closeInto_2 : decode cX3_closeInto 2 = .ok (.getfield 21, 3) := by decide +kernel
theorem dX3_closeInto_5 : decode cX3_closeInto 5 = .ok (.invokevirtual 46, 3) := by decide +kernel
theorem dX3_closeInto_8 : decode cX3_closeInto 8 = .ok (.aload_n 1, 1) := by decide +kernel
theorem dX3_closeInto_9 : decode cX3_closeInto 9 = .ok (.aload_n 0, 1) := by decide +kernel
theorem dX3_closeInto_10 : decode cX3_closeInto 10 = .ok (.getfield 49, 3) := by decide +kernel
theorem dX3_closeInto_13 : decode cX3_closeInto 13 = .ok (.putfield 94, 3) := by decide +kernel
theorem dX3_closeInto_16 : decode cX3_closeInto 16 = .ok (.aload_n 1, 1) := by decide +kernel
theorem dX3_closeInto_17 : decode cX3_closeInto 17 = .ok (.aload_n 0, 1) := by decide +kernel
theorem dX3_closeInto_18 : decode cX3_closeInto 18 = .ok (.getfield 49, 3) := by decide +kernel
theorem dX3_closeInto_21 : decode cX3_closeInto 21 = .ok (.ifCond .eq 16, 3) := by decide +kernel
theorem dX3_closeInto_24 : decode cX3_closeInto 24 = .ok (.aload_n 0, 1) := by decide +kernel
theorem dX3_closeInto_25 : decode cX3_closeInto 25 = .ok (.getfield 49, 3) := by decide +kernel
theorem dX3_closeInto_28 : decode cX3_closeInto 28 = .ok (.aload_n 0, 1) := by decide +kernel
theorem dX3_closeInto_29 : decode cX3_closeInto 29 = .ok (.getfield 55, 3) := by decide +kernel
theorem dX3_closeInto_32 : decode cX3_closeInto 32 = .ok (.isub, 1) := by decide +kernel
theorem dX3_closeInto_33 : decode cX3_closeInto 33 = .ok (.iload_n 2, 1) := by decide +kernel
theorem dX3_closeInto_34 : decode cX3_closeInto 34 = .ok (.if_icmp .lt 7, 3) := by decide +kernel
theorem dX3_closeInto_37 : decode cX3_closeInto 37 = .ok (.iconst 1, 1) := by decide +kernel
theorem dX3_closeInto_38 : decode cX3_closeInto 38 = .ok (.goto 4, 3) := by decide +kernel
theorem dX3_closeInto_41 : decode cX3_closeInto 41 = .ok (.iconst 0, 1) := by decide +kernel
theorem dX3_closeInto_42 : decode cX3_closeInto 42 = .ok (.putfield 97, 3) := by decide +kernel
theorem dX3_closeInto_45 : decode cX3_closeInto 45 = .ok (.aload_n 1, 1) := by decide +kernel
theorem dX3_closeInto_46 : decode cX3_closeInto 46 = .ok (.getfield 97, 3) := by decide +kernel
theorem dX3_closeInto_49 : decode cX3_closeInto 49 = .ok (.ifCond .eq 27, 3) := by decide +kernel
theorem dX3_closeInto_52 : decode cX3_closeInto 52 = .ok (.aload_n 0, 1) := by decide +kernel
theorem dX3_closeInto_53 : decode cX3_closeInto 53 = .ok (.aload_n 0, 1) := by decide +kernel
theorem dX3_closeInto_54 : decode cX3_closeInto 54 = .ok (.getfield 49, 3) := by decide +kernel
theorem dX3_closeInto_57 : decode cX3_closeInto 57 = .ok (.putfield 55, 3) := by decide +kernel
theorem dX3_closeInto_60 : decode cX3_closeInto 60 = .ok (.aload_n 0, 1) := by decide +kernel
theorem dX3_closeInto_61 : decode cX3_closeInto 61 = .ok (.getfield 25, 3) := by decide +kernel
theorem dX3_closeInto_64 : decode cX3_closeInto 64 = .ok (.aload_n 1, 1) := by decide +kernel
theorem dX3_closeInto_65 : decode cX3_closeInto 65 = .ok (.getfield 83, 3) := by decide +kernel
theorem dX3_closeInto_68 : decode cX3_closeInto 68 = .ok (.invokevirtual 32, 3) := by decide +kernel
theorem dX3_closeInto_71 : decode cX3_closeInto 71 = .ok (.aload_n 0, 1) := by decide +kernel
theorem dX3_closeInto_72 : decode cX3_closeInto 72 = .ok (.iconst 0, 1) := by decide +kernel
theorem dX3_closeInto_73 : decode cX3_closeInto 73 = .ok (.putfield 64, 3) := by decide +kernel
theorem dX3_closeInto_76 : decode cX3_closeInto 76 = .ok (.aload_n 0, 1) := by decide +kernel
theorem dX3_closeInto_77 : decode cX3_closeInto 77 = .ok (.aload_n 1, 1) := by decide +kernel
theorem dX3_closeInto_78 : decode cX3_closeInto 78 = .ok (.invokevirtual 101, 3) := by decide +kernel
theorem dX3_closeInto_81 : decode cX3_closeInto 81 = .ok (.aload_n 0, 1) := by decide +kernel
theorem dX3_closeInto_82 : decode cX3_closeInto 82 = .ok (.dup, 1) := by decide +kernel
theorem dX3_closeInto_83 : decode cX3_closeInto 83 = .ok (.getfield 49, 3) := by decide +kernel
theorem dX3_closeInto_86 : decode cX3_closeInto 86 = .ok (.iconst 1, 1) := by decide +kernel
theorem dX3_closeInto_87 : decode cX3_closeInto 87 = .ok (.iadd, 1) := by decide +kernel
theorem dX3_closeInto_88 : decode cX3_closeInto 88 = .ok (.putfield 49, 3) := by decide +kernel
theorem dX3_closeInto_91 : decode cX3_closeInto 91 = .ok (.aload_n 0, 1) := by decide +kernel
theorem dX3_closeInto_92 : decode cX3_closeInto 92 = .ok (.getfield 21, 3) := by decide +kernel
theorem dX3_closeInto_95 : decode cX3_closeInto 95 = .ok (.iconst 0, 1) := by decide +kernel
theorem dX3_closeInto_96 : decode cX3_closeInto 96 = .ok (.putfield 73, 3) := by decide +kernel
theorem dX3_closeInto_99 : decode cX3_closeInto 99 = .ok (.return_, 1) := by decide +kernel
theorem dX3_rememberSinceHead_0 : decode cX3_rememberSinceHead 0 = .ok (.iconst 0, 1) := by decide +kernel
theorem dX3_rememberSinceHead_1 : decode cX3_rememberSinceHead 1 = .ok (.istore_n 2, 1) := by decide +kernel
theorem dX3_rememberSinceHead_2 : decode cX3_rememberSinceHead 2 = .ok (.iload_n 2, 1) := by decide +kernel
theorem dX3_rememberSinceHead_3 : decode cX3_rememberSinceHead 3 = .ok (.aload_n 1, 1) := by decide +kernel
theorem dX3_rememberSinceHead_4 : decode cX3_rememberSinceHead 4 = .ok (.getfield 73, 3) := by decide +kernel
theorem dX3_rememberSinceHead_7 : decode cX3_rememberSinceHead 7 = .ok (.if_icmp .ge 52, 3) := by decide +kernel
theorem dX3_rememberSinceHead_10 : decode cX3_rememberSinceHead 10 = .ok (.aload_n 0, 1) := by decide +kernel
theorem dX3_rememberSinceHead_11 : decode cX3_rememberSinceHead 11 = .ok (.getfield 64, 3) := by decide +kernel
theorem dX3_rememberSinceHead_14 : decode cX3_rememberSinceHead 14 = .ok (.ifCond .lt 39, 3) := by decide +kernel
theorem dX3_rememberSinceHead_17 : decode cX3_rememberSinceHead 17 = .ok (.aload_n 0, 1) := by decide +kernel
theorem dX3_rememberSinceHead_18 : decode cX3_rememberSinceHead 18 = .ok (.getfield 64, 3) := by decide +kernel
theorem dX3_rememberSinceHead_21 : decode cX3_rememberSinceHead 21 = .ok (.aload_n 0, 1) := by decide +kernel
theorem dX3_rememberSinceHead_22 : decode cX3_rememberSinceHead 22 = .ok (.getfield 28, 3) := by decide +kernel
theorem dX3_rememberSinceHead_25 : decode cX3_rememberSinceHead 25 = .ok (.arraylength, 1) := by decide +kernel
theorem dX3_rememberSinceHead_26 : decode cX3_rememberSinceHead 26 = .ok (.if_icmp .ge 27, 3) := by decide +kernel
theorem dX3_rememberSinceHead_29 : decode cX3_rememberSinceHead 29 = .ok (.aload_n 0, 1) := by decide +kernel
theorem dX3_rememberSinceHead_30 : decode cX3_rememberSinceHead 30 = .ok (.getfield 28, 3) := by decide +kernel
theorem dX3_rememberSinceHead_33 : decode cX3_rememberSinceHead 33 = .ok (.aload_n 0, 1) := by decide +kernel
theorem dX3_rememberSinceHead_34 : decode cX3_rememberSinceHead 34 = .ok (.getfield 64, 3) := by decide +kernel
theorem dX3_rememberSinceHead_37 : decode cX3_rememberSinceHead 37 = .ok (.aload_n 1, 1) := by decide +kernel
theorem dX3_rememberSinceHead_38 : decode cX3_rememberSinceHead 38 = .ok (.iload_n 2, 1) := by decide +kernel
theorem dX3_rememberSinceHead_39 : decode cX3_rememberSinceHead 39 = .ok (.invokevirtual 104, 3) := by decide +kernel
theorem dX3_rememberSinceHead_42 : decode cX3_rememberSinceHead 42 = .ok (.iastore, 1) := by decide +kernel
theorem dX3_rememberSinceHead_43 : decode cX3_rememberSinceHead 43 = .ok (.aload_n 0, 1) := by decide +kernel
theorem dX3_rememberSinceHead_44 : decode cX3_rememberSinceHead 44 = .ok (.dup, 1) := by decide +kernel
theorem dX3_rememberSinceHead_45 : decode cX3_rememberSinceHead 45 = .ok (.getfield 64, 3) := by decide +kernel
theorem dX3_rememberSinceHead_48 : decode cX3_rememberSinceHead 48 = .ok (.iconst 1, 1) := by decide +kernel
theorem dX3_rememberSinceHead_49 : decode cX3_rememberSinceHead 49 = .ok (.iadd, 1) := by decide +kernel
theorem dX3_rememberSinceHead_50 : decode cX3_rememberSinceHead 50 = .ok (.putfield 64, 3) := by decide +kernel
theorem dX3_rememberSinceHead_53 : decode cX3_rememberSinceHead 53 = .ok (.iinc 2 1, 3) := by decide +kernel
theorem dX3_rememberSinceHead_56 : decode cX3_rememberSinceHead 56 = .ok (.goto (-54), 3) := by decide +kernel
theorem dX3_rememberSinceHead_59 : decode cX3_rememberSinceHead 59 = .ok (.return_, 1) := by decide +kernel
theorem dX3_guessSinceHead_0 : decode cX3_guessSinceHead 0 = .ok (.aload_n 1, 1) := by decide +kernel
theorem dX3_guessSinceHead_1 : decode cX3_guessSinceHead 1 = .ok (.aload_n 0, 1) := by decide +kernel
theorem dX3_guessSinceHead_2 : decode cX3_guessSinceHead 2 = .ok (.getfield 25, 3) := by decide +kernel
theorem dX3_guessSinceHead_5 : decode cX3_guessSinceHead 5 = .ok (.invokevirtual 32, 3) := by decide +kernel
theorem dX3_guessSinceHead_8 : decode cX3_guessSinceHead 8 = .ok (.iconst 0, 1) := by decide +kernel
theorem dX3_guessSinceHead_9 : decode cX3_guessSinceHead 9 = .ok (.istore_n 2, 1) := by decide +kernel
theorem dX3_guessSinceHead_10 : decode cX3_guessSinceHead 10 = .ok (.iload_n 2, 1) := by decide +kernel
theorem dX3_guessSinceHead_11 : decode cX3_guessSinceHead 11 = .ok (.aload_n 0, 1) := by decide +kernel
theorem dX3_guessSinceHead_12 : decode cX3_guessSinceHead 12 = .ok (.getfield 64, 3) := by decide +kernel
theorem dX3_guessSinceHead_15 : decode cX3_guessSinceHead 15 = .ok (.if_icmp .ge 28, 3) := by decide +kernel
theorem dX3_guessSinceHead_18 : decode cX3_guessSinceHead 18 = .ok (.iload_n 2, 1) := by decide +kernel
theorem dX3_guessSinceHead_19 : decode cX3_guessSinceHead 19 = .ok (.aload_n 0, 1) := by decide +kernel
theorem dX3_guessSinceHead_20 : decode cX3_guessSinceHead 20 = .ok (.getfield 28, 3) := by decide +kernel
theorem dX3_guessSinceHead_23 : decode cX3_guessSinceHead 23 = .ok (.arraylength, 1) := by decide +kernel
theorem dX3_guessSinceHead_24 : decode cX3_guessSinceHead 24 = .ok (.if_icmp .ge 19, 3) := by decide +kernel
theorem dX3_guessSinceHead_27 : decode cX3_guessSinceHead 27 = .ok (.aload_n 1, 1) := by decide +kernel
theorem dX3_guessSinceHead_28 : decode cX3_guessSinceHead 28 = .ok (.aload_n 0, 1) := by decide +kernel
theorem dX3_guessSinceHead_29 : decode cX3_guessSinceHead 29 = .ok (.getfield 28, 3) := by decide +kernel
theorem dX3_guessSinceHead_32 : decode cX3_guessSinceHead 32 = .ok (.iload_n 2, 1) := by decide +kernel
theorem dX3_guessSinceHead_33 : decode cX3_guessSinceHead 33 = .ok (.iaload, 1) := by decide +kernel
theorem dX3_guessSinceHead_34 : decode cX3_guessSinceHead 34 = .ok (.invokevirtual 90, 3) := by decide +kernel
theorem dX3_guessSinceHead_37 : decode cX3_guessSinceHead 37 = .ok (.iinc 2 1, 3) := by decide +kernel
theorem dX3_guessSinceHead_40 : decode cX3_guessSinceHead 40 = .ok (.goto (-30), 3) := by decide +kernel
theorem dX3_guessSinceHead_43 : decode cX3_guessSinceHead 43 = .ok (.aload_n 1, 1) := by decide +kernel
theorem dX3_guessSinceHead_44 : decode cX3_guessSinceHead 44 = .ok (.aload_n 0, 1) := by decide +kernel
theorem dX3_guessSinceHead_45 : decode cX3_guessSinceHead 45 = .ok (.getfield 21, 3) := by decide +kernel
theorem dX3_guessSinceHead_48 : decode cX3_guessSinceHead 48 = .ok (.invokevirtual 107, 3) := by decide +kernel
theorem dX3_guessSinceHead_51 : decode cX3_guessSinceHead 51 = .ok (.aload_n 1, 1) := by decide +kernel
theorem dX3_guessSinceHead_52 : decode cX3_guessSinceHead 52 = .ok (.getfield 110, 3) := by decide +kernel
theorem dX3_guessSinceHead_55 : decode cX3_guessSinceHead 55 = .ok (.ireturn, 1) := by decide +kernel
theorem dX4_init_0 : decode cX4_init 0 = .ok (.aload_n 0, 1) := by decide +kernel
theorem dX4_init_1 : decode cX4_init 1 = .ok (.invokespecial 1, 3) := by decide +kernel
theorem dX4_init_4 : decode cX4_init 4 = .ok (.aload_n 0, 1) := by decide +kernel
theorem dX4_init_5 : decode cX4_init 5 = .ok (.iconst 4, 1) := by decide +kernel
theorem dX4_init_6 : decode cX4_init 6 = .ok (.newarray .int, 2) := by decide +kernel
theorem dX4_init_8 : decode cX4_init 8 = .ok (.dup, 1) := by decide +kernel
theorem dX4_init_9 : decode cX4_init 9 = .ok (.iconst 0, 1) := by decide +kernel
theorem dX4_init_10 : decode cX4_init 10 = .ok (.iconst 1, 1) := by decide +kernel
theorem dX4_init_11 : decode cX4_init 11 = .ok (.iastore, 1) := by decide +kernel
theorem dX4_init_12 : decode cX4_init 12 = .ok (.dup, 1) := by decide +kernel
theorem dX4_init_13 : decode cX4_init 13 = .ok (.iconst 1, 1) := by decide +kernel
theorem dX4_init_14 : decode cX4_init 14 = .ok (.iconst 0, 1) := by decide +kernel
theorem dX4_init_15 : decode cX4_init 15 = .ok (.iastore, 1) := by decide +kernel
theorem dX4_init_16 : decode cX4_init 16 = .ok (.dup, 1) := by decide +kernel
theorem dX4_init_17 : decode cX4_init 17 = .ok (.iconst 2, 1) := by decide +kernel
theorem dX4_init_18 : decode cX4_init 18 = .ok (.iconst 4, 1) := by decide +kernel
theorem dX4_init_19 : decode cX4_init 19 = .ok (.iastore, 1) := by decide +kernel
theorem dX4_init_20 : decode cX4_init 20 = .ok (.dup, 1) := by decide +kernel
theorem dX4_init_21 : decode cX4_init 21 = .ok (.iconst 3, 1) := by decide +kernel
theorem dX4_init_22 : decode cX4_init 22 = .ok (.iconst 3, 1) := by decide +kernel
theorem dX4_init_23 : decode cX4_init 23 = .ok (.iastore, 1) := by decide +kernel
theorem dX4_init_24 : decode cX4_init 24 = .ok (.putfield 7, 3) := by decide +kernel
theorem dX4_init_27 : decode cX4_init 27 = .ok (.return_, 1) := by decide +kernel
theorem dX4_copyFrom_0 : decode cX4_copyFrom 0 = .ok (.iconst 0, 1) := by decide +kernel
theorem dX4_copyFrom_1 : decode cX4_copyFrom 1 = .ok (.istore_n 2, 1) := by decide +kernel
theorem dX4_copyFrom_2 : decode cX4_copyFrom 2 = .ok (.iload_n 2, 1) := by decide +kernel
theorem dX4_copyFrom_3 : decode cX4_copyFrom 3 = .ok (.aload_n 0, 1) := by decide +kernel
theorem dX4_copyFrom_4 : decode cX4_copyFrom 4 = .ok (.getfield 7, 3) := by decide +kernel
theorem dX4_copyFrom_7 : decode cX4_copyFrom 7 = .ok (.arraylength, 1) := by decide +kernel
theorem dX4_copyFrom_8 : decode cX4_copyFrom 8 = .ok (.if_icmp .ge 30, 3) := by decide +kernel
theorem dX4_copyFrom_11 : decode cX4_copyFrom 11 = .ok (.iload_n 2, 1) := by decide +kernel
theorem dX4_copyFrom_12 : decode cX4_copyFrom 12 = .ok (.aload_n 1, 1) := by decide +kernel
theorem dX4_copyFrom_13 : decode cX4_copyFrom 13 = .ok (.getfield 7, 3) := by decide +kernel
theorem dX4_copyFrom_16 : decode cX4_copyFrom 16 = .ok (.arraylength, 1) := by decide +kernel
theorem dX4_copyFrom_17 : decode cX4_copyFrom 17 = .ok (.if_icmp .ge 21, 3) := by decide +kernel
theorem dX4_copyFrom_20 : decode cX4_copyFrom 20 = .ok (.aload_n 0, 1) := by decide +kernel
theorem dX4_copyFrom_21 : decode cX4_copyFrom 21 = .ok (.getfield 7, 3) := by decide +kernel
theorem dX4_copyFrom_24 : decode cX4_copyFrom 24 = .ok (.iload_n 2, 1) := by decide +kernel
theorem dX4_copyFrom_25 : decode cX4_copyFrom 25 = .ok (.aload_n 1, 1) := by decide +kernel
theorem dX4_copyFrom_26 : decode cX4_copyFrom 26 = .ok (.getfield 7, 3) := by decide +kernel
theorem dX4_copyFrom_29 : decode cX4_copyFrom 29 = .ok (.iload_n 2, 1) := by decide +kernel
theorem dX4_copyFrom_30 : decode cX4_copyFrom 30 = .ok (.iaload, 1) := by decide +kernel
theorem dX4_copyFrom_31 : decode cX4_copyFrom 31 = .ok (.iastore, 1) := by decide +kernel
theorem dX4_copyFrom_32 : decode cX4_copyFrom 32 = .ok (.iinc 2 1, 3) := by decide +kernel
theorem dX4_copyFrom_35 : decode cX4_copyFrom 35 = .ok (.goto (-33), 3) := by decide +kernel
theorem dX4_copyFrom_38 : decode cX4_copyFrom 38 = .ok (.return_, 1) := by decide +kernel
theorem dX4_isInRange_0 : decode cX4_isInRange 0 = .ok (.iload_n 0, 1) := by decide +kernel
theorem dX4_isInRange_1 : decode cX4_isInRange 1 = .ok (.ifCond .lt 41, 3) := by decide +kernel
theorem dX4_isInRange_4 : decode cX4_isInRange 4 = .ok (.iload_n 0, 1) := by decide +kernel
theorem dX4_isInRange_5 : decode cX4_isInRange 5 = .ok (.getstatic 13, 3) := by decide +kernel
theorem dX4_isInRange_8 : decode cX4_isInRange 8 = .ok (.arraylength, 1) := by decide +kernel
theorem dX4_isInRange_9 : decode cX4_isInRange 9 = .ok (.if_icmp .ge 33, 3) := by decide +kernel
theorem dX4_isInRange_12 : decode cX4_isInRange 12 = .ok (.iload_n 0, 1) := by decide +kernel
theorem dX4_isInRange_13 : decode cX4_isInRange 13 = .ok (.getstatic 18, 3) := by decide +kernel
theorem dX4_isInRange_16 : decode cX4_isInRange 16 = .ok (.arraylength, 1) := by decide +kernel
theorem dX4_isInRange_17 : decode cX4_isInRange 17 = .ok (.if_icmp .ge 25, 3) := by decide +kernel
theorem dX4_isInRange_20 : decode cX4_isInRange 20 = .ok (.iload_n 1, 1) := by decide +kernel
theorem dX4_isInRange_21 : decode cX4_isInRange 21 = .ok (.getstatic 13, 3) := by decide +kernel
theorem dX4_isInRange_24 : decode cX4_isInRange 24 = .ok (.iload_n 0, 1) := by decide +kernel
theorem dX4_isInRange_25 : decode cX4_isInRange 25 = .ok (.iaload, 1) := by decide +kernel
theorem dX4_isInRange_26 : decode cX4_isInRange 26 = .ok (.if_icmp .lt 16, 3) := by decide +kernel
theorem dX4_isInRange_29 : decode cX4_isInRange 29 = .ok (.iload_n 1, 1) := by decide +kernel
theorem dX4_isInRange_30 : decode cX4_isInRange 30 = .ok (.getstatic 18, 3) := by decide +kernel
theorem dX4_isInRange_33 : decode cX4_isInRange 33 = .ok (.iload_n 0, 1) := by decide +kernel
theorem dX4_isInRange_34 : decode cX4_isInRange 34 = .ok (.iaload, 1) := by decide +kernel
theorem dX4_isInRange_35 : decode cX4_isInRange 35 = .ok (.if_icmp .gt 7, 3) := by decide +kernel
theorem dX4_isInRange_38 : decode cX4_isInRange 38 = .ok (.iconst 1, 1) := by decide +kernel
theorem dX4_isInRange_39 : decode cX4_isInRange 39 = .ok (.goto 4, 3) := by decide +kernel
theorem dX4_isInRange_42 : decode cX4_isInRange 42 = .ok (.iconst 0, 1) := by decide +kernel
theorem dX4_isInRange_43 : decode cX4_isInRange 43 = .ok (.ireturn, 1) := by decide +kernel
theorem dX4_valueOf_0 : decode cX4_valueOf 0 = .ok (.iload_n 1, 1) := by decide +kernel
theorem dX4_valueOf_1 : decode cX4_valueOf 1 = .ok (.ifCond .lt 21, 3) := by decide +kernel
theorem dX4_valueOf_4 : decode cX4_valueOf 4 = .ok (.iload_n 1, 1) := by decide +kernel
theorem dX4_valueOf_5 : decode cX4_valueOf 5 = .ok (.aload_n 0, 1) := by decide +kernel
theorem dX4_valueOf_6 : decode cX4_valueOf 6 = .ok (.getfield 7, 3) := by decide +kernel
theorem dX4_valueOf_9 : decode cX4_valueOf 9 = .ok (.arraylength, 1) := by decide +kernel
theorem dX4_valueOf_10 : decode cX4_valueOf 10 = .ok (.if_icmp .ge 12, 3) := by decide +kernel
theorem dX4_valueOf_13 : decode cX4_valueOf 13 = .ok (.aload_n 0, 1) := by decide +kernel
theorem dX4_valueOf_14 : decode cX4_valueOf 14 = .ok (.getfield 7, 3) := by decide +kernel
theorem dX4_valueOf_17 : decode cX4_valueOf 17 = .ok (.iload_n 1, 1) := by decide +kernel
theorem dX4_valueOf_18 : decode cX4_valueOf 18 = .ok (.iaload, 1) := by decide +kernel
theorem dX4_valueOf_19 : decode cX4_valueOf 19 = .ok (.goto 4, 3) := by decide +kernel
theorem dX4_valueOf_22 : decode cX4_valueOf 22 = .ok (.iconst 0, 1) := by decide +kernel
theorem dX4_valueOf_23 : decode cX4_valueOf 23 = .ok (.ireturn, 1) := by decide +kernel
theorem dX4_put_0 : decode cX4_put 0 = .ok (.iload_n 1, 1) := by decide +kernel
theorem dX4_put_1 : decode cX4_put 1 = .ok (.ifCond .lt 19, 3) := by decide +kernel
theorem dX4_put_4 : decode cX4_put 4 = .ok (.iload_n 1, 1) := by decide +kernel
theorem dX4_put_5 : decode cX4_put 5 = .ok (.aload_n 0, 1) := by decide +kernel
theorem dX4_put_6 : decode cX4_put 6 = .ok (.getfield 7, 3) := by decide +kernel
theorem dX4_put_9 : decode cX4_put 9 = .ok (.arraylength, 1) := by decide +kernel
theorem dX4_put_10 : decode cX4_put 10 = .ok (.if_icmp .ge 10, 3) := by decide +kernel
theorem dX4_put_13 : decode cX4_put 13 = .ok (.aload_n 0, 1) := by decide +kernel
theorem dX4_put_14 : decode cX4_put 14 = .ok (.getfield 7, 3) := by decide +kernel
theorem dX4_put_17 : decode cX4_put 17 = .ok (.iload_n 1, 1) := by decide +kernel
theorem dX4_put_18 : decode cX4_put 18 = .ok (.iload_n 2, 1) := by decide +kernel
theorem dX4_put_19 : decode cX4_put 19 = .ok (.iastore, 1) := by decide +kernel
theorem dX4_put_20 : decode cX4_put 20 = .ok (.return_, 1) := by decide +kernel
theorem dX5_init_0 : decode cX5_init 0 = .ok (.aload_n 0, 1) := by decide +kernel
theorem dX5_init_1 : decode cX5_init 1 = .ok (.invokespecial 3, 3) := by decide +kernel
theorem dX5_init_4 : decode cX5_init 4 = .ok (.aload_n 0, 1) := by decide +kernel
theorem dX5_init_5 : decode cX5_init 5 = .ok (.iconst 3, 1) := by decide +kernel
theorem dX5_init_6 : decode cX5_init 6 = .ok (.anewarray 9, 3) := by decide +kernel
theorem dX5_init_9 : decode cX5_init 9 = .ok (.putfield 11, 3) := by decide +kernel
theorem dX5_init_12 : decode cX5_init 12 = .ok (.aload_n 0, 1) := by decide +kernel
theorem dX5_init_13 : decode cX5_init 13 = .ok (.new 17, 3) := by decide +kernel
theorem dX5_init_16 : decode cX5_init 16 = .ok (.dup, 1) := by decide +kernel
theorem dX5_init_17 : decode cX5_init 17 = .ok (.invokespecial 19, 3) := by decide +kernel
theorem dX5_init_20 : decode cX5_init 20 = .ok (.putfield 20, 3) := by decide +kernel
theorem dX5_init_23 : decode cX5_init 23 = .ok (.iconst 0, 1) := by decide +kernel
theorem dX5_init_24 : decode cX5_init 24 = .ok (.istore_n 1, 1) := by decide +kernel
theorem dX5_init_25 : decode cX5_init 25 = .ok (.iload_n 1, 1) := by decide +kernel
theorem dX5_init_26 : decode cX5_init 26 = .ok (.aload_n 0, 1) := by decide +kernel
theorem dX5_init_27 : decode cX5_init 27 = .ok (.getfield 11, 3) := by decide +kernel
theorem dX5_init_30 : decode cX5_init 30 = .ok (.arraylength, 1) := by decide +kernel
theorem dX5_init_31 : decode cX5_init 31 = .ok (.if_icmp .ge 22, 3) := by decide +kernel
theorem dX5_init_34 : decode cX5_init 34 = .ok (.aload_n 0, 1) := by decide +kernel
theorem dX5_init_35 : decode cX5_init 35 = .ok (.getfield 11, 3) := by decide +kernel
theorem dX5_init_38 : decode cX5_init 38 = .ok (.iload_n 1, 1) := by decide +kernel
theorem dX5_init_39 : decode cX5_init 39 = .ok (.new 9, 3) := by decide +kernel
theorem dX5_init_42 : decode cX5_init 42 = .ok (.dup, 1) := by decide +kernel
theorem dX5_init_43 : decode cX5_init 43 = .ok (.invokespecial 24, 3) := by decide +kernel
theorem dX5_init_46 : decode cX5_init 46 = .ok (.aastore, 1) := by decide +kernel
theorem dX5_init_47 : decode cX5_init 47 = .ok (.iinc 1 1, 3) := by decide +kernel
theorem dX5_init_50 : decode cX5_init 50 = .ok (.goto (-25), 3) := by decide +kernel
theorem dX5_init_53 : decode cX5_init 53 = .ok (.return_, 1) := by decide +kernel
theorem dX5_copyFrom_0 : decode cX5_copyFrom 0 = .ok (.iconst 0, 1) := by decide +kernel
theorem dX5_copyFrom_1 : decode cX5_copyFrom 1 = .ok (.istore_n 2, 1) := by decide +kernel
theorem dX5_copyFrom_2 : decode cX5_copyFrom 2 = .ok (.iload_n 2, 1) := by decide +kernel
theorem dX5_copyFrom_3 : decode cX5_copyFrom 3 = .ok (.aload_n 0, 1) := by decide +kernel
theorem dX5_copyFrom_4 : decode cX5_copyFrom 4 = .ok (.getfield 11, 3) := by decide +kernel
theorem dX5_copyFrom_7 : decode cX5_copyFrom 7 = .ok (.arraylength, 1) := by decide +kernel
theorem dX5_copyFrom_8 : decode cX5_copyFrom 8 = .ok (.if_icmp .ge 33, 3) := by decide +kernel
theorem dX5_copyFrom_11 : decode cX5_copyFrom 11 = .ok (.iload_n 2, 1) := by decide +kernel
theorem dX5_copyFrom_12 : decode cX5_copyFrom 12 = .ok (.aload_n 1, 1) := by decide +kernel
theorem dX5_copyFrom_13 : decode cX5_copyFrom 13 = .ok (.getfield 11, 3) := by decide +kernel
theorem dX5_copyFrom_16 : decode cX5_copyFrom 16 = .ok (.arraylength, 1) := by decide +kernel
theorem dX5_copyFrom_17 : decode cX5_copyFrom 17 = .ok (.if_icmp .ge 24, 3) := by decide +kernel
theorem dX5_copyFrom_20 : decode cX5_copyFrom 20 = .ok (.aload_n 0, 1) := by decide +kernel
theorem dX5_copyFrom_21 : decode cX5_copyFrom 21 = .ok (.getfield 11, 3) := by decide +kernel
theorem dX5_copyFrom_24 : decode cX5_copyFrom 24 = .ok (.iload_n 2, 1) := by decide +kernel
theorem dX5_copyFrom_25 : decode cX5_copyFrom 25 = .ok (.aaload, 1) := by decide +kernel
theorem dX5_copyFrom_26 : decode cX5_copyFrom 26 = .ok (.aload_n 1, 1) := by decide +kernel
theorem dX5_copyFrom_27 : decode cX5_copyFrom 27 = .ok (.getfield 11, 3) := by decide +kernel
theorem dX5_copyFrom_30 : decode cX5_copyFrom 30 = .ok (.iload_n 2, 1) := by decide +kernel
theorem dX5_copyFrom_31 : decode cX5_copyFrom 31 = .ok (.aaload, 1) := by decide +kernel
theorem dX5_copyFrom_32 : decode cX5_copyFrom 32 = .ok (.invokevirtual 25, 3) := by decide +kernel
theorem dX5_copyFrom_35 : decode cX5_copyFrom 35 = .ok (.iinc 2 1, 3) := by decide +kernel
theorem dX5_copyFrom_38 : decode cX5_copyFrom 38 = .ok (.goto (-36), 3) := by decide +kernel
theorem dX5_copyFrom_41 : decode cX5_copyFrom 41 = .ok (.aload_n 0, 1) := by decide +kernel
theorem dX5_copyFrom_42 : decode cX5_copyFrom 42 = .ok (.getfield 20, 3) := by decide +kernel
theorem dX5_copyFrom_45 : decode cX5_copyFrom 45 = .ok (.aload_n 1, 1) := by decide +kernel
theorem dX5_copyFrom_46 : decode cX5_copyFrom 46 = .ok (.getfield 20, 3) := by decide +kernel
theorem dX5_copyFrom_49 : decode cX5_copyFrom 49 = .ok (.invokevirtual 29, 3) := by decide +kernel
theorem dX5_copyFrom_52 : decode cX5_copyFrom 52 = .ok (.return_, 1) := by decide +kernel
theorem dX6_init_0 : decode cX6_init 0 = .ok (.aload_n 0, 1) := by decide +kernel
theorem dX6_init_1 : decode cX6_init 1 = .ok (.invokespecial 3, 3) := by decide +kernel
theorem dX6_init_4 : decode cX6_init 4 = .ok (.aload_n 0, 1) := by decide +kernel
theorem dX6_init_5 : decode cX6_init 5 = .ok (.bipush 60, 2) := by decide +kernel
theorem dX6_init_7 : decode cX6_init 7 = .ok (.newarray .char, 2) := by decide +kernel
theorem dX6_init_9 : decode cX6_init 9 = .ok (.putfield 11, 3) := by decide +kernel
theorem dX6_init_12 : decode cX6_init 12 = .ok (.return_, 1) := by decide +kernel
theorem dX7_init_0 : decode cX7_init 0 = .ok (.aload_n 0, 1) := by decide +kernel
theorem dX7_init_1 : decode cX7_init 1 = .ok (.invokespecial 3, 3) := by decide +kernel
theorem dX7_init_4 : decode cX7_init 4 = .ok (.aload_n 0, 1) := by decide +kernel
theorem dX7_init_5 : decode cX7_init 5 = .ok (.new 9, 3) := by decide +kernel
theorem dX7_init_8 : decode cX7_init 8 = .ok (.dup, 1) := by decide +kernel
theorem dX7_init_9 : decode cX7_init 9 = .ok (.invokespecial 11, 3) := by decide +kernel
theorem dX7_init_12 : decode cX7_init 12 = .ok (.putfield 12, 3) := by decide +kernel
theorem dX7_init_15 : decode cX7_init 15 = .ok (.aload_n 0, 1) := by decide +kernel
theorem dX7_init_16 : decode cX7_init 16 = .ok (.new 18, 3) := by decide +kernel
theorem dX7_init_19 : decode cX7_init 19 = .ok (.dup, 1) := by decide +kernel
theorem dX7_init_20 : decode cX7_init 20 = .ok (.invokespecial 20, 3) := by decide +kernel
theorem dX7_init_23 : decode cX7_init 23 = .ok (.putfield 21, 3) := by decide +kernel
theorem dX7_init_26 : decode cX7_init 26 = .ok (.aload_n 0, 1) := by decide +kernel
theorem dX7_init_27 : decode cX7_init 27 = .ok (.bipush 8, 2) := by decide +kernel
theorem dX7_init_29 : decode cX7_init 29 = .ok (.anewarray 25, 3) := by decide +kernel
theorem dX7_init_32 : decode cX7_init 32 = .ok (.putfield 27, 3) := by decide +kernel
theorem dX7_init_35 : decode cX7_init 35 = .ok (.iconst 0, 1) := by decide +kernel
theorem dX7_init_36 : decode cX7_init 36 = .ok (.istore_n 1, 1) := by decide +kernel
theorem dX7_init_37 : decode cX7_init 37 = .ok (.iload_n 1, 1) := by decide +kernel
theorem dX7_init_38 : decode cX7_init 38 = .ok (.aload_n 0, 1) := by decide +kernel
theorem dX7_init_39 : decode cX7_init 39 = .ok (.getfield 27, 3) := by decide +kernel
theorem dX7_init_42 : decode cX7_init 42 = .ok (.arraylength, 1) := by decide +kernel
theorem dX7_init_43 : decode cX7_init 43 = .ok (.if_icmp .ge 22, 3) := by decide +kernel
theorem dX7_init_46 : decode cX7_init 46 = .ok (.aload_n 0, 1) := by decide +kernel
theorem dX7_init_47 : decode cX7_init 47 = .ok (.getfield 27, 3) := by decide +kernel
theorem dX7_init_50 : decode cX7_init 50 = .ok (.iload_n 1, 1) := by decide +kernel
theorem dX7_init_51 : decode cX7_init 51 = .ok (.new 25, 3) := by decide +kernel
theorem dX7_init_54 : decode cX7_init 54 = .ok (.dup, 1) := by decide +kernel
theorem dX7_init_55 : decode cX7_init 55 = .ok (.invokespecial 31, 3) := by decide +kernel
theorem dX7_init_58 : decode cX7_init 58 = .ok (.aastore, 1) := by decide +kernel
theorem dX7_init_59 : decode cX7_init 59 = .ok (.iinc 1 1, 3) := by decide +kernel
theorem dX7_init_62 : decode cX7_init 62 = .ok (.goto (-25), 3) := by decide +kernel
theorem dX7_init_65 : decode cX7_init 65 = .ok (.return_, 1) := by decide +kernel
theorem dX7_copyFrom_0 : decode cX7_copyFrom 0 = .ok (.aload_n 0, 1) := by decide +kernel
theorem dX7_copyFrom_1 : decode cX7_copyFrom 1 = .ok (.getfield 12, 3) := by decide +kernel
theorem dX7_copyFrom_4 : decode cX7_copyFrom 4 = .ok (.aload_n 1, 1) := by decide +kernel
theorem dX7_copyFrom_5 : decode cX7_copyFrom 5 = .ok (.getfield 12, 3) := by decide +kernel
theorem dX7_copyFrom_8 : decode cX7_copyFrom 8 = .ok (.invokevirtual 32, 3) := by decide +kernel
theorem dX7_copyFrom_11 : decode cX7_copyFrom 11 = .ok (.aload_n 0, 1) := by decide +kernel
theorem dX7_copyFrom_12 : decode cX7_copyFrom 12 = .ok (.getfield 21, 3) := by decide +kernel
theorem dX7_copyFrom_15 : decode cX7_copyFrom 15 = .ok (.aload_n 1, 1) := by decide +kernel
theorem dX7_copyFrom_16 : decode cX7_copyFrom 16 = .ok (.getfield 21, 3) := by decide +kernel
theorem dX7_copyFrom_19 : decode cX7_copyFrom 19 = .ok (.invokevirtual 36, 3) := by decide +kernel
theorem dX7_copyFrom_22 : decode cX7_copyFrom 22 = .ok (.iconst 0, 1) := by decide +kernel
theorem dX7_copyFrom_23 : decode cX7_copyFrom 23 = .ok (.istore_n 2, 1) := by decide +kernel
theorem dX7_copyFrom_24 : decode cX7_copyFrom 24 = .ok (.iload_n 2, 1) := by decide +kernel
theorem dX7_copyFrom_25 : decode cX7_copyFrom 25 = .ok (.aload_n 0, 1) := by decide +kernel
theorem dX7_copyFrom_26 : decode cX7_copyFrom 26 = .ok (.getfield 27, 3) := by decide +kernel
theorem dX7_copyFrom_29 : decode cX7_copyFrom 29 = .ok (.arraylength, 1) := by decide +kernel
theorem dX7_copyFrom_30 : decode cX7_copyFrom 30 = .ok (.if_icmp .ge 33, 3) := by decide +kernel
theorem dX7_copyFrom_33 : decode cX7_copyFrom 33 = .ok (.iload_n 2, 1) := by decide +kernel
theorem dX7_copyFrom_34 : decode cX7_copyFrom 34 = .ok (.aload_n 1, 1) := by decide +kernel
theorem dX7_copyFrom_35 : decode cX7_copyFrom 35 = .ok (.getfield 27, 3) := by decide +kernel
theorem dX7_copyFrom_38 : decode cX7_copyFrom 38 = .ok (.arraylength, 1) := by decide +kernel
theorem dX7_copyFrom_39 : decode cX7_copyFrom 39 = .ok (.if_icmp .ge 24, 3) := by decide +kernel
theorem dX7_copyFrom_42 : decode cX7_copyFrom 42 = .ok (.aload_n 0, 1) := by decide +kernel
theorem dX7_copyFrom_43 : decode cX7_copyFrom 43 = .ok (.getfield 27, 3) := by decide +kernel
theorem dX7_copyFrom_46 : decode cX7_copyFrom 46 = .ok (.iload_n 2, 1) := by decide +kernel
theorem dX7_copyFrom_47 : decode cX7_copyFrom 47 = .ok (.aaload, 1) := by decide +kernel
theorem dX7_copyFrom_48 : decode cX7_copyFrom 48 = .ok (.aload_n 1, 1) := by decide +kernel
theorem dX7_copyFrom_49 : decode cX7_copyFrom 49 = .ok (.getfield 27, 3) := by decide +kernel
theorem dX7_copyFrom_52 : decode cX7_copyFrom 52 = .ok (.iload_n 2, 1) := by decide +kernel
theorem dX7_copyFrom_53 : decode cX7_copyFrom 53 = .ok (.aaload, 1) := by decide +kernel
theorem dX7_copyFrom_54 : decode cX7_copyFrom 54 = .ok (.invokevirtual 39, 3) := by decide +kernel
theorem dX7_copyFrom_57 : decode cX7_copyFrom 57 = .ok (.iinc 2 1, 3) := by decide +kernel
theorem dX7_copyFrom_60 : decode cX7_copyFrom 60 = .ok (.goto (-36), 3) := by decide +kernel
theorem dX7_copyFrom_63 : decode cX7_copyFrom 63 = .ok (.aload_n 0, 1) := by decide +kernel
theorem dX7_copyFrom_64 : decode cX7_copyFrom 64 = .ok (.aload_n 1, 1) := by decide +kernel
theorem dX7_copyFrom_65 : decode cX7_copyFrom 65 = .ok (.getfield 42, 3) := by decide +kernel
theorem dX7_copyFrom_68 : decode cX7_copyFrom 68 = .ok (.putfield 42, 3) := by decide +kernel
theorem dX7_copyFrom_71 : decode cX7_copyFrom 71 = .ok (.aload_n 0, 1) := by decide +kernel
theorem dX7_copyFrom_72 : decode cX7_copyFrom 72 = .ok (.aload_n 1, 1) := by decide +kernel
theorem dX7_copyFrom_73 : decode cX7_copyFrom 73 = .ok (.getfield 46, 3) := by decide +kernel
theorem dX7_copyFrom_76 : decode cX7_copyFrom 76 = .ok (.putfield 46, 3) := by decide +kernel
theorem dX7_copyFrom_79 : decode cX7_copyFrom 79 = .ok (.return_, 1) := by decide +kernel
theorem dX7_countedAs_0 : decode cX7_countedAs 0 = .ok (.iload_n 1, 1) := by decide +kernel
theorem dX7_countedAs_1 : decode cX7_countedAs 1 = .ok (.tableswitch 69 0 4 #[35, 43, 51, 59, 64], 35) := by decide +kernel
theorem dX7_countedAs_36 : decode cX7_countedAs 36 = .ok (.aload_n 0, 1) := by decide +kernel
theorem dX7_countedAs_37 : decode cX7_countedAs 37 = .ok (.getfield 12, 3) := by decide +kernel
theorem dX7_countedAs_40 : decode cX7_countedAs 40 = .ok (.getfield 49, 3) := by decide +kernel
theorem dX7_countedAs_43 : decode cX7_countedAs 43 = .ok (.ireturn, 1) := by decide +kernel
theorem dX7_countedAs_44 : decode cX7_countedAs 44 = .ok (.aload_n 0, 1) := by decide +kernel
theorem dX7_countedAs_45 : decode cX7_countedAs 45 = .ok (.getfield 12, 3) := by decide +kernel
theorem dX7_countedAs_48 : decode cX7_countedAs 48 = .ok (.getfield 52, 3) := by decide +kernel
theorem dX7_countedAs_51 : decode cX7_countedAs 51 = .ok (.ireturn, 1) := by decide +kernel
theorem dX7_countedAs_52 : decode cX7_countedAs 52 = .ok (.aload_n 0, 1) := by decide +kernel
theorem dX7_countedAs_53 : decode cX7_countedAs 53 = .ok (.getfield 12, 3) := by decide +kernel
theorem dX7_countedAs_56 : decode cX7_countedAs 56 = .ok (.getfield 55, 3) := by decide +kernel
theorem dX7_countedAs_59 : decode cX7_countedAs 59 = .ok (.ireturn, 1) := by decide +kernel
theorem dX7_countedAs_60 : decode cX7_countedAs 60 = .ok (.aload_n 0, 1) := by decide +kernel
theorem dX7_countedAs_61 : decode cX7_countedAs 61 = .ok (.getfield 42, 3) := by decide +kernel
theorem dX7_countedAs_64 : decode cX7_countedAs 64 = .ok (.ireturn, 1) := by decide +kernel
theorem dX7_countedAs_65 : decode cX7_countedAs 65 = .ok (.aload_n 0, 1) := by decide +kernel
theorem dX7_countedAs_66 : decode cX7_countedAs 66 = .ok (.getfield 46, 3) := by decide +kernel
theorem dX7_countedAs_69 : decode cX7_countedAs 69 = .ok (.ireturn, 1) := by decide +kernel
theorem dX7_countedAs_70 : decode cX7_countedAs 70 = .ok (.aload_n 0, 1) := by decide +kernel
theorem dX7_countedAs_71 : decode cX7_countedAs 71 = .ok (.getfield 21, 3) := by decide +kernel
theorem dX7_countedAs_74 : decode cX7_countedAs 74 = .ok (.getfield 58, 3) := by decide +kernel
theorem dX7_countedAs_77 : decode cX7_countedAs 77 = .ok (.ireturn, 1) := by decide +kernel
theorem dX7_packetAt_0 : decode cX7_packetAt 0 = .ok (.iload_n 1, 1) := by decide +kernel
theorem dX7_packetAt_1 : decode cX7_packetAt 1 = .ok (.ifCond .lt 29, 3) := by decide +kernel
theorem dX7_packetAt_4 : decode cX7_packetAt 4 = .ok (.iload_n 1, 1) := by decide +kernel
theorem dX7_packetAt_5 : decode cX7_packetAt 5 = .ok (.aload_n 0, 1) := by decide +kernel
theorem dX7_packetAt_6 : decode cX7_packetAt 6 = .ok (.getfield 42, 3) := by decide +kernel
theorem dX7_packetAt_9 : decode cX7_packetAt 9 = .ok (.if_icmp .ge 21, 3) := by decide +kernel
theorem dX7_packetAt_12 : decode cX7_packetAt 12 = .ok (.iload_n 1, 1) := by decide +kernel
theorem dX7_packetAt_13 : decode cX7_packetAt 13 = .ok (.aload_n 0, 1) := by decide +kernel
theorem dX7_packetAt_14 : decode cX7_packetAt 14 = .ok (.getfield 27, 3) := by decide +kernel
theorem dX7_packetAt_17 : decode cX7_packetAt 17 = .ok (.arraylength, 1) := by decide +kernel
theorem dX7_packetAt_18 : decode cX7_packetAt 18 = .ok (.if_icmp .ge 12, 3) := by decide +kernel
theorem dX7_packetAt_21 : decode cX7_packetAt 21 = .ok (.aload_n 0, 1) := by decide +kernel
theorem dX7_packetAt_22 : decode cX7_packetAt 22 = .ok (.getfield 27, 3) := by decide +kernel
theorem dX7_packetAt_25 : decode cX7_packetAt 25 = .ok (.iload_n 1, 1) := by decide +kernel
theorem dX7_packetAt_26 : decode cX7_packetAt 26 = .ok (.aaload, 1) := by decide +kernel
theorem dX7_packetAt_27 : decode cX7_packetAt 27 = .ok (.goto 4, 3) := by decide +kernel
theorem dX7_packetAt_30 : decode cX7_packetAt 30 = .ok (.aconst_null, 1) := by decide +kernel
theorem dX7_packetAt_31 : decode cX7_packetAt 31 = .ok (.areturn, 1) := by decide +kernel
theorem dX7_hasRoom_0 : decode cX7_hasRoom 0 = .ok (.aload_n 0, 1) := by decide +kernel
theorem dX7_hasRoom_1 : decode cX7_hasRoom 1 = .ok (.getfield 42, 3) := by decide +kernel
theorem dX7_hasRoom_4 : decode cX7_hasRoom 4 = .ok (.aload_n 0, 1) := by decide +kernel
theorem dX7_hasRoom_5 : decode cX7_hasRoom 5 = .ok (.getfield 27, 3) := by decide +kernel
theorem dX7_hasRoom_8 : decode cX7_hasRoom 8 = .ok (.arraylength, 1) := by decide +kernel
theorem dX7_hasRoom_9 : decode cX7_hasRoom 9 = .ok (.if_icmp .ge 7, 3) := by decide +kernel
theorem dX7_hasRoom_12 : decode cX7_hasRoom 12 = .ok (.iconst 1, 1) := by decide +kernel
theorem dX7_hasRoom_13 : decode cX7_hasRoom 13 = .ok (.goto 4, 3) := by decide +kernel
theorem dX7_hasRoom_16 : decode cX7_hasRoom 16 = .ok (.iconst 0, 1) := by decide +kernel
theorem dX7_hasRoom_17 : decode cX7_hasRoom 17 = .ok (.ireturn, 1) := by decide +kernel
theorem dX7_canTake_0 : decode cX7_canTake 0 = .ok (.aload_n 0, 1) := by decide +kernel
theorem dX7_canTake_1 : decode cX7_canTake 1 = .ok (.invokevirtual 61, 3) := by decide +kernel
theorem dX7_canTake_4 : decode cX7_canTake 4 = .ok (.ifCond .ne 14, 3) := by decide +kernel
theorem dX7_canTake_7 : decode cX7_canTake 7 = .ok (.aload_n 0, 1) := by decide +kernel
theorem dX7_canTake_8 : decode cX7_canTake 8 = .ok (.getfield 12, 3) := by decide +kernel
theorem dX7_canTake_11 : decode cX7_canTake 11 = .ok (.aload_n 1, 1) := by decide +kernel
theorem dX7_canTake_12 : decode cX7_canTake 12 = .ok (.invokevirtual 65, 3) := by decide +kernel
theorem dX7_canTake_15 : decode cX7_canTake 15 = .ok (.ifCond .ne 7, 3) := by decide +kernel
theorem dX7_canTake_18 : decode cX7_canTake 18 = .ok (.iconst 1, 1) := by decide +kernel
theorem dX7_canTake_19 : decode cX7_canTake 19 = .ok (.goto 4, 3) := by decide +kernel
theorem dX7_canTake_22 : decode cX7_canTake 22 = .ok (.iconst 0, 1) := by decide +kernel
theorem dX7_canTake_23 : decode cX7_canTake 23 = .ok (.ireturn, 1) := by decide +kernel
theorem dX7_take_0 : decode cX7_take 0 = .ok (.aload_n 0, 1) := by decide +kernel
theorem dX7_take_1 : decode cX7_take 1 = .ok (.getfield 12, 3) := by decide +kernel
theorem dX7_take_4 : decode cX7_take 4 = .ok (.iload_n 1, 1) := by decide +kernel
theorem dX7_take_5 : decode cX7_take 5 = .ok (.invokevirtual 69, 3) := by decide +kernel
theorem dX7_take_8 : decode cX7_take 8 = .ok (.sipush (-10000), 3) := by decide +kernel
theorem dX7_take_11 : decode cX7_take 11 = .ok (.istore_n 3, 1) := by decide +kernel
theorem dX7_take_12 : decode cX7_take 12 = .ok (.aload_n 0, 1) := by decide +kernel
theorem dX7_take_13 : decode cX7_take 13 = .ok (.getfield 12, 3) := by decide +kernel
theorem dX7_take_16 : decode cX7_take 16 = .ok (.getfield 73, 3) := by decide +kernel
theorem dX7_take_19 : decode cX7_take 19 = .ok (.aload_n 2, 1) := by decide +kernel
theorem dX7_take_20 : decode cX7_take 20 = .ok (.iconst 0, 1) := by decide +kernel
theorem dX7_take_21 : decode cX7_take 21 = .ok (.invokevirtual 76, 3) := by decide +kernel
theorem dX7_take_24 : decode cX7_take 24 = .ok (.if_icmp .lt 23, 3) := by decide +kernel
theorem dX7_take_27 : decode cX7_take 27 = .ok (.aload_n 0, 1) := by decide +kernel
theorem dX7_take_28 : decode cX7_take 28 = .ok (.getfield 12, 3) := by decide +kernel
theorem dX7_take_31 : decode cX7_take 31 = .ok (.aload_n 0, 1) := by decide +kernel
theorem dX7_take_32 : decode cX7_take 32 = .ok (.getfield 12, 3) := by decide +kernel
theorem dX7_take_35 : decode cX7_take 35 = .ok (.aload_n 2, 1) := by decide +kernel
theorem dX7_take_36 : decode cX7_take 36 = .ok (.iconst 1, 1) := by decide +kernel
theorem dX7_take_37 : decode cX7_take 37 = .ok (.invokevirtual 76, 3) := by decide +kernel
theorem dX7_take_40 : decode cX7_take 40 = .ok (.invokevirtual 82, 3) := by decide +kernel
theorem dX7_take_43 : decode cX7_take 43 = .ok (.invokevirtual 85, 3) := by decide +kernel
theorem dX7_take_46 : decode cX7_take 46 = .ok (.istore_n 3, 1) := by decide +kernel
theorem dX7_take_47 : decode cX7_take 47 = .ok (.aload_n 0, 1) := by decide +kernel
theorem dX7_take_48 : decode cX7_take 48 = .ok (.getfield 12, 3) := by decide +kernel
theorem dX7_take_51 : decode cX7_take 51 = .ok (.getfield 88, 3) := by decide +kernel
theorem dX7_take_54 : decode cX7_take 54 = .ok (.getfield 92, 3) := by decide +kernel
theorem dX7_take_57 : decode cX7_take 57 = .ok (.aload_n 2, 1) := by decide +kernel
theorem dX7_take_58 : decode cX7_take 58 = .ok (.iconst 2, 1) := by decide +kernel
theorem dX7_take_59 : decode cX7_take 59 = .ok (.invokevirtual 76, 3) := by decide +kernel
theorem dX7_take_62 : decode cX7_take 62 = .ok (.if_icmp .lt 8, 3) := by decide +kernel
theorem dX7_take_65 : decode cX7_take 65 = .ok (.aload_n 0, 1) := by decide +kernel
theorem dX7_take_66 : decode cX7_take 66 = .ok (.aload_n 2, 1) := by decide +kernel
theorem dX7_take_67 : decode cX7_take 67 = .ok (.invokevirtual 95, 3) := by decide +kernel
theorem dX7_take_70 : decode cX7_take 70 = .ok (.iload_n 3, 1) := by decide +kernel
theorem dX7_take_71 : decode cX7_take 71 = .ok (.ireturn, 1) := by decide +kernel
theorem dX7_closePacket_0 : decode cX7_closePacket 0 = .ok (.aload_n 0, 1) := by decide +kernel
theorem dX7_closePacket_1 : decode cX7_closePacket 1 = .ok (.getfield 42, 3) := by decide +kernel
theorem dX7_closePacket_4 : decode cX7_closePacket 4 = .ok (.ifCond .lt 46, 3) := by decide +kernel
theorem dX7_closePacket_7 : decode cX7_closePacket 7 = .ok (.aload_n 0, 1) := by decide +kernel
theorem dX7_closePacket_8 : decode cX7_closePacket 8 = .ok (.getfield 42, 3) := by decide +kernel
theorem dX7_closePacket_11 : decode cX7_closePacket 11 = .ok (.aload_n 0, 1) := by decide +kernel
theorem dX7_closePacket_12 : decode cX7_closePacket 12 = .ok (.getfield 27, 3) := by decide +kernel
theorem dX7_closePacket_15 : decode cX7_closePacket 15 = .ok (.arraylength, 1) := by decide +kernel
theorem dX7_closePacket_16 : decode cX7_closePacket 16 = .ok (.if_icmp .ge 34, 3) := by decide +kernel
theorem dX7_closePacket_19 : decode cX7_closePacket 19 = .ok (.aload_n 0, 1) := by decide +kernel
theorem dX7_closePacket_20 : decode cX7_closePacket 20 = .ok (.getfield 12, 3) := by decide +kernel
theorem dX7_closePacket_23 : decode cX7_closePacket 23 = .ok (.aload_n 0, 1) := by decide +kernel
theorem dX7_closePacket_24 : decode cX7_closePacket 24 = .ok (.getfield 27, 3) := by decide +kernel
theorem dX7_closePacket_27 : decode cX7_closePacket 27 = .ok (.aload_n 0, 1) := by decide +kernel
theorem dX7_closePacket_28 : decode cX7_closePacket 28 = .ok (.getfield 42, 3) := by decide +kernel
theorem dX7_closePacket_31 : decode cX7_closePacket 31 = .ok (.aaload, 1) := by decide +kernel
theorem dX7_closePacket_32 : decode cX7_closePacket 32 = .ok (.aload_n 1, 1) := by decide +kernel
theorem dX7_closePacket_33 : decode cX7_closePacket 33 = .ok (.iconst 3, 1) := by decide +kernel
theorem dX7_closePacket_34 : decode cX7_closePacket 34 = .ok (.invokevirtual 76, 3) := by decide +kernel
theorem dX7_closePacket_37 : decode cX7_closePacket 37 = .ok (.invokevirtual 99, 3) := by decide +kernel
theorem dX7_closePacket_40 : decode cX7_closePacket 40 = .ok (.aload_n 0, 1) := by decide +kernel
theorem dX7_closePacket_41 : decode cX7_closePacket 41 = .ok (.dup, 1) := by decide +kernel
theorem dX7_closePacket_42 : decode cX7_closePacket 42 = .ok (.getfield 42, 3) := by decide +kernel
theorem dX7_closePacket_45 : decode cX7_closePacket 45 = .ok (.iconst 1, 1) := by decide +kernel
theorem dX7_closePacket_46 : decode cX7_closePacket 46 = .ok (.iadd, 1) := by decide +kernel
theorem dX7_closePacket_47 : decode cX7_closePacket 47 = .ok (.putfield 42, 3) := by decide +kernel
theorem dX7_closePacket_50 : decode cX7_closePacket 50 = .ok (.return_, 1) := by decide +kernel
theorem dX7_bringFirst_0 : decode cX7_bringFirst 0 = .ok (.aload_n 0, 1) := by decide +kernel
theorem dX7_bringFirst_1 : decode cX7_bringFirst 1 = .ok (.getfield 21, 3) := by decide +kernel
theorem dX7_bringFirst_4 : decode cX7_bringFirst 4 = .ok (.aload_n 0, 1) := by decide +kernel
theorem dX7_bringFirst_5 : decode cX7_bringFirst 5 = .ok (.getfield 27, 3) := by decide +kernel
theorem dX7_bringFirst_8 : decode cX7_bringFirst 8 = .ok (.iconst 0, 1) := by decide +kernel
theorem dX7_bringFirst_9 : decode cX7_bringFirst 9 = .ok (.aaload, 1) := by decide +kernel
theorem dX7_bringFirst_10 : decode cX7_bringFirst 10 = .ok (.invokevirtual 103, 3) := by decide +kernel
theorem dX7_bringFirst_13 : decode cX7_bringFirst 13 = .ok (.istore_n 1, 1) := by decide +kernel
theorem dX7_bringFirst_14 : decode cX7_bringFirst 14 = .ok (.aload_n 0, 1) := by decide +kernel
theorem dX7_bringFirst_15 : decode cX7_bringFirst 15 = .ok (.invokevirtual 107, 3) := by decide +kernel
theorem dX7_bringFirst_18 : decode cX7_bringFirst 18 = .ok (.iload_n 1, 1) := by decide +kernel
theorem dX7_bringFirst_19 : decode cX7_bringFirst 19 = .ok (.ireturn, 1) := by decide +kernel
theorem dX7_dropFirst_0 : decode cX7_dropFirst 0 = .ok (.aload_n 0, 1) := by decide +kernel
theorem dX7_dropFirst_1 : decode cX7_dropFirst 1 = .ok (.getfield 27, 3) := by decide +kernel
theorem dX7_dropFirst_4 : decode cX7_dropFirst 4 = .ok (.iconst 0, 1) := by decide +kernel
theorem dX7_dropFirst_5 : decode cX7_dropFirst 5 = .ok (.aaload, 1) := by decide +kernel
theorem dX7_dropFirst_6 : decode cX7_dropFirst 6 = .ok (.getfield 110, 3) := by decide +kernel
theorem dX7_dropFirst_9 : decode cX7_dropFirst 9 = .ok (.istore_n 1, 1) := by decide +kernel
theorem dX7_dropFirst_10 : decode cX7_dropFirst 10 = .ok (.aload_n 0, 1) := by decide +kernel
theorem dX7_dropFirst_11 : decode cX7_dropFirst 11 = .ok (.dup, 1) := by decide +kernel
theorem dX7_dropFirst_12 : decode cX7_dropFirst 12 = .ok (.getfield 46, 3) := by decide +kernel
theorem dX7_dropFirst_15 : decode cX7_dropFirst 15 = .ok (.iconst 1, 1) := by decide +kernel
theorem dX7_dropFirst_16 : decode cX7_dropFirst 16 = .ok (.iadd, 1) := by decide +kernel
theorem dX7_dropFirst_17 : decode cX7_dropFirst 17 = .ok (.putfield 46, 3) := by decide +kernel
theorem dX7_dropFirst_20 : decode cX7_dropFirst 20 = .ok (.aload_n 0, 1) := by decide +kernel
theorem dX7_dropFirst_21 : decode cX7_dropFirst 21 = .ok (.invokevirtual 107, 3) := by decide +kernel
theorem dX7_dropFirst_24 : decode cX7_dropFirst 24 = .ok (.iload_n 1, 1) := by decide +kernel
theorem dX7_dropFirst_25 : decode cX7_dropFirst 25 = .ok (.ireturn, 1) := by decide +kernel
theorem dX7_exchangeFirstTwo_0 : decode cX7_exchangeFirstTwo 0 = .ok (.aload_n 0, 1) := by decide +kernel
theorem dX7_exchangeFirstTwo_1 : decode cX7_exchangeFirstTwo 1 = .ok (.getfield 27, 3) := by decide +kernel
theorem dX7_exchangeFirstTwo_4 : decode cX7_exchangeFirstTwo 4 = .ok (.iconst 0, 1) := by decide +kernel
theorem dX7_exchangeFirstTwo_5 : decode cX7_exchangeFirstTwo 5 = .ok (.aaload, 1) := by decide +kernel
theorem dX7_exchangeFirstTwo_6 : decode cX7_exchangeFirstTwo 6 = .ok (.astore_n 1, 1) := by decide +kernel
theorem dX7_exchangeFirstTwo_7 : decode cX7_exchangeFirstTwo 7 = .ok (.aload_n 0, 1) := by decide +kernel
theorem dX7_exchangeFirstTwo_8 : decode cX7_exchangeFirstTwo 8 = .ok (.getfield 27, 3) := by decide +kernel
theorem dX7_exchangeFirstTwo_11 : decode cX7_exchangeFirstTwo 11 = .ok (.iconst 0, 1) := by decide +kernel
theorem dX7_exchangeFirstTwo_12 : decode cX7_exchangeFirstTwo 12 = .ok (.aload_n 0, 1) := by decide +kernel
theorem dX7_exchangeFirstTwo_13 : decode cX7_exchangeFirstTwo 13 = .ok (.getfield 27, 3) := by decide +kernel
theorem dX7_exchangeFirstTwo_16 : decode cX7_exchangeFirstTwo 16 = .ok (.iconst 1, 1) := by decide +kernel
theorem dX7_exchangeFirstTwo_17 : decode cX7_exchangeFirstTwo 17 = .ok (.aaload, 1) := by decide +kernel
theorem dX7_exchangeFirstTwo_18 : decode cX7_exchangeFirstTwo 18 = .ok (.aastore, 1) := by decide +kernel
theorem dX7_exchangeFirstTwo_19 : decode cX7_exchangeFirstTwo 19 = .ok (.aload_n 0, 1) := by decide +kernel
theorem dX7_exchangeFirstTwo_20 : decode cX7_exchangeFirstTwo 20 = .ok (.getfield 27, 3) := by decide +kernel
theorem dX7_exchangeFirstTwo_23 : decode cX7_exchangeFirstTwo 23 = .ok (.iconst 1, 1) := by decide +kernel
theorem dX7_exchangeFirstTwo_24 : decode cX7_exchangeFirstTwo 24 = .ok (.aload_n 1, 1) := by decide +kernel
theorem dX7_exchangeFirstTwo_25 : decode cX7_exchangeFirstTwo 25 = .ok (.aastore, 1) := by decide +kernel
theorem dX7_exchangeFirstTwo_26 : decode cX7_exchangeFirstTwo 26 = .ok (.aload_n 0, 1) := by decide +kernel
theorem dX7_exchangeFirstTwo_27 : decode cX7_exchangeFirstTwo 27 = .ok (.getfield 27, 3) := by decide +kernel
theorem dX7_exchangeFirstTwo_30 : decode cX7_exchangeFirstTwo 30 = .ok (.iconst 0, 1) := by decide +kernel
theorem dX7_exchangeFirstTwo_31 : decode cX7_exchangeFirstTwo 31 = .ok (.aaload, 1) := by decide +kernel
theorem dX7_exchangeFirstTwo_32 : decode cX7_exchangeFirstTwo 32 = .ok (.getfield 110, 3) := by decide +kernel
theorem dX7_exchangeFirstTwo_35 : decode cX7_exchangeFirstTwo 35 = .ok (.ireturn, 1) := by decide +kernel
theorem dX7_takeFirstOff_0 : decode cX7_takeFirstOff 0 = .ok (.aload_n 0, 1) := by decide +kernel
theorem dX7_takeFirstOff_1 : decode cX7_takeFirstOff 1 = .ok (.getfield 27, 3) := by decide +kernel
theorem dX7_takeFirstOff_4 : decode cX7_takeFirstOff 4 = .ok (.iconst 0, 1) := by decide +kernel
theorem dX7_takeFirstOff_5 : decode cX7_takeFirstOff 5 = .ok (.aaload, 1) := by decide +kernel
theorem dX7_takeFirstOff_6 : decode cX7_takeFirstOff 6 = .ok (.astore_n 1, 1) := by decide +kernel
theorem dX7_takeFirstOff_7 : decode cX7_takeFirstOff 7 = .ok (.iconst 1, 1) := by decide +kernel
theorem dX7_takeFirstOff_8 : decode cX7_takeFirstOff 8 = .ok (.istore_n 2, 1) := by decide +kernel
theorem dX7_takeFirstOff_9 : decode cX7_takeFirstOff 9 = .ok (.iload_n 2, 1) := by decide +kernel
theorem dX7_takeFirstOff_10 : decode cX7_takeFirstOff 10 = .ok (.aload_n 0, 1) := by decide +kernel
theorem dX7_takeFirstOff_11 : decode cX7_takeFirstOff 11 = .ok (.getfield 27, 3) := by decide +kernel
theorem dX7_takeFirstOff_14 : decode cX7_takeFirstOff 14 = .ok (.arraylength, 1) := by decide +kernel
theorem dX7_takeFirstOff_15 : decode cX7_takeFirstOff 15 = .ok (.if_icmp .ge 23, 3) := by decide +kernel
theorem dX7_takeFirstOff_18 : decode cX7_takeFirstOff 18 = .ok (.aload_n 0, 1) := by decide +kernel
theorem dX7_takeFirstOff_19 : decode cX7_takeFirstOff 19 = .ok (.getfield 27, 3) := by decide +kernel
theorem dX7_takeFirstOff_22 : decode cX7_takeFirstOff 22 = .ok (.iload_n 2, 1) := by decide +kernel
theorem dX7_takeFirstOff_23 : decode cX7_takeFirstOff 23 = .ok (.iconst 1, 1) := by decide +kernel
theorem dX7_takeFirstOff_24 : decode cX7_takeFirstOff 24 = .ok (.isub, 1) := by decide +kernel
theorem dX7_takeFirstOff_25 : decode cX7_takeFirstOff 25 = .ok (.aload_n 0, 1) := by decide +kernel
theorem dX7_takeFirstOff_26 : decode cX7_takeFirstOff 26 = .ok (.getfield 27, 3) := by decide +kernel
theorem dX7_takeFirstOff_29 : decode cX7_takeFirstOff 29 = .ok (.iload_n 2, 1) := by decide +kernel
theorem dX7_takeFirstOff_30 : decode cX7_takeFirstOff 30 = .ok (.aaload, 1) := by decide +kernel
theorem dX7_takeFirstOff_31 : decode cX7_takeFirstOff 31 = .ok (.aastore, 1) := by decide +kernel
theorem dX7_takeFirstOff_32 : decode cX7_takeFirstOff 32 = .ok (.iinc 2 1, 3) := by decide +kernel
theorem dX7_takeFirstOff_35 : decode cX7_takeFirstOff 35 = .ok (.goto (-26), 3) := by decide +kernel
theorem dX7_takeFirstOff_38 : decode cX7_takeFirstOff 38 = .ok (.aload_n 0, 1) := by decide +kernel
theorem dX7_takeFirstOff_39 : decode cX7_takeFirstOff 39 = .ok (.getfield 27, 3) := by decide +kernel
theorem dX7_takeFirstOff_42 : decode cX7_takeFirstOff 42 = .ok (.aload_n 0, 1) := by decide +kernel
theorem dX7_takeFirstOff_43 : decode cX7_takeFirstOff 43 = .ok (.getfield 27, 3) := by decide +kernel
theorem dX7_takeFirstOff_46 : decode cX7_takeFirstOff 46 = .ok (.arraylength, 1) := by decide +kernel
theorem dX7_takeFirstOff_47 : decode cX7_takeFirstOff 47 = .ok (.iconst 1, 1) := by decide +kernel
theorem dX7_takeFirstOff_48 : decode cX7_takeFirstOff 48 = .ok (.isub, 1) := by decide +kernel
theorem dX7_takeFirstOff_49 : decode cX7_takeFirstOff 49 = .ok (.aload_n 1, 1) := by decide +kernel
theorem dX7_takeFirstOff_50 : decode cX7_takeFirstOff 50 = .ok (.aastore, 1) := by decide +kernel
theorem dX7_takeFirstOff_51 : decode cX7_takeFirstOff 51 = .ok (.aload_n 0, 1) := by decide +kernel
theorem dX7_takeFirstOff_52 : decode cX7_takeFirstOff 52 = .ok (.dup, 1) := by decide +kernel
theorem dX7_takeFirstOff_53 : decode cX7_takeFirstOff 53 = .ok (.getfield 42, 3) := by decide +kernel
theorem dX7_takeFirstOff_56 : decode cX7_takeFirstOff 56 = .ok (.iconst 1, 1) := by decide +kernel
theorem dX7_takeFirstOff_57 : decode cX7_takeFirstOff 57 = .ok (.isub, 1) := by decide +kernel
theorem dX7_takeFirstOff_58 : decode cX7_takeFirstOff 58 = .ok (.putfield 42, 3) := by decide +kernel
theorem dX7_takeFirstOff_61 : decode cX7_takeFirstOff 61 = .ok (.return_, 1) := by decide +kernel
theorem dX8_init_0 : decode cX8_init 0 = .ok (.aload_n 0, 1) := by decide +kernel
theorem dX8_init_1 : decode cX8_init 1 = .ok (.invokespecial 1, 3) := by decide +kernel
theorem dX8_init_4 : decode cX8_init 4 = .ok (.aload_n 0, 1) := by decide +kernel
theorem dX8_init_5 : decode cX8_init 5 = .ok (.new 7, 3) := by decide +kernel
theorem dX8_init_8 : decode cX8_init 8 = .ok (.dup, 1) := by decide +kernel
theorem dX8_init_9 : decode cX8_init 9 = .ok (.invokespecial 9, 3) := by decide +kernel
theorem dX8_init_12 : decode cX8_init 12 = .ok (.putfield 10, 3) := by decide +kernel
theorem dX8_init_15 : decode cX8_init 15 = .ok (.aload_n 0, 1) := by decide +kernel
theorem dX8_init_16 : decode cX8_init 16 = .ok (.new 7, 3) := by decide +kernel
theorem dX8_init_19 : decode cX8_init 19 = .ok (.dup, 1) := by decide +kernel
theorem dX8_init_20 : decode cX8_init 20 = .ok (.invokespecial 9, 3) := by decide +kernel
theorem dX8_init_23 : decode cX8_init 23 = .ok (.putfield 16, 3) := by decide +kernel
theorem dX8_init_26 : decode cX8_init 26 = .ok (.aload_n 0, 1) := by decide +kernel
theorem dX8_init_27 : decode cX8_init 27 = .ok (.bipush 6, 2) := by decide +kernel
theorem dX8_init_29 : decode cX8_init 29 = .ok (.anewarray 7, 3) := by decide +kernel
theorem dX8_init_32 : decode cX8_init 32 = .ok (.putfield 19, 3) := by decide +kernel
theorem dX8_init_35 : decode cX8_init 35 = .ok (.aload_n 0, 1) := by decide +kernel
theorem dX8_init_36 : decode cX8_init 36 = .ok (.new 23, 3) := by decide +kernel
theorem dX8_init_39 : decode cX8_init 39 = .ok (.dup, 1) := by decide +kernel
theorem dX8_init_40 : decode cX8_init 40 = .ok (.invokespecial 25, 3) := by decide +kernel
theorem dX8_init_43 : decode cX8_init 43 = .ok (.putfield 26, 3) := by decide +kernel
theorem dX8_init_46 : decode cX8_init 46 = .ok (.aload_n 0, 1) := by decide +kernel
theorem dX8_init_47 : decode cX8_init 47 = .ok (.new 30, 3) := by decide +kernel
theorem dX8_init_50 : decode cX8_init 50 = .ok (.dup, 1) := by decide +kernel
theorem dX8_init_51 : decode cX8_init 51 = .ok (.invokespecial 32, 3) := by decide +kernel
theorem dX8_init_54 : decode cX8_init 54 = .ok (.putfield 33, 3) := by decide +kernel
theorem dX8_init_57 : decode cX8_init 57 = .ok (.aload_n 0, 1) := by decide +kernel
theorem dX8_init_58 : decode cX8_init 58 = .ok (.new 37, 3) := by decide +kernel
theorem dX8_init_61 : decode cX8_init 61 = .ok (.dup, 1) := by decide +kernel
theorem dX8_init_62 : decode cX8_init 62 = .ok (.invokespecial 39, 3) := by decide +kernel
theorem dX8_init_65 : decode cX8_init 65 = .ok (.putfield 40, 3) := by decide +kernel
theorem dX8_init_68 : decode cX8_init 68 = .ok (.iconst 0, 1) := by decide +kernel
theorem dX8_init_69 : decode cX8_init 69 = .ok (.istore_n 1, 1) := by decide +kernel
theorem dX8_init_70 : decode cX8_init 70 = .ok (.iload_n 1, 1) := by decide +kernel
theorem dX8_init_71 : decode cX8_init 71 = .ok (.aload_n 0, 1) := by decide +kernel
theorem dX8_init_72 : decode cX8_init 72 = .ok (.getfield 19, 3) := by decide +kernel
theorem dX8_init_75 : decode cX8_init 75 = .ok (.arraylength, 1) := by decide +kernel
theorem dX8_init_76 : decode cX8_init 76 = .ok (.if_icmp .ge 22, 3) := by decide +kernel
theorem dX8_init_79 : decode cX8_init 79 = .ok (.aload_n 0, 1) := by decide +kernel
theorem dX8_init_80 : decode cX8_init 80 = .ok (.getfield 19, 3) := by decide +kernel
theorem dX8_init_83 : decode cX8_init 83 = .ok (.iload_n 1, 1) := by decide +kernel
theorem dX8_init_84 : decode cX8_init 84 = .ok (.new 7, 3) := by decide +kernel
theorem dX8_init_87 : decode cX8_init 87 = .ok (.dup, 1) := by decide +kernel
theorem dX8_init_88 : decode cX8_init 88 = .ok (.invokespecial 9, 3) := by decide +kernel
theorem dX8_init_91 : decode cX8_init 91 = .ok (.aastore, 1) := by decide +kernel
theorem dX8_init_92 : decode cX8_init 92 = .ok (.iinc 1 1, 3) := by decide +kernel
theorem dX8_init_95 : decode cX8_init 95 = .ok (.goto (-25), 3) := by decide +kernel
theorem dX8_init_98 : decode cX8_init 98 = .ok (.return_, 1) := by decide +kernel
theorem dX8_say_0 : decode cX8_say 0 = .ok (.aload_n 0, 1) := by decide +kernel
theorem dX8_say_1 : decode cX8_say 1 = .ok (.iload_n 1, 1) := by decide +kernel
theorem dX8_say_2 : decode cX8_say 2 = .ok (.invokevirtual 44, 3) := by decide +kernel
theorem dX8_say_5 : decode cX8_say 5 = .ok (.astore_n 3, 1) := by decide +kernel
theorem dX8_say_6 : decode cX8_say 6 = .ok (.iload_n 2, 1) := by decide +kernel
theorem dX8_say_7 : decode cX8_say 7 = .ok (.invokestatic 48, 3) := by decide +kernel
theorem dX8_say_10 : decode cX8_say 10 = .ok (.aload_n 3, 1) := by decide +kernel
theorem dX8_say_11 : decode cX8_say 11 = .ok (.aload_n 0, 1) := by decide +kernel
theorem dX8_say_12 : decode cX8_say 12 = .ok (.getfield 10, 3) := by decide +kernel
theorem dX8_say_15 : decode cX8_say 15 = .ok (.getfield 52, 3) := by decide +kernel
theorem dX8_say_18 : decode cX8_say 18 = .ok (.invokevirtual 56, 3) := by decide +kernel
theorem dX8_say_21 : decode cX8_say 21 = .ok (.ifCond .ne 13, 3) := by decide +kernel
theorem dX8_say_24 : decode cX8_say 24 = .ok (.new 62, 3) := by decide +kernel
theorem dX8_say_27 : decode cX8_say 27 = .ok (.dup, 1) := by decide +kernel
theorem dX8_say_28 : decode cX8_say 28 = .ok (.ldc 64, 2) := by decide +kernel
theorem dX8_say_30 : decode cX8_say 30 = .ok (.invokespecial 66, 3) := by decide +kernel
theorem dX8_say_33 : decode cX8_say 33 = .ok (.athrow, 1) := by decide +kernel
theorem dX8_say_34 : decode cX8_say 34 = .ok (.aload_n 0, 1) := by decide +kernel
theorem dX8_say_35 : decode cX8_say 35 = .ok (.invokevirtual 69, 3) := by decide +kernel
theorem dX8_say_38 : decode cX8_say 38 = .ok (.aload_n 3, 1) := by decide +kernel
theorem dX8_say_39 : decode cX8_say 39 = .ok (.iload_n 2, 1) := by decide +kernel
theorem dX8_say_40 : decode cX8_say 40 = .ok (.aload_n 0, 1) := by decide +kernel
theorem dX8_say_41 : decode cX8_say 41 = .ok (.getfield 10, 3) := by decide +kernel
theorem dX8_say_44 : decode cX8_say 44 = .ok (.getfield 52, 3) := by decide +kernel
theorem dX8_say_47 : decode cX8_say 47 = .ok (.invokevirtual 72, 3) := by decide +kernel
theorem dX8_say_50 : decode cX8_say 50 = .ok (.ireturn, 1) := by decide +kernel
theorem dX8_flush_0 : decode cX8_flush 0 = .ok (.aload_n 0, 1) := by decide +kernel
theorem dX8_flush_1 : decode cX8_flush 1 = .ok (.iload_n 1, 1) := by decide +kernel
theorem dX8_flush_2 : decode cX8_flush 2 = .ok (.invokevirtual 44, 3) := by decide +kernel
theorem dX8_flush_5 : decode cX8_flush 5 = .ok (.astore_n 2, 1) := by decide +kernel
theorem dX8_flush_6 : decode cX8_flush 6 = .ok (.aload_n 2, 1) := by decide +kernel
theorem dX8_flush_7 : decode cX8_flush 7 = .ok (.getfield 76, 3) := by decide +kernel
theorem dX8_flush_10 : decode cX8_flush 10 = .ok (.getfield 80, 3) := by decide +kernel
theorem dX8_flush_13 : decode cX8_flush 13 = .ok (.getfield 86, 3) := by decide +kernel
theorem dX8_flush_16 : decode cX8_flush 16 = .ok (.istore_n 3, 1) := by decide +kernel
theorem dX8_flush_17 : decode cX8_flush 17 = .ok (.iload_n 3, 1) := by decide +kernel
theorem dX8_flush_18 : decode cX8_flush 18 = .ok (.ifCond .ne 13, 3) := by decide +kernel
theorem dX8_flush_21 : decode cX8_flush 21 = .ok (.new 62, 3) := by decide +kernel
theorem dX8_flush_24 : decode cX8_flush 24 = .ok (.dup, 1) := by decide +kernel
theorem dX8_flush_25 : decode cX8_flush 25 = .ok (.ldc 92, 2) := by decide +kernel
theorem dX8_flush_27 : decode cX8_flush 27 = .ok (.invokespecial 66, 3) := by decide +kernel
theorem dX8_flush_30 : decode cX8_flush 30 = .ok (.athrow, 1) := by decide +kernel
theorem dX8_flush_31 : decode cX8_flush 31 = .ok (.aload_n 2, 1) := by decide +kernel
theorem dX8_flush_32 : decode cX8_flush 32 = .ok (.invokevirtual 94, 3) := by decide +kernel
theorem dX8_flush_35 : decode cX8_flush 35 = .ok (.ifCond .ne 13, 3) := by decide +kernel
theorem dX8_flush_38 : decode cX8_flush 38 = .ok (.new 62, 3) := by decide +kernel
theorem dX8_flush_41 : decode cX8_flush 41 = .ok (.dup, 1) := by decide +kernel
theorem dX8_flush_42 : decode cX8_flush 42 = .ok (.ldc 64, 2) := by decide +kernel
theorem dX8_flush_44 : decode cX8_flush 44 = .ok (.invokespecial 66, 3) := by decide +kernel
theorem dX8_flush_47 : decode cX8_flush 47 = .ok (.athrow, 1) := by decide +kernel
theorem dX8_flush_48 : decode cX8_flush 48 = .ok (.aload_n 0, 1) := by decide +kernel
theorem dX8_flush_49 : decode cX8_flush 49 = .ok (.invokevirtual 69, 3) := by decide +kernel
theorem dX8_flush_52 : decode cX8_flush 52 = .ok (.aload_n 2, 1) := by decide +kernel
theorem dX8_flush_53 : decode cX8_flush 53 = .ok (.aload_n 0, 1) := by decide +kernel
theorem dX8_flush_54 : decode cX8_flush 54 = .ok (.getfield 10, 3) := by decide +kernel
theorem dX8_flush_57 : decode cX8_flush 57 = .ok (.getfield 52, 3) := by decide +kernel
theorem dX8_flush_60 : decode cX8_flush 60 = .ok (.invokevirtual 98, 3) := by decide +kernel
theorem dX8_flush_63 : decode cX8_flush 63 = .ok (.iload_n 3, 1) := by decide +kernel
theorem dX8_flush_64 : decode cX8_flush 64 = .ok (.ireturn, 1) := by decide +kernel
theorem dX8_deliver_0 : decode cX8_deliver 0 = .ok (.aload_n 0, 1) := by decide +kernel
theorem dX8_deliver_1 : decode cX8_deliver 1 = .ok (.iload_n 1, 1) := by decide +kernel
theorem dX8_deliver_2 : decode cX8_deliver 2 = .ok (.invokevirtual 44, 3) := by decide +kernel
theorem dX8_deliver_5 : decode cX8_deliver 5 = .ok (.astore_n 2, 1) := by decide +kernel
theorem dX8_deliver_6 : decode cX8_deliver 6 = .ok (.aload_n 2, 1) := by decide +kernel
theorem dX8_deliver_7 : decode cX8_deliver 7 = .ok (.iconst 1, 1) := by decide +kernel
theorem dX8_deliver_8 : decode cX8_deliver 8 = .ok (.invokestatic 102, 3) := by decide +kernel
theorem dX8_deliver_11 : decode cX8_deliver 11 = .ok (.aload_n 0, 1) := by decide +kernel
theorem dX8_deliver_12 : decode cX8_deliver 12 = .ok (.invokevirtual 69, 3) := by decide +kernel
theorem dX8_deliver_15 : decode cX8_deliver 15 = .ok (.aload_n 2, 1) := by decide +kernel
theorem dX8_deliver_16 : decode cX8_deliver 16 = .ok (.invokevirtual 106, 3) := by decide +kernel
theorem dX8_deliver_19 : decode cX8_deliver 19 = .ok (.ireturn, 1) := by decide +kernel
theorem dX8_lose_0 : decode cX8_lose 0 = .ok (.aload_n 0, 1) := by decide +kernel
theorem dX8_lose_1 : decode cX8_lose 1 = .ok (.iload_n 1, 1) := by decide +kernel
theorem dX8_lose_2 : decode cX8_lose 2 = .ok (.invokevirtual 44, 3) := by decide +kernel
theorem dX8_lose_5 : decode cX8_lose 5 = .ok (.astore_n 2, 1) := by decide +kernel
theorem dX8_lose_6 : decode cX8_lose 6 = .ok (.aload_n 2, 1) := by decide +kernel
theorem dX8_lose_7 : decode cX8_lose 7 = .ok (.iconst 1, 1) := by decide +kernel
theorem dX8_lose_8 : decode cX8_lose 8 = .ok (.invokestatic 102, 3) := by decide +kernel
theorem dX8_lose_11 : decode cX8_lose 11 = .ok (.aload_n 0, 1) := by decide +kernel
theorem dX8_lose_12 : decode cX8_lose 12 = .ok (.invokevirtual 69, 3) := by decide +kernel
theorem dX8_lose_15 : decode cX8_lose 15 = .ok (.aload_n 2, 1) := by decide +kernel
theorem dX8_lose_16 : decode cX8_lose 16 = .ok (.invokevirtual 110, 3) := by decide +kernel
theorem dX8_lose_19 : decode cX8_lose 19 = .ok (.ireturn, 1) := by decide +kernel
theorem dX8_swap_0 : decode cX8_swap 0 = .ok (.aload_n 0, 1) := by decide +kernel
theorem dX8_swap_1 : decode cX8_swap 1 = .ok (.iload_n 1, 1) := by decide +kernel
theorem dX8_swap_2 : decode cX8_swap 2 = .ok (.invokevirtual 44, 3) := by decide +kernel
theorem dX8_swap_5 : decode cX8_swap 5 = .ok (.astore_n 2, 1) := by decide +kernel
theorem dX8_swap_6 : decode cX8_swap 6 = .ok (.aload_n 2, 1) := by decide +kernel
theorem dX8_swap_7 : decode cX8_swap 7 = .ok (.iconst 2, 1) := by decide +kernel
theorem dX8_swap_8 : decode cX8_swap 8 = .ok (.invokestatic 102, 3) := by decide +kernel
theorem dX8_swap_11 : decode cX8_swap 11 = .ok (.aload_n 0, 1) := by decide +kernel
theorem dX8_swap_12 : decode cX8_swap 12 = .ok (.invokevirtual 69, 3) := by decide +kernel
theorem dX8_swap_15 : decode cX8_swap 15 = .ok (.aload_n 2, 1) := by decide +kernel
theorem dX8_swap_16 : decode cX8_swap 16 = .ok (.invokevirtual 113, 3) := by decide +kernel
theorem dX8_swap_19 : decode cX8_swap 19 = .ok (.ireturn, 1) := by decide +kernel
theorem dX8_set_0 : decode cX8_set 0 = .ok (.iload_n 1, 1) := by decide +kernel
theorem dX8_set_1 : decode cX8_set 1 = .ok (.invokestatic 116, 3) := by decide +kernel
theorem dX8_set_4 : decode cX8_set 4 = .ok (.iload_n 1, 1) := by decide +kernel
theorem dX8_set_5 : decode cX8_set 5 = .ok (.iload_n 2, 1) := by decide +kernel
theorem dX8_set_6 : decode cX8_set 6 = .ok (.invokestatic 119, 3) := by decide +kernel
theorem dX8_set_9 : decode cX8_set 9 = .ok (.ifCond .ne 13, 3) := by decide +kernel
theorem dX8_set_12 : decode cX8_set 12 = .ok (.new 125, 3) := by decide +kernel
theorem dX8_set_15 : decode cX8_set 15 = .ok (.dup, 1) := by decide +kernel
theorem dX8_set_16 : decode cX8_set 16 = .ok (.ldc 127, 2) := by decide +kernel
theorem dX8_set_18 : decode cX8_set 18 = .ok (.invokespecial 129, 3) := by decide +kernel
theorem dX8_set_21 : decode cX8_set 21 = .ok (.athrow, 1) := by decide +kernel
theorem dX8_set_22 : decode cX8_set 22 = .ok (.aload_n 0, 1) := by decide +kernel
theorem dX8_set_23 : decode cX8_set 23 = .ok (.invokevirtual 69, 3) := by decide +kernel
theorem dX8_set_26 : decode cX8_set 26 = .ok (.aload_n 0, 1) := by decide +kernel
theorem dX8_set_27 : decode cX8_set 27 = .ok (.getfield 10, 3) := by decide +kernel
theorem dX8_set_30 : decode cX8_set 30 = .ok (.getfield 52, 3) := by decide +kernel
theorem dX8_set_33 : decode cX8_set 33 = .ok (.iload_n 1, 1) := by decide +kernel
theorem dX8_set_34 : decode cX8_set 34 = .ok (.invokevirtual 130, 3) := by decide +kernel
theorem dX8_set_37 : decode cX8_set 37 = .ok (.istore_n 3, 1) := by decide +kernel
theorem dX8_set_38 : decode cX8_set 38 = .ok (.aload_n 0, 1) := by decide +kernel
theorem dX8_set_39 : decode cX8_set 39 = .ok (.getfield 10, 3) := by decide +kernel
theorem dX8_set_42 : decode cX8_set 42 = .ok (.getfield 52, 3) := by decide +kernel
theorem dX8_set_45 : decode cX8_set 45 = .ok (.iload_n 1, 1) := by decide +kernel
theorem dX8_set_46 : decode cX8_set 46 = .ok (.iload_n 2, 1) := by decide +kernel
theorem dX8_set_47 : decode cX8_set 47 = .ok (.invokevirtual 134, 3) := by decide +kernel
theorem dX8_set_50 : decode cX8_set 50 = .ok (.iload_n 3, 1) := by decide +kernel
theorem dX8_set_51 : decode cX8_set 51 = .ok (.ireturn, 1) := by decide +kernel
theorem dX8_saying_0 : decode cX8_saying 0 = .ok (.aload_n 0, 1) := by decide +kernel
theorem dX8_saying_1 : decode cX8_saying 1 = .ok (.iload_n 1, 1) := by decide +kernel
theorem dX8_saying_2 : decode cX8_saying 2 = .ok (.invokevirtual 44, 3) := by decide +kernel
theorem dX8_saying_5 : decode cX8_saying 5 = .ok (.astore_n 3, 1) := by decide +kernel
theorem dX8_saying_6 : decode cX8_saying 6 = .ok (.iload_n 2, 1) := by decide +kernel
theorem dX8_saying_7 : decode cX8_saying 7 = .ok (.bipush 9, 2) := by decide +kernel
theorem dX8_saying_9 : decode cX8_saying 9 = .ok (.invokestatic 205, 3) := by decide +kernel
theorem dX8_saying_12 : decode cX8_saying 12 = .ok (.aload_n 0, 1) := by decide +kernel
theorem dX8_saying_13 : decode cX8_saying 13 = .ok (.aload_n 3, 1) := by decide +kernel
theorem dX8_saying_14 : decode cX8_saying 14 = .ok (.iload_n 2, 1) := by decide +kernel
theorem dX8_saying_15 : decode cX8_saying 15 = .ok (.invokevirtual 208, 3) := by decide +kernel
theorem dX8_saying_18 : decode cX8_saying 18 = .ok (.ireturn, 1) := by decide +kernel
theorem dX8_hearing_0 : decode cX8_hearing 0 = .ok (.aload_n 0, 1) := by decide +kernel
theorem dX8_hearing_1 : decode cX8_hearing 1 = .ok (.iload_n 1, 1) := by decide +kernel
theorem dX8_hearing_2 : decode cX8_hearing 2 = .ok (.invokevirtual 44, 3) := by decide +kernel
theorem dX8_hearing_5 : decode cX8_hearing 5 = .ok (.astore_n 3, 1) := by decide +kernel
theorem dX8_hearing_6 : decode cX8_hearing 6 = .ok (.iload_n 2, 1) := by decide +kernel
theorem dX8_hearing_7 : decode cX8_hearing 7 = .ok (.bipush 11, 2) := by decide +kernel
theorem dX8_hearing_9 : decode cX8_hearing 9 = .ok (.invokestatic 205, 3) := by decide +kernel
theorem dX8_hearing_12 : decode cX8_hearing 12 = .ok (.aload_n 0, 1) := by decide +kernel
theorem dX8_hearing_13 : decode cX8_hearing 13 = .ok (.aload_n 3, 1) := by decide +kernel
theorem dX8_hearing_14 : decode cX8_hearing 14 = .ok (.iload_n 2, 1) := by decide +kernel
theorem dX8_hearing_15 : decode cX8_hearing 15 = .ok (.invokevirtual 212, 3) := by decide +kernel
theorem dX8_hearing_18 : decode cX8_hearing 18 = .ok (.ireturn, 1) := by decide +kernel
theorem dX8_packet_0 : decode cX8_packet 0 = .ok (.aload_n 0, 1) := by decide +kernel
theorem dX8_packet_1 : decode cX8_packet 1 = .ok (.iload_n 1, 1) := by decide +kernel
theorem dX8_packet_2 : decode cX8_packet 2 = .ok (.invokevirtual 44, 3) := by decide +kernel
theorem dX8_packet_5 : decode cX8_packet 5 = .ok (.astore 4, 2) := by decide +kernel
theorem dX8_packet_7 : decode cX8_packet 7 = .ok (.aload 4, 2) := by decide +kernel
theorem dX8_packet_9 : decode cX8_packet 9 = .ok (.iload_n 2, 1) := by decide +kernel
theorem dX8_packet_10 : decode cX8_packet 10 = .ok (.invokevirtual 215, 3) := by decide +kernel
theorem dX8_packet_13 : decode cX8_packet 13 = .ok (.astore 5, 2) := by decide +kernel
theorem dX8_packet_15 : decode cX8_packet 15 = .ok (.aload 5, 2) := by decide +kernel
theorem dX8_packet_17 : decode cX8_packet 17 = .ok (.ifnonnull 13, 3) := by decide +kernel
theorem dX8_packet_20 : decode cX8_packet 20 = .ok (.new 219, 3) := by decide +kernel
theorem dX8_packet_23 : decode cX8_packet 23 = .ok (.dup, 1) := by decide +kernel
theorem dX8_packet_24 : decode cX8_packet 24 = .ok (.ldc 221, 2) := by decide +kernel
theorem dX8_packet_26 : decode cX8_packet 26 = .ok (.invokespecial 223, 3) := by decide +kernel
theorem dX8_packet_29 : decode cX8_packet 29 = .ok (.athrow, 1) := by decide +kernel
theorem dX8_packet_30 : decode cX8_packet 30 = .ok (.iload_n 3, 1) := by decide +kernel
theorem dX8_packet_31 : decode cX8_packet 31 = .ok (.iconst 5, 1) := by decide +kernel
theorem dX8_packet_32 : decode cX8_packet 32 = .ok (.invokestatic 205, 3) := by decide +kernel
theorem dX8_packet_35 : decode cX8_packet 35 = .ok (.aload 5, 2) := by decide +kernel
theorem dX8_packet_37 : decode cX8_packet 37 = .ok (.iload_n 3, 1) := by decide +kernel
theorem dX8_packet_38 : decode cX8_packet 38 = .ok (.invokevirtual 224, 3) := by decide +kernel
theorem dX8_packet_41 : decode cX8_packet 41 = .ok (.ireturn, 1) := by decide +kernel
theorem dX8_why_0 : decode cX8_why 0 = .ok (.aload_n 0, 1) := by decide +kernel
theorem dX8_why_1 : decode cX8_why 1 = .ok (.aload_n 0, 1) := by decide +kernel
theorem dX8_why_2 : decode cX8_why 2 = .ok (.iload_n 1, 1) := by decide +kernel
theorem dX8_why_3 : decode cX8_why 3 = .ok (.invokevirtual 44, 3) := by decide +kernel
theorem dX8_why_6 : decode cX8_why 6 = .ok (.invokevirtual 227, 3) := by decide +kernel
theorem dX8_why_9 : decode cX8_why 9 = .ok (.ireturn, 1) := by decide +kernel
theorem dX8_count_0 : decode cX8_count 0 = .ok (.iload_n 1, 1) := by decide +kernel
theorem dX8_count_1 : decode cX8_count 1 = .ok (.bipush 7, 2) := by decide +kernel
theorem dX8_count_3 : decode cX8_count 3 = .ok (.invokestatic 205, 3) := by decide +kernel
theorem dX8_count_6 : decode cX8_count 6 = .ok (.aload_n 0, 1) := by decide +kernel
theorem dX8_count_7 : decode cX8_count 7 = .ok (.iload_n 1, 1) := by decide +kernel
theorem dX8_count_8 : decode cX8_count 8 = .ok (.invokevirtual 231, 3) := by decide +kernel
theorem dX8_count_11 : decode cX8_count 11 = .ok (.ireturn, 1) := by decide +kernel
theorem dX8_setting_0 : decode cX8_setting 0 = .ok (.iload_n 1, 1) := by decide +kernel
theorem dX8_setting_1 : decode cX8_setting 1 = .ok (.invokestatic 116, 3) := by decide +kernel
theorem dX8_setting_4 : decode cX8_setting 4 = .ok (.aload_n 0, 1) := by decide +kernel
theorem dX8_setting_5 : decode cX8_setting 5 = .ok (.getfield 10, 3) := by decide +kernel
theorem dX8_setting_8 : decode cX8_setting 8 = .ok (.getfield 52, 3) := by decide +kernel
theorem dX8_setting_11 : decode cX8_setting 11 = .ok (.iload_n 1, 1) := by decide +kernel
theorem dX8_setting_12 : decode cX8_setting 12 = .ok (.invokevirtual 130, 3) := by decide +kernel
theorem dX8_setting_15 : decode cX8_setting 15 = .ok (.ireturn, 1) := by decide +kernel
theorem dX8_code_0 : decode cX8_code 0 = .ok (.aload_n 0, 1) := by decide +kernel
theorem dX8_code_1 : decode cX8_code 1 = .ok (.iload_n 1, 1) := by decide +kernel
theorem dX8_code_2 : decode cX8_code 2 = .ok (.invokevirtual 44, 3) := by decide +kernel
theorem dX8_code_5 : decode cX8_code 5 = .ok (.astore 4, 2) := by decide +kernel
theorem dX8_code_7 : decode cX8_code 7 = .ok (.iload_n 2, 1) := by decide +kernel
theorem dX8_code_8 : decode cX8_code 8 = .ok (.invokestatic 48, 3) := by decide +kernel
theorem dX8_code_11 : decode cX8_code 11 = .ok (.iload_n 3, 1) := by decide +kernel
theorem dX8_code_12 : decode cX8_code 12 = .ok (.iconst 4, 1) := by decide +kernel
theorem dX8_code_13 : decode cX8_code 13 = .ok (.invokestatic 205, 3) := by decide +kernel
theorem dX8_code_16 : decode cX8_code 16 = .ok (.aload_n 0, 1) := by decide +kernel
theorem dX8_code_17 : decode cX8_code 17 = .ok (.aload 4, 2) := by decide +kernel
theorem dX8_code_19 : decode cX8_code 19 = .ok (.iload_n 2, 1) := by decide +kernel
theorem dX8_code_20 : decode cX8_code 20 = .ok (.iload_n 3, 1) := by decide +kernel
theorem dX8_code_21 : decode cX8_code 21 = .ok (.invokevirtual 234, 3) := by decide +kernel
theorem dX8_code_24 : decode cX8_code 24 = .ok (.ireturn, 1) := by decide +kernel
theorem dX8_settles_0 : decode cX8_settles 0 = .ok (.aload_n 0, 1) := by decide +kernel
theorem dX8_settles_1 : decode cX8_settles 1 = .ok (.iload_n 1, 1) := by decide +kernel
theorem dX8_settles_2 : decode cX8_settles 2 = .ok (.invokevirtual 44, 3) := by decide +kernel
theorem dX8_settles_5 : decode cX8_settles 5 = .ok (.astore 4, 2) := by decide +kernel
theorem dX8_settles_7 : decode cX8_settles 7 = .ok (.iload_n 2, 1) := by decide +kernel
theorem dX8_settles_8 : decode cX8_settles 8 = .ok (.invokestatic 48, 3) := by decide +kernel
theorem dX8_settles_11 : decode cX8_settles 11 = .ok (.iload_n 3, 1) := by decide +kernel
theorem dX8_settles_12 : decode cX8_settles 12 = .ok (.iconst 1, 1) := by decide +kernel
theorem dX8_settles_13 : decode cX8_settles 13 = .ok (.if_icmp .lt 10, 3) := by decide +kernel
theorem dX8_settles_16 : decode cX8_settles 16 = .ok (.iload_n 3, 1) := by decide +kernel
theorem dX8_settles_17 : decode cX8_settles 17 = .ok (.sipush 2000, 3) := by decide +kernel
theorem dX8_settles_20 : decode cX8_settles 20 = .ok (.if_icmp .le 13, 3) := by decide +kernel
theorem dX8_settles_23 : decode cX8_settles 23 = .ok (.new 125, 3) := by decide +kernel
theorem dX8_settles_26 : decode cX8_settles 26 = .ok (.dup, 1) := by decide +kernel
theorem dX8_settles_27 : decode cX8_settles 27 = .ok (.ldc 238, 2) := by decide +kernel
theorem dX8_settles_29 : decode cX8_settles 29 = .ok (.invokespecial 129, 3) := by decide +kernel
theorem dX8_settles_32 : decode cX8_settles 32 = .ok (.athrow, 1) := by decide +kernel
theorem dX8_settles_33 : decode cX8_settles 33 = .ok (.aload_n 0, 1) := by decide +kernel
theorem dX8_settles_34 : decode cX8_settles 34 = .ok (.aload 4, 2) := by decide +kernel
theorem dX8_settles_36 : decode cX8_settles 36 = .ok (.iload_n 2, 1) := by decide +kernel
theorem dX8_settles_37 : decode cX8_settles 37 = .ok (.iload_n 3, 1) := by decide +kernel
theorem dX8_settles_38 : decode cX8_settles 38 = .ok (.invokevirtual 240, 3) := by decide +kernel
theorem dX8_settles_41 : decode cX8_settles 41 = .ok (.ireturn, 1) := by decide +kernel
theorem dX8_ifDelivered_0 : decode cX8_ifDelivered 0 = .ok (.aload_n 0, 1) := by decide +kernel
theorem dX8_ifDelivered_1 : decode cX8_ifDelivered 1 = .ok (.iload_n 1, 1) := by decide +kernel
theorem dX8_ifDelivered_2 : decode cX8_ifDelivered 2 = .ok (.invokevirtual 44, 3) := by decide +kernel
theorem dX8_ifDelivered_5 : decode cX8_ifDelivered 5 = .ok (.astore_n 3, 1) := by decide +kernel
theorem dX8_ifDelivered_6 : decode cX8_ifDelivered 6 = .ok (.iload_n 2, 1) := by decide +kernel
theorem dX8_ifDelivered_7 : decode cX8_ifDelivered 7 = .ok (.iconst 3, 1) := by decide +kernel
theorem dX8_ifDelivered_8 : decode cX8_ifDelivered 8 = .ok (.invokestatic 205, 3) := by decide +kernel
theorem dX8_ifDelivered_11 : decode cX8_ifDelivered 11 = .ok (.aload_n 0, 1) := by decide +kernel
theorem dX8_ifDelivered_12 : decode cX8_ifDelivered 12 = .ok (.aload_n 3, 1) := by decide +kernel
theorem dX8_ifDelivered_13 : decode cX8_ifDelivered 13 = .ok (.iload_n 2, 1) := by decide +kernel
theorem dX8_ifDelivered_14 : decode cX8_ifDelivered 14 = .ok (.invokevirtual 243, 3) := by decide +kernel
theorem dX8_ifDelivered_17 : decode cX8_ifDelivered 17 = .ok (.ireturn, 1) := by decide +kernel
theorem dX8_meanError_0 : decode cX8_meanError 0 = .ok (.aload_n 0, 1) := by decide +kernel
theorem dX8_meanError_1 : decode cX8_meanError 1 = .ok (.iload_n 1, 1) := by decide +kernel
theorem dX8_meanError_2 : decode cX8_meanError 2 = .ok (.invokevirtual 44, 3) := by decide +kernel
theorem dX8_meanError_5 : decode cX8_meanError 5 = .ok (.getfield 246, 3) := by decide +kernel
theorem dX8_meanError_8 : decode cX8_meanError 8 = .ok (.invokevirtual 249, 3) := by decide +kernel
theorem dX8_meanError_11 : decode cX8_meanError 11 = .ok (.dreturn, 1) := by decide +kernel
theorem dX8_lostShare_0 : decode cX8_lostShare 0 = .ok (.aload_n 0, 1) := by decide +kernel
theorem dX8_lostShare_1 : decode cX8_lostShare 1 = .ok (.invokevirtual 253, 3) := by decide +kernel
theorem dX8_lostShare_4 : decode cX8_lostShare 4 = .ok (.freturn, 1) := by decide +kernel
theorem dX8_voiceOf_0 : decode cX8_voiceOf 0 = .ok (.iload_n 1, 1) := by decide +kernel
theorem dX8_voiceOf_1 : decode cX8_voiceOf 1 = .ok (.ifCond .lt 15, 3) := by decide +kernel
theorem dX8_voiceOf_4 : decode cX8_voiceOf 4 = .ok (.iload_n 1, 1) := by decide +kernel
theorem dX8_voiceOf_5 : decode cX8_voiceOf 5 = .ok (.aload_n 0, 1) := by decide +kernel
theorem dX8_voiceOf_6 : decode cX8_voiceOf 6 = .ok (.getfield 10, 3) := by decide +kernel
theorem dX8_voiceOf_9 : decode cX8_voiceOf 9 = .ok (.getfield 263, 3) := by decide +kernel
theorem dX8_voiceOf_12 : decode cX8_voiceOf 12 = .ok (.arraylength, 1) := by decide +kernel
theorem dX8_voiceOf_13 : decode cX8_voiceOf 13 = .ok (.if_icmp .lt 14, 3) := by decide +kernel
theorem dX8_voiceOf_16 : decode cX8_voiceOf 16 = .ok (.new 219, 3) := by decide +kernel
theorem dX8_voiceOf_19 : decode cX8_voiceOf 19 = .ok (.dup, 1) := by decide +kernel
theorem dX8_voiceOf_20 : decode cX8_voiceOf 20 = .ok (.ldc_w 279, 3) := by decide +kernel
theorem dX8_voiceOf_23 : decode cX8_voiceOf 23 = .ok (.invokespecial 223, 3) := by decide +kernel
theorem dX8_voiceOf_26 : decode cX8_voiceOf 26 = .ok (.athrow, 1) := by decide +kernel
theorem dX8_voiceOf_27 : decode cX8_voiceOf 27 = .ok (.aload_n 0, 1) := by decide +kernel
theorem dX8_voiceOf_28 : decode cX8_voiceOf 28 = .ok (.getfield 10, 3) := by decide +kernel
theorem dX8_voiceOf_31 : decode cX8_voiceOf 31 = .ok (.getfield 263, 3) := by decide +kernel
theorem dX8_voiceOf_34 : decode cX8_voiceOf 34 = .ok (.iload_n 1, 1) := by decide +kernel
theorem dX8_voiceOf_35 : decode cX8_voiceOf 35 = .ok (.aaload, 1) := by decide +kernel
theorem dX8_voiceOf_36 : decode cX8_voiceOf 36 = .ok (.areturn, 1) := by decide +kernel
theorem dX8_requireSetting_0 : decode cX8_requireSetting 0 = .ok (.iload_n 0, 1) := by decide +kernel
theorem dX8_requireSetting_1 : decode cX8_requireSetting 1 = .ok (.ifCond .lt 8, 3) := by decide +kernel
theorem dX8_requireSetting_4 : decode cX8_requireSetting 4 = .ok (.iload_n 0, 1) := by decide +kernel
theorem dX8_requireSetting_5 : decode cX8_requireSetting 5 = .ok (.iconst 3, 1) := by decide +kernel
theorem dX8_requireSetting_6 : decode cX8_requireSetting 6 = .ok (.if_icmp .le 14, 3) := by decide +kernel
theorem dX8_requireSetting_9 : decode cX8_requireSetting 9 = .ok (.new 219, 3) := by decide +kernel
theorem dX8_requireSetting_12 : decode cX8_requireSetting 12 = .ok (.dup, 1) := by decide +kernel
theorem dX8_requireSetting_13 : decode cX8_requireSetting 13 = .ok (.ldc_w 281, 3) := by decide +kernel
theorem dX8_requireSetting_16 : decode cX8_requireSetting 16 = .ok (.invokespecial 223, 3) := by decide +kernel
theorem dX8_requireSetting_19 : decode cX8_requireSetting 19 = .ok (.athrow, 1) := by decide +kernel
theorem dX8_requireSetting_20 : decode cX8_requireSetting 20 = .ok (.return_, 1) := by decide +kernel
theorem dX8_requireSample_0 : decode cX8_requireSample 0 = .ok (.iload_n 0, 1) := by decide +kernel
theorem dX8_requireSample_1 : decode cX8_requireSample 1 = .ok (.sipush (-2000), 3) := by decide +kernel
theorem dX8_requireSample_4 : decode cX8_requireSample 4 = .ok (.if_icmp .lt 10, 3) := by decide +kernel
theorem dX8_requireSample_7 : decode cX8_requireSample 7 = .ok (.iload_n 0, 1) := by decide +kernel
theorem dX8_requireSample_8 : decode cX8_requireSample 8 = .ok (.sipush 2000, 3) := by decide +kernel
theorem dX8_requireSample_11 : decode cX8_requireSample 11 = .ok (.if_icmp .le 14, 3) := by decide +kernel
theorem dX8_requireSample_14 : decode cX8_requireSample 14 = .ok (.new 125, 3) := by decide +kernel
theorem dX8_requireSample_17 : decode cX8_requireSample 17 = .ok (.dup, 1) := by decide +kernel
theorem dX8_requireSample_18 : decode cX8_requireSample 18 = .ok (.ldc_w 283, 3) := by decide +kernel
theorem dX8_requireSample_21 : decode cX8_requireSample 21 = .ok (.invokespecial 129, 3) := by decide +kernel
theorem dX8_requireSample_24 : decode cX8_requireSample 24 = .ok (.athrow, 1) := by decide +kernel
theorem dX8_requireSample_25 : decode cX8_requireSample 25 = .ok (.return_, 1) := by decide +kernel
theorem dX8_requireWhat_0 : decode cX8_requireWhat 0 = .ok (.iload_n 0, 1) := by decide +kernel
theorem dX8_requireWhat_1 : decode cX8_requireWhat 1 = .ok (.ifCond .lt 8, 3) := by decide +kernel
theorem dX8_requireWhat_4 : decode cX8_requireWhat 4 = .ok (.iload_n 0, 1) := by decide +kernel
theorem dX8_requireWhat_5 : decode cX8_requireWhat 5 = .ok (.iload_n 1, 1) := by decide +kernel
theorem dX8_requireWhat_6 : decode cX8_requireWhat 6 = .ok (.if_icmp .le 14, 3) := by decide +kernel
theorem dX8_requireWhat_9 : decode cX8_requireWhat 9 = .ok (.new 125, 3) := by decide +kernel
theorem dX8_requireWhat_12 : decode cX8_requireWhat 12 = .ok (.dup, 1) := by decide +kernel
theorem dX8_requireWhat_13 : decode cX8_requireWhat 13 = .ok (.ldc_w 285, 3) := by decide +kernel
theorem dX8_requireWhat_16 : decode cX8_requireWhat 16 = .ok (.invokespecial 129, 3) := by decide +kernel
theorem dX8_requireWhat_19 : decode cX8_requireWhat 19 = .ok (.athrow, 1) := by decide +kernel
theorem dX8_requireWhat_20 : decode cX8_requireWhat 20 = .ok (.return_, 1) := by decide +kernel
theorem dX8_requireWaiting_0 : decode cX8_requireWaiting 0 = .ok (.aload_n 0, 1) := by decide +kernel
theorem dX8_requireWaiting_1 : decode cX8_requireWaiting 1 = .ok (.getfield 287, 3) := by decide +kernel
theorem dX8_requireWaiting_4 : decode cX8_requireWaiting 4 = .ok (.iload_n 1, 1) := by decide +kernel
theorem dX8_requireWaiting_5 : decode cX8_requireWaiting 5 = .ok (.if_icmp .ge 14, 3) := by decide +kernel
theorem dX8_requireWaiting_8 : decode cX8_requireWaiting 8 = .ok (.new 62, 3) := by decide +kernel
theorem dX8_requireWaiting_11 : decode cX8_requireWaiting 11 = .ok (.dup, 1) := by decide +kernel
theorem dX8_requireWaiting_12 : decode cX8_requireWaiting 12 = .ok (.ldc_w 290, 3) := by decide +kernel
theorem dX8_requireWaiting_15 : decode cX8_requireWaiting 15 = .ok (.invokespecial 66, 3) := by decide +kernel
theorem dX8_requireWaiting_18 : decode cX8_requireWaiting 18 = .ok (.athrow, 1) := by decide +kernel
theorem dX8_requireWaiting_19 : decode cX8_requireWaiting 19 = .ok (.return_, 1) := by decide +kernel
theorem dX8_saveLive_0 : decode cX8_saveLive 0 = .ok (.aload_n 0, 1) := by decide +kernel
theorem dX8_saveLive_1 : decode cX8_saveLive 1 = .ok (.getfield 200, 3) := by decide +kernel
theorem dX8_saveLive_4 : decode cX8_saveLive 4 = .ok (.aload_n 0, 1) := by decide +kernel
theorem dX8_saveLive_5 : decode cX8_saveLive 5 = .ok (.getfield 19, 3) := by decide +kernel
theorem dX8_saveLive_8 : decode cX8_saveLive 8 = .ok (.arraylength, 1) := by decide +kernel
theorem dX8_saveLive_9 : decode cX8_saveLive 9 = .ok (.if_icmp .lt 7, 3) := by decide +kernel
theorem dX8_saveLive_12 : decode cX8_saveLive 12 = .ok (.aload_n 0, 1) := by decide +kernel
theorem dX8_saveLive_13 : decode cX8_saveLive 13 = .ok (.invokevirtual 292, 3) := by decide +kernel
theorem dX8_saveLive_16 : decode cX8_saveLive 16 = .ok (.aload_n 0, 1) := by decide +kernel
theorem dX8_saveLive_17 : decode cX8_saveLive 17 = .ok (.getfield 200, 3) := by decide +kernel
theorem dX8_saveLive_20 : decode cX8_saveLive 20 = .ok (.ifCond .lt 15, 3) := by decide +kernel
theorem dX8_saveLive_23 : decode cX8_saveLive 23 = .ok (.aload_n 0, 1) := by decide +kernel
theorem dX8_saveLive_24 : decode cX8_saveLive 24 = .ok (.getfield 200, 3) := by decide +kernel
theorem dX8_saveLive_27 : decode cX8_saveLive 27 = .ok (.aload_n 0, 1) := by decide +kernel
theorem dX8_saveLive_28 : decode cX8_saveLive 28 = .ok (.getfield 19, 3) := by decide +kernel
theorem dX8_saveLive_31 : decode cX8_saveLive 31 = .ok (.arraylength, 1) := by decide +kernel
theorem dX8_saveLive_32 : decode cX8_saveLive 32 = .ok (.if_icmp .lt 4, 3) := by decide +kernel
theorem dX8_saveLive_35 : decode cX8_saveLive 35 = .ok (.return_, 1) := by decide +kernel
theorem dX8_saveLive_36 : decode cX8_saveLive 36 = .ok (.aload_n 0, 1) := by decide +kernel
theorem dX8_saveLive_37 : decode cX8_saveLive 37 = .ok (.getfield 19, 3) := by decide +kernel
theorem dX8_saveLive_40 : decode cX8_saveLive 40 = .ok (.aload_n 0, 1) := by decide +kernel
theorem dX8_saveLive_41 : decode cX8_saveLive 41 = .ok (.getfield 200, 3) := by decide +kernel
theorem dX8_saveLive_44 : decode cX8_saveLive 44 = .ok (.aaload, 1) := by decide +kernel
theorem dX8_saveLive_45 : decode cX8_saveLive 45 = .ok (.aload_n 0, 1) := by decide +kernel
theorem dX8_saveLive_46 : decode cX8_saveLive 46 = .ok (.getfield 10, 3) := by decide +kernel
theorem dX8_saveLive_49 : decode cX8_saveLive 49 = .ok (.invokevirtual 187, 3) := by decide +kernel
theorem dX8_saveLive_52 : decode cX8_saveLive 52 = .ok (.aload_n 0, 1) := by decide +kernel
theorem dX8_saveLive_53 : decode cX8_saveLive 53 = .ok (.dup, 1) := by decide +kernel
theorem dX8_saveLive_54 : decode cX8_saveLive 54 = .ok (.getfield 200, 3) := by decide +kernel
theorem dX8_saveLive_57 : decode cX8_saveLive 57 = .ok (.iconst 1, 1) := by decide +kernel
theorem dX8_saveLive_58 : decode cX8_saveLive 58 = .ok (.iadd, 1) := by decide +kernel
theorem dX8_saveLive_59 : decode cX8_saveLive 59 = .ok (.putfield 200, 3) := by decide +kernel
theorem dX8_saveLive_62 : decode cX8_saveLive 62 = .ok (.return_, 1) := by decide +kernel
theorem dX8_dropOldestSaved_0 : decode cX8_dropOldestSaved 0 = .ok (.aload_n 0, 1) := by decide +kernel
theorem dX8_dropOldestSaved_1 : decode cX8_dropOldestSaved 1 = .ok (.getfield 19, 3) := by decide +kernel
theorem dX8_dropOldestSaved_4 : decode cX8_dropOldestSaved 4 = .ok (.iconst 0, 1) := by decide +kernel
theorem dX8_dropOldestSaved_5 : decode cX8_dropOldestSaved 5 = .ok (.aaload, 1) := by decide +kernel
theorem dX8_dropOldestSaved_6 : decode cX8_dropOldestSaved 6 = .ok (.astore_n 1, 1) := by decide +kernel
theorem dX8_dropOldestSaved_7 : decode cX8_dropOldestSaved 7 = .ok (.iconst 1, 1) := by decide +kernel
theorem dX8_dropOldestSaved_8 : decode cX8_dropOldestSaved 8 = .ok (.istore_n 2, 1) := by decide +kernel
theorem dX8_dropOldestSaved_9 : decode cX8_dropOldestSaved 9 = .ok (.iload_n 2, 1) := by decide +kernel
theorem dX8_dropOldestSaved_10 : decode cX8_dropOldestSaved 10 = .ok (.aload_n 0, 1) := by decide +kernel
theorem dX8_dropOldestSaved_11 : decode cX8_dropOldestSaved 11 = .ok (.getfield 19, 3) := by decide +kernel
theorem dX8_dropOldestSaved_14 : decode cX8_dropOldestSaved 14 = .ok (.arraylength, 1) := by decide +kernel
theorem dX8_dropOldestSaved_15 : decode cX8_dropOldestSaved 15 = .ok (.if_icmp .ge 23, 3) := by decide +kernel
theorem dX8_dropOldestSaved_18 : decode cX8_dropOldestSaved 18 = .ok (.aload_n 0, 1) := by decide +kernel
theorem dX8_dropOldestSaved_19 : decode cX8_dropOldestSaved 19 = .ok (.getfield 19, 3) := by decide +kernel
theorem dX8_dropOldestSaved_22 : decode cX8_dropOldestSaved 22 = .ok (.iload_n 2, 1) := by decide +kernel
theorem dX8_dropOldestSaved_23 : decode cX8_dropOldestSaved 23 = .ok (.iconst 1, 1) := by decide +kernel
theorem dX8_dropOldestSaved_24 : decode cX8_dropOldestSaved 24 = .ok (.isub, 1) := by decide +kernel
theorem dX8_dropOldestSaved_25 : decode cX8_dropOldestSaved 25 = .ok (.aload_n 0, 1) := by decide +kernel
theorem dX8_dropOldestSaved_26 : decode cX8_dropOldestSaved 26 = .ok (.getfield 19, 3) := by decide +kernel
theorem dX8_dropOldestSaved_29 : decode cX8_dropOldestSaved 29 = .ok (.iload_n 2, 1) := by decide +kernel
theorem dX8_dropOldestSaved_30 : decode cX8_dropOldestSaved 30 = .ok (.aaload, 1) := by decide +kernel
theorem dX8_dropOldestSaved_31 : decode cX8_dropOldestSaved 31 = .ok (.aastore, 1) := by decide +kernel
theorem dX8_dropOldestSaved_32 : decode cX8_dropOldestSaved 32 = .ok (.iinc 2 1, 3) := by decide +kernel
theorem dX8_dropOldestSaved_35 : decode cX8_dropOldestSaved 35 = .ok (.goto (-26), 3) := by decide +kernel
theorem dX8_dropOldestSaved_38 : decode cX8_dropOldestSaved 38 = .ok (.aload_n 0, 1) := by decide +kernel
theorem dX8_dropOldestSaved_39 : decode cX8_dropOldestSaved 39 = .ok (.getfield 19, 3) := by decide +kernel
theorem dX8_dropOldestSaved_42 : decode cX8_dropOldestSaved 42 = .ok (.aload_n 0, 1) := by decide +kernel
theorem dX8_dropOldestSaved_43 : decode cX8_dropOldestSaved 43 = .ok (.getfield 19, 3) := by decide +kernel
theorem dX8_dropOldestSaved_46 : decode cX8_dropOldestSaved 46 = .ok (.arraylength, 1) := by decide +kernel
theorem dX8_dropOldestSaved_47 : decode cX8_dropOldestSaved 47 = .ok (.iconst 1, 1) := by decide +kernel
theorem dX8_dropOldestSaved_48 : decode cX8_dropOldestSaved 48 = .ok (.isub, 1) := by decide +kernel
theorem dX8_dropOldestSaved_49 : decode cX8_dropOldestSaved 49 = .ok (.aload_n 1, 1) := by decide +kernel
theorem dX8_dropOldestSaved_50 : decode cX8_dropOldestSaved 50 = .ok (.aastore, 1) := by decide +kernel
theorem dX8_dropOldestSaved_51 : decode cX8_dropOldestSaved 51 = .ok (.aload_n 0, 1) := by decide +kernel
theorem dX8_dropOldestSaved_52 : decode cX8_dropOldestSaved 52 = .ok (.aload_n 0, 1) := by decide +kernel
theorem dX8_dropOldestSaved_53 : decode cX8_dropOldestSaved 53 = .ok (.getfield 19, 3) := by decide +kernel
theorem dX8_dropOldestSaved_56 : decode cX8_dropOldestSaved 56 = .ok (.arraylength, 1) := by decide +kernel
theorem dX8_dropOldestSaved_57 : decode cX8_dropOldestSaved 57 = .ok (.iconst 1, 1) := by decide +kernel
theorem dX8_dropOldestSaved_58 : decode cX8_dropOldestSaved 58 = .ok (.isub, 1) := by decide +kernel
theorem dX8_dropOldestSaved_59 : decode cX8_dropOldestSaved 59 = .ok (.putfield 200, 3) := by decide +kernel
theorem dX8_dropOldestSaved_62 : decode cX8_dropOldestSaved 62 = .ok (.return_, 1) := by decide +kernel
theorem dX8_tellSaying_0 : decode cX8_tellSaying 0 = .ok (.iload_n 2, 1) := by decide +kernel
theorem dX8_tellSaying_1 : decode cX8_tellSaying 1 = .ok (.tableswitch 139 0 8 #[51, 62, 73, 84, 92, 100, 111, 119, 127], 51) := by decide +kernel
theorem dX8_tellSaying_52 : decode cX8_tellSaying 52 = .ok (.aload_n 1, 1) := by decide +kernel
theorem dX8_tellSaying_53 : decode cX8_tellSaying 53 = .ok (.getfield 76, 3) := by decide +kernel
theorem dX8_tellSaying_56 : decode cX8_tellSaying 56 = .ok (.getfield 295, 3) := by decide +kernel
theorem dX8_tellSaying_59 : decode cX8_tellSaying 59 = .ok (.getfield 298, 3) := by decide +kernel
theorem dX8_tellSaying_62 : decode cX8_tellSaying 62 = .ok (.ireturn, 1) := by decide +kernel
theorem dX8_tellSaying_63 : decode cX8_tellSaying 63 = .ok (.aload_n 1, 1) := by decide +kernel
theorem dX8_tellSaying_64 : decode cX8_tellSaying 64 = .ok (.getfield 76, 3) := by decide +kernel
theorem dX8_tellSaying_67 : decode cX8_tellSaying 67 = .ok (.getfield 295, 3) := by decide +kernel
theorem dX8_tellSaying_70 : decode cX8_tellSaying 70 = .ok (.getfield 301, 3) := by decide +kernel
theorem dX8_tellSaying_73 : decode cX8_tellSaying 73 = .ok (.ireturn, 1) := by decide +kernel
theorem dX8_tellSaying_74 : decode cX8_tellSaying 74 = .ok (.aload_n 1, 1) := by decide +kernel
theorem dX8_tellSaying_75 : decode cX8_tellSaying 75 = .ok (.getfield 76, 3) := by decide +kernel
theorem dX8_tellSaying_78 : decode cX8_tellSaying 78 = .ok (.getfield 295, 3) := by decide +kernel
theorem dX8_tellSaying_81 : decode cX8_tellSaying 81 = .ok (.invokevirtual 304, 3) := by decide +kernel
theorem dX8_tellSaying_84 : decode cX8_tellSaying 84 = .ok (.ireturn, 1) := by decide +kernel
theorem dX8_tellSaying_85 : decode cX8_tellSaying 85 = .ok (.aload_n 1, 1) := by decide +kernel
theorem dX8_tellSaying_86 : decode cX8_tellSaying 86 = .ok (.getfield 76, 3) := by decide +kernel
theorem dX8_tellSaying_89 : decode cX8_tellSaying 89 = .ok (.getfield 307, 3) := by decide +kernel
theorem dX8_tellSaying_92 : decode cX8_tellSaying 92 = .ok (.ireturn, 1) := by decide +kernel
theorem dX8_tellSaying_93 : decode cX8_tellSaying 93 = .ok (.aload_n 1, 1) := by decide +kernel
theorem dX8_tellSaying_94 : decode cX8_tellSaying 94 = .ok (.getfield 76, 3) := by decide +kernel
theorem dX8_tellSaying_97 : decode cX8_tellSaying 97 = .ok (.getfield 310, 3) := by decide +kernel
theorem dX8_tellSaying_100 : decode cX8_tellSaying 100 = .ok (.ireturn, 1) := by decide +kernel
theorem dX8_tellSaying_101 : decode cX8_tellSaying 101 = .ok (.aload_n 1, 1) := by decide +kernel
theorem dX8_tellSaying_102 : decode cX8_tellSaying 102 = .ok (.getfield 76, 3) := by decide +kernel
theorem dX8_tellSaying_105 : decode cX8_tellSaying 105 = .ok (.getfield 80, 3) := by decide +kernel
theorem dX8_tellSaying_108 : decode cX8_tellSaying 108 = .ok (.getfield 86, 3) := by decide +kernel
theorem dX8_tellSaying_111 : decode cX8_tellSaying 111 = .ok (.ireturn, 1) := by decide +kernel
theorem dX8_tellSaying_112 : decode cX8_tellSaying 112 = .ok (.aload_n 1, 1) := by decide +kernel
theorem dX8_tellSaying_113 : decode cX8_tellSaying 113 = .ok (.getfield 76, 3) := by decide +kernel
theorem dX8_tellSaying_116 : decode cX8_tellSaying 116 = .ok (.getfield 313, 3) := by decide +kernel
theorem dX8_tellSaying_119 : decode cX8_tellSaying 119 = .ok (.ireturn, 1) := by decide +kernel
theorem dX8_tellSaying_120 : decode cX8_tellSaying 120 = .ok (.aload_n 1, 1) := by decide +kernel
theorem dX8_tellSaying_121 : decode cX8_tellSaying 121 = .ok (.getfield 76, 3) := by decide +kernel
theorem dX8_tellSaying_124 : decode cX8_tellSaying 124 = .ok (.getfield 316, 3) := by decide +kernel
theorem dX8_tellSaying_127 : decode cX8_tellSaying 127 = .ok (.ireturn, 1) := by decide +kernel
theorem dX8_tellSaying_128 : decode cX8_tellSaying 128 = .ok (.aload_n 1, 1) := by decide +kernel
theorem dX8_tellSaying_129 : decode cX8_tellSaying 129 = .ok (.getfield 76, 3) := by decide +kernel
theorem dX8_tellSaying_132 : decode cX8_tellSaying 132 = .ok (.aload_n 0, 1) := by decide +kernel
theorem dX8_tellSaying_133 : decode cX8_tellSaying 133 = .ok (.getfield 33, 3) := by decide +kernel
theorem dX8_tellSaying_136 : decode cX8_tellSaying 136 = .ok (.invokevirtual 319, 3) := by decide +kernel
theorem dX8_tellSaying_139 : decode cX8_tellSaying 139 = .ok (.ireturn, 1) := by decide +kernel
theorem dX8_tellSaying_140 : decode cX8_tellSaying 140 = .ok (.aload_n 1, 1) := by decide +kernel
theorem dX8_tellSaying_141 : decode cX8_tellSaying 141 = .ok (.getfield 287, 3) := by decide +kernel
theorem dX8_tellSaying_144 : decode cX8_tellSaying 144 = .ok (.ireturn, 1) := by decide +kernel
theorem dX8_tellHearing_0 : decode cX8_tellHearing 0 = .ok (.iload_n 2, 1) := by decide +kernel
theorem dX8_tellHearing_1 : decode cX8_tellHearing 1 = .ok (.bipush 11, 2) := by decide +kernel
theorem dX8_tellHearing_3 : decode cX8_tellHearing 3 = .ok (.if_icmp .ne 10, 3) := by decide +kernel
theorem dX8_tellHearing_6 : decode cX8_tellHearing 6 = .ok (.aload_n 1, 1) := by decide +kernel
theorem dX8_tellHearing_7 : decode cX8_tellHearing 7 = .ok (.getfield 323, 3) := by decide +kernel
theorem dX8_tellHearing_10 : decode cX8_tellHearing 10 = .ok (.goto 11, 3) := by decide +kernel
theorem dX8_tellHearing_13 : decode cX8_tellHearing 13 = .ok (.aload_n 1, 1) := by decide +kernel
theorem dX8_tellHearing_14 : decode cX8_tellHearing 14 = .ok (.getfield 246, 3) := by decide +kernel
theorem dX8_tellHearing_17 : decode cX8_tellHearing 17 = .ok (.iload_n 2, 1) := by decide +kernel
theorem dX8_tellHearing_18 : decode cX8_tellHearing 18 = .ok (.invokevirtual 326, 3) := by decide +kernel
theorem dX8_tellHearing_21 : decode cX8_tellHearing 21 = .ok (.ireturn, 1) := by decide +kernel
theorem dX8_tellWhy_0 : decode cX8_tellWhy 0 = .ok (.aload_n 0, 1) := by decide +kernel
theorem dX8_tellWhy_1 : decode cX8_tellWhy 1 = .ok (.aload_n 1, 1) := by decide +kernel
theorem dX8_tellWhy_2 : decode cX8_tellWhy 2 = .ok (.invokevirtual 327, 3) := by decide +kernel
theorem dX8_tellWhy_5 : decode cX8_tellWhy 5 = .ok (.aload_n 0, 1) := by decide +kernel
theorem dX8_tellWhy_6 : decode cX8_tellWhy 6 = .ok (.aload_n 1, 1) := by decide +kernel
theorem dX8_tellWhy_7 : decode cX8_tellWhy 7 = .ok (.invokevirtual 331, 3) := by decide +kernel
theorem dX8_tellWhy_10 : decode cX8_tellWhy 10 = .ok (.ifCond .eq 5, 3) := by decide +kernel
theorem dX8_tellWhy_13 : decode cX8_tellWhy 13 = .ok (.iconst 0, 1) := by decide +kernel
theorem dX8_tellWhy_14 : decode cX8_tellWhy 14 = .ok (.ireturn, 1) := by decide +kernel
theorem dX8_tellWhy_15 : decode cX8_tellWhy 15 = .ok (.aload_n 0, 1) := by decide +kernel
theorem dX8_tellWhy_16 : decode cX8_tellWhy 16 = .ok (.getfield 40, 3) := by decide +kernel
theorem dX8_tellWhy_19 : decode cX8_tellWhy 19 = .ok (.getfield 335, 3) := by decide +kernel
theorem dX8_tellWhy_22 : decode cX8_tellWhy 22 = .ok (.aload_n 1, 1) := by decide +kernel
theorem dX8_tellWhy_23 : decode cX8_tellWhy 23 = .ok (.getfield 246, 3) := by decide +kernel
theorem dX8_tellWhy_26 : decode cX8_tellWhy 26 = .ok (.getfield 335, 3) := by decide +kernel
theorem dX8_tellWhy_29 : decode cX8_tellWhy 29 = .ok (.if_icmp .ne 41, 3) := by decide +kernel
theorem dX8_tellWhy_32 : decode cX8_tellWhy 32 = .ok (.aload_n 0, 1) := by decide +kernel
theorem dX8_tellWhy_33 : decode cX8_tellWhy 33 = .ok (.getfield 40, 3) := by decide +kernel
theorem dX8_tellWhy_36 : decode cX8_tellWhy 36 = .ok (.getfield 338, 3) := by decide +kernel
theorem dX8_tellWhy_39 : decode cX8_tellWhy 39 = .ok (.aload_n 1, 1) := by decide +kernel
theorem dX8_tellWhy_40 : decode cX8_tellWhy 40 = .ok (.getfield 246, 3) := by decide +kernel
theorem dX8_tellWhy_43 : decode cX8_tellWhy 43 = .ok (.getfield 338, 3) := by decide +kernel
theorem dX8_tellWhy_46 : decode cX8_tellWhy 46 = .ok (.if_icmp .ne 24, 3) := by decide +kernel
theorem dX8_tellWhy_49 : decode cX8_tellWhy 49 = .ok (.aload_n 0, 1) := by decide +kernel
theorem dX8_tellWhy_50 : decode cX8_tellWhy 50 = .ok (.getfield 40, 3) := by decide +kernel
theorem dX8_tellWhy_53 : decode cX8_tellWhy 53 = .ok (.getfield 341, 3) := by decide +kernel
theorem dX8_tellWhy_56 : decode cX8_tellWhy 56 = .ok (.aload_n 1, 1) := by decide +kernel
theorem dX8_tellWhy_57 : decode cX8_tellWhy 57 = .ok (.getfield 76, 3) := by decide +kernel
theorem dX8_tellWhy_60 : decode cX8_tellWhy 60 = .ok (.getfield 313, 3) := by decide +kernel
theorem dX8_tellWhy_63 : decode cX8_tellWhy 63 = .ok (.if_icmp .ne 7, 3) := by decide +kernel
theorem dX8_tellWhy_66 : decode cX8_tellWhy 66 = .ok (.iconst 1, 1) := by decide +kernel
theorem dX8_tellWhy_67 : decode cX8_tellWhy 67 = .ok (.goto 4, 3) := by decide +kernel
theorem dX8_tellWhy_70 : decode cX8_tellWhy 70 = .ok (.iconst 0, 1) := by decide +kernel
theorem dX8_tellWhy_71 : decode cX8_tellWhy 71 = .ok (.istore_n 2, 1) := by decide +kernel
theorem dX8_tellWhy_72 : decode cX8_tellWhy 72 = .ok (.iload_n 2, 1) := by decide +kernel
theorem dX8_tellWhy_73 : decode cX8_tellWhy 73 = .ok (.ifCond .eq 7, 3) := by decide +kernel
theorem dX8_tellWhy_76 : decode cX8_tellWhy 76 = .ok (.iconst 2, 1) := by decide +kernel
theorem dX8_tellWhy_77 : decode cX8_tellWhy 77 = .ok (.goto 4, 3) := by decide +kernel
theorem dX8_tellWhy_80 : decode cX8_tellWhy 80 = .ok (.iconst 1, 1) := by decide +kernel
theorem dX8_tellWhy_81 : decode cX8_tellWhy 81 = .ok (.ireturn, 1) := by decide +kernel
theorem dX8_tellCount_0 : decode cX8_tellCount 0 = .ok (.iload_n 1, 1) := by decide +kernel
theorem dX8_tellCount_1 : decode cX8_tellCount 1 = .ok (.bipush 7, 2) := by decide +kernel
theorem dX8_tellCount_3 : decode cX8_tellCount 3 = .ok (.if_icmp .ne 8, 3) := by decide +kernel
theorem dX8_tellCount_6 : decode cX8_tellCount 6 = .ok (.aload_n 0, 1) := by decide +kernel
theorem dX8_tellCount_7 : decode cX8_tellCount 7 = .ok (.getfield 200, 3) := by decide +kernel
theorem dX8_tellCount_10 : decode cX8_tellCount 10 = .ok (.ireturn, 1) := by decide +kernel
theorem dX8_tellCount_11 : decode cX8_tellCount 11 = .ok (.iload_n 1, 1) := by decide +kernel
theorem dX8_tellCount_12 : decode cX8_tellCount 12 = .ok (.bipush 6, 2) := by decide +kernel
theorem dX8_tellCount_14 : decode cX8_tellCount 14 = .ok (.if_icmp .ge 9, 3) := by decide +kernel
theorem dX8_tellCount_17 : decode cX8_tellCount 17 = .ok (.aload_n 0, 1) := by decide +kernel
theorem dX8_tellCount_18 : decode cX8_tellCount 18 = .ok (.iload_n 1, 1) := by decide +kernel
theorem dX8_tellCount_19 : decode cX8_tellCount 19 = .ok (.invokevirtual 195, 3) := by decide +kernel
theorem dX8_tellCount_22 : decode cX8_tellCount 22 = .ok (.ireturn, 1) := by decide +kernel
theorem dX8_tellCount_23 : decode cX8_tellCount 23 = .ok (.iconst 0, 1) := by decide +kernel
theorem dX8_tellCount_24 : decode cX8_tellCount 24 = .ok (.istore_n 2, 1) := by decide +kernel
theorem dX8_tellCount_25 : decode cX8_tellCount 25 = .ok (.iconst 0, 1) := by decide +kernel
theorem dX8_tellCount_26 : decode cX8_tellCount 26 = .ok (.istore_n 3, 1) := by decide +kernel
theorem dX8_tellCount_27 : decode cX8_tellCount 27 = .ok (.iload_n 3, 1) := by decide +kernel
theorem dX8_tellCount_28 : decode cX8_tellCount 28 = .ok (.aload_n 0, 1) := by decide +kernel
theorem dX8_tellCount_29 : decode cX8_tellCount 29 = .ok (.getfield 10, 3) := by decide +kernel
theorem dX8_tellCount_32 : decode cX8_tellCount 32 = .ok (.getfield 263, 3) := by decide +kernel
theorem dX8_tellCount_35 : decode cX8_tellCount 35 = .ok (.arraylength, 1) := by decide +kernel
theorem dX8_tellCount_36 : decode cX8_tellCount 36 = .ok (.if_icmp .ge 28, 3) := by decide +kernel
theorem dX8_tellCount_39 : decode cX8_tellCount 39 = .ok (.aload_n 0, 1) := by decide +kernel
theorem dX8_tellCount_40 : decode cX8_tellCount 40 = .ok (.aload_n 0, 1) := by decide +kernel
theorem dX8_tellCount_41 : decode cX8_tellCount 41 = .ok (.getfield 10, 3) := by decide +kernel
theorem dX8_tellCount_44 : decode cX8_tellCount 44 = .ok (.getfield 263, 3) := by decide +kernel
theorem dX8_tellCount_47 : decode cX8_tellCount 47 = .ok (.iload_n 3, 1) := by decide +kernel
theorem dX8_tellCount_48 : decode cX8_tellCount 48 = .ok (.aaload, 1) := by decide +kernel
theorem dX8_tellCount_49 : decode cX8_tellCount 49 = .ok (.invokevirtual 227, 3) := by decide +kernel
theorem dX8_tellCount_52 : decode cX8_tellCount 52 = .ok (.ifCond .ne 6, 3) := by decide +kernel
theorem dX8_tellCount_55 : decode cX8_tellCount 55 = .ok (.iinc 2 1, 3) := by decide +kernel
theorem dX8_tellCount_58 : decode cX8_tellCount 58 = .ok (.iinc 3 1, 3) := by decide +kernel
theorem dX8_tellCount_61 : decode cX8_tellCount 61 = .ok (.goto (-34), 3) := by decide +kernel
theorem dX8_tellCount_64 : decode cX8_tellCount 64 = .ok (.iload_n 2, 1) := by decide +kernel
theorem dX8_tellCount_65 : decode cX8_tellCount 65 = .ok (.ireturn, 1) := by decide +kernel
theorem dX8_sumOver_0 : decode cX8_sumOver 0 = .ok (.iconst 0, 1) := by decide +kernel
theorem dX8_sumOver_1 : decode cX8_sumOver 1 = .ok (.istore_n 2, 1) := by decide +kernel
theorem dX8_sumOver_2 : decode cX8_sumOver 2 = .ok (.iconst 0, 1) := by decide +kernel
theorem dX8_sumOver_3 : decode cX8_sumOver 3 = .ok (.istore_n 3, 1) := by decide +kernel
theorem dX8_sumOver_4 : decode cX8_sumOver 4 = .ok (.iload_n 3, 1) := by decide +kernel
theorem dX8_sumOver_5 : decode cX8_sumOver 5 = .ok (.aload_n 0, 1) := by decide +kernel
theorem dX8_sumOver_6 : decode cX8_sumOver 6 = .ok (.getfield 10, 3) := by decide +kernel
theorem dX8_sumOver_9 : decode cX8_sumOver 9 = .ok (.getfield 263, 3) := by decide +kernel
theorem dX8_sumOver_12 : decode cX8_sumOver 12 = .ok (.arraylength, 1) := by decide +kernel
theorem dX8_sumOver_13 : decode cX8_sumOver 13 = .ok (.if_icmp .ge 25, 3) := by decide +kernel
theorem dX8_sumOver_16 : decode cX8_sumOver 16 = .ok (.iload_n 2, 1) := by decide +kernel
theorem dX8_sumOver_17 : decode cX8_sumOver 17 = .ok (.aload_n 0, 1) := by decide +kernel
theorem dX8_sumOver_18 : decode cX8_sumOver 18 = .ok (.getfield 10, 3) := by decide +kernel
theorem dX8_sumOver_21 : decode cX8_sumOver 21 = .ok (.getfield 263, 3) := by decide +kernel
theorem dX8_sumOver_24 : decode cX8_sumOver 24 = .ok (.iload_n 3, 1) := by decide +kernel
theorem dX8_sumOver_25 : decode cX8_sumOver 25 = .ok (.aaload, 1) := by decide +kernel
theorem dX8_sumOver_26 : decode cX8_sumOver 26 = .ok (.iload_n 1, 1) := by decide +kernel
theorem dX8_sumOver_27 : decode cX8_sumOver 27 = .ok (.invokevirtual 344, 3) := by decide +kernel
theorem dX8_sumOver_30 : decode cX8_sumOver 30 = .ok (.iadd, 1) := by decide +kernel
theorem dX8_sumOver_31 : decode cX8_sumOver 31 = .ok (.istore_n 2, 1) := by decide +kernel
theorem dX8_sumOver_32 : decode cX8_sumOver 32 = .ok (.iinc 3 1, 3) := by decide +kernel
theorem dX8_sumOver_35 : decode cX8_sumOver 35 = .ok (.goto (-31), 3) := by decide +kernel
theorem dX8_sumOver_38 : decode cX8_sumOver 38 = .ok (.iload_n 2, 1) := by decide +kernel
theorem dX8_sumOver_39 : decode cX8_sumOver 39 = .ok (.ireturn, 1) := by decide +kernel
theorem dX8_tellCode_0 : decode cX8_tellCode 0 = .ok (.aload_n 0, 1) := by decide +kernel
theorem dX8_tellCode_1 : decode cX8_tellCode 1 = .ok (.getfield 33, 3) := by decide +kernel
theorem dX8_tellCode_4 : decode cX8_tellCode 4 = .ok (.aload_n 1, 1) := by decide +kernel
theorem dX8_tellCode_5 : decode cX8_tellCode 5 = .ok (.getfield 76, 3) := by decide +kernel
theorem dX8_tellCode_8 : decode cX8_tellCode 8 = .ok (.getfield 295, 3) := by decide +kernel
theorem dX8_tellCode_11 : decode cX8_tellCode 11 = .ok (.invokevirtual 347, 3) := by decide +kernel
theorem dX8_tellCode_14 : decode cX8_tellCode 14 = .ok (.iload_n 3, 1) := by decide +kernel
theorem dX8_tellCode_15 : decode cX8_tellCode 15 = .ok (.iconst 3, 1) := by decide +kernel
theorem dX8_tellCode_16 : decode cX8_tellCode 16 = .ok (.if_icmp .ge 14, 3) := by decide +kernel
theorem dX8_tellCode_19 : decode cX8_tellCode 19 = .ok (.aload_n 0, 1) := by decide +kernel
theorem dX8_tellCode_20 : decode cX8_tellCode 20 = .ok (.getfield 33, 3) := by decide +kernel
theorem dX8_tellCode_23 : decode cX8_tellCode 23 = .ok (.iload_n 2, 1) := by decide +kernel
theorem dX8_tellCode_24 : decode cX8_tellCode 24 = .ok (.invokevirtual 350, 3) := by decide +kernel
theorem dX8_tellCode_27 : decode cX8_tellCode 27 = .ok (.goto 11, 3) := by decide +kernel
theorem dX8_tellCode_30 : decode cX8_tellCode 30 = .ok (.aload_n 0, 1) := by decide +kernel
theorem dX8_tellCode_31 : decode cX8_tellCode 31 = .ok (.getfield 33, 3) := by decide +kernel
theorem dX8_tellCode_34 : decode cX8_tellCode 34 = .ok (.iload_n 2, 1) := by decide +kernel
theorem dX8_tellCode_35 : decode cX8_tellCode 35 = .ok (.invokevirtual 353, 3) := by decide +kernel
theorem dX8_tellCode_38 : decode cX8_tellCode 38 = .ok (.istore 4, 2) := by decide +kernel
theorem dX8_tellCode_40 : decode cX8_tellCode 40 = .ok (.iload_n 3, 1) := by decide +kernel
theorem dX8_tellCode_41 : decode cX8_tellCode 41 = .ok (.ifCond .eq 8, 3) := by decide +kernel
theorem dX8_tellCode_44 : decode cX8_tellCode 44 = .ok (.iload_n 3, 1) := by decide +kernel
theorem dX8_tellCode_45 : decode cX8_tellCode 45 = .ok (.iconst 3, 1) := by decide +kernel
theorem dX8_tellCode_46 : decode cX8_tellCode 46 = .ok (.if_icmp .ne 6, 3) := by decide +kernel
theorem dX8_tellCode_49 : decode cX8_tellCode 49 = .ok (.iload 4, 2) := by decide +kernel
theorem dX8_tellCode_51 : decode cX8_tellCode 51 = .ok (.ireturn, 1) := by decide +kernel
theorem dX8_tellCode_52 : decode cX8_tellCode 52 = .ok (.aload_n 0, 1) := by decide +kernel
theorem dX8_tellCode_53 : decode cX8_tellCode 53 = .ok (.getfield 33, 3) := by decide +kernel
theorem dX8_tellCode_56 : decode cX8_tellCode 56 = .ok (.iload 4, 2) := by decide +kernel
theorem dX8_tellCode_58 : decode cX8_tellCode 58 = .ok (.invokevirtual 356, 3) := by decide +kernel
theorem dX8_tellCode_61 : decode cX8_tellCode 61 = .ok (.iload_n 3, 1) := by decide +kernel
theorem dX8_tellCode_62 : decode cX8_tellCode 62 = .ok (.iconst 2, 1) := by decide +kernel
theorem dX8_tellCode_63 : decode cX8_tellCode 63 = .ok (.if_icmp .ne 13, 3) := by decide +kernel
theorem dX8_tellCode_66 : decode cX8_tellCode 66 = .ok (.aload_n 0, 1) := by decide +kernel
theorem dX8_tellCode_67 : decode cX8_tellCode 67 = .ok (.getfield 33, 3) := by decide +kernel
theorem dX8_tellCode_70 : decode cX8_tellCode 70 = .ok (.getfield 301, 3) := by decide +kernel
theorem dX8_tellCode_73 : decode cX8_tellCode 73 = .ok (.goto 10, 3) := by decide +kernel
theorem dX8_tellCode_76 : decode cX8_tellCode 76 = .ok (.aload_n 0, 1) := by decide +kernel
theorem dX8_tellCode_77 : decode cX8_tellCode 77 = .ok (.getfield 33, 3) := by decide +kernel
theorem dX8_tellCode_80 : decode cX8_tellCode 80 = .ok (.getfield 298, 3) := by decide +kernel
theorem dX8_tellCode_83 : decode cX8_tellCode 83 = .ok (.ireturn, 1) := by decide +kernel
theorem dX8_codesToComeNear_0 : decode cX8_codesToComeNear 0 = .ok (.aload_n 0, 1) := by decide +kernel
theorem dX8_codesToComeNear_1 : decode cX8_codesToComeNear 1 = .ok (.getfield 33, 3) := by decide +kernel
theorem dX8_codesToComeNear_4 : decode cX8_codesToComeNear 4 = .ok (.aload_n 1, 1) := by decide +kernel
theorem dX8_codesToComeNear_5 : decode cX8_codesToComeNear 5 = .ok (.getfield 76, 3) := by decide +kernel
theorem dX8_codesToComeNear_8 : decode cX8_codesToComeNear 8 = .ok (.getfield 295, 3) := by decide +kernel
theorem dX8_codesToComeNear_11 : decode cX8_codesToComeNear 11 = .ok (.invokevirtual 347, 3) := by decide +kernel
theorem dX8_codesToComeNear_14 : decode cX8_codesToComeNear 14 = .ok (.iconst 0, 1) := by decide +kernel
theorem dX8_codesToComeNear_15 : decode cX8_codesToComeNear 15 = .ok (.istore 4, 2) := by decide +kernel
theorem dX8_codesToComeNear_17 : decode cX8_codesToComeNear 17 = .ok (.iload 4, 2) := by decide +kernel
theorem dX8_codesToComeNear_19 : decode cX8_codesToComeNear 19 = .ok (.bipush 60, 2) := by decide +kernel
theorem dX8_codesToComeNear_21 : decode cX8_codesToComeNear 21 = .ok (.if_icmp .gt 42, 3) := by decide +kernel
theorem dX8_codesToComeNear_24 : decode cX8_codesToComeNear 24 = .ok (.aload_n 0, 1) := by decide +kernel
theorem dX8_codesToComeNear_25 : decode cX8_codesToComeNear 25 = .ok (.getfield 33, 3) := by decide +kernel
theorem dX8_codesToComeNear_28 : decode cX8_codesToComeNear 28 = .ok (.getfield 298, 3) := by decide +kernel
theorem dX8_codesToComeNear_31 : decode cX8_codesToComeNear 31 = .ok (.iload_n 2, 1) := by decide +kernel
theorem dX8_codesToComeNear_32 : decode cX8_codesToComeNear 32 = .ok (.invokestatic 359, 3) := by decide +kernel
theorem dX8_codesToComeNear_35 : decode cX8_codesToComeNear 35 = .ok (.iload_n 3, 1) := by decide +kernel
theorem dX8_codesToComeNear_36 : decode cX8_codesToComeNear 36 = .ok (.if_icmp .ge 6, 3) := by decide +kernel
theorem dX8_codesToComeNear_39 : decode cX8_codesToComeNear 39 = .ok (.iload 4, 2) := by decide +kernel
theorem dX8_codesToComeNear_41 : decode cX8_codesToComeNear 41 = .ok (.ireturn, 1) := by decide +kernel
theorem dX8_codesToComeNear_42 : decode cX8_codesToComeNear 42 = .ok (.aload_n 0, 1) := by decide +kernel
theorem dX8_codesToComeNear_43 : decode cX8_codesToComeNear 43 = .ok (.getfield 33, 3) := by decide +kernel
theorem dX8_codesToComeNear_46 : decode cX8_codesToComeNear 46 = .ok (.aload_n 0, 1) := by decide +kernel
theorem dX8_codesToComeNear_47 : decode cX8_codesToComeNear 47 = .ok (.getfield 33, 3) := by decide +kernel
theorem dX8_codesToComeNear_50 : decode cX8_codesToComeNear 50 = .ok (.iload_n 2, 1) := by decide +kernel
theorem dX8_codesToComeNear_51 : decode cX8_codesToComeNear 51 = .ok (.invokevirtual 350, 3) := by decide +kernel
theorem dX8_codesToComeNear_54 : decode cX8_codesToComeNear 54 = .ok (.invokevirtual 356, 3) := by decide +kernel
theorem dX8_codesToComeNear_57 : decode cX8_codesToComeNear 57 = .ok (.iinc 4 1, 3) := by decide +kernel
theorem dX8_codesToComeNear_60 : decode cX8_codesToComeNear 60 = .ok (.goto (-43), 3) := by decide +kernel
theorem dX8_codesToComeNear_63 : decode cX8_codesToComeNear 63 = .ok (.sipush (-10000), 3) := by decide +kernel
theorem dX8_codesToComeNear_66 : decode cX8_codesToComeNear 66 = .ok (.ireturn, 1) := by decide +kernel
theorem dX8_tellIfAllCame_0 : decode cX8_tellIfAllCame 0 = .ok (.aload_n 0, 1) := by decide +kernel
theorem dX8_tellIfAllCame_1 : decode cX8_tellIfAllCame 1 = .ok (.aload_n 1, 1) := by decide +kernel
theorem dX8_tellIfAllCame_2 : decode cX8_tellIfAllCame 2 = .ok (.invokevirtual 327, 3) := by decide +kernel
theorem dX8_tellIfAllCame_5 : decode cX8_tellIfAllCame 5 = .ok (.iload_n 2, 1) := by decide +kernel
theorem dX8_tellIfAllCame_6 : decode cX8_tellIfAllCame 6 = .ok (.tableswitch 69 0 2 #[26, 37, 53], 26) := by decide +kernel
theorem dX8_tellIfAllCame_32 : decode cX8_tellIfAllCame 32 = .ok (.aload_n 0, 1) := by decide +kernel
theorem dX8_tellIfAllCame_33 : decode cX8_tellIfAllCame 33 = .ok (.getfield 40, 3) := by decide +kernel
theorem dX8_tellIfAllCame_36 : decode cX8_tellIfAllCame 36 = .ok (.getfield 363, 3) := by decide +kernel
theorem dX8_tellIfAllCame_39 : decode cX8_tellIfAllCame 39 = .ok (.getfield 298, 3) := by decide +kernel
theorem dX8_tellIfAllCame_42 : decode cX8_tellIfAllCame 42 = .ok (.ireturn, 1) := by decide +kernel
theorem dX8_tellIfAllCame_43 : decode cX8_tellIfAllCame 43 = .ok (.aload_n 0, 1) := by decide +kernel
theorem dX8_tellIfAllCame_44 : decode cX8_tellIfAllCame 44 = .ok (.getfield 40, 3) := by decide +kernel
theorem dX8_tellIfAllCame_47 : decode cX8_tellIfAllCame 47 = .ok (.getfield 364, 3) := by decide +kernel
theorem dX8_tellIfAllCame_50 : decode cX8_tellIfAllCame 50 = .ok (.aload_n 1, 1) := by decide +kernel
theorem dX8_tellIfAllCame_51 : decode cX8_tellIfAllCame 51 = .ok (.getfield 246, 3) := by decide +kernel
theorem dX8_tellIfAllCame_54 : decode cX8_tellIfAllCame 54 = .ok (.getfield 364, 3) := by decide +kernel
theorem dX8_tellIfAllCame_57 : decode cX8_tellIfAllCame 57 = .ok (.isub, 1) := by decide +kernel
theorem dX8_tellIfAllCame_58 : decode cX8_tellIfAllCame 58 = .ok (.ireturn, 1) := by decide +kernel
theorem dX8_tellIfAllCame_59 : decode cX8_tellIfAllCame 59 = .ok (.aload_n 0, 1) := by decide +kernel
theorem dX8_tellIfAllCame_60 : decode cX8_tellIfAllCame 60 = .ok (.getfield 40, 3) := by decide +kernel
theorem dX8_tellIfAllCame_63 : decode cX8_tellIfAllCame 63 = .ok (.getfield 338, 3) := by decide +kernel
theorem dX8_tellIfAllCame_66 : decode cX8_tellIfAllCame 66 = .ok (.aload_n 1, 1) := by decide +kernel
theorem dX8_tellIfAllCame_67 : decode cX8_tellIfAllCame 67 = .ok (.getfield 246, 3) := by decide +kernel
theorem dX8_tellIfAllCame_70 : decode cX8_tellIfAllCame 70 = .ok (.getfield 338, 3) := by decide +kernel
theorem dX8_tellIfAllCame_73 : decode cX8_tellIfAllCame 73 = .ok (.isub, 1) := by decide +kernel
theorem dX8_tellIfAllCame_74 : decode cX8_tellIfAllCame 74 = .ok (.ireturn, 1) := by decide +kernel
theorem dX8_tellIfAllCame_75 : decode cX8_tellIfAllCame 75 = .ok (.aload_n 0, 1) := by decide +kernel
theorem dX8_tellIfAllCame_76 : decode cX8_tellIfAllCame 76 = .ok (.getfield 40, 3) := by decide +kernel
theorem dX8_tellIfAllCame_79 : decode cX8_tellIfAllCame 79 = .ok (.getfield 367, 3) := by decide +kernel
theorem dX8_tellIfAllCame_82 : decode cX8_tellIfAllCame 82 = .ok (.aload_n 1, 1) := by decide +kernel
theorem dX8_tellIfAllCame_83 : decode cX8_tellIfAllCame 83 = .ok (.getfield 246, 3) := by decide +kernel
theorem dX8_tellIfAllCame_86 : decode cX8_tellIfAllCame 86 = .ok (.getfield 367, 3) := by decide +kernel
theorem dX8_tellIfAllCame_89 : decode cX8_tellIfAllCame 89 = .ok (.isub, 1) := by decide +kernel
theorem dX8_tellIfAllCame_90 : decode cX8_tellIfAllCame 90 = .ok (.ireturn, 1) := by decide +kernel
theorem dX8_letAllCome_0 : decode cX8_letAllCome 0 = .ok (.aload_n 0, 1) := by decide +kernel
theorem dX8_letAllCome_1 : decode cX8_letAllCome 1 = .ok (.getfield 40, 3) := by decide +kernel
theorem dX8_letAllCome_4 : decode cX8_letAllCome 4 = .ok (.aload_n 1, 1) := by decide +kernel
theorem dX8_letAllCome_5 : decode cX8_letAllCome 5 = .ok (.getfield 246, 3) := by decide +kernel
theorem dX8_letAllCome_8 : decode cX8_letAllCome 8 = .ok (.invokevirtual 370, 3) := by decide +kernel
theorem dX8_letAllCome_11 : decode cX8_letAllCome 11 = .ok (.iconst 0, 1) := by decide +kernel
theorem dX8_letAllCome_12 : decode cX8_letAllCome 12 = .ok (.istore_n 2, 1) := by decide +kernel
theorem dX8_letAllCome_13 : decode cX8_letAllCome 13 = .ok (.iload_n 2, 1) := by decide +kernel
theorem dX8_letAllCome_14 : decode cX8_letAllCome 14 = .ok (.aload_n 1, 1) := by decide +kernel
theorem dX8_letAllCome_15 : decode cX8_letAllCome 15 = .ok (.getfield 287, 3) := by decide +kernel
theorem dX8_letAllCome_18 : decode cX8_letAllCome 18 = .ok (.if_icmp .ge 32, 3) := by decide +kernel
theorem dX8_letAllCome_21 : decode cX8_letAllCome 21 = .ok (.iload_n 2, 1) := by decide +kernel
theorem dX8_letAllCome_22 : decode cX8_letAllCome 22 = .ok (.aload_n 1, 1) := by decide +kernel
theorem dX8_letAllCome_23 : decode cX8_letAllCome 23 = .ok (.getfield 373, 3) := by decide +kernel
theorem dX8_letAllCome_26 : decode cX8_letAllCome 26 = .ok (.arraylength, 1) := by decide +kernel
theorem dX8_letAllCome_27 : decode cX8_letAllCome 27 = .ok (.if_icmp .ge 23, 3) := by decide +kernel
theorem dX8_letAllCome_30 : decode cX8_letAllCome 30 = .ok (.aload_n 0, 1) := by decide +kernel
theorem dX8_letAllCome_31 : decode cX8_letAllCome 31 = .ok (.getfield 40, 3) := by decide +kernel
theorem dX8_letAllCome_34 : decode cX8_letAllCome 34 = .ok (.aload_n 1, 1) := by decide +kernel
theorem dX8_letAllCome_35 : decode cX8_letAllCome 35 = .ok (.getfield 373, 3) := by decide +kernel
theorem dX8_letAllCome_38 : decode cX8_letAllCome 38 = .ok (.iload_n 2, 1) := by decide +kernel
theorem dX8_letAllCome_39 : decode cX8_letAllCome 39 = .ok (.aaload, 1) := by decide +kernel
theorem dX8_letAllCome_40 : decode cX8_letAllCome 40 = .ok (.invokevirtual 377, 3) := by decide +kernel
theorem dX8_letAllCome_43 : decode cX8_letAllCome 43 = .ok (.pop, 1) := by decide +kernel
theorem dX8_letAllCome_44 : decode cX8_letAllCome 44 = .ok (.iinc 2 1, 3) := by decide +kernel
theorem dX8_letAllCome_47 : decode cX8_letAllCome 47 = .ok (.goto (-34), 3) := by decide +kernel
theorem dX8_letAllCome_50 : decode cX8_letAllCome 50 = .ok (.return_, 1) := by decide +kernel
theorem dX8_wouldAgree_0 : decode cX8_wouldAgree 0 = .ok (.aload_n 0, 1) := by decide +kernel
theorem dX8_wouldAgree_1 : decode cX8_wouldAgree 1 = .ok (.getfield 33, 3) := by decide +kernel
theorem dX8_wouldAgree_4 : decode cX8_wouldAgree 4 = .ok (.aload_n 0, 1) := by decide +kernel
theorem dX8_wouldAgree_5 : decode cX8_wouldAgree 5 = .ok (.getfield 40, 3) := by decide +kernel
theorem dX8_wouldAgree_8 : decode cX8_wouldAgree 8 = .ok (.getfield 363, 3) := by decide +kernel
theorem dX8_wouldAgree_11 : decode cX8_wouldAgree 11 = .ok (.invokevirtual 347, 3) := by decide +kernel
theorem dX8_wouldAgree_14 : decode cX8_wouldAgree 14 = .ok (.aload_n 0, 1) := by decide +kernel
theorem dX8_wouldAgree_15 : decode cX8_wouldAgree 15 = .ok (.getfield 33, 3) := by decide +kernel
theorem dX8_wouldAgree_18 : decode cX8_wouldAgree 18 = .ok (.aload_n 1, 1) := by decide +kernel
theorem dX8_wouldAgree_19 : decode cX8_wouldAgree 19 = .ok (.getfield 76, 3) := by decide +kernel
theorem dX8_wouldAgree_22 : decode cX8_wouldAgree 22 = .ok (.getfield 80, 3) := by decide +kernel
theorem dX8_wouldAgree_25 : decode cX8_wouldAgree 25 = .ok (.invokevirtual 381, 3) := by decide +kernel
theorem dX8_wouldAgree_28 : decode cX8_wouldAgree 28 = .ok (.aload_n 0, 1) := by decide +kernel
theorem dX8_wouldAgree_29 : decode cX8_wouldAgree 29 = .ok (.getfield 33, 3) := by decide +kernel
theorem dX8_wouldAgree_32 : decode cX8_wouldAgree 32 = .ok (.aload_n 1, 1) := by decide +kernel
theorem dX8_wouldAgree_33 : decode cX8_wouldAgree 33 = .ok (.getfield 76, 3) := by decide +kernel
theorem dX8_wouldAgree_36 : decode cX8_wouldAgree 36 = .ok (.getfield 295, 3) := by decide +kernel
theorem dX8_wouldAgree_39 : decode cX8_wouldAgree 39 = .ok (.getfield 298, 3) := by decide +kernel
theorem dX8_wouldAgree_42 : decode cX8_wouldAgree 42 = .ok (.aload_n 1, 1) := by decide +kernel
theorem dX8_wouldAgree_43 : decode cX8_wouldAgree 43 = .ok (.getfield 76, 3) := by decide +kernel
theorem dX8_wouldAgree_46 : decode cX8_wouldAgree 46 = .ok (.getfield 295, 3) := by decide +kernel
theorem dX8_wouldAgree_49 : decode cX8_wouldAgree 49 = .ok (.getfield 301, 3) := by decide +kernel
theorem dX8_wouldAgree_52 : decode cX8_wouldAgree 52 = .ok (.invokevirtual 385, 3) := by decide +kernel
theorem dX8_wouldAgree_55 : decode cX8_wouldAgree 55 = .ok (.ireturn, 1) := by decide +kernel
theorem dX8_shareOfLost_0 : decode cX8_shareOfLost 0 = .ok (.aload_n 0, 1) := by decide +kernel
theorem dX8_shareOfLost_1 : decode cX8_shareOfLost 1 = .ok (.iconst 2, 1) := by decide +kernel
theorem dX8_shareOfLost_2 : decode cX8_shareOfLost 2 = .ok (.invokevirtual 195, 3) := by decide +kernel
theorem dX8_shareOfLost_5 : decode cX8_shareOfLost 5 = .ok (.istore_n 1, 1) := by decide +kernel
theorem dX8_shareOfLost_6 : decode cX8_shareOfLost 6 = .ok (.iload_n 1, 1) := by decide +kernel
theorem dX8_shareOfLost_7 : decode cX8_shareOfLost 7 = .ok (.ifCond .le 15, 3) := by decide +kernel
theorem dX8_shareOfLost_10 : decode cX8_shareOfLost 10 = .ok (.aload_n 0, 1) := by decide +kernel
theorem dX8_shareOfLost_11 : decode cX8_shareOfLost 11 = .ok (.iconst 4, 1) := by decide +kernel
theorem dX8_shareOfLost_12 : decode cX8_shareOfLost 12 = .ok (.invokevirtual 195, 3) := by decide +kernel
theorem dX8_shareOfLost_15 : decode cX8_shareOfLost 15 = .ok (.i2f, 1) := by decide +kernel
theorem dX8_shareOfLost_16 : decode cX8_shareOfLost 16 = .ok (.iload_n 1, 1) := by decide +kernel
theorem dX8_shareOfLost_17 : decode cX8_shareOfLost 17 = .ok (.i2f, 1) := by decide +kernel
theorem dX8_shareOfLost_18 : decode cX8_shareOfLost 18 = .ok (.fdiv, 1) := by decide +kernel
theorem dX8_shareOfLost_19 : decode cX8_shareOfLost 19 = .ok (.goto 4, 3) := by decide +kernel
theorem dX8_shareOfLost_22 : decode cX8_shareOfLost 22 = .ok (.fconst 0, 1) := by decide +kernel
theorem dX8_shareOfLost_23 : decode cX8_shareOfLost 23 = .ok (.freturn, 1) := by decide +kernel
theorem dX8_distance_0 : decode cX8_distance 0 = .ok (.iload_n 0, 1) := by decide +kernel
theorem dX8_distance_1 : decode cX8_distance 1 = .ok (.iload_n 1, 1) := by decide +kernel
theorem dX8_distance_2 : decode cX8_distance 2 = .ok (.if_icmp .ge 9, 3) := by decide +kernel
theorem dX8_distance_5 : decode cX8_distance 5 = .ok (.iload_n 1, 1) := by decide +kernel
theorem dX8_distance_6 : decode cX8_distance 6 = .ok (.iload_n 0, 1) := by decide +kernel
theorem dX8_distance_7 : decode cX8_distance 7 = .ok (.isub, 1) := by decide +kernel
theorem dX8_distance_8 : decode cX8_distance 8 = .ok (.goto 6, 3) := by decide +kernel
theorem dX8_distance_11 : decode cX8_distance 11 = .ok (.iload_n 0, 1) := by decide +kernel
theorem dX8_distance_12 : decode cX8_distance 12 = .ok (.iload_n 1, 1) := by decide +kernel
theorem dX8_distance_13 : decode cX8_distance 13 = .ok (.isub, 1) := by decide +kernel
theorem dX8_distance_14 : decode cX8_distance 14 = .ok (.ireturn, 1) := by decide +kernel
theorem dJ9_max_7cf53_0 : decode cJ9_max_7cf53 0 = .ok (.iload_n 0, 1) := by decide +kernel
theorem dJ9_max_7cf53_1 : decode cJ9_max_7cf53 1 = .ok (.iload_n 1, 1) := by decide +kernel
theorem dJ9_max_7cf53_2 : decode cJ9_max_7cf53 2 = .ok (.if_icmp .lt 7, 3) := by decide +kernel
theorem dJ9_max_7cf53_5 : decode cJ9_max_7cf53 5 = .ok (.iload_n 0, 1) := by decide +kernel
theorem dJ9_max_7cf53_6 : decode cJ9_max_7cf53 6 = .ok (.goto 4, 3) := by decide +kernel
theorem dJ9_max_7cf53_9 : decode cJ9_max_7cf53 9 = .ok (.iload_n 1, 1) := by decide +kernel
theorem dJ9_max_7cf53_10 : decode cJ9_max_7cf53 10 = .ok (.ireturn, 1) := by decide +kernel
theorem dJ9_min_7cf53_0 : decode cJ9_min_7cf53 0 = .ok (.iload_n 0, 1) := by decide +kernel
theorem dJ9_min_7cf53_1 : decode cJ9_min_7cf53 1 = .ok (.iload_n 1, 1) := by decide +kernel
theorem dJ9_min_7cf53_2 : decode cJ9_min_7cf53 2 = .ok (.if_icmp .gt 7, 3) := by decide +kernel
theorem dJ9_min_7cf53_5 : decode cJ9_min_7cf53 5 = .ok (.iload_n 0, 1) := by decide +kernel
theorem dJ9_min_7cf53_6 : decode cJ9_min_7cf53 6 = .ok (.goto 4, 3) := by decide +kernel
theorem dJ9_min_7cf53_9 : decode cJ9_min_7cf53 9 = .ok (.iload_n 1, 1) := by decide +kernel
theorem dJ9_min_7cf53_10 : decode cJ9_min_7cf53 10 = .ok (.ireturn, 1) := by decide +kernel
theorem dL_cell_0 : decode cL_cell 0 = .ok (.iload_n 1, 1) := by decide +kernel
theorem dL_cell_1 : decode cL_cell 1 = .ok (.aload_n 0, 1) := by decide +kernel
theorem dL_cell_2 : decode cL_cell 2 = .ok (.arraylength, 1) := by decide +kernel
theorem dL_cell_3 : decode cL_cell 3 = .ok (.if_icmp .ge 9, 3) := by decide +kernel
theorem dL_cell_6 : decode cL_cell 6 = .ok (.aload_n 0, 1) := by decide +kernel
theorem dL_cell_7 : decode cL_cell 7 = .ok (.iload_n 1, 1) := by decide +kernel
theorem dL_cell_8 : decode cL_cell 8 = .ok (.iaload, 1) := by decide +kernel
theorem dL_cell_9 : decode cL_cell 9 = .ok (.goto 9, 3) := by decide +kernel
theorem dL_cell_12 : decode cL_cell 12 = .ok (.ldc 7, 2) := by decide +kernel
theorem dL_cell_14 : decode cL_cell 14 = .ok (.iload_n 1, 1) := by decide +kernel
theorem dL_cell_15 : decode cL_cell 15 = .ok (.iconst 1, 1) := by decide +kernel
theorem dL_cell_16 : decode cL_cell 16 = .ok (.iadd, 1) := by decide +kernel
theorem dL_cell_17 : decode cL_cell 17 = .ok (.imul, 1) := by decide +kernel
theorem dL_cell_18 : decode cL_cell 18 = .ok (.ireturn, 1) := by decide +kernel
theorem dL_low_0 : decode cL_low 0 = .ok (.iload_n 0, 1) := by decide +kernel
theorem dL_low_1 : decode cL_low 1 = .ok (.ldc 8, 2) := by decide +kernel
theorem dL_low_3 : decode cL_low 3 = .ok (.iand, 1) := by decide +kernel
theorem dL_low_4 : decode cL_low 4 = .ok (.iload_n 1, 1) := by decide +kernel
theorem dL_low_5 : decode cL_low 5 = .ok (.irem, 1) := by decide +kernel
theorem dL_low_6 : decode cL_low 6 = .ok (.ireturn, 1) := by decide +kernel
theorem dL_step_0 : decode cL_step 0 = .ok (.bipush 8, 2) := by decide +kernel
theorem dL_step_2 : decode cL_step 2 = .ok (.istore_n 1, 1) := by decide +kernel
theorem dL_step_3 : decode cL_step 3 = .ok (.iconst 0, 1) := by decide +kernel
theorem dL_step_4 : decode cL_step 4 = .ok (.istore_n 2, 1) := by decide +kernel
theorem dL_step_5 : decode cL_step 5 = .ok (.iload_n 2, 1) := by decide +kernel
theorem dL_step_6 : decode cL_step 6 = .ok (.iload_n 0, 1) := by decide +kernel
theorem dL_step_7 : decode cL_step 7 = .ok (.if_icmp .ge 15, 3) := by decide +kernel
theorem dL_step_10 : decode cL_step 10 = .ok (.iconst 5, 1) := by decide +kernel
theorem dL_step_11 : decode cL_step 11 = .ok (.iload_n 1, 1) := by decide +kernel
theorem dL_step_12 : decode cL_step 12 = .ok (.imul, 1) := by decide +kernel
theorem dL_step_13 : decode cL_step 13 = .ok (.iconst 4, 1) := by decide +kernel
theorem dL_step_14 : decode cL_step 14 = .ok (.idiv, 1) := by decide +kernel
theorem dL_step_15 : decode cL_step 15 = .ok (.istore_n 1, 1) := by decide +kernel
theorem dL_step_16 : decode cL_step 16 = .ok (.iinc 2 1, 3) := by decide +kernel
theorem dL_step_19 : decode cL_step 19 = .ok (.goto (-14), 3) := by decide +kernel
theorem dL_step_22 : decode cL_step 22 = .ok (.iload_n 1, 1) := by decide +kernel
theorem dL_step_23 : decode cL_step 23 = .ok (.ireturn, 1) := by decide +kernel
theorem dL_code_0 : decode cL_code 0 = .ok (.iload_n 2, 1) := by decide +kernel
theorem dL_code_1 : decode cL_code 1 = .ok (.invokestatic 9, 3) := by decide +kernel
theorem dL_code_4 : decode cL_code 4 = .ok (.istore_n 3, 1) := by decide +kernel
theorem dL_code_5 : decode cL_code 5 = .ok (.iload_n 0, 1) := by decide +kernel
theorem dL_code_6 : decode cL_code 6 = .ok (.iload_n 1, 1) := by decide +kernel
theorem dL_code_7 : decode cL_code 7 = .ok (.isub, 1) := by decide +kernel
theorem dL_code_8 : decode cL_code 8 = .ok (.ifCond .ge 9, 3) := by decide +kernel
theorem dL_code_11 : decode cL_code 11 = .ok (.iload_n 1, 1) := by decide +kernel
theorem dL_code_12 : decode cL_code 12 = .ok (.iload_n 0, 1) := by decide +kernel
theorem dL_code_13 : decode cL_code 13 = .ok (.isub, 1) := by decide +kernel
theorem dL_code_14 : decode cL_code 14 = .ok (.goto 6, 3) := by decide +kernel
theorem dL_code_17 : decode cL_code 17 = .ok (.iload_n 0, 1) := by decide +kernel
theorem dL_code_18 : decode cL_code 18 = .ok (.iload_n 1, 1) := by decide +kernel
theorem dL_code_19 : decode cL_code 19 = .ok (.isub, 1) := by decide +kernel
theorem dL_code_20 : decode cL_code 20 = .ok (.istore 4, 2) := by decide +kernel
theorem dL_code_22 : decode cL_code 22 = .ok (.iload 4, 2) := by decide +kernel
theorem dL_code_24 : decode cL_code 24 = .ok (.iload_n 3, 1) := by decide +kernel
theorem dL_code_25 : decode cL_code 25 = .ok (.if_icmp .lt 7, 3) := by decide +kernel
theorem dL_code_28 : decode cL_code 28 = .ok (.iconst 4, 1) := by decide +kernel
theorem dL_code_29 : decode cL_code 29 = .ok (.goto 4, 3) := by decide +kernel
theorem dL_code_32 : decode cL_code 32 = .ok (.iconst 0, 1) := by decide +kernel
theorem dL_code_33 : decode cL_code 33 = .ok (.istore 5, 2) := by decide +kernel
theorem dL_code_35 : decode cL_code 35 = .ok (.iload 4, 2) := by decide +kernel
theorem dL_code_37 : decode cL_code 37 = .ok (.iload 4, 2) := by decide +kernel
theorem dL_code_39 : decode cL_code 39 = .ok (.iload_n 3, 1) := by decide +kernel
theorem dL_code_40 : decode cL_code 40 = .ok (.if_icmp .lt 7, 3) := by decide +kernel
theorem dL_code_43 : decode cL_code 43 = .ok (.iload_n 3, 1) := by decide +kernel
theorem dL_code_44 : decode cL_code 44 = .ok (.goto 4, 3) := by decide +kernel
theorem dL_code_47 : decode cL_code 47 = .ok (.iconst 0, 1) := by decide +kernel
theorem dL_code_48 : decode cL_code 48 = .ok (.isub, 1) := by decide +kernel
theorem dL_code_49 : decode cL_code 49 = .ok (.istore 4, 2) := by decide +kernel
theorem dL_code_51 : decode cL_code 51 = .ok (.iload 5, 2) := by decide +kernel
theorem dL_code_53 : decode cL_code 53 = .ok (.iload 4, 2) := by decide +kernel
theorem dL_code_55 : decode cL_code 55 = .ok (.iload_n 3, 1) := by decide +kernel
theorem dL_code_56 : decode cL_code 56 = .ok (.iconst 2, 1) := by decide +kernel
theorem dL_code_57 : decode cL_code 57 = .ok (.idiv, 1) := by decide +kernel
theorem dL_code_58 : decode cL_code 58 = .ok (.if_icmp .lt 7, 3) := by decide +kernel
theorem dL_code_61 : decode cL_code 61 = .ok (.iconst 2, 1) := by decide +kernel
theorem dL_code_62 : decode cL_code 62 = .ok (.goto 4, 3) := by decide +kernel
theorem dL_code_65 : decode cL_code 65 = .ok (.iconst 0, 1) := by decide +kernel
theorem dL_code_66 : decode cL_code 66 = .ok (.iadd, 1) := by decide +kernel
theorem dL_code_67 : decode cL_code 67 = .ok (.istore 5, 2) := by decide +kernel
theorem dL_code_69 : decode cL_code 69 = .ok (.iload 4, 2) := by decide +kernel
theorem dL_code_71 : decode cL_code 71 = .ok (.iload 4, 2) := by decide +kernel
theorem dL_code_73 : decode cL_code 73 = .ok (.iload_n 3, 1) := by decide +kernel
theorem dL_code_74 : decode cL_code 74 = .ok (.iconst 2, 1) := by decide +kernel
theorem dL_code_75 : decode cL_code 75 = .ok (.idiv, 1) := by decide +kernel
theorem dL_code_76 : decode cL_code 76 = .ok (.if_icmp .lt 9, 3) := by decide +kernel
theorem dL_code_79 : decode cL_code 79 = .ok (.iload_n 3, 1) := by decide +kernel
theorem dL_code_80 : decode cL_code 80 = .ok (.iconst 2, 1) := by decide +kernel
theorem dL_code_81 : decode cL_code 81 = .ok (.idiv, 1) := by decide +kernel
theorem dL_code_82 : decode cL_code 82 = .ok (.goto 4, 3) := by decide +kernel
theorem dL_code_85 : decode cL_code 85 = .ok (.iconst 0, 1) := by decide +kernel
theorem dL_code_86 : decode cL_code 86 = .ok (.isub, 1) := by decide +kernel
theorem dL_code_87 : decode cL_code 87 = .ok (.istore 4, 2) := by decide +kernel
theorem dL_code_89 : decode cL_code 89 = .ok (.iload 5, 2) := by decide +kernel
theorem dL_code_91 : decode cL_code 91 = .ok (.iload 4, 2) := by decide +kernel
theorem dL_code_93 : decode cL_code 93 = .ok (.iload_n 3, 1) := by decide +kernel
theorem dL_code_94 : decode cL_code 94 = .ok (.iconst 4, 1) := by decide +kernel
theorem dL_code_95 : decode cL_code 95 = .ok (.idiv, 1) := by decide +kernel
theorem dL_code_96 : decode cL_code 96 = .ok (.if_icmp .lt 7, 3) := by decide +kernel
theorem dL_code_99 : decode cL_code 99 = .ok (.iconst 1, 1) := by decide +kernel
theorem dL_code_100 : decode cL_code 100 = .ok (.goto 4, 3) := by decide +kernel
theorem dL_code_103 : decode cL_code 103 = .ok (.iconst 0, 1) := by decide +kernel
theorem dL_code_104 : decode cL_code 104 = .ok (.iadd, 1) := by decide +kernel
theorem dL_code_105 : decode cL_code 105 = .ok (.istore 5, 2) := by decide +kernel
theorem dL_code_107 : decode cL_code 107 = .ok (.iload_n 0, 1) := by decide +kernel
theorem dL_code_108 : decode cL_code 108 = .ok (.iload_n 1, 1) := by decide +kernel
theorem dL_code_109 : decode cL_code 109 = .ok (.if_icmp .ge 11, 3) := by decide +kernel
theorem dL_code_112 : decode cL_code 112 = .ok (.bipush 8, 2) := by decide +kernel
theorem dL_code_114 : decode cL_code 114 = .ok (.iload 5, 2) := by decide +kernel
theorem dL_code_116 : decode cL_code 116 = .ok (.iadd, 1) := by decide +kernel
theorem dL_code_117 : decode cL_code 117 = .ok (.goto 5, 3) := by decide +kernel
theorem dL_code_120 : decode cL_code 120 = .ok (.iload 5, 2) := by decide +kernel
theorem dL_code_122 : decode cL_code 122 = .ok (.ireturn, 1) := by decide +kernel
theorem dL_guess_0 : decode cL_guess 0 = .ok (.iload_n 1, 1) := by decide +kernel
theorem dL_guess_1 : decode cL_guess 1 = .ok (.invokestatic 9, 3) := by decide +kernel
theorem dL_guess_4 : decode cL_guess 4 = .ok (.istore_n 3, 1) := by decide +kernel
theorem dL_guess_5 : decode cL_guess 5 = .ok (.iload_n 3, 1) := by decide +kernel
theorem dL_guess_6 : decode cL_guess 6 = .ok (.bipush 8, 2) := by decide +kernel
theorem dL_guess_8 : decode cL_guess 8 = .ok (.idiv, 1) := by decide +kernel
theorem dL_guess_9 : decode cL_guess 9 = .ok (.iload_n 2, 1) := by decide +kernel
theorem dL_guess_10 : decode cL_guess 10 = .ok (.iconst 2, 1) := by decide +kernel
theorem dL_guess_11 : decode cL_guess 11 = .ok (.ishr, 1) := by decide +kernel
theorem dL_guess_12 : decode cL_guess 12 = .ok (.iconst 1, 1) := by decide +kernel
theorem dL_guess_13 : decode cL_guess 13 = .ok (.iand, 1) := by decide +kernel
theorem dL_guess_14 : decode cL_guess 14 = .ok (.iload_n 3, 1) := by decide +kernel
theorem dL_guess_15 : decode cL_guess 15 = .ok (.imul, 1) := by decide +kernel
theorem dL_guess_16 : decode cL_guess 16 = .ok (.iadd, 1) := by decide +kernel
theorem dL_guess_17 : decode cL_guess 17 = .ok (.iload_n 2, 1) := by decide +kernel
theorem dL_guess_18 : decode cL_guess 18 = .ok (.iconst 1, 1) := by decide +kernel
theorem dL_guess_19 : decode cL_guess 19 = .ok (.ishr, 1) := by decide +kernel
theorem dL_guess_20 : decode cL_guess 20 = .ok (.iconst 1, 1) := by decide +kernel
theorem dL_guess_21 : decode cL_guess 21 = .ok (.iand, 1) := by decide +kernel
theorem dL_guess_22 : decode cL_guess 22 = .ok (.iload_n 3, 1) := by decide +kernel
theorem dL_guess_23 : decode cL_guess 23 = .ok (.iconst 2, 1) := by decide +kernel
theorem dL_guess_24 : decode cL_guess 24 = .ok (.idiv, 1) := by decide +kernel
theorem dL_guess_25 : decode cL_guess 25 = .ok (.imul, 1) := by decide +kernel
theorem dL_guess_26 : decode cL_guess 26 = .ok (.iadd, 1) := by decide +kernel
theorem dL_guess_27 : decode cL_guess 27 = .ok (.iload_n 2, 1) := by decide +kernel
theorem dL_guess_28 : decode cL_guess 28 = .ok (.iconst 1, 1) := by decide +kernel
theorem dL_guess_29 : decode cL_guess 29 = .ok (.iand, 1) := by decide +kernel
theorem dL_guess_30 : decode cL_guess 30 = .ok (.iload_n 3, 1) := by decide +kernel
theorem dL_guess_31 : decode cL_guess 31 = .ok (.iconst 4, 1) := by decide +kernel
theorem dL_guess_32 : decode cL_guess 32 = .ok (.idiv, 1) := by decide +kernel
theorem dL_guess_33 : decode cL_guess 33 = .ok (.imul, 1) := by decide +kernel
theorem dL_guess_34 : decode cL_guess 34 = .ok (.iadd, 1) := by decide +kernel
theorem dL_guess_35 : decode cL_guess 35 = .ok (.istore 4, 2) := by decide +kernel
theorem dL_guess_37 : decode cL_guess 37 = .ok (.iload_n 2, 1) := by decide +kernel
theorem dL_guess_38 : decode cL_guess 38 = .ok (.bipush 7, 2) := by decide +kernel
theorem dL_guess_40 : decode cL_guess 40 = .ok (.if_icmp .le 10, 3) := by decide +kernel
theorem dL_guess_43 : decode cL_guess 43 = .ok (.iload_n 0, 1) := by decide +kernel
theorem dL_guess_44 : decode cL_guess 44 = .ok (.iload 4, 2) := by decide +kernel
theorem dL_guess_46 : decode cL_guess 46 = .ok (.isub, 1) := by decide +kernel
theorem dL_guess_47 : decode cL_guess 47 = .ok (.goto 7, 3) := by decide +kernel
theorem dL_guess_50 : decode cL_guess 50 = .ok (.iload_n 0, 1) := by decide +kernel
theorem dL_guess_51 : decode cL_guess 51 = .ok (.iload 4, 2) := by decide +kernel
theorem dL_guess_53 : decode cL_guess 53 = .ok (.iadd, 1) := by decide +kernel
theorem dL_guess_54 : decode cL_guess 54 = .ok (.istore 5, 2) := by decide +kernel
theorem dL_guess_56 : decode cL_guess 56 = .ok (.iload 5, 2) := by decide +kernel
theorem dL_guess_58 : decode cL_guess 58 = .ok (.sipush (-2000), 3) := by decide +kernel
theorem dL_guess_61 : decode cL_guess 61 = .ok (.if_icmp .ge 9, 3) := by decide +kernel
theorem dL_guess_64 : decode cL_guess 64 = .ok (.sipush (-2000), 3) := by decide +kernel
theorem dL_guess_67 : decode cL_guess 67 = .ok (.goto 19, 3) := by decide +kernel
theorem dL_guess_70 : decode cL_guess 70 = .ok (.iload 5, 2) := by decide +kernel
theorem dL_guess_72 : decode cL_guess 72 = .ok (.sipush 2000, 3) := by decide +kernel
theorem dL_guess_75 : decode cL_guess 75 = .ok (.if_icmp .le 9, 3) := by decide +kernel
theorem dL_guess_78 : decode cL_guess 78 = .ok (.sipush 2000, 3) := by decide +kernel
theorem dL_guess_81 : decode cL_guess 81 = .ok (.goto 5, 3) := by decide +kernel
theorem dL_guess_84 : decode cL_guess 84 = .ok (.iload 5, 2) := by decide +kernel
theorem dL_guess_86 : decode cL_guess 86 = .ok (.ireturn, 1) := by decide +kernel
theorem dL_index_0 : decode cL_index 0 = .ok (.iload_n 1, 1) := by decide +kernel
theorem dL_index_1 : decode cL_index 1 = .ok (.bipush 8, 2) := by decide +kernel
theorem dL_index_3 : decode cL_index 3 = .ok (.irem, 1) := by decide +kernel
theorem dL_index_4 : decode cL_index 4 = .ok (.istore_n 2, 1) := by decide +kernel
theorem dL_index_5 : decode cL_index 5 = .ok (.iload_n 0, 1) := by decide +kernel
theorem dL_index_6 : decode cL_index 6 = .ok (.iload_n 2, 1) := by decide +kernel
theorem dL_index_7 : decode cL_index 7 = .ok (.bipush 7, 2) := by decide +kernel
theorem dL_index_9 : decode cL_index 9 = .ok (.if_icmp .ne 8, 3) := by decide +kernel
theorem dL_index_12 : decode cL_index 12 = .ok (.bipush 8, 2) := by decide +kernel
theorem dL_index_14 : decode cL_index 14 = .ok (.goto 33, 3) := by decide +kernel
theorem dL_index_17 : decode cL_index 17 = .ok (.iload_n 2, 1) := by decide +kernel
theorem dL_index_18 : decode cL_index 18 = .ok (.bipush 6, 2) := by decide +kernel
theorem dL_index_20 : decode cL_index 20 = .ok (.if_icmp .ne 8, 3) := by decide +kernel
theorem dL_index_23 : decode cL_index 23 = .ok (.bipush 6, 2) := by decide +kernel
theorem dL_index_25 : decode cL_index 25 = .ok (.goto 22, 3) := by decide +kernel
theorem dL_index_28 : decode cL_index 28 = .ok (.iload_n 2, 1) := by decide +kernel
theorem dL_index_29 : decode cL_index 29 = .ok (.iconst 5, 1) := by decide +kernel
theorem dL_index_30 : decode cL_index 30 = .ok (.if_icmp .ne 7, 3) := by decide +kernel
theorem dL_index_33 : decode cL_index 33 = .ok (.iconst 4, 1) := by decide +kernel
theorem dL_index_34 : decode cL_index 34 = .ok (.goto 13, 3) := by decide +kernel
theorem dL_index_37 : decode cL_index 37 = .ok (.iload_n 2, 1) := by decide +kernel
theorem dL_index_38 : decode cL_index 38 = .ok (.iconst 4, 1) := by decide +kernel
theorem dL_index_39 : decode cL_index 39 = .ok (.if_icmp .ne 7, 3) := by decide +kernel
theorem dL_index_42 : decode cL_index 42 = .ok (.iconst 2, 1) := by decide +kernel
theorem dL_index_43 : decode cL_index 43 = .ok (.goto 4, 3) := by decide +kernel
theorem dL_index_46 : decode cL_index 46 = .ok (.iconst (-1), 1) := by decide +kernel
theorem dL_index_47 : decode cL_index 47 = .ok (.iadd, 1) := by decide +kernel
theorem dL_index_48 : decode cL_index 48 = .ok (.istore_n 3, 1) := by decide +kernel
theorem dL_index_49 : decode cL_index 49 = .ok (.iload_n 3, 1) := by decide +kernel
theorem dL_index_50 : decode cL_index 50 = .ok (.ifCond .ge 7, 3) := by decide +kernel
theorem dL_index_53 : decode cL_index 53 = .ok (.iconst 0, 1) := by decide +kernel
theorem dL_index_54 : decode cL_index 54 = .ok (.goto 15, 3) := by decide +kernel
theorem dL_index_57 : decode cL_index 57 = .ok (.iload_n 3, 1) := by decide +kernel
theorem dL_index_58 : decode cL_index 58 = .ok (.bipush 24, 2) := by decide +kernel
theorem dL_index_60 : decode cL_index 60 = .ok (.if_icmp .le 8, 3) := by decide +kernel
theorem dL_index_63 : decode cL_index 63 = .ok (.bipush 24, 2) := by decide +kernel
theorem dL_index_65 : decode cL_index 65 = .ok (.goto 4, 3) := by decide +kernel
theorem dL_index_68 : decode cL_index 68 = .ok (.iload_n 3, 1) := by decide +kernel
theorem dL_index_69 : decode cL_index 69 = .ok (.ireturn, 1) := by decide +kernel
theorem dL_size_0 : decode cL_size 0 = .ok (.iload_n 0, 1) := by decide +kernel
theorem dL_size_1 : decode cL_size 1 = .ok (.ifCond .ge 8, 3) := by decide +kernel
theorem dL_size_4 : decode cL_size 4 = .ok (.iload_n 0, 1) := by decide +kernel
theorem dL_size_5 : decode cL_size 5 = .ok (.ineg, 1) := by decide +kernel
theorem dL_size_6 : decode cL_size 6 = .ok (.goto 4, 3) := by decide +kernel
theorem dL_size_9 : decode cL_size 9 = .ok (.iload_n 0, 1) := by decide +kernel
theorem dL_size_10 : decode cL_size 10 = .ok (.ireturn, 1) := by decide +kernel
theorem dL_follows_0 : decode cL_follows 0 = .ok (.aload_n 0, 1) := by decide +kernel
theorem dL_follows_1 : decode cL_follows 1 = .ok (.iload_n 1, 1) := by decide +kernel
theorem dL_follows_2 : decode cL_follows 2 = .ok (.iaload, 1) := by decide +kernel
theorem dL_follows_3 : decode cL_follows 3 = .ok (.aload_n 0, 1) := by decide +kernel
theorem dL_follows_4 : decode cL_follows 4 = .ok (.iload_n 1, 1) := by decide +kernel
theorem dL_follows_5 : decode cL_follows 5 = .ok (.iconst 1, 1) := by decide +kernel
theorem dL_follows_6 : decode cL_follows 6 = .ok (.iadd, 1) := by decide +kernel
theorem dL_follows_7 : decode cL_follows 7 = .ok (.iaload, 1) := by decide +kernel
theorem dL_follows_8 : decode cL_follows 8 = .ok (.iload_n 2, 1) := by decide +kernel
theorem dL_follows_9 : decode cL_follows 9 = .ok (.invokestatic 15, 3) := by decide +kernel
theorem dL_follows_12 : decode cL_follows 12 = .ok (.istore_n 3, 1) := by decide +kernel
theorem dL_follows_13 : decode cL_follows 13 = .ok (.aload_n 0, 1) := by decide +kernel
theorem dL_follows_14 : decode cL_follows 14 = .ok (.iload_n 1, 1) := by decide +kernel
theorem dL_follows_15 : decode cL_follows 15 = .ok (.iconst 1, 1) := by decide +kernel
theorem dL_follows_16 : decode cL_follows 16 = .ok (.iadd, 1) := by decide +kernel
theorem dL_follows_17 : decode cL_follows 17 = .ok (.aload_n 0, 1) := by decide +kernel
theorem dL_follows_18 : decode cL_follows 18 = .ok (.iload_n 1, 1) := by decide +kernel
theorem dL_follows_19 : decode cL_follows 19 = .ok (.iconst 1, 1) := by decide +kernel
theorem dL_follows_20 : decode cL_follows 20 = .ok (.iadd, 1) := by decide +kernel
theorem dL_follows_21 : decode cL_follows 21 = .ok (.iaload, 1) := by decide +kernel
theorem dL_follows_22 : decode cL_follows 22 = .ok (.iload_n 2, 1) := by decide +kernel
theorem dL_follows_23 : decode cL_follows 23 = .ok (.invokestatic 19, 3) := by decide +kernel
theorem dL_follows_26 : decode cL_follows 26 = .ok (.iastore, 1) := by decide +kernel
theorem dL_follows_27 : decode cL_follows 27 = .ok (.aload_n 0, 1) := by decide +kernel
theorem dL_follows_28 : decode cL_follows 28 = .ok (.iload_n 1, 1) := by decide +kernel
theorem dL_follows_29 : decode cL_follows 29 = .ok (.iload_n 3, 1) := by decide +kernel
theorem dL_follows_30 : decode cL_follows 30 = .ok (.iastore, 1) := by decide +kernel
theorem dL_follows_31 : decode cL_follows 31 = .ok (.return_, 1) := by decide +kernel
theorem dL_packs_0 : decode cL_packs 0 = .ok (.bipush 16, 2) := by decide +kernel
theorem dL_packs_2 : decode cL_packs 2 = .ok (.aload_n 0, 1) := by decide +kernel
theorem dL_packs_3 : decode cL_packs 3 = .ok (.bipush 20, 2) := by decide +kernel
theorem dL_packs_5 : decode cL_packs 5 = .ok (.iload 4, 2) := by decide +kernel
theorem dL_packs_7 : decode cL_packs 7 = .ok (.imul, 1) := by decide +kernel
theorem dL_packs_8 : decode cL_packs 8 = .ok (.bipush 19, 2) := by decide +kernel
theorem dL_packs_10 : decode cL_packs 10 = .ok (.iadd, 1) := by decide +kernel
theorem dL_packs_11 : decode cL_packs 11 = .ok (.iaload, 1) := by decide +kernel
theorem dL_packs_12 : decode cL_packs 12 = .ok (.imul, 1) := by decide +kernel
theorem dL_packs_13 : decode cL_packs 13 = .ok (.istore 5, 2) := by decide +kernel
theorem dL_packs_15 : decode cL_packs 15 = .ok (.aload_n 0, 1) := by decide +kernel
theorem dL_packs_16 : decode cL_packs 16 = .ok (.bipush 20, 2) := by decide +kernel
theorem dL_packs_18 : decode cL_packs 18 = .ok (.iload 4, 2) := by decide +kernel
theorem dL_packs_20 : decode cL_packs 20 = .ok (.imul, 1) := by decide +kernel
theorem dL_packs_21 : decode cL_packs 21 = .ok (.iconst 5, 1) := by decide +kernel
theorem dL_packs_22 : decode cL_packs 22 = .ok (.iadd, 1) := by decide +kernel
theorem dL_packs_23 : decode cL_packs 23 = .ok (.iaload, 1) := by decide +kernel
theorem dL_packs_24 : decode cL_packs 24 = .ok (.ifCond .eq 22, 3) := by decide +kernel
theorem dL_packs_27 : decode cL_packs 27 = .ok (.aload_n 0, 1) := by decide +kernel
theorem dL_packs_28 : decode cL_packs 28 = .ok (.bipush 20, 2) := by decide +kernel
theorem dL_packs_30 : decode cL_packs 30 = .ok (.iload 4, 2) := by decide +kernel
theorem dL_packs_32 : decode cL_packs 32 = .ok (.imul, 1) := by decide +kernel
theorem dL_packs_33 : decode cL_packs 33 = .ok (.bipush 7, 2) := by decide +kernel
theorem dL_packs_35 : decode cL_packs 35 = .ok (.iadd, 1) := by decide +kernel
theorem dL_packs_36 : decode cL_packs 36 = .ok (.iaload, 1) := by decide +kernel
theorem dL_packs_37 : decode cL_packs 37 = .ok (.iconst 1, 1) := by decide +kernel
theorem dL_packs_38 : decode cL_packs 38 = .ok (.iadd, 1) := by decide +kernel
theorem dL_packs_39 : decode cL_packs 39 = .ok (.aload_n 1, 1) := by decide +kernel
theorem dL_packs_40 : decode cL_packs 40 = .ok (.bipush 12, 2) := by decide +kernel
theorem dL_packs_42 : decode cL_packs 42 = .ok (.iaload, 1) := by decide +kernel
theorem dL_packs_43 : decode cL_packs 43 = .ok (.if_icmp .lt 7, 3) := by decide +kernel
theorem dL_packs_46 : decode cL_packs 46 = .ok (.iconst 1, 1) := by decide +kernel
theorem dL_packs_47 : decode cL_packs 47 = .ok (.goto 4, 3) := by decide +kernel
theorem dL_packs_50 : decode cL_packs 50 = .ok (.iconst 0, 1) := by decide +kernel
theorem dL_packs_51 : decode cL_packs 51 = .ok (.istore 6, 2) := by decide +kernel
theorem dL_packs_53 : decode cL_packs 53 = .ok (.aload_n 3, 1) := by decide +kernel
theorem dL_packs_54 : decode cL_packs 54 = .ok (.iload 5, 2) := by decide +kernel
theorem dL_packs_56 : decode cL_packs 56 = .ok (.aload_n 0, 1) := by decide +kernel
theorem dL_packs_57 : decode cL_packs 57 = .ok (.bipush 20, 2) := by decide +kernel
theorem dL_packs_59 : decode cL_packs 59 = .ok (.iload 4, 2) := by decide +kernel
theorem dL_packs_61 : decode cL_packs 61 = .ok (.imul, 1) := by decide +kernel
theorem dL_packs_62 : decode cL_packs 62 = .ok (.iconst 5, 1) := by decide +kernel
theorem dL_packs_63 : decode cL_packs 63 = .ok (.iadd, 1) := by decide +kernel
theorem dL_packs_64 : decode cL_packs 64 = .ok (.iaload, 1) := by decide +kernel
theorem dL_packs_65 : decode cL_packs 65 = .ok (.iastore, 1) := by decide +kernel
theorem dL_packs_66 : decode cL_packs 66 = .ok (.aload_n 3, 1) := by decide +kernel
theorem dL_packs_67 : decode cL_packs 67 = .ok (.iload 5, 2) := by decide +kernel
theorem dL_packs_69 : decode cL_packs 69 = .ok (.iconst 1, 1) := by decide +kernel
theorem dL_packs_70 : decode cL_packs 70 = .ok (.iadd, 1) := by decide +kernel
theorem dL_packs_71 : decode cL_packs 71 = .ok (.aload_n 0, 1) := by decide +kernel
theorem dL_packs_72 : decode cL_packs 72 = .ok (.bipush 20, 2) := by decide +kernel
theorem dL_packs_74 : decode cL_packs 74 = .ok (.iload 4, 2) := by decide +kernel
theorem dL_packs_76 : decode cL_packs 76 = .ok (.imul, 1) := by decide +kernel
theorem dL_packs_77 : decode cL_packs 77 = .ok (.iconst 4, 1) := by decide +kernel
theorem dL_packs_78 : decode cL_packs 78 = .ok (.iadd, 1) := by decide +kernel
theorem dL_packs_79 : decode cL_packs 79 = .ok (.iaload, 1) := by decide +kernel
theorem dL_packs_80 : decode cL_packs 80 = .ok (.iastore, 1) := by decide +kernel
theorem dL_packs_81 : decode cL_packs 81 = .ok (.aload_n 3, 1) := by decide +kernel
theorem dL_packs_82 : decode cL_packs 82 = .ok (.iload 5, 2) := by decide +kernel
theorem dL_packs_84 : decode cL_packs 84 = .ok (.iconst 2, 1) := by decide +kernel
theorem dL_packs_85 : decode cL_packs 85 = .ok (.iadd, 1) := by decide +kernel
theorem dL_packs_86 : decode cL_packs 86 = .ok (.iload 6, 2) := by decide +kernel
theorem dL_packs_88 : decode cL_packs 88 = .ok (.ifCond .eq 7, 3) := by decide +kernel
theorem dL_packs_91 : decode cL_packs 91 = .ok (.iconst 1, 1) := by decide +kernel
theorem dL_packs_92 : decode cL_packs 92 = .ok (.goto 4, 3) := by decide +kernel
theorem dL_packs_95 : decode cL_packs 95 = .ok (.iconst 0, 1) := by decide +kernel
theorem dL_packs_96 : decode cL_packs 96 = .ok (.iastore, 1) := by decide +kernel
theorem dL_packs_97 : decode cL_packs 97 = .ok (.aload_n 3, 1) := by decide +kernel
theorem dL_packs_98 : decode cL_packs 98 = .ok (.iload 5, 2) := by decide +kernel
theorem dL_packs_100 : decode cL_packs 100 = .ok (.iconst 3, 1) := by decide +kernel
theorem dL_packs_101 : decode cL_packs 101 = .ok (.iadd, 1) := by decide +kernel
theorem dL_packs_102 : decode cL_packs 102 = .ok (.iload 6, 2) := by decide +kernel
theorem dL_packs_104 : decode cL_packs 104 = .ok (.ifCond .eq 16, 3) := by decide +kernel
theorem dL_packs_107 : decode cL_packs 107 = .ok (.aload_n 0, 1) := by decide +kernel
theorem dL_packs_108 : decode cL_packs 108 = .ok (.bipush 20, 2) := by decide +kernel
theorem dL_packs_110 : decode cL_packs 110 = .ok (.iload 4, 2) := by decide +kernel
theorem dL_packs_112 : decode cL_packs 112 = .ok (.imul, 1) := by decide +kernel
theorem dL_packs_113 : decode cL_packs 113 = .ok (.bipush 8, 2) := by decide +kernel
theorem dL_packs_115 : decode cL_packs 115 = .ok (.iadd, 1) := by decide +kernel
theorem dL_packs_116 : decode cL_packs 116 = .ok (.iaload, 1) := by decide +kernel
theorem dL_packs_117 : decode cL_packs 117 = .ok (.goto 6, 3) := by decide +kernel
theorem dL_packs_120 : decode cL_packs 120 = .ok (.sipush (-10000), 3) := by decide +kernel
theorem dL_packs_123 : decode cL_packs 123 = .ok (.iastore, 1) := by decide +kernel
theorem dL_packs_124 : decode cL_packs 124 = .ok (.aload_n 3, 1) := by decide +kernel
theorem dL_packs_125 : decode cL_packs 125 = .ok (.iload 5, 2) := by decide +kernel
theorem dL_packs_127 : decode cL_packs 127 = .ok (.iconst 4, 1) := by decide +kernel
theorem dL_packs_128 : decode cL_packs 128 = .ok (.iadd, 1) := by decide +kernel
theorem dL_packs_129 : decode cL_packs 129 = .ok (.iload 6, 2) := by decide +kernel
theorem dL_packs_131 : decode cL_packs 131 = .ok (.ifCond .eq 16, 3) := by decide +kernel
theorem dL_packs_134 : decode cL_packs 134 = .ok (.aload_n 0, 1) := by decide +kernel
theorem dL_packs_135 : decode cL_packs 135 = .ok (.bipush 20, 2) := by decide +kernel
theorem dL_packs_137 : decode cL_packs 137 = .ok (.iload 4, 2) := by decide +kernel
theorem dL_packs_139 : decode cL_packs 139 = .ok (.imul, 1) := by decide +kernel
theorem dL_packs_140 : decode cL_packs 140 = .ok (.bipush 9, 2) := by decide +kernel
theorem dL_packs_142 : decode cL_packs 142 = .ok (.iadd, 1) := by decide +kernel
theorem dL_packs_143 : decode cL_packs 143 = .ok (.iaload, 1) := by decide +kernel
theorem dL_packs_144 : decode cL_packs 144 = .ok (.goto 6, 3) := by decide +kernel
theorem dL_packs_147 : decode cL_packs 147 = .ok (.sipush (-10000), 3) := by decide +kernel
theorem dL_packs_150 : decode cL_packs 150 = .ok (.iastore, 1) := by decide +kernel
theorem dL_packs_151 : decode cL_packs 151 = .ok (.iconst 0, 1) := by decide +kernel
theorem dL_packs_152 : decode cL_packs 152 = .ok (.istore 7, 2) := by decide +kernel
theorem dL_packs_154 : decode cL_packs 154 = .ok (.iload 7, 2) := by decide +kernel
theorem dL_packs_156 : decode cL_packs 156 = .ok (.bipush 8, 2) := by decide +kernel
theorem dL_packs_158 : decode cL_packs 158 = .ok (.if_icmp .ge 28, 3) := by decide +kernel
theorem dL_packs_161 : decode cL_packs 161 = .ok (.aload_n 3, 1) := by decide +kernel
theorem dL_packs_162 : decode cL_packs 162 = .ok (.iload 5, 2) := by decide +kernel
theorem dL_packs_164 : decode cL_packs 164 = .ok (.iconst 5, 1) := by decide +kernel
theorem dL_packs_165 : decode cL_packs 165 = .ok (.iadd, 1) := by decide +kernel
theorem dL_packs_166 : decode cL_packs 166 = .ok (.iload 7, 2) := by decide +kernel
theorem dL_packs_168 : decode cL_packs 168 = .ok (.iadd, 1) := by decide +kernel
theorem dL_packs_169 : decode cL_packs 169 = .ok (.aload_n 2, 1) := by decide +kernel
theorem dL_packs_170 : decode cL_packs 170 = .ok (.bipush 8, 2) := by decide +kernel
theorem dL_packs_172 : decode cL_packs 172 = .ok (.iload 4, 2) := by decide +kernel
theorem dL_packs_174 : decode cL_packs 174 = .ok (.imul, 1) := by decide +kernel
theorem dL_packs_175 : decode cL_packs 175 = .ok (.iload 7, 2) := by decide +kernel
theorem dL_packs_177 : decode cL_packs 177 = .ok (.iadd, 1) := by decide +kernel
theorem dL_packs_178 : decode cL_packs 178 = .ok (.iaload, 1) := by decide +kernel
theorem dL_packs_179 : decode cL_packs 179 = .ok (.iastore, 1) := by decide +kernel
theorem dL_packs_180 : decode cL_packs 180 = .ok (.iinc 7 1, 3) := by decide +kernel
theorem dL_packs_183 : decode cL_packs 183 = .ok (.goto (-29), 3) := by decide +kernel
theorem dL_packs_186 : decode cL_packs 186 = .ok (.aload_n 0, 1) := by decide +kernel
theorem dL_packs_187 : decode cL_packs 187 = .ok (.bipush 20, 2) := by decide +kernel
theorem dL_packs_189 : decode cL_packs 189 = .ok (.iload 4, 2) := by decide +kernel
theorem dL_packs_191 : decode cL_packs 191 = .ok (.imul, 1) := by decide +kernel
theorem dL_packs_192 : decode cL_packs 192 = .ok (.bipush 7, 2) := by decide +kernel
theorem dL_packs_194 : decode cL_packs 194 = .ok (.iadd, 1) := by decide +kernel
theorem dL_packs_195 : decode cL_packs 195 = .ok (.iload 6, 2) := by decide +kernel
theorem dL_packs_197 : decode cL_packs 197 = .ok (.ifCond .eq 7, 3) := by decide +kernel
theorem dL_packs_200 : decode cL_packs 200 = .ok (.iconst 0, 1) := by decide +kernel
theorem dL_packs_201 : decode cL_packs 201 = .ok (.goto 15, 3) := by decide +kernel
theorem dL_packs_204 : decode cL_packs 204 = .ok (.aload_n 0, 1) := by decide +kernel
theorem dL_packs_205 : decode cL_packs 205 = .ok (.bipush 20, 2) := by decide +kernel
theorem dL_packs_207 : decode cL_packs 207 = .ok (.iload 4, 2) := by decide +kernel
theorem dL_packs_209 : decode cL_packs 209 = .ok (.imul, 1) := by decide +kernel
theorem dL_packs_210 : decode cL_packs 210 = .ok (.bipush 7, 2) := by decide +kernel
theorem dL_packs_212 : decode cL_packs 212 = .ok (.iadd, 1) := by decide +kernel
theorem dL_packs_213 : decode cL_packs 213 = .ok (.iaload, 1) := by decide +kernel
theorem dL_packs_214 : decode cL_packs 214 = .ok (.iconst 1, 1) := by decide +kernel
theorem dL_packs_215 : decode cL_packs 215 = .ok (.iadd, 1) := by decide +kernel
theorem dL_packs_216 : decode cL_packs 216 = .ok (.iastore, 1) := by decide +kernel
theorem dL_packs_217 : decode cL_packs 217 = .ok (.aload_n 0, 1) := by decide +kernel
theorem dL_packs_218 : decode cL_packs 218 = .ok (.bipush 20, 2) := by decide +kernel
theorem dL_packs_220 : decode cL_packs 220 = .ok (.iload 4, 2) := by decide +kernel
theorem dL_packs_222 : decode cL_packs 222 = .ok (.imul, 1) := by decide +kernel
theorem dL_packs_223 : decode cL_packs 223 = .ok (.iconst 4, 1) := by decide +kernel
theorem dL_packs_224 : decode cL_packs 224 = .ok (.iadd, 1) := by decide +kernel
theorem dL_packs_225 : decode cL_packs 225 = .ok (.iconst 0, 1) := by decide +kernel
theorem dL_packs_226 : decode cL_packs 226 = .ok (.iastore, 1) := by decide +kernel
theorem dL_packs_227 : decode cL_packs 227 = .ok (.aload_n 0, 1) := by decide +kernel
theorem dL_packs_228 : decode cL_packs 228 = .ok (.bipush 20, 2) := by decide +kernel
theorem dL_packs_230 : decode cL_packs 230 = .ok (.iload 4, 2) := by decide +kernel
theorem dL_packs_232 : decode cL_packs 232 = .ok (.imul, 1) := by decide +kernel
theorem dL_packs_233 : decode cL_packs 233 = .ok (.iconst 5, 1) := by decide +kernel
theorem dL_packs_234 : decode cL_packs 234 = .ok (.iadd, 1) := by decide +kernel
theorem dL_packs_235 : decode cL_packs 235 = .ok (.dup2, 1) := by decide +kernel
theorem dL_packs_236 : decode cL_packs 236 = .ok (.iaload, 1) := by decide +kernel
theorem dL_packs_237 : decode cL_packs 237 = .ok (.iconst 1, 1) := by decide +kernel
theorem dL_packs_238 : decode cL_packs 238 = .ok (.iadd, 1) := by decide +kernel
theorem dL_packs_239 : decode cL_packs 239 = .ok (.iastore, 1) := by decide +kernel
theorem dL_packs_240 : decode cL_packs 240 = .ok (.aload_n 0, 1) := by decide +kernel
theorem dL_packs_241 : decode cL_packs 241 = .ok (.bipush 20, 2) := by decide +kernel
theorem dL_packs_243 : decode cL_packs 243 = .ok (.iload 4, 2) := by decide +kernel
theorem dL_packs_245 : decode cL_packs 245 = .ok (.imul, 1) := by decide +kernel
theorem dL_packs_246 : decode cL_packs 246 = .ok (.bipush 19, 2) := by decide +kernel
theorem dL_packs_248 : decode cL_packs 248 = .ok (.iadd, 1) := by decide +kernel
theorem dL_packs_249 : decode cL_packs 249 = .ok (.dup2, 1) := by decide +kernel
theorem dL_packs_250 : decode cL_packs 250 = .ok (.iaload, 1) := by decide +kernel
theorem dL_packs_251 : decode cL_packs 251 = .ok (.iconst 1, 1) := by decide +kernel
theorem dL_packs_252 : decode cL_packs 252 = .ok (.iadd, 1) := by decide +kernel
theorem dL_packs_253 : decode cL_packs 253 = .ok (.iastore, 1) := by decide +kernel
theorem dL_packs_254 : decode cL_packs 254 = .ok (.return_, 1) := by decide +kernel
theorem dL_says_0 : decode cL_says 0 = .ok (.bipush 20, 2) := by decide +kernel
theorem dL_says_2 : decode cL_says 2 = .ok (.iload 4, 2) := by decide +kernel
theorem dL_says_4 : decode cL_says 4 = .ok (.imul, 1) := by decide +kernel
theorem dL_says_5 : decode cL_says 5 = .ok (.istore 6, 2) := by decide +kernel
theorem dL_says_7 : decode cL_says 7 = .ok (.aload_n 0, 1) := by decide +kernel
theorem dL_says_8 : decode cL_says 8 = .ok (.iload 6, 2) := by decide +kernel
theorem dL_says_10 : decode cL_says 10 = .ok (.iconst 2, 1) := by decide +kernel
theorem dL_says_11 : decode cL_says 11 = .ok (.iadd, 1) := by decide +kernel
theorem dL_says_12 : decode cL_says 12 = .ok (.dup2, 1) := by decide +kernel
theorem dL_says_13 : decode cL_says 13 = .ok (.iaload, 1) := by decide +kernel
theorem dL_says_14 : decode cL_says 14 = .ok (.iconst 1, 1) := by decide +kernel
theorem dL_says_15 : decode cL_says 15 = .ok (.iadd, 1) := by decide +kernel
theorem dL_says_16 : decode cL_says 16 = .ok (.iastore, 1) := by decide +kernel
theorem dL_says_17 : decode cL_says 17 = .ok (.aload_n 0, 1) := by decide +kernel
theorem dL_says_18 : decode cL_says 18 = .ok (.iload 6, 2) := by decide +kernel
theorem dL_says_20 : decode cL_says 20 = .ok (.iconst 3, 1) := by decide +kernel
theorem dL_says_21 : decode cL_says 21 = .ok (.iadd, 1) := by decide +kernel
theorem dL_says_22 : decode cL_says 22 = .ok (.dup2, 1) := by decide +kernel
theorem dL_says_23 : decode cL_says 23 = .ok (.iaload, 1) := by decide +kernel
theorem dL_says_24 : decode cL_says 24 = .ok (.iload 5, 2) := by decide +kernel
theorem dL_says_26 : decode cL_says 26 = .ok (.iadd, 1) := by decide +kernel
theorem dL_says_27 : decode cL_says 27 = .ok (.iastore, 1) := by decide +kernel
theorem dL_says_28 : decode cL_says 28 = .ok (.aload_n 1, 1) := by decide +kernel
theorem dL_says_29 : decode cL_says 29 = .ok (.bipush 13, 2) := by decide +kernel
theorem dL_says_31 : decode cL_says 31 = .ok (.dup2, 1) := by decide +kernel
theorem dL_says_32 : decode cL_says 32 = .ok (.iaload, 1) := by decide +kernel
theorem dL_says_33 : decode cL_says 33 = .ok (.iconst 1, 1) := by decide +kernel
theorem dL_says_34 : decode cL_says 34 = .ok (.iadd, 1) := by decide +kernel
theorem dL_says_35 : decode cL_says 35 = .ok (.iastore, 1) := by decide +kernel
theorem dL_says_36 : decode cL_says 36 = .ok (.aload_n 0, 1) := by decide +kernel
theorem dL_says_37 : decode cL_says 37 = .ok (.iload 6, 2) := by decide +kernel
theorem dL_says_39 : decode cL_says 39 = .ok (.iconst 2, 1) := by decide +kernel
theorem dL_says_40 : decode cL_says 40 = .ok (.iadd, 1) := by decide +kernel
theorem dL_says_41 : decode cL_says 41 = .ok (.iaload, 1) := by decide +kernel
theorem dL_says_42 : decode cL_says 42 = .ok (.aload_n 1, 1) := by decide +kernel
theorem dL_says_43 : decode cL_says 43 = .ok (.bipush 9, 2) := by decide +kernel
theorem dL_says_45 : decode cL_says 45 = .ok (.iaload, 1) := by decide +kernel
theorem dL_says_46 : decode cL_says 46 = .ok (.if_icmp .ge 29, 3) := by decide +kernel
theorem dL_says_49 : decode cL_says 49 = .ok (.aload_n 0, 1) := by decide +kernel
theorem dL_says_50 : decode cL_says 50 = .ok (.iload 6, 2) := by decide +kernel
theorem dL_says_52 : decode cL_says 52 = .ok (.iconst 4, 1) := by decide +kernel
theorem dL_says_53 : decode cL_says 53 = .ok (.iadd, 1) := by decide +kernel
theorem dL_says_54 : decode cL_says 54 = .ok (.iaload, 1) := by decide +kernel
theorem dL_says_55 : decode cL_says 55 = .ok (.aload_n 1, 1) := by decide +kernel
theorem dL_says_56 : decode cL_says 56 = .ok (.bipush 11, 2) := by decide +kernel
theorem dL_says_58 : decode cL_says 58 = .ok (.iaload, 1) := by decide +kernel
theorem dL_says_59 : decode cL_says 59 = .ok (.if_icmp .lt 12, 3) := by decide +kernel
theorem dL_says_62 : decode cL_says 62 = .ok (.aload_n 0, 1) := by decide +kernel
theorem dL_says_63 : decode cL_says 63 = .ok (.aload_n 1, 1) := by decide +kernel
theorem dL_says_64 : decode cL_says 64 = .ok (.aload_n 2, 1) := by decide +kernel
theorem dL_says_65 : decode cL_says 65 = .ok (.aload_n 3, 1) := by decide +kernel
theorem dL_says_66 : decode cL_says 66 = .ok (.iload 4, 2) := by decide +kernel
theorem dL_says_68 : decode cL_says 68 = .ok (.invokestatic 23, 3) := by decide +kernel
theorem dL_says_71 : decode cL_says 71 = .ok (.sipush (-10000), 3) := by decide +kernel
theorem dL_says_74 : decode cL_says 74 = .ok (.ireturn, 1) := by decide +kernel
theorem dL_says_75 : decode cL_says 75 = .ok (.aload_n 0, 1) := by decide +kernel
theorem dL_says_76 : decode cL_says 76 = .ok (.iload 6, 2) := by decide +kernel
theorem dL_says_78 : decode cL_says 78 = .ok (.iconst 3, 1) := by decide +kernel
theorem dL_says_79 : decode cL_says 79 = .ok (.iadd, 1) := by decide +kernel
theorem dL_says_80 : decode cL_says 80 = .ok (.iaload, 1) := by decide +kernel
theorem dL_says_81 : decode cL_says 81 = .ok (.aload_n 0, 1) := by decide +kernel
theorem dL_says_82 : decode cL_says 82 = .ok (.iload 6, 2) := by decide +kernel
theorem dL_says_84 : decode cL_says 84 = .ok (.iconst 2, 1) := by decide +kernel
theorem dL_says_85 : decode cL_says 85 = .ok (.iadd, 1) := by decide +kernel
theorem dL_says_86 : decode cL_says 86 = .ok (.iaload, 1) := by decide +kernel
theorem dL_says_87 : decode cL_says 87 = .ok (.idiv, 1) := by decide +kernel
theorem dL_says_88 : decode cL_says 88 = .ok (.istore 7, 2) := by decide +kernel
theorem dL_says_90 : decode cL_says 90 = .ok (.iload 7, 2) := by decide +kernel
theorem dL_says_92 : decode cL_says 92 = .ok (.aload_n 1, 1) := by decide +kernel
theorem dL_says_93 : decode cL_says 93 = .ok (.bipush 10, 2) := by decide +kernel
theorem dL_says_95 : decode cL_says 95 = .ok (.iaload, 1) := by decide +kernel
theorem dL_says_96 : decode cL_says 96 = .ok (.if_icmp .ge 17, 3) := by decide +kernel
theorem dL_says_99 : decode cL_says 99 = .ok (.iload 7, 2) := by decide +kernel
theorem dL_says_101 : decode cL_says 101 = .ok (.ineg, 1) := by decide +kernel
theorem dL_says_102 : decode cL_says 102 = .ok (.aload_n 1, 1) := by decide +kernel
theorem dL_says_103 : decode cL_says 103 = .ok (.bipush 10, 2) := by decide +kernel
theorem dL_says_105 : decode cL_says 105 = .ok (.iaload, 1) := by decide +kernel
theorem dL_says_106 : decode cL_says 106 = .ok (.if_icmp .ge 7, 3) := by decide +kernel
theorem dL_says_109 : decode cL_says 109 = .ok (.iconst 0, 1) := by decide +kernel
theorem dL_says_110 : decode cL_says 110 = .ok (.goto 5, 3) := by decide +kernel
theorem dL_says_113 : decode cL_says 113 = .ok (.iload 7, 2) := by decide +kernel
theorem dL_says_115 : decode cL_says 115 = .ok (.istore 7, 2) := by decide +kernel
theorem dL_says_117 : decode cL_says 117 = .ok (.aload_n 0, 1) := by decide +kernel
theorem dL_says_118 : decode cL_says 118 = .ok (.iload 6, 2) := by decide +kernel
theorem dL_says_120 : decode cL_says 120 = .ok (.iconst 2, 1) := by decide +kernel
theorem dL_says_121 : decode cL_says 121 = .ok (.iadd, 1) := by decide +kernel
theorem dL_says_122 : decode cL_says 122 = .ok (.iconst 0, 1) := by decide +kernel
theorem dL_says_123 : decode cL_says 123 = .ok (.iastore, 1) := by decide +kernel
theorem dL_says_124 : decode cL_says 124 = .ok (.aload_n 0, 1) := by decide +kernel
theorem dL_says_125 : decode cL_says 125 = .ok (.iload 6, 2) := by decide +kernel
theorem dL_says_127 : decode cL_says 127 = .ok (.iconst 3, 1) := by decide +kernel
theorem dL_says_128 : decode cL_says 128 = .ok (.iadd, 1) := by decide +kernel
theorem dL_says_129 : decode cL_says 129 = .ok (.iconst 0, 1) := by decide +kernel
theorem dL_says_130 : decode cL_says 130 = .ok (.iastore, 1) := by decide +kernel
theorem dL_says_131 : decode cL_says 131 = .ok (.aload_n 0, 1) := by decide +kernel
theorem dL_says_132 : decode cL_says 132 = .ok (.iload 6, 2) := by decide +kernel
theorem dL_says_134 : decode cL_says 134 = .ok (.iconst 4, 1) := by decide +kernel
theorem dL_says_135 : decode cL_says 135 = .ok (.iadd, 1) := by decide +kernel
theorem dL_says_136 : decode cL_says 136 = .ok (.iaload, 1) := by decide +kernel
theorem dL_says_137 : decode cL_says 137 = .ok (.ifCond .ne 27, 3) := by decide +kernel
theorem dL_says_140 : decode cL_says 140 = .ok (.aload_n 0, 1) := by decide +kernel
theorem dL_says_141 : decode cL_says 141 = .ok (.iload 6, 2) := by decide +kernel
theorem dL_says_143 : decode cL_says 143 = .ok (.bipush 8, 2) := by decide +kernel
theorem dL_says_145 : decode cL_says 145 = .ok (.iadd, 1) := by decide +kernel
theorem dL_says_146 : decode cL_says 146 = .ok (.aload_n 0, 1) := by decide +kernel
theorem dL_says_147 : decode cL_says 147 = .ok (.iload 6, 2) := by decide +kernel
theorem dL_says_149 : decode cL_says 149 = .ok (.iaload, 1) := by decide +kernel
theorem dL_says_150 : decode cL_says 150 = .ok (.iastore, 1) := by decide +kernel
theorem dL_says_151 : decode cL_says 151 = .ok (.aload_n 0, 1) := by decide +kernel
theorem dL_says_152 : decode cL_says 152 = .ok (.iload 6, 2) := by decide +kernel
theorem dL_says_154 : decode cL_says 154 = .ok (.bipush 9, 2) := by decide +kernel
theorem dL_says_156 : decode cL_says 156 = .ok (.iadd, 1) := by decide +kernel
theorem dL_says_157 : decode cL_says 157 = .ok (.aload_n 0, 1) := by decide +kernel
theorem dL_says_158 : decode cL_says 158 = .ok (.iload 6, 2) := by decide +kernel
theorem dL_says_160 : decode cL_says 160 = .ok (.iconst 1, 1) := by decide +kernel
theorem dL_says_161 : decode cL_says 161 = .ok (.iadd, 1) := by decide +kernel
theorem dL_says_162 : decode cL_says 162 = .ok (.iaload, 1) := by decide +kernel
theorem dL_says_163 : decode cL_says 163 = .ok (.iastore, 1) := by decide +kernel
theorem dL_says_164 : decode cL_says 164 = .ok (.iload 7, 2) := by decide +kernel
theorem dL_says_166 : decode cL_says 166 = .ok (.aload_n 0, 1) := by decide +kernel
theorem dL_says_167 : decode cL_says 167 = .ok (.iload 6, 2) := by decide +kernel
theorem dL_says_169 : decode cL_says 169 = .ok (.iaload, 1) := by decide +kernel
theorem dL_says_170 : decode cL_says 170 = .ok (.aload_n 0, 1) := by decide +kernel
theorem dL_says_171 : decode cL_says 171 = .ok (.iload 6, 2) := by decide +kernel
theorem dL_says_173 : decode cL_says 173 = .ok (.iconst 1, 1) := by decide +kernel
theorem dL_says_174 : decode cL_says 174 = .ok (.iadd, 1) := by decide +kernel
theorem dL_says_175 : decode cL_says 175 = .ok (.iaload, 1) := by decide +kernel
theorem dL_says_176 : decode cL_says 176 = .ok (.invokestatic 27, 3) := by decide +kernel
theorem dL_says_179 : decode cL_says 179 = .ok (.istore 8, 2) := by decide +kernel
theorem dL_says_181 : decode cL_says 181 = .ok (.aload_n 2, 1) := by decide +kernel
theorem dL_says_182 : decode cL_says 182 = .ok (.bipush 8, 2) := by decide +kernel
theorem dL_says_184 : decode cL_says 184 = .ok (.iload 4, 2) := by decide +kernel
theorem dL_says_186 : decode cL_says 186 = .ok (.imul, 1) := by decide +kernel
theorem dL_says_187 : decode cL_says 187 = .ok (.aload_n 0, 1) := by decide +kernel
theorem dL_says_188 : decode cL_says 188 = .ok (.iload 6, 2) := by decide +kernel
theorem dL_says_190 : decode cL_says 190 = .ok (.iconst 4, 1) := by decide +kernel
theorem dL_says_191 : decode cL_says 191 = .ok (.iadd, 1) := by decide +kernel
theorem dL_says_192 : decode cL_says 192 = .ok (.iaload, 1) := by decide +kernel
theorem dL_says_193 : decode cL_says 193 = .ok (.iadd, 1) := by decide +kernel
theorem dL_says_194 : decode cL_says 194 = .ok (.ldc 30, 2) := by decide +kernel
theorem dL_says_196 : decode cL_says 196 = .ok (.iload 8, 2) := by decide +kernel
theorem dL_says_198 : decode cL_says 198 = .ok (.imul, 1) := by decide +kernel
theorem dL_says_199 : decode cL_says 199 = .ok (.iload 7, 2) := by decide +kernel
theorem dL_says_201 : decode cL_says 201 = .ok (.iadd, 1) := by decide +kernel
theorem dL_says_202 : decode cL_says 202 = .ok (.sipush 2000, 3) := by decide +kernel
theorem dL_says_205 : decode cL_says 205 = .ok (.iadd, 1) := by decide +kernel
theorem dL_says_206 : decode cL_says 206 = .ok (.iastore, 1) := by decide +kernel
theorem dL_says_207 : decode cL_says 207 = .ok (.aload_n 0, 1) := by decide +kernel
theorem dL_says_208 : decode cL_says 208 = .ok (.iload 6, 2) := by decide +kernel
theorem dL_says_210 : decode cL_says 210 = .ok (.iconst 4, 1) := by decide +kernel
theorem dL_says_211 : decode cL_says 211 = .ok (.iadd, 1) := by decide +kernel
theorem dL_says_212 : decode cL_says 212 = .ok (.dup2, 1) := by decide +kernel
theorem dL_says_213 : decode cL_says 213 = .ok (.iaload, 1) := by decide +kernel
theorem dL_says_214 : decode cL_says 214 = .ok (.iconst 1, 1) := by decide +kernel
theorem dL_says_215 : decode cL_says 215 = .ok (.iadd, 1) := by decide +kernel
theorem dL_says_216 : decode cL_says 216 = .ok (.iastore, 1) := by decide +kernel
theorem dL_says_217 : decode cL_says 217 = .ok (.aload_n 0, 1) := by decide +kernel
theorem dL_says_218 : decode cL_says 218 = .ok (.iload 6, 2) := by decide +kernel
theorem dL_says_220 : decode cL_says 220 = .ok (.bipush 6, 2) := by decide +kernel
theorem dL_says_222 : decode cL_says 222 = .ok (.iadd, 1) := by decide +kernel
theorem dL_says_223 : decode cL_says 223 = .ok (.dup2, 1) := by decide +kernel
theorem dL_says_224 : decode cL_says 224 = .ok (.iaload, 1) := by decide +kernel
theorem dL_says_225 : decode cL_says 225 = .ok (.iconst 1, 1) := by decide +kernel
theorem dL_says_226 : decode cL_says 226 = .ok (.iadd, 1) := by decide +kernel
theorem dL_says_227 : decode cL_says 227 = .ok (.iastore, 1) := by decide +kernel
theorem dL_says_228 : decode cL_says 228 = .ok (.aload_n 0, 1) := by decide +kernel
theorem dL_says_229 : decode cL_says 229 = .ok (.iload 6, 2) := by decide +kernel
theorem dL_says_231 : decode cL_says 231 = .ok (.iload 8, 2) := by decide +kernel
theorem dL_says_233 : decode cL_says 233 = .ok (.invokestatic 31, 3) := by decide +kernel
theorem dL_says_236 : decode cL_says 236 = .ok (.aload_n 0, 1) := by decide +kernel
theorem dL_says_237 : decode cL_says 237 = .ok (.iload 6, 2) := by decide +kernel
theorem dL_says_239 : decode cL_says 239 = .ok (.iconst 4, 1) := by decide +kernel
theorem dL_says_240 : decode cL_says 240 = .ok (.iadd, 1) := by decide +kernel
theorem dL_says_241 : decode cL_says 241 = .ok (.iaload, 1) := by decide +kernel
theorem dL_says_242 : decode cL_says 242 = .ok (.aload_n 1, 1) := by decide +kernel
theorem dL_says_243 : decode cL_says 243 = .ok (.bipush 11, 2) := by decide +kernel
theorem dL_says_245 : decode cL_says 245 = .ok (.iaload, 1) := by decide +kernel
theorem dL_says_246 : decode cL_says 246 = .ok (.if_icmp .lt 12, 3) := by decide +kernel
theorem dL_says_249 : decode cL_says 249 = .ok (.aload_n 0, 1) := by decide +kernel
theorem dL_says_250 : decode cL_says 250 = .ok (.aload_n 1, 1) := by decide +kernel
theorem dL_says_251 : decode cL_says 251 = .ok (.aload_n 2, 1) := by decide +kernel
theorem dL_says_252 : decode cL_says 252 = .ok (.aload_n 3, 1) := by decide +kernel
theorem dL_says_253 : decode cL_says 253 = .ok (.iload 4, 2) := by decide +kernel
theorem dL_says_255 : decode cL_says 255 = .ok (.invokestatic 23, 3) := by decide +kernel
theorem dL_says_258 : decode cL_says 258 = .ok (.iload 8, 2) := by decide +kernel
theorem dL_says_260 : decode cL_says 260 = .ok (.ireturn, 1) := by decide +kernel
theorem dL_moves_0 : decode cL_moves 0 = .ok (.aload_n 0, 1) := by decide +kernel
theorem dL_moves_1 : decode cL_moves 1 = .ok (.bipush 20, 2) := by decide +kernel
theorem dL_moves_3 : decode cL_moves 3 = .ok (.iload_n 2, 1) := by decide +kernel
theorem dL_moves_4 : decode cL_moves 4 = .ok (.imul, 1) := by decide +kernel
theorem dL_moves_5 : decode cL_moves 5 = .ok (.bipush 19, 2) := by decide +kernel
theorem dL_moves_7 : decode cL_moves 7 = .ok (.iadd, 1) := by decide +kernel
theorem dL_moves_8 : decode cL_moves 8 = .ok (.dup2, 1) := by decide +kernel
theorem dL_moves_9 : decode cL_moves 9 = .ok (.iaload, 1) := by decide +kernel
theorem dL_moves_10 : decode cL_moves 10 = .ok (.iconst 1, 1) := by decide +kernel
theorem dL_moves_11 : decode cL_moves 11 = .ok (.isub, 1) := by decide +kernel
theorem dL_moves_12 : decode cL_moves 12 = .ok (.iastore, 1) := by decide +kernel
theorem dL_moves_13 : decode cL_moves 13 = .ok (.iconst 0, 1) := by decide +kernel
theorem dL_moves_14 : decode cL_moves 14 = .ok (.istore_n 3, 1) := by decide +kernel
theorem dL_moves_15 : decode cL_moves 15 = .ok (.iload_n 3, 1) := by decide +kernel
theorem dL_moves_16 : decode cL_moves 16 = .ok (.bipush 16, 2) := by decide +kernel
theorem dL_moves_18 : decode cL_moves 18 = .ok (.aload_n 0, 1) := by decide +kernel
theorem dL_moves_19 : decode cL_moves 19 = .ok (.bipush 20, 2) := by decide +kernel
theorem dL_moves_21 : decode cL_moves 21 = .ok (.iload_n 2, 1) := by decide +kernel
theorem dL_moves_22 : decode cL_moves 22 = .ok (.imul, 1) := by decide +kernel
theorem dL_moves_23 : decode cL_moves 23 = .ok (.bipush 19, 2) := by decide +kernel
theorem dL_moves_25 : decode cL_moves 25 = .ok (.iadd, 1) := by decide +kernel
theorem dL_moves_26 : decode cL_moves 26 = .ok (.iaload, 1) := by decide +kernel
theorem dL_moves_27 : decode cL_moves 27 = .ok (.imul, 1) := by decide +kernel
theorem dL_moves_28 : decode cL_moves 28 = .ok (.if_icmp .ge 18, 3) := by decide +kernel
theorem dL_moves_31 : decode cL_moves 31 = .ok (.aload_n 1, 1) := by decide +kernel
theorem dL_moves_32 : decode cL_moves 32 = .ok (.iload_n 3, 1) := by decide +kernel
theorem dL_moves_33 : decode cL_moves 33 = .ok (.aload_n 1, 1) := by decide +kernel
theorem dL_moves_34 : decode cL_moves 34 = .ok (.iload_n 3, 1) := by decide +kernel
theorem dL_moves_35 : decode cL_moves 35 = .ok (.bipush 16, 2) := by decide +kernel
theorem dL_moves_37 : decode cL_moves 37 = .ok (.iadd, 1) := by decide +kernel
theorem dL_moves_38 : decode cL_moves 38 = .ok (.iaload, 1) := by decide +kernel
theorem dL_moves_39 : decode cL_moves 39 = .ok (.iastore, 1) := by decide +kernel
theorem dL_moves_40 : decode cL_moves 40 = .ok (.iinc 3 1, 3) := by decide +kernel
theorem dL_moves_43 : decode cL_moves 43 = .ok (.goto (-28), 3) := by decide +kernel
theorem dL_moves_46 : decode cL_moves 46 = .ok (.return_, 1) := by decide +kernel
theorem dL_comes_0 : decode cL_comes 0 = .ok (.bipush 20, 2) := by decide +kernel
theorem dL_comes_2 : decode cL_comes 2 = .ok (.iload_n 3, 1) := by decide +kernel
theorem dL_comes_3 : decode cL_comes 3 = .ok (.imul, 1) := by decide +kernel
theorem dL_comes_4 : decode cL_comes 4 = .ok (.istore 4, 2) := by decide +kernel
theorem dL_comes_6 : decode cL_comes 6 = .ok (.aload_n 1, 1) := by decide +kernel
theorem dL_comes_7 : decode cL_comes 7 = .ok (.bipush 6, 2) := by decide +kernel
theorem dL_comes_9 : decode cL_comes 9 = .ok (.iload_n 3, 1) := by decide +kernel
theorem dL_comes_10 : decode cL_comes 10 = .ok (.iadd, 1) := by decide +kernel
theorem dL_comes_11 : decode cL_comes 11 = .ok (.dup2, 1) := by decide +kernel
theorem dL_comes_12 : decode cL_comes 12 = .ok (.iaload, 1) := by decide +kernel
theorem dL_comes_13 : decode cL_comes 13 = .ok (.iconst 1, 1) := by decide +kernel
theorem dL_comes_14 : decode cL_comes 14 = .ok (.iadd, 1) := by decide +kernel
theorem dL_comes_15 : decode cL_comes 15 = .ok (.iastore, 1) := by decide +kernel
theorem dL_comes_16 : decode cL_comes 16 = .ok (.aload_n 2, 1) := by decide +kernel
theorem dL_comes_17 : decode cL_comes 17 = .ok (.iconst 0, 1) := by decide +kernel
theorem dL_comes_18 : decode cL_comes 18 = .ok (.iaload, 1) := by decide +kernel
theorem dL_comes_19 : decode cL_comes 19 = .ok (.aload_n 0, 1) := by decide +kernel
theorem dL_comes_20 : decode cL_comes 20 = .ok (.iload 4, 2) := by decide +kernel
theorem dL_comes_22 : decode cL_comes 22 = .ok (.bipush 12, 2) := by decide +kernel
theorem dL_comes_24 : decode cL_comes 24 = .ok (.iadd, 1) := by decide +kernel
theorem dL_comes_25 : decode cL_comes 25 = .ok (.iaload, 1) := by decide +kernel
theorem dL_comes_26 : decode cL_comes 26 = .ok (.if_icmp .ge 24, 3) := by decide +kernel
theorem dL_comes_29 : decode cL_comes 29 = .ok (.aload_n 0, 1) := by decide +kernel
theorem dL_comes_30 : decode cL_comes 30 = .ok (.iload 4, 2) := by decide +kernel
theorem dL_comes_32 : decode cL_comes 32 = .ok (.bipush 15, 2) := by decide +kernel
theorem dL_comes_34 : decode cL_comes 34 = .ok (.iadd, 1) := by decide +kernel
theorem dL_comes_35 : decode cL_comes 35 = .ok (.dup2, 1) := by decide +kernel
theorem dL_comes_36 : decode cL_comes 36 = .ok (.iaload, 1) := by decide +kernel
theorem dL_comes_37 : decode cL_comes 37 = .ok (.iconst 1, 1) := by decide +kernel
theorem dL_comes_38 : decode cL_comes 38 = .ok (.iadd, 1) := by decide +kernel
theorem dL_comes_39 : decode cL_comes 39 = .ok (.iastore, 1) := by decide +kernel
theorem dL_comes_40 : decode cL_comes 40 = .ok (.aload_n 0, 1) := by decide +kernel
theorem dL_comes_41 : decode cL_comes 41 = .ok (.aload_n 2, 1) := by decide +kernel
theorem dL_comes_42 : decode cL_comes 42 = .ok (.iload_n 3, 1) := by decide +kernel
theorem dL_comes_43 : decode cL_comes 43 = .ok (.invokestatic 35, 3) := by decide +kernel
theorem dL_comes_46 : decode cL_comes 46 = .ok (.sipush (-10000), 3) := by decide +kernel
theorem dL_comes_49 : decode cL_comes 49 = .ok (.ireturn, 1) := by decide +kernel
theorem dL_comes_50 : decode cL_comes 50 = .ok (.iconst 0, 1) := by decide +kernel
theorem dL_comes_51 : decode cL_comes 51 = .ok (.istore 5, 2) := by decide +kernel
theorem dL_comes_53 : decode cL_comes 53 = .ok (.aload_n 0, 1) := by decide +kernel
theorem dL_comes_54 : decode cL_comes 54 = .ok (.iload 4, 2) := by decide +kernel
theorem dL_comes_56 : decode cL_comes 56 = .ok (.bipush 12, 2) := by decide +kernel
theorem dL_comes_58 : decode cL_comes 58 = .ok (.iadd, 1) := by decide +kernel
theorem dL_comes_59 : decode cL_comes 59 = .ok (.iaload, 1) := by decide +kernel
theorem dL_comes_60 : decode cL_comes 60 = .ok (.aload_n 2, 1) := by decide +kernel
theorem dL_comes_61 : decode cL_comes 61 = .ok (.iconst 0, 1) := by decide +kernel
theorem dL_comes_62 : decode cL_comes 62 = .ok (.iaload, 1) := by decide +kernel
theorem dL_comes_63 : decode cL_comes 63 = .ok (.if_icmp .ge 38, 3) := by decide +kernel
theorem dL_comes_66 : decode cL_comes 66 = .ok (.aload_n 0, 1) := by decide +kernel
theorem dL_comes_67 : decode cL_comes 67 = .ok (.iload 4, 2) := by decide +kernel
theorem dL_comes_69 : decode cL_comes 69 = .ok (.bipush 10, 2) := by decide +kernel
theorem dL_comes_71 : decode cL_comes 71 = .ok (.iadd, 1) := by decide +kernel
theorem dL_comes_72 : decode cL_comes 72 = .ok (.aload_n 0, 1) := by decide +kernel
theorem dL_comes_73 : decode cL_comes 73 = .ok (.iload 4, 2) := by decide +kernel
theorem dL_comes_75 : decode cL_comes 75 = .ok (.bipush 10, 2) := by decide +kernel
theorem dL_comes_77 : decode cL_comes 77 = .ok (.iadd, 1) := by decide +kernel
theorem dL_comes_78 : decode cL_comes 78 = .ok (.iaload, 1) := by decide +kernel
theorem dL_comes_79 : decode cL_comes 79 = .ok (.iconst 3, 1) := by decide +kernel
theorem dL_comes_80 : decode cL_comes 80 = .ok (.imul, 1) := by decide +kernel
theorem dL_comes_81 : decode cL_comes 81 = .ok (.iconst 4, 1) := by decide +kernel
theorem dL_comes_82 : decode cL_comes 82 = .ok (.idiv, 1) := by decide +kernel
theorem dL_comes_83 : decode cL_comes 83 = .ok (.iastore, 1) := by decide +kernel
theorem dL_comes_84 : decode cL_comes 84 = .ok (.aload_n 0, 1) := by decide +kernel
theorem dL_comes_85 : decode cL_comes 85 = .ok (.iload 4, 2) := by decide +kernel
theorem dL_comes_87 : decode cL_comes 87 = .ok (.bipush 12, 2) := by decide +kernel
theorem dL_comes_89 : decode cL_comes 89 = .ok (.iadd, 1) := by decide +kernel
theorem dL_comes_90 : decode cL_comes 90 = .ok (.dup2, 1) := by decide +kernel
theorem dL_comes_91 : decode cL_comes 91 = .ok (.iaload, 1) := by decide +kernel
theorem dL_comes_92 : decode cL_comes 92 = .ok (.iconst 1, 1) := by decide +kernel
theorem dL_comes_93 : decode cL_comes 93 = .ok (.iadd, 1) := by decide +kernel
theorem dL_comes_94 : decode cL_comes 94 = .ok (.iastore, 1) := by decide +kernel
theorem dL_comes_95 : decode cL_comes 95 = .ok (.iinc 5 1, 3) := by decide +kernel
theorem dL_comes_98 : decode cL_comes 98 = .ok (.goto (-45), 3) := by decide +kernel
theorem dL_comes_101 : decode cL_comes 101 = .ok (.aload_n 0, 1) := by decide +kernel
theorem dL_comes_102 : decode cL_comes 102 = .ok (.iload 4, 2) := by decide +kernel
theorem dL_comes_104 : decode cL_comes 104 = .ok (.bipush 14, 2) := by decide +kernel
theorem dL_comes_106 : decode cL_comes 106 = .ok (.iadd, 1) := by decide +kernel
theorem dL_comes_107 : decode cL_comes 107 = .ok (.dup2, 1) := by decide +kernel
theorem dL_comes_108 : decode cL_comes 108 = .ok (.iaload, 1) := by decide +kernel
theorem dL_comes_109 : decode cL_comes 109 = .ok (.iload 5, 2) := by decide +kernel
theorem dL_comes_111 : decode cL_comes 111 = .ok (.iadd, 1) := by decide +kernel
theorem dL_comes_112 : decode cL_comes 112 = .ok (.iastore, 1) := by decide +kernel
theorem dL_comes_113 : decode cL_comes 113 = .ok (.aload_n 2, 1) := by decide +kernel
theorem dL_comes_114 : decode cL_comes 114 = .ok (.iconst 2, 1) := by decide +kernel
theorem dL_comes_115 : decode cL_comes 115 = .ok (.iaload, 1) := by decide +kernel
theorem dL_comes_116 : decode cL_comes 116 = .ok (.iconst 1, 1) := by decide +kernel
theorem dL_comes_117 : decode cL_comes 117 = .ok (.if_icmp .ne 64, 3) := by decide +kernel
theorem dL_comes_120 : decode cL_comes 120 = .ok (.aload_n 0, 1) := by decide +kernel
theorem dL_comes_121 : decode cL_comes 121 = .ok (.iload 4, 2) := by decide +kernel
theorem dL_comes_123 : decode cL_comes 123 = .ok (.bipush 16, 2) := by decide +kernel
theorem dL_comes_125 : decode cL_comes 125 = .ok (.iadd, 1) := by decide +kernel
theorem dL_comes_126 : decode cL_comes 126 = .ok (.dup2, 1) := by decide +kernel
theorem dL_comes_127 : decode cL_comes 127 = .ok (.iaload, 1) := by decide +kernel
theorem dL_comes_128 : decode cL_comes 128 = .ok (.aload_n 0, 1) := by decide +kernel
theorem dL_comes_129 : decode cL_comes 129 = .ok (.iload 4, 2) := by decide +kernel
theorem dL_comes_131 : decode cL_comes 131 = .ok (.bipush 10, 2) := by decide +kernel
theorem dL_comes_133 : decode cL_comes 133 = .ok (.iadd, 1) := by decide +kernel
theorem dL_comes_134 : decode cL_comes 134 = .ok (.iaload, 1) := by decide +kernel
theorem dL_comes_135 : decode cL_comes 135 = .ok (.aload_n 2, 1) := by decide +kernel
theorem dL_comes_136 : decode cL_comes 136 = .ok (.iconst 3, 1) := by decide +kernel
theorem dL_comes_137 : decode cL_comes 137 = .ok (.iaload, 1) := by decide +kernel
theorem dL_comes_138 : decode cL_comes 138 = .ok (.if_icmp .ne 20, 3) := by decide +kernel
theorem dL_comes_141 : decode cL_comes 141 = .ok (.aload_n 0, 1) := by decide +kernel
theorem dL_comes_142 : decode cL_comes 142 = .ok (.iload 4, 2) := by decide +kernel
theorem dL_comes_144 : decode cL_comes 144 = .ok (.bipush 11, 2) := by decide +kernel
theorem dL_comes_146 : decode cL_comes 146 = .ok (.iadd, 1) := by decide +kernel
theorem dL_comes_147 : decode cL_comes 147 = .ok (.iaload, 1) := by decide +kernel
theorem dL_comes_148 : decode cL_comes 148 = .ok (.aload_n 2, 1) := by decide +kernel
theorem dL_comes_149 : decode cL_comes 149 = .ok (.iconst 4, 1) := by decide +kernel
theorem dL_comes_150 : decode cL_comes 150 = .ok (.iaload, 1) := by decide +kernel
theorem dL_comes_151 : decode cL_comes 151 = .ok (.if_icmp .ne 7, 3) := by decide +kernel
theorem dL_comes_154 : decode cL_comes 154 = .ok (.iconst 0, 1) := by decide +kernel
theorem dL_comes_155 : decode cL_comes 155 = .ok (.goto 4, 3) := by decide +kernel
theorem dL_comes_158 : decode cL_comes 158 = .ok (.iconst 1, 1) := by decide +kernel
theorem dL_comes_159 : decode cL_comes 159 = .ok (.iadd, 1) := by decide +kernel
theorem dL_comes_160 : decode cL_comes 160 = .ok (.iastore, 1) := by decide +kernel
theorem dL_comes_161 : decode cL_comes 161 = .ok (.aload_n 0, 1) := by decide +kernel
theorem dL_comes_162 : decode cL_comes 162 = .ok (.iload 4, 2) := by decide +kernel
theorem dL_comes_164 : decode cL_comes 164 = .ok (.bipush 10, 2) := by decide +kernel
theorem dL_comes_166 : decode cL_comes 166 = .ok (.iadd, 1) := by decide +kernel
theorem dL_comes_167 : decode cL_comes 167 = .ok (.aload_n 2, 1) := by decide +kernel
theorem dL_comes_168 : decode cL_comes 168 = .ok (.iconst 3, 1) := by decide +kernel
theorem dL_comes_169 : decode cL_comes 169 = .ok (.iaload, 1) := by decide +kernel
theorem dL_comes_170 : decode cL_comes 170 = .ok (.iastore, 1) := by decide +kernel
theorem dL_comes_171 : decode cL_comes 171 = .ok (.aload_n 0, 1) := by decide +kernel
theorem dL_comes_172 : decode cL_comes 172 = .ok (.iload 4, 2) := by decide +kernel
theorem dL_comes_174 : decode cL_comes 174 = .ok (.bipush 11, 2) := by decide +kernel
theorem dL_comes_176 : decode cL_comes 176 = .ok (.iadd, 1) := by decide +kernel
theorem dL_comes_177 : decode cL_comes 177 = .ok (.aload_n 2, 1) := by decide +kernel
theorem dL_comes_178 : decode cL_comes 178 = .ok (.iconst 4, 1) := by decide +kernel
theorem dL_comes_179 : decode cL_comes 179 = .ok (.iaload, 1) := by decide +kernel
theorem dL_comes_180 : decode cL_comes 180 = .ok (.iastore, 1) := by decide +kernel
theorem dL_comes_181 : decode cL_comes 181 = .ok (.iconst 0, 1) := by decide +kernel
theorem dL_comes_182 : decode cL_comes 182 = .ok (.istore 6, 2) := by decide +kernel
theorem dL_comes_184 : decode cL_comes 184 = .ok (.iload 6, 2) := by decide +kernel
theorem dL_comes_186 : decode cL_comes 186 = .ok (.aload_n 2, 1) := by decide +kernel
theorem dL_comes_187 : decode cL_comes 187 = .ok (.iconst 1, 1) := by decide +kernel
theorem dL_comes_188 : decode cL_comes 188 = .ok (.iaload, 1) := by decide +kernel
theorem dL_comes_189 : decode cL_comes 189 = .ok (.if_icmp .ge 120, 3) := by decide +kernel
theorem dL_comes_192 : decode cL_comes 192 = .ok (.aload_n 0, 1) := by decide +kernel
theorem dL_comes_193 : decode cL_comes 193 = .ok (.iload 4, 2) := by decide +kernel
theorem dL_comes_195 : decode cL_comes 195 = .ok (.bipush 10, 2) := by decide +kernel
theorem dL_comes_197 : decode cL_comes 197 = .ok (.iadd, 1) := by decide +kernel
theorem dL_comes_198 : decode cL_comes 198 = .ok (.aload_n 2, 1) := by decide +kernel
theorem dL_comes_199 : decode cL_comes 199 = .ok (.iconst 5, 1) := by decide +kernel
theorem dL_comes_200 : decode cL_comes 200 = .ok (.iload 6, 2) := by decide +kernel
theorem dL_comes_202 : decode cL_comes 202 = .ok (.iadd, 1) := by decide +kernel
theorem dL_comes_203 : decode cL_comes 203 = .ok (.iaload, 1) := by decide +kernel
theorem dL_comes_204 : decode cL_comes 204 = .ok (.ldc 30, 2) := by decide +kernel
theorem dL_comes_206 : decode cL_comes 206 = .ok (.idiv, 1) := by decide +kernel
theorem dL_comes_207 : decode cL_comes 207 = .ok (.invokestatic 31, 3) := by decide +kernel
theorem dL_comes_210 : decode cL_comes 210 = .ok (.aload_n 0, 1) := by decide +kernel
theorem dL_comes_211 : decode cL_comes 211 = .ok (.iload 4, 2) := by decide +kernel
theorem dL_comes_213 : decode cL_comes 213 = .ok (.bipush 10, 2) := by decide +kernel
theorem dL_comes_215 : decode cL_comes 215 = .ok (.iadd, 1) := by decide +kernel
theorem dL_comes_216 : decode cL_comes 216 = .ok (.iaload, 1) := by decide +kernel
theorem dL_comes_217 : decode cL_comes 217 = .ok (.aload_n 2, 1) := by decide +kernel
theorem dL_comes_218 : decode cL_comes 218 = .ok (.iconst 5, 1) := by decide +kernel
theorem dL_comes_219 : decode cL_comes 219 = .ok (.iload 6, 2) := by decide +kernel
theorem dL_comes_221 : decode cL_comes 221 = .ok (.iadd, 1) := by decide +kernel
theorem dL_comes_222 : decode cL_comes 222 = .ok (.iaload, 1) := by decide +kernel
theorem dL_comes_223 : decode cL_comes 223 = .ok (.ldc 30, 2) := by decide +kernel
theorem dL_comes_225 : decode cL_comes 225 = .ok (.irem, 1) := by decide +kernel
theorem dL_comes_226 : decode cL_comes 226 = .ok (.sipush 2000, 3) := by decide +kernel
theorem dL_comes_229 : decode cL_comes 229 = .ok (.isub, 1) := by decide +kernel
theorem dL_comes_230 : decode cL_comes 230 = .ok (.isub, 1) := by decide +kernel
theorem dL_comes_231 : decode cL_comes 231 = .ok (.invokestatic 39, 3) := by decide +kernel
theorem dL_comes_234 : decode cL_comes 234 = .ok (.istore 7, 2) := by decide +kernel
theorem dL_comes_236 : decode cL_comes 236 = .ok (.aload_n 0, 1) := by decide +kernel
theorem dL_comes_237 : decode cL_comes 237 = .ok (.iload 4, 2) := by decide +kernel
theorem dL_comes_239 : decode cL_comes 239 = .ok (.bipush 13, 2) := by decide +kernel
theorem dL_comes_241 : decode cL_comes 241 = .ok (.iadd, 1) := by decide +kernel
theorem dL_comes_242 : decode cL_comes 242 = .ok (.dup2, 1) := by decide +kernel
theorem dL_comes_243 : decode cL_comes 243 = .ok (.iaload, 1) := by decide +kernel
theorem dL_comes_244 : decode cL_comes 244 = .ok (.iconst 1, 1) := by decide +kernel
theorem dL_comes_245 : decode cL_comes 245 = .ok (.iadd, 1) := by decide +kernel
theorem dL_comes_246 : decode cL_comes 246 = .ok (.iastore, 1) := by decide +kernel
theorem dL_comes_247 : decode cL_comes 247 = .ok (.aload_n 0, 1) := by decide +kernel
theorem dL_comes_248 : decode cL_comes 248 = .ok (.iload 4, 2) := by decide +kernel
theorem dL_comes_250 : decode cL_comes 250 = .ok (.bipush 17, 2) := by decide +kernel
theorem dL_comes_252 : decode cL_comes 252 = .ok (.iadd, 1) := by decide +kernel
theorem dL_comes_253 : decode cL_comes 253 = .ok (.dup2, 1) := by decide +kernel
theorem dL_comes_254 : decode cL_comes 254 = .ok (.iaload, 1) := by decide +kernel
theorem dL_comes_255 : decode cL_comes 255 = .ok (.iload 7, 2) := by decide +kernel
theorem dL_comes_257 : decode cL_comes 257 = .ok (.iadd, 1) := by decide +kernel
theorem dL_comes_258 : decode cL_comes 258 = .ok (.iastore, 1) := by decide +kernel
theorem dL_comes_259 : decode cL_comes 259 = .ok (.aload_n 0, 1) := by decide +kernel
theorem dL_comes_260 : decode cL_comes 260 = .ok (.iload 4, 2) := by decide +kernel
theorem dL_comes_262 : decode cL_comes 262 = .ok (.bipush 18, 2) := by decide +kernel
theorem dL_comes_264 : decode cL_comes 264 = .ok (.iadd, 1) := by decide +kernel
theorem dL_comes_265 : decode cL_comes 265 = .ok (.iload 7, 2) := by decide +kernel
theorem dL_comes_267 : decode cL_comes 267 = .ok (.aload_n 0, 1) := by decide +kernel
theorem dL_comes_268 : decode cL_comes 268 = .ok (.iload 4, 2) := by decide +kernel
theorem dL_comes_270 : decode cL_comes 270 = .ok (.bipush 18, 2) := by decide +kernel
theorem dL_comes_272 : decode cL_comes 272 = .ok (.iadd, 1) := by decide +kernel
theorem dL_comes_273 : decode cL_comes 273 = .ok (.iaload, 1) := by decide +kernel
theorem dL_comes_274 : decode cL_comes 274 = .ok (.if_icmp .le 8, 3) := by decide +kernel
theorem dL_comes_277 : decode cL_comes 277 = .ok (.iload 7, 2) := by decide +kernel
theorem dL_comes_279 : decode cL_comes 279 = .ok (.goto 10, 3) := by decide +kernel
theorem dL_comes_282 : decode cL_comes 282 = .ok (.aload_n 0, 1) := by decide +kernel
theorem dL_comes_283 : decode cL_comes 283 = .ok (.iload 4, 2) := by decide +kernel
theorem dL_comes_285 : decode cL_comes 285 = .ok (.bipush 18, 2) := by decide +kernel
theorem dL_comes_287 : decode cL_comes 287 = .ok (.iadd, 1) := by decide +kernel
theorem dL_comes_288 : decode cL_comes 288 = .ok (.iaload, 1) := by decide +kernel
theorem dL_comes_289 : decode cL_comes 289 = .ok (.iastore, 1) := by decide +kernel
theorem dL_comes_290 : decode cL_comes 290 = .ok (.aload_n 1, 1) := by decide +kernel
theorem dL_comes_291 : decode cL_comes 291 = .ok (.iload_n 3, 1) := by decide +kernel
theorem dL_comes_292 : decode cL_comes 292 = .ok (.dup2, 1) := by decide +kernel
theorem dL_comes_293 : decode cL_comes 293 = .ok (.iaload, 1) := by decide +kernel
theorem dL_comes_294 : decode cL_comes 294 = .ok (.aload_n 0, 1) := by decide +kernel
theorem dL_comes_295 : decode cL_comes 295 = .ok (.iload 4, 2) := by decide +kernel
theorem dL_comes_297 : decode cL_comes 297 = .ok (.bipush 10, 2) := by decide +kernel
theorem dL_comes_299 : decode cL_comes 299 = .ok (.iadd, 1) := by decide +kernel
theorem dL_comes_300 : decode cL_comes 300 = .ok (.iaload, 1) := by decide +kernel
theorem dL_comes_301 : decode cL_comes 301 = .ok (.iadd, 1) := by decide +kernel
theorem dL_comes_302 : decode cL_comes 302 = .ok (.iastore, 1) := by decide +kernel
theorem dL_comes_303 : decode cL_comes 303 = .ok (.iinc 6 1, 3) := by decide +kernel
theorem dL_comes_306 : decode cL_comes 306 = .ok (.goto (-122), 3) := by decide +kernel
theorem dL_comes_309 : decode cL_comes 309 = .ok (.aload_n 0, 1) := by decide +kernel
theorem dL_comes_310 : decode cL_comes 310 = .ok (.iload 4, 2) := by decide +kernel
theorem dL_comes_312 : decode cL_comes 312 = .ok (.bipush 12, 2) := by decide +kernel
theorem dL_comes_314 : decode cL_comes 314 = .ok (.iadd, 1) := by decide +kernel
theorem dL_comes_315 : decode cL_comes 315 = .ok (.dup2, 1) := by decide +kernel
theorem dL_comes_316 : decode cL_comes 316 = .ok (.iaload, 1) := by decide +kernel
theorem dL_comes_317 : decode cL_comes 317 = .ok (.iconst 1, 1) := by decide +kernel
theorem dL_comes_318 : decode cL_comes 318 = .ok (.iadd, 1) := by decide +kernel
theorem dL_comes_319 : decode cL_comes 319 = .ok (.iastore, 1) := by decide +kernel
theorem dL_comes_320 : decode cL_comes 320 = .ok (.aload_n 0, 1) := by decide +kernel
theorem dL_comes_321 : decode cL_comes 321 = .ok (.aload_n 2, 1) := by decide +kernel
theorem dL_comes_322 : decode cL_comes 322 = .ok (.iload_n 3, 1) := by decide +kernel
theorem dL_comes_323 : decode cL_comes 323 = .ok (.invokestatic 35, 3) := by decide +kernel
theorem dL_comes_326 : decode cL_comes 326 = .ok (.iload 5, 2) := by decide +kernel
theorem dL_comes_328 : decode cL_comes 328 = .ok (.ireturn, 1) := by decide +kernel
theorem dL_isVoice_0 : decode cL_isVoice 0 = .ok (.bipush 20, 2) := by decide +kernel
theorem dL_isVoice_2 : decode cL_isVoice 2 = .ok (.iload 5, 2) := by decide +kernel
theorem dL_isVoice_4 : decode cL_isVoice 4 = .ok (.imul, 1) := by decide +kernel
theorem dL_isVoice_5 : decode cL_isVoice 5 = .ok (.istore 6, 2) := by decide +kernel
theorem dL_isVoice_7 : decode cL_isVoice 7 = .ok (.aload_n 0, 1) := by decide +kernel
theorem dL_isVoice_8 : decode cL_isVoice 8 = .ok (.iload 5, 2) := by decide +kernel
theorem dL_isVoice_10 : decode cL_isVoice 10 = .ok (.iconst 0, 1) := by decide +kernel
theorem dL_isVoice_11 : decode cL_isVoice 11 = .ok (.invokevirtual 42, 3) := by decide +kernel
theorem dL_isVoice_14 : decode cL_isVoice 14 = .ok (.aload_n 1, 1) := by decide +kernel
theorem dL_isVoice_15 : decode cL_isVoice 15 = .ok (.iload 6, 2) := by decide +kernel
theorem dL_isVoice_17 : decode cL_isVoice 17 = .ok (.iaload, 1) := by decide +kernel
theorem dL_isVoice_18 : decode cL_isVoice 18 = .ok (.if_icmp .ne 158, 3) := by decide +kernel
theorem dL_isVoice_21 : decode cL_isVoice 21 = .ok (.aload_n 0, 1) := by decide +kernel
theorem dL_isVoice_22 : decode cL_isVoice 22 = .ok (.iload 5, 2) := by decide +kernel
theorem dL_isVoice_24 : decode cL_isVoice 24 = .ok (.iconst 1, 1) := by decide +kernel
theorem dL_isVoice_25 : decode cL_isVoice 25 = .ok (.invokevirtual 42, 3) := by decide +kernel
theorem dL_isVoice_28 : decode cL_isVoice 28 = .ok (.aload_n 1, 1) := by decide +kernel
theorem dL_isVoice_29 : decode cL_isVoice 29 = .ok (.iload 6, 2) := by decide +kernel
theorem dL_isVoice_31 : decode cL_isVoice 31 = .ok (.iconst 1, 1) := by decide +kernel
theorem dL_isVoice_32 : decode cL_isVoice 32 = .ok (.iadd, 1) := by decide +kernel
theorem dL_isVoice_33 : decode cL_isVoice 33 = .ok (.iaload, 1) := by decide +kernel
theorem dL_isVoice_34 : decode cL_isVoice 34 = .ok (.if_icmp .ne 142, 3) := by decide +kernel
theorem dL_isVoice_37 : decode cL_isVoice 37 = .ok (.aload_n 0, 1) := by decide +kernel
theorem dL_isVoice_38 : decode cL_isVoice 38 = .ok (.iload 5, 2) := by decide +kernel
theorem dL_isVoice_40 : decode cL_isVoice 40 = .ok (.iconst 2, 1) := by decide +kernel
theorem dL_isVoice_41 : decode cL_isVoice 41 = .ok (.invokevirtual 42, 3) := by decide +kernel
theorem dL_isVoice_44 : decode cL_isVoice 44 = .ok (.aload_n 1, 1) := by decide +kernel
theorem dL_isVoice_45 : decode cL_isVoice 45 = .ok (.iload 6, 2) := by decide +kernel
theorem dL_isVoice_47 : decode cL_isVoice 47 = .ok (.iconst 1, 1) := by decide +kernel
theorem dL_isVoice_48 : decode cL_isVoice 48 = .ok (.iadd, 1) := by decide +kernel
theorem dL_isVoice_49 : decode cL_isVoice 49 = .ok (.iaload, 1) := by decide +kernel
theorem dL_isVoice_50 : decode cL_isVoice 50 = .ok (.invokestatic 9, 3) := by decide +kernel
theorem dL_isVoice_53 : decode cL_isVoice 53 = .ok (.if_icmp .ne 123, 3) := by decide +kernel
theorem dL_isVoice_56 : decode cL_isVoice 56 = .ok (.aload_n 0, 1) := by decide +kernel
theorem dL_isVoice_57 : decode cL_isVoice 57 = .ok (.iload 5, 2) := by decide +kernel
theorem dL_isVoice_59 : decode cL_isVoice 59 = .ok (.iconst 3, 1) := by decide +kernel
theorem dL_isVoice_60 : decode cL_isVoice 60 = .ok (.invokevirtual 42, 3) := by decide +kernel
theorem dL_isVoice_63 : decode cL_isVoice 63 = .ok (.aload_n 1, 1) := by decide +kernel
theorem dL_isVoice_64 : decode cL_isVoice 64 = .ok (.iload 6, 2) := by decide +kernel
theorem dL_isVoice_66 : decode cL_isVoice 66 = .ok (.iconst 2, 1) := by decide +kernel
theorem dL_isVoice_67 : decode cL_isVoice 67 = .ok (.iadd, 1) := by decide +kernel
theorem dL_isVoice_68 : decode cL_isVoice 68 = .ok (.iaload, 1) := by decide +kernel
theorem dL_isVoice_69 : decode cL_isVoice 69 = .ok (.if_icmp .ne 107, 3) := by decide +kernel
theorem dL_isVoice_72 : decode cL_isVoice 72 = .ok (.aload_n 0, 1) := by decide +kernel
theorem dL_isVoice_73 : decode cL_isVoice 73 = .ok (.iload 5, 2) := by decide +kernel
theorem dL_isVoice_75 : decode cL_isVoice 75 = .ok (.iconst 4, 1) := by decide +kernel
theorem dL_isVoice_76 : decode cL_isVoice 76 = .ok (.invokevirtual 42, 3) := by decide +kernel
theorem dL_isVoice_79 : decode cL_isVoice 79 = .ok (.aload_n 1, 1) := by decide +kernel
theorem dL_isVoice_80 : decode cL_isVoice 80 = .ok (.iload 6, 2) := by decide +kernel
theorem dL_isVoice_82 : decode cL_isVoice 82 = .ok (.iconst 3, 1) := by decide +kernel
theorem dL_isVoice_83 : decode cL_isVoice 83 = .ok (.iadd, 1) := by decide +kernel
theorem dL_isVoice_84 : decode cL_isVoice 84 = .ok (.iaload, 1) := by decide +kernel
theorem dL_isVoice_85 : decode cL_isVoice 85 = .ok (.if_icmp .ne 91, 3) := by decide +kernel
theorem dL_isVoice_88 : decode cL_isVoice 88 = .ok (.aload_n 0, 1) := by decide +kernel
theorem dL_isVoice_89 : decode cL_isVoice 89 = .ok (.iload 5, 2) := by decide +kernel
theorem dL_isVoice_91 : decode cL_isVoice 91 = .ok (.iconst 5, 1) := by decide +kernel
theorem dL_isVoice_92 : decode cL_isVoice 92 = .ok (.invokevirtual 42, 3) := by decide +kernel
theorem dL_isVoice_95 : decode cL_isVoice 95 = .ok (.aload_n 1, 1) := by decide +kernel
theorem dL_isVoice_96 : decode cL_isVoice 96 = .ok (.iload 6, 2) := by decide +kernel
theorem dL_isVoice_98 : decode cL_isVoice 98 = .ok (.iconst 4, 1) := by decide +kernel
theorem dL_isVoice_99 : decode cL_isVoice 99 = .ok (.iadd, 1) := by decide +kernel
theorem dL_isVoice_100 : decode cL_isVoice 100 = .ok (.iaload, 1) := by decide +kernel
theorem dL_isVoice_101 : decode cL_isVoice 101 = .ok (.if_icmp .ne 75, 3) := by decide +kernel
theorem dL_isVoice_104 : decode cL_isVoice 104 = .ok (.aload_n 0, 1) := by decide +kernel
theorem dL_isVoice_105 : decode cL_isVoice 105 = .ok (.iload 5, 2) := by decide +kernel
theorem dL_isVoice_107 : decode cL_isVoice 107 = .ok (.bipush 6, 2) := by decide +kernel
theorem dL_isVoice_109 : decode cL_isVoice 109 = .ok (.invokevirtual 42, 3) := by decide +kernel
theorem dL_isVoice_112 : decode cL_isVoice 112 = .ok (.aload_n 1, 1) := by decide +kernel
theorem dL_isVoice_113 : decode cL_isVoice 113 = .ok (.iload 6, 2) := by decide +kernel
theorem dL_isVoice_115 : decode cL_isVoice 115 = .ok (.iconst 5, 1) := by decide +kernel
theorem dL_isVoice_116 : decode cL_isVoice 116 = .ok (.iadd, 1) := by decide +kernel
theorem dL_isVoice_117 : decode cL_isVoice 117 = .ok (.iaload, 1) := by decide +kernel
theorem dL_isVoice_118 : decode cL_isVoice 118 = .ok (.if_icmp .ne 58, 3) := by decide +kernel
theorem dL_isVoice_121 : decode cL_isVoice 121 = .ok (.aload_n 0, 1) := by decide +kernel
theorem dL_isVoice_122 : decode cL_isVoice 122 = .ok (.iload 5, 2) := by decide +kernel
theorem dL_isVoice_124 : decode cL_isVoice 124 = .ok (.bipush 7, 2) := by decide +kernel
theorem dL_isVoice_126 : decode cL_isVoice 126 = .ok (.invokevirtual 42, 3) := by decide +kernel
theorem dL_isVoice_129 : decode cL_isVoice 129 = .ok (.aload_n 1, 1) := by decide +kernel
theorem dL_isVoice_130 : decode cL_isVoice 130 = .ok (.iload 6, 2) := by decide +kernel
theorem dL_isVoice_132 : decode cL_isVoice 132 = .ok (.bipush 6, 2) := by decide +kernel
theorem dL_isVoice_134 : decode cL_isVoice 134 = .ok (.iadd, 1) := by decide +kernel
theorem dL_isVoice_135 : decode cL_isVoice 135 = .ok (.iaload, 1) := by decide +kernel
theorem dL_isVoice_136 : decode cL_isVoice 136 = .ok (.if_icmp .ne 40, 3) := by decide +kernel
theorem dL_isVoice_139 : decode cL_isVoice 139 = .ok (.aload_n 0, 1) := by decide +kernel
theorem dL_isVoice_140 : decode cL_isVoice 140 = .ok (.iload 5, 2) := by decide +kernel
theorem dL_isVoice_142 : decode cL_isVoice 142 = .ok (.bipush 8, 2) := by decide +kernel
theorem dL_isVoice_144 : decode cL_isVoice 144 = .ok (.invokevirtual 42, 3) := by decide +kernel
theorem dL_isVoice_147 : decode cL_isVoice 147 = .ok (.aload_n 1, 1) := by decide +kernel
theorem dL_isVoice_148 : decode cL_isVoice 148 = .ok (.iload 6, 2) := by decide +kernel
theorem dL_isVoice_150 : decode cL_isVoice 150 = .ok (.iaload, 1) := by decide +kernel
theorem dL_isVoice_151 : decode cL_isVoice 151 = .ok (.if_icmp .ne 25, 3) := by decide +kernel
theorem dL_isVoice_154 : decode cL_isVoice 154 = .ok (.aload_n 0, 1) := by decide +kernel
theorem dL_isVoice_155 : decode cL_isVoice 155 = .ok (.iload 5, 2) := by decide +kernel
theorem dL_isVoice_157 : decode cL_isVoice 157 = .ok (.bipush 9, 2) := by decide +kernel
theorem dL_isVoice_159 : decode cL_isVoice 159 = .ok (.invokevirtual 42, 3) := by decide +kernel
theorem dL_isVoice_162 : decode cL_isVoice 162 = .ok (.aload_n 1, 1) := by decide +kernel
theorem dL_isVoice_163 : decode cL_isVoice 163 = .ok (.iload 6, 2) := by decide +kernel
theorem dL_isVoice_165 : decode cL_isVoice 165 = .ok (.bipush 19, 2) := by decide +kernel
theorem dL_isVoice_167 : decode cL_isVoice 167 = .ok (.iadd, 1) := by decide +kernel
theorem dL_isVoice_168 : decode cL_isVoice 168 = .ok (.iaload, 1) := by decide +kernel
theorem dL_isVoice_169 : decode cL_isVoice 169 = .ok (.if_icmp .ne 7, 3) := by decide +kernel
theorem dL_isVoice_172 : decode cL_isVoice 172 = .ok (.iconst 1, 1) := by decide +kernel
theorem dL_isVoice_173 : decode cL_isVoice 173 = .ok (.goto 4, 3) := by decide +kernel
theorem dL_isVoice_176 : decode cL_isVoice 176 = .ok (.iconst 0, 1) := by decide +kernel
theorem dL_isVoice_177 : decode cL_isVoice 177 = .ok (.istore 7, 2) := by decide +kernel
theorem dL_isVoice_179 : decode cL_isVoice 179 = .ok (.iload 7, 2) := by decide +kernel
theorem dL_isVoice_181 : decode cL_isVoice 181 = .ok (.ifCond .eq 216, 3) := by decide +kernel
theorem dL_isVoice_184 : decode cL_isVoice 184 = .ok (.aload_n 0, 1) := by decide +kernel
theorem dL_isVoice_185 : decode cL_isVoice 185 = .ok (.iload 5, 2) := by decide +kernel
theorem dL_isVoice_187 : decode cL_isVoice 187 = .ok (.iconst 0, 1) := by decide +kernel
theorem dL_isVoice_188 : decode cL_isVoice 188 = .ok (.invokevirtual 47, 3) := by decide +kernel
theorem dL_isVoice_191 : decode cL_isVoice 191 = .ok (.aload_n 1, 1) := by decide +kernel
theorem dL_isVoice_192 : decode cL_isVoice 192 = .ok (.iload 6, 2) := by decide +kernel
theorem dL_isVoice_194 : decode cL_isVoice 194 = .ok (.bipush 10, 2) := by decide +kernel
theorem dL_isVoice_196 : decode cL_isVoice 196 = .ok (.iadd, 1) := by decide +kernel
theorem dL_isVoice_197 : decode cL_isVoice 197 = .ok (.iaload, 1) := by decide +kernel
theorem dL_isVoice_198 : decode cL_isVoice 198 = .ok (.if_icmp .ne 199, 3) := by decide +kernel
theorem dL_isVoice_201 : decode cL_isVoice 201 = .ok (.aload_n 0, 1) := by decide +kernel
theorem dL_isVoice_202 : decode cL_isVoice 202 = .ok (.iload 5, 2) := by decide +kernel
theorem dL_isVoice_204 : decode cL_isVoice 204 = .ok (.iconst 1, 1) := by decide +kernel
theorem dL_isVoice_205 : decode cL_isVoice 205 = .ok (.invokevirtual 47, 3) := by decide +kernel
theorem dL_isVoice_208 : decode cL_isVoice 208 = .ok (.aload_n 1, 1) := by decide +kernel
theorem dL_isVoice_209 : decode cL_isVoice 209 = .ok (.iload 6, 2) := by decide +kernel
theorem dL_isVoice_211 : decode cL_isVoice 211 = .ok (.bipush 11, 2) := by decide +kernel
theorem dL_isVoice_213 : decode cL_isVoice 213 = .ok (.iadd, 1) := by decide +kernel
theorem dL_isVoice_214 : decode cL_isVoice 214 = .ok (.iaload, 1) := by decide +kernel
theorem dL_isVoice_215 : decode cL_isVoice 215 = .ok (.if_icmp .ne 182, 3) := by decide +kernel
theorem dL_isVoice_218 : decode cL_isVoice 218 = .ok (.aload_n 0, 1) := by decide +kernel
theorem dL_isVoice_219 : decode cL_isVoice 219 = .ok (.iload 5, 2) := by decide +kernel
theorem dL_isVoice_221 : decode cL_isVoice 221 = .ok (.iconst 2, 1) := by decide +kernel
theorem dL_isVoice_222 : decode cL_isVoice 222 = .ok (.invokevirtual 47, 3) := by decide +kernel
theorem dL_isVoice_225 : decode cL_isVoice 225 = .ok (.aload_n 1, 1) := by decide +kernel
theorem dL_isVoice_226 : decode cL_isVoice 226 = .ok (.iload 6, 2) := by decide +kernel
theorem dL_isVoice_228 : decode cL_isVoice 228 = .ok (.bipush 11, 2) := by decide +kernel
theorem dL_isVoice_230 : decode cL_isVoice 230 = .ok (.iadd, 1) := by decide +kernel
theorem dL_isVoice_231 : decode cL_isVoice 231 = .ok (.iaload, 1) := by decide +kernel
theorem dL_isVoice_232 : decode cL_isVoice 232 = .ok (.invokestatic 9, 3) := by decide +kernel
theorem dL_isVoice_235 : decode cL_isVoice 235 = .ok (.if_icmp .ne 162, 3) := by decide +kernel
theorem dL_isVoice_238 : decode cL_isVoice 238 = .ok (.aload_n 0, 1) := by decide +kernel
theorem dL_isVoice_239 : decode cL_isVoice 239 = .ok (.iload 5, 2) := by decide +kernel
theorem dL_isVoice_241 : decode cL_isVoice 241 = .ok (.iconst 3, 1) := by decide +kernel
theorem dL_isVoice_242 : decode cL_isVoice 242 = .ok (.invokevirtual 47, 3) := by decide +kernel
theorem dL_isVoice_245 : decode cL_isVoice 245 = .ok (.aload_n 1, 1) := by decide +kernel
theorem dL_isVoice_246 : decode cL_isVoice 246 = .ok (.iload 6, 2) := by decide +kernel
theorem dL_isVoice_248 : decode cL_isVoice 248 = .ok (.bipush 12, 2) := by decide +kernel
theorem dL_isVoice_250 : decode cL_isVoice 250 = .ok (.iadd, 1) := by decide +kernel
theorem dL_isVoice_251 : decode cL_isVoice 251 = .ok (.iaload, 1) := by decide +kernel
theorem dL_isVoice_252 : decode cL_isVoice 252 = .ok (.if_icmp .ne 145, 3) := by decide +kernel
theorem dL_isVoice_255 : decode cL_isVoice 255 = .ok (.aload_n 0, 1) := by decide +kernel
theorem dL_isVoice_256 : decode cL_isVoice 256 = .ok (.iload 5, 2) := by decide +kernel
theorem dL_isVoice_258 : decode cL_isVoice 258 = .ok (.iconst 4, 1) := by decide +kernel
theorem dL_isVoice_259 : decode cL_isVoice 259 = .ok (.invokevirtual 47, 3) := by decide +kernel
theorem dL_isVoice_262 : decode cL_isVoice 262 = .ok (.aload_n 1, 1) := by decide +kernel
theorem dL_isVoice_263 : decode cL_isVoice 263 = .ok (.iload 6, 2) := by decide +kernel
theorem dL_isVoice_265 : decode cL_isVoice 265 = .ok (.bipush 13, 2) := by decide +kernel
theorem dL_isVoice_267 : decode cL_isVoice 267 = .ok (.iadd, 1) := by decide +kernel
theorem dL_isVoice_268 : decode cL_isVoice 268 = .ok (.iaload, 1) := by decide +kernel
theorem dL_isVoice_269 : decode cL_isVoice 269 = .ok (.if_icmp .ne 128, 3) := by decide +kernel
theorem dL_isVoice_272 : decode cL_isVoice 272 = .ok (.aload_n 0, 1) := by decide +kernel
theorem dL_isVoice_273 : decode cL_isVoice 273 = .ok (.iload 5, 2) := by decide +kernel
theorem dL_isVoice_275 : decode cL_isVoice 275 = .ok (.iconst 5, 1) := by decide +kernel
theorem dL_isVoice_276 : decode cL_isVoice 276 = .ok (.invokevirtual 47, 3) := by decide +kernel
theorem dL_isVoice_279 : decode cL_isVoice 279 = .ok (.aload_n 1, 1) := by decide +kernel
theorem dL_isVoice_280 : decode cL_isVoice 280 = .ok (.iload 6, 2) := by decide +kernel
theorem dL_isVoice_282 : decode cL_isVoice 282 = .ok (.bipush 14, 2) := by decide +kernel
theorem dL_isVoice_284 : decode cL_isVoice 284 = .ok (.iadd, 1) := by decide +kernel
theorem dL_isVoice_285 : decode cL_isVoice 285 = .ok (.iaload, 1) := by decide +kernel
theorem dL_isVoice_286 : decode cL_isVoice 286 = .ok (.if_icmp .ne 111, 3) := by decide +kernel
theorem dL_isVoice_289 : decode cL_isVoice 289 = .ok (.aload_n 0, 1) := by decide +kernel
theorem dL_isVoice_290 : decode cL_isVoice 290 = .ok (.iload 5, 2) := by decide +kernel
theorem dL_isVoice_292 : decode cL_isVoice 292 = .ok (.bipush 6, 2) := by decide +kernel
theorem dL_isVoice_294 : decode cL_isVoice 294 = .ok (.invokevirtual 47, 3) := by decide +kernel
theorem dL_isVoice_297 : decode cL_isVoice 297 = .ok (.aload_n 1, 1) := by decide +kernel
theorem dL_isVoice_298 : decode cL_isVoice 298 = .ok (.iload 6, 2) := by decide +kernel
theorem dL_isVoice_300 : decode cL_isVoice 300 = .ok (.bipush 15, 2) := by decide +kernel
theorem dL_isVoice_302 : decode cL_isVoice 302 = .ok (.iadd, 1) := by decide +kernel
theorem dL_isVoice_303 : decode cL_isVoice 303 = .ok (.iaload, 1) := by decide +kernel
theorem dL_isVoice_304 : decode cL_isVoice 304 = .ok (.if_icmp .ne 93, 3) := by decide +kernel
theorem dL_isVoice_307 : decode cL_isVoice 307 = .ok (.aload_n 0, 1) := by decide +kernel
theorem dL_isVoice_308 : decode cL_isVoice 308 = .ok (.iload 5, 2) := by decide +kernel
theorem dL_isVoice_310 : decode cL_isVoice 310 = .ok (.bipush 7, 2) := by decide +kernel
theorem dL_isVoice_312 : decode cL_isVoice 312 = .ok (.invokevirtual 47, 3) := by decide +kernel
theorem dL_isVoice_315 : decode cL_isVoice 315 = .ok (.aload_n 1, 1) := by decide +kernel
theorem dL_isVoice_316 : decode cL_isVoice 316 = .ok (.iload 6, 2) := by decide +kernel
theorem dL_isVoice_318 : decode cL_isVoice 318 = .ok (.bipush 16, 2) := by decide +kernel
theorem dL_isVoice_320 : decode cL_isVoice 320 = .ok (.iadd, 1) := by decide +kernel
theorem dL_isVoice_321 : decode cL_isVoice 321 = .ok (.iaload, 1) := by decide +kernel
theorem dL_isVoice_322 : decode cL_isVoice 322 = .ok (.if_icmp .ne 75, 3) := by decide +kernel
theorem dL_isVoice_325 : decode cL_isVoice 325 = .ok (.aload_n 0, 1) := by decide +kernel
theorem dL_isVoice_326 : decode cL_isVoice 326 = .ok (.iload 5, 2) := by decide +kernel
theorem dL_isVoice_328 : decode cL_isVoice 328 = .ok (.bipush 8, 2) := by decide +kernel
theorem dL_isVoice_330 : decode cL_isVoice 330 = .ok (.invokevirtual 47, 3) := by decide +kernel
theorem dL_isVoice_333 : decode cL_isVoice 333 = .ok (.aload_n 1, 1) := by decide +kernel
theorem dL_isVoice_334 : decode cL_isVoice 334 = .ok (.iload 6, 2) := by decide +kernel
theorem dL_isVoice_336 : decode cL_isVoice 336 = .ok (.bipush 17, 2) := by decide +kernel
theorem dL_isVoice_338 : decode cL_isVoice 338 = .ok (.iadd, 1) := by decide +kernel
theorem dL_isVoice_339 : decode cL_isVoice 339 = .ok (.iaload, 1) := by decide +kernel
theorem dL_isVoice_340 : decode cL_isVoice 340 = .ok (.if_icmp .ne 57, 3) := by decide +kernel
theorem dL_isVoice_343 : decode cL_isVoice 343 = .ok (.aload_n 0, 1) := by decide +kernel
theorem dL_isVoice_344 : decode cL_isVoice 344 = .ok (.iload 5, 2) := by decide +kernel
theorem dL_isVoice_346 : decode cL_isVoice 346 = .ok (.bipush 9, 2) := by decide +kernel
theorem dL_isVoice_348 : decode cL_isVoice 348 = .ok (.invokevirtual 47, 3) := by decide +kernel
theorem dL_isVoice_351 : decode cL_isVoice 351 = .ok (.aload_n 1, 1) := by decide +kernel
theorem dL_isVoice_352 : decode cL_isVoice 352 = .ok (.iload 6, 2) := by decide +kernel
theorem dL_isVoice_354 : decode cL_isVoice 354 = .ok (.bipush 18, 2) := by decide +kernel
theorem dL_isVoice_356 : decode cL_isVoice 356 = .ok (.iadd, 1) := by decide +kernel
theorem dL_isVoice_357 : decode cL_isVoice 357 = .ok (.iaload, 1) := by decide +kernel
theorem dL_isVoice_358 : decode cL_isVoice 358 = .ok (.if_icmp .ne 39, 3) := by decide +kernel
theorem dL_isVoice_361 : decode cL_isVoice 361 = .ok (.aload_n 0, 1) := by decide +kernel
theorem dL_isVoice_362 : decode cL_isVoice 362 = .ok (.iload 5, 2) := by decide +kernel
theorem dL_isVoice_364 : decode cL_isVoice 364 = .ok (.bipush 10, 2) := by decide +kernel
theorem dL_isVoice_366 : decode cL_isVoice 366 = .ok (.invokevirtual 47, 3) := by decide +kernel
theorem dL_isVoice_369 : decode cL_isVoice 369 = .ok (.aload_n 2, 1) := by decide +kernel
theorem dL_isVoice_370 : decode cL_isVoice 370 = .ok (.iload 5, 2) := by decide +kernel
theorem dL_isVoice_372 : decode cL_isVoice 372 = .ok (.iaload, 1) := by decide +kernel
theorem dL_isVoice_373 : decode cL_isVoice 373 = .ok (.if_icmp .ne 24, 3) := by decide +kernel
theorem dL_isVoice_376 : decode cL_isVoice 376 = .ok (.aload_n 0, 1) := by decide +kernel
theorem dL_isVoice_377 : decode cL_isVoice 377 = .ok (.iload 5, 2) := by decide +kernel
theorem dL_isVoice_379 : decode cL_isVoice 379 = .ok (.bipush 11, 2) := by decide +kernel
theorem dL_isVoice_381 : decode cL_isVoice 381 = .ok (.invokevirtual 47, 3) := by decide +kernel
theorem dL_isVoice_384 : decode cL_isVoice 384 = .ok (.aload_n 2, 1) := by decide +kernel
theorem dL_isVoice_385 : decode cL_isVoice 385 = .ok (.iconst 3, 1) := by decide +kernel
theorem dL_isVoice_386 : decode cL_isVoice 386 = .ok (.iload 5, 2) := by decide +kernel
theorem dL_isVoice_388 : decode cL_isVoice 388 = .ok (.iadd, 1) := by decide +kernel
theorem dL_isVoice_389 : decode cL_isVoice 389 = .ok (.iaload, 1) := by decide +kernel
theorem dL_isVoice_390 : decode cL_isVoice 390 = .ok (.if_icmp .ne 7, 3) := by decide +kernel
theorem dL_isVoice_393 : decode cL_isVoice 393 = .ok (.iconst 1, 1) := by decide +kernel
theorem dL_isVoice_394 : decode cL_isVoice 394 = .ok (.goto 4, 3) := by decide +kernel
theorem dL_isVoice_397 : decode cL_isVoice 397 = .ok (.iconst 0, 1) := by decide +kernel
theorem dL_isVoice_398 : decode cL_isVoice 398 = .ok (.istore 7, 2) := by decide +kernel
theorem dL_isVoice_400 : decode cL_isVoice 400 = .ok (.iconst 0, 1) := by decide +kernel
theorem dL_isVoice_401 : decode cL_isVoice 401 = .ok (.istore 8, 2) := by decide +kernel
theorem dL_isVoice_403 : decode cL_isVoice 403 = .ok (.iload 8, 2) := by decide +kernel
theorem dL_isVoice_405 : decode cL_isVoice 405 = .ok (.aload_n 1, 1) := by decide +kernel
theorem dL_isVoice_406 : decode cL_isVoice 406 = .ok (.iload 6, 2) := by decide +kernel
theorem dL_isVoice_408 : decode cL_isVoice 408 = .ok (.bipush 19, 2) := by decide +kernel
theorem dL_isVoice_410 : decode cL_isVoice 410 = .ok (.iadd, 1) := by decide +kernel
theorem dL_isVoice_411 : decode cL_isVoice 411 = .ok (.iaload, 1) := by decide +kernel
theorem dL_isVoice_412 : decode cL_isVoice 412 = .ok (.if_icmp .ge 194, 3) := by decide +kernel
theorem dL_isVoice_415 : decode cL_isVoice 415 = .ok (.iload 7, 2) := by decide +kernel
theorem dL_isVoice_417 : decode cL_isVoice 417 = .ok (.ifCond .eq 189, 3) := by decide +kernel
theorem dL_isVoice_420 : decode cL_isVoice 420 = .ok (.iconst 0, 1) := by decide +kernel
theorem dL_isVoice_421 : decode cL_isVoice 421 = .ok (.istore 9, 2) := by decide +kernel
theorem dL_isVoice_423 : decode cL_isVoice 423 = .ok (.iconst 0, 1) := by decide +kernel
theorem dL_isVoice_424 : decode cL_isVoice 424 = .ok (.istore 10, 2) := by decide +kernel
theorem dL_isVoice_426 : decode cL_isVoice 426 = .ok (.iload 10, 2) := by decide +kernel
theorem dL_isVoice_428 : decode cL_isVoice 428 = .ok (.aload 4, 2) := by decide +kernel
theorem dL_isVoice_430 : decode cL_isVoice 430 = .ok (.bipush 16, 2) := by decide +kernel
theorem dL_isVoice_432 : decode cL_isVoice 432 = .ok (.iload 8, 2) := by decide +kernel
theorem dL_isVoice_434 : decode cL_isVoice 434 = .ok (.imul, 1) := by decide +kernel
theorem dL_isVoice_435 : decode cL_isVoice 435 = .ok (.iconst 1, 1) := by decide +kernel
theorem dL_isVoice_436 : decode cL_isVoice 436 = .ok (.iadd, 1) := by decide +kernel
theorem dL_isVoice_437 : decode cL_isVoice 437 = .ok (.iaload, 1) := by decide +kernel
theorem dL_isVoice_438 : decode cL_isVoice 438 = .ok (.if_icmp .ge 33, 3) := by decide +kernel
theorem dL_isVoice_441 : decode cL_isVoice 441 = .ok (.bipush 16, 2) := by decide +kernel
theorem dL_isVoice_443 : decode cL_isVoice 443 = .ok (.iload 9, 2) := by decide +kernel
theorem dL_isVoice_445 : decode cL_isVoice 445 = .ok (.imul, 1) := by decide +kernel
theorem dL_isVoice_446 : decode cL_isVoice 446 = .ok (.aload 4, 2) := by decide +kernel
theorem dL_isVoice_448 : decode cL_isVoice 448 = .ok (.bipush 16, 2) := by decide +kernel
theorem dL_isVoice_450 : decode cL_isVoice 450 = .ok (.iload 8, 2) := by decide +kernel
theorem dL_isVoice_452 : decode cL_isVoice 452 = .ok (.imul, 1) := by decide +kernel
theorem dL_isVoice_453 : decode cL_isVoice 453 = .ok (.iconst 5, 1) := by decide +kernel
theorem dL_isVoice_454 : decode cL_isVoice 454 = .ok (.iadd, 1) := by decide +kernel
theorem dL_isVoice_455 : decode cL_isVoice 455 = .ok (.iload 10, 2) := by decide +kernel
theorem dL_isVoice_457 : decode cL_isVoice 457 = .ok (.iadd, 1) := by decide +kernel
theorem dL_isVoice_458 : decode cL_isVoice 458 = .ok (.iaload, 1) := by decide +kernel
theorem dL_isVoice_459 : decode cL_isVoice 459 = .ok (.ldc 30, 2) := by decide +kernel
theorem dL_isVoice_461 : decode cL_isVoice 461 = .ok (.idiv, 1) := by decide +kernel
theorem dL_isVoice_462 : decode cL_isVoice 462 = .ok (.iadd, 1) := by decide +kernel
theorem dL_isVoice_463 : decode cL_isVoice 463 = .ok (.istore 9, 2) := by decide +kernel
theorem dL_isVoice_465 : decode cL_isVoice 465 = .ok (.iinc 10 1, 3) := by decide +kernel
theorem dL_isVoice_468 : decode cL_isVoice 468 = .ok (.goto (-42), 3) := by decide +kernel
theorem dL_isVoice_471 : decode cL_isVoice 471 = .ok (.aload_n 0, 1) := by decide +kernel
theorem dL_isVoice_472 : decode cL_isVoice 472 = .ok (.iload 5, 2) := by decide +kernel
theorem dL_isVoice_474 : decode cL_isVoice 474 = .ok (.iload 8, 2) := by decide +kernel
theorem dL_isVoice_476 : decode cL_isVoice 476 = .ok (.iconst 0, 1) := by decide +kernel
theorem dL_isVoice_477 : decode cL_isVoice 477 = .ok (.invokevirtual 50, 3) := by decide +kernel
theorem dL_isVoice_480 : decode cL_isVoice 480 = .ok (.aload 4, 2) := by decide +kernel
theorem dL_isVoice_482 : decode cL_isVoice 482 = .ok (.bipush 16, 2) := by decide +kernel
theorem dL_isVoice_484 : decode cL_isVoice 484 = .ok (.iload 8, 2) := by decide +kernel
theorem dL_isVoice_486 : decode cL_isVoice 486 = .ok (.imul, 1) := by decide +kernel
theorem dL_isVoice_487 : decode cL_isVoice 487 = .ok (.iaload, 1) := by decide +kernel
theorem dL_isVoice_488 : decode cL_isVoice 488 = .ok (.if_icmp .ne 109, 3) := by decide +kernel
theorem dL_isVoice_491 : decode cL_isVoice 491 = .ok (.aload_n 0, 1) := by decide +kernel
theorem dL_isVoice_492 : decode cL_isVoice 492 = .ok (.iload 5, 2) := by decide +kernel
theorem dL_isVoice_494 : decode cL_isVoice 494 = .ok (.iload 8, 2) := by decide +kernel
theorem dL_isVoice_496 : decode cL_isVoice 496 = .ok (.iconst 1, 1) := by decide +kernel
theorem dL_isVoice_497 : decode cL_isVoice 497 = .ok (.invokevirtual 50, 3) := by decide +kernel
theorem dL_isVoice_500 : decode cL_isVoice 500 = .ok (.aload 4, 2) := by decide +kernel
theorem dL_isVoice_502 : decode cL_isVoice 502 = .ok (.bipush 16, 2) := by decide +kernel
theorem dL_isVoice_504 : decode cL_isVoice 504 = .ok (.iload 8, 2) := by decide +kernel
theorem dL_isVoice_506 : decode cL_isVoice 506 = .ok (.imul, 1) := by decide +kernel
theorem dL_isVoice_507 : decode cL_isVoice 507 = .ok (.iconst 1, 1) := by decide +kernel
theorem dL_isVoice_508 : decode cL_isVoice 508 = .ok (.iadd, 1) := by decide +kernel
theorem dL_isVoice_509 : decode cL_isVoice 509 = .ok (.iaload, 1) := by decide +kernel
theorem dL_isVoice_510 : decode cL_isVoice 510 = .ok (.if_icmp .ne 87, 3) := by decide +kernel
theorem dL_isVoice_513 : decode cL_isVoice 513 = .ok (.aload_n 0, 1) := by decide +kernel
theorem dL_isVoice_514 : decode cL_isVoice 514 = .ok (.iload 5, 2) := by decide +kernel
theorem dL_isVoice_516 : decode cL_isVoice 516 = .ok (.iload 8, 2) := by decide +kernel
theorem dL_isVoice_518 : decode cL_isVoice 518 = .ok (.iconst 2, 1) := by decide +kernel
theorem dL_isVoice_519 : decode cL_isVoice 519 = .ok (.invokevirtual 50, 3) := by decide +kernel
theorem dL_isVoice_522 : decode cL_isVoice 522 = .ok (.aload 4, 2) := by decide +kernel
theorem dL_isVoice_524 : decode cL_isVoice 524 = .ok (.bipush 16, 2) := by decide +kernel
theorem dL_isVoice_526 : decode cL_isVoice 526 = .ok (.iload 8, 2) := by decide +kernel
theorem dL_isVoice_528 : decode cL_isVoice 528 = .ok (.imul, 1) := by decide +kernel
theorem dL_isVoice_529 : decode cL_isVoice 529 = .ok (.iconst 2, 1) := by decide +kernel
theorem dL_isVoice_530 : decode cL_isVoice 530 = .ok (.iadd, 1) := by decide +kernel
theorem dL_isVoice_531 : decode cL_isVoice 531 = .ok (.iaload, 1) := by decide +kernel
theorem dL_isVoice_532 : decode cL_isVoice 532 = .ok (.if_icmp .ne 65, 3) := by decide +kernel
theorem dL_isVoice_535 : decode cL_isVoice 535 = .ok (.aload_n 0, 1) := by decide +kernel
theorem dL_isVoice_536 : decode cL_isVoice 536 = .ok (.iload 5, 2) := by decide +kernel
theorem dL_isVoice_538 : decode cL_isVoice 538 = .ok (.iload 8, 2) := by decide +kernel
theorem dL_isVoice_540 : decode cL_isVoice 540 = .ok (.iconst 3, 1) := by decide +kernel
theorem dL_isVoice_541 : decode cL_isVoice 541 = .ok (.invokevirtual 50, 3) := by decide +kernel
theorem dL_isVoice_544 : decode cL_isVoice 544 = .ok (.aload 4, 2) := by decide +kernel
theorem dL_isVoice_546 : decode cL_isVoice 546 = .ok (.bipush 16, 2) := by decide +kernel
theorem dL_isVoice_548 : decode cL_isVoice 548 = .ok (.iload 8, 2) := by decide +kernel
theorem dL_isVoice_550 : decode cL_isVoice 550 = .ok (.imul, 1) := by decide +kernel
theorem dL_isVoice_551 : decode cL_isVoice 551 = .ok (.iconst 3, 1) := by decide +kernel
theorem dL_isVoice_552 : decode cL_isVoice 552 = .ok (.iadd, 1) := by decide +kernel
theorem dL_isVoice_553 : decode cL_isVoice 553 = .ok (.iaload, 1) := by decide +kernel
theorem dL_isVoice_554 : decode cL_isVoice 554 = .ok (.if_icmp .ne 43, 3) := by decide +kernel
theorem dL_isVoice_557 : decode cL_isVoice 557 = .ok (.aload_n 0, 1) := by decide +kernel
theorem dL_isVoice_558 : decode cL_isVoice 558 = .ok (.iload 5, 2) := by decide +kernel
theorem dL_isVoice_560 : decode cL_isVoice 560 = .ok (.iload 8, 2) := by decide +kernel
theorem dL_isVoice_562 : decode cL_isVoice 562 = .ok (.iconst 4, 1) := by decide +kernel
theorem dL_isVoice_563 : decode cL_isVoice 563 = .ok (.invokevirtual 50, 3) := by decide +kernel
theorem dL_isVoice_566 : decode cL_isVoice 566 = .ok (.aload 4, 2) := by decide +kernel
theorem dL_isVoice_568 : decode cL_isVoice 568 = .ok (.bipush 16, 2) := by decide +kernel
theorem dL_isVoice_570 : decode cL_isVoice 570 = .ok (.iload 8, 2) := by decide +kernel
theorem dL_isVoice_572 : decode cL_isVoice 572 = .ok (.imul, 1) := by decide +kernel
theorem dL_isVoice_573 : decode cL_isVoice 573 = .ok (.iconst 4, 1) := by decide +kernel
theorem dL_isVoice_574 : decode cL_isVoice 574 = .ok (.iadd, 1) := by decide +kernel
theorem dL_isVoice_575 : decode cL_isVoice 575 = .ok (.iaload, 1) := by decide +kernel
theorem dL_isVoice_576 : decode cL_isVoice 576 = .ok (.if_icmp .ne 21, 3) := by decide +kernel
theorem dL_isVoice_579 : decode cL_isVoice 579 = .ok (.aload_n 0, 1) := by decide +kernel
theorem dL_isVoice_580 : decode cL_isVoice 580 = .ok (.iload 5, 2) := by decide +kernel
theorem dL_isVoice_582 : decode cL_isVoice 582 = .ok (.iload 8, 2) := by decide +kernel
theorem dL_isVoice_584 : decode cL_isVoice 584 = .ok (.iconst 5, 1) := by decide +kernel
theorem dL_isVoice_585 : decode cL_isVoice 585 = .ok (.invokevirtual 50, 3) := by decide +kernel
theorem dL_isVoice_588 : decode cL_isVoice 588 = .ok (.iload 9, 2) := by decide +kernel
theorem dL_isVoice_590 : decode cL_isVoice 590 = .ok (.if_icmp .ne 7, 3) := by decide +kernel
theorem dL_isVoice_593 : decode cL_isVoice 593 = .ok (.iconst 1, 1) := by decide +kernel
theorem dL_isVoice_594 : decode cL_isVoice 594 = .ok (.goto 4, 3) := by decide +kernel
theorem dL_isVoice_597 : decode cL_isVoice 597 = .ok (.iconst 0, 1) := by decide +kernel
theorem dL_isVoice_598 : decode cL_isVoice 598 = .ok (.istore 7, 2) := by decide +kernel
theorem dL_isVoice_600 : decode cL_isVoice 600 = .ok (.iinc 8 1, 3) := by decide +kernel
theorem dL_isVoice_603 : decode cL_isVoice 603 = .ok (.goto (-200), 3) := by decide +kernel
theorem dL_isVoice_606 : decode cL_isVoice 606 = .ok (.iload 7, 2) := by decide +kernel
theorem dL_isVoice_608 : decode cL_isVoice 608 = .ok (.ifCond .eq 48, 3) := by decide +kernel
theorem dL_isVoice_611 : decode cL_isVoice 611 = .ok (.aload_n 0, 1) := by decide +kernel
theorem dL_isVoice_612 : decode cL_isVoice 612 = .ok (.iload 5, 2) := by decide +kernel
theorem dL_isVoice_614 : decode cL_isVoice 614 = .ok (.invokevirtual 53, 3) := by decide +kernel
theorem dL_isVoice_617 : decode cL_isVoice 617 = .ok (.aload_n 1, 1) := by decide +kernel
theorem dL_isVoice_618 : decode cL_isVoice 618 = .ok (.iload 6, 2) := by decide +kernel
theorem dL_isVoice_620 : decode cL_isVoice 620 = .ok (.bipush 13, 2) := by decide +kernel
theorem dL_isVoice_622 : decode cL_isVoice 622 = .ok (.iadd, 1) := by decide +kernel
theorem dL_isVoice_623 : decode cL_isVoice 623 = .ok (.iaload, 1) := by decide +kernel
theorem dL_isVoice_624 : decode cL_isVoice 624 = .ok (.ifCond .ne 7, 3) := by decide +kernel
theorem dL_isVoice_627 : decode cL_isVoice 627 = .ok (.dconst 0, 1) := by decide +kernel
theorem dL_isVoice_628 : decode cL_isVoice 628 = .ok (.goto 20, 3) := by decide +kernel
theorem dL_isVoice_631 : decode cL_isVoice 631 = .ok (.aload_n 1, 1) := by decide +kernel
theorem dL_isVoice_632 : decode cL_isVoice 632 = .ok (.iload 6, 2) := by decide +kernel
theorem dL_isVoice_634 : decode cL_isVoice 634 = .ok (.bipush 17, 2) := by decide +kernel
theorem dL_isVoice_636 : decode cL_isVoice 636 = .ok (.iadd, 1) := by decide +kernel
theorem dL_isVoice_637 : decode cL_isVoice 637 = .ok (.iaload, 1) := by decide +kernel
theorem dL_isVoice_638 : decode cL_isVoice 638 = .ok (.i2d, 1) := by decide +kernel
theorem dL_isVoice_639 : decode cL_isVoice 639 = .ok (.aload_n 1, 1) := by decide +kernel
theorem dL_isVoice_640 : decode cL_isVoice 640 = .ok (.iload 6, 2) := by decide +kernel
theorem dL_isVoice_642 : decode cL_isVoice 642 = .ok (.bipush 13, 2) := by decide +kernel
theorem dL_isVoice_644 : decode cL_isVoice 644 = .ok (.iadd, 1) := by decide +kernel
theorem dL_isVoice_645 : decode cL_isVoice 645 = .ok (.iaload, 1) := by decide +kernel
theorem dL_isVoice_646 : decode cL_isVoice 646 = .ok (.i2d, 1) := by decide +kernel
theorem dL_isVoice_647 : decode cL_isVoice 647 = .ok (.ddiv, 1) := by decide +kernel
theorem dL_isVoice_648 : decode cL_isVoice 648 = .ok (.dcmp .l, 1) := by decide +kernel
theorem dL_isVoice_649 : decode cL_isVoice 649 = .ok (.ifCond .ne 7, 3) := by decide +kernel
theorem dL_isVoice_652 : decode cL_isVoice 652 = .ok (.iconst 1, 1) := by decide +kernel
theorem dL_isVoice_653 : decode cL_isVoice 653 = .ok (.goto 4, 3) := by decide +kernel
theorem dL_isVoice_656 : decode cL_isVoice 656 = .ok (.iconst 0, 1) := by decide +kernel
theorem dL_isVoice_657 : decode cL_isVoice 657 = .ok (.ireturn, 1) := by decide +kernel
theorem dL_copy_0 : decode cL_copy 0 = .ok (.iconst 0, 1) := by decide +kernel
theorem dL_copy_1 : decode cL_copy 1 = .ok (.istore_n 3, 1) := by decide +kernel
theorem dL_copy_2 : decode cL_copy 2 = .ok (.iload_n 3, 1) := by decide +kernel
theorem dL_copy_3 : decode cL_copy 3 = .ok (.iload_n 2, 1) := by decide +kernel
theorem dL_copy_4 : decode cL_copy 4 = .ok (.if_icmp .ge 15, 3) := by decide +kernel
theorem dL_copy_7 : decode cL_copy 7 = .ok (.aload_n 1, 1) := by decide +kernel
theorem dL_copy_8 : decode cL_copy 8 = .ok (.iload_n 3, 1) := by decide +kernel
theorem dL_copy_9 : decode cL_copy 9 = .ok (.aload_n 0, 1) := by decide +kernel
theorem dL_copy_10 : decode cL_copy 10 = .ok (.iload_n 3, 1) := by decide +kernel
theorem dL_copy_11 : decode cL_copy 11 = .ok (.iaload, 1) := by decide +kernel
theorem dL_copy_12 : decode cL_copy 12 = .ok (.iastore, 1) := by decide +kernel
theorem dL_copy_13 : decode cL_copy 13 = .ok (.iinc 3 1, 3) := by decide +kernel
theorem dL_copy_16 : decode cL_copy 16 = .ok (.goto (-14), 3) := by decide +kernel
theorem dL_copy_19 : decode cL_copy 19 = .ok (.return_, 1) := by decide +kernel
theorem dL_reason_0 : decode cL_reason 0 = .ok (.bipush 60, 2) := by decide +kernel
theorem dL_reason_2 : decode cL_reason 2 = .ok (.newarray .int, 2) := by decide +kernel
theorem dL_reason_4 : decode cL_reason 4 = .ok (.astore 6, 2) := by decide +kernel
theorem dL_reason_6 : decode cL_reason 6 = .ok (.bipush 14, 2) := by decide +kernel
theorem dL_reason_8 : decode cL_reason 8 = .ok (.newarray .int, 2) := by decide +kernel
theorem dL_reason_10 : decode cL_reason 10 = .ok (.astore 7, 2) := by decide +kernel
theorem dL_reason_12 : decode cL_reason 12 = .ok (.bipush 64, 2) := by decide +kernel
theorem dL_reason_14 : decode cL_reason 14 = .ok (.newarray .int, 2) := by decide +kernel
theorem dL_reason_16 : decode cL_reason 16 = .ok (.astore 8, 2) := by decide +kernel
theorem dL_reason_18 : decode cL_reason 18 = .ok (.bipush 20, 2) := by decide +kernel
theorem dL_reason_20 : decode cL_reason 20 = .ok (.iload 5, 2) := by decide +kernel
theorem dL_reason_22 : decode cL_reason 22 = .ok (.imul, 1) := by decide +kernel
theorem dL_reason_23 : decode cL_reason 23 = .ok (.istore 9, 2) := by decide +kernel
theorem dL_reason_25 : decode cL_reason 25 = .ok (.aload_n 1, 1) := by decide +kernel
theorem dL_reason_26 : decode cL_reason 26 = .ok (.aload 6, 2) := by decide +kernel
theorem dL_reason_28 : decode cL_reason 28 = .ok (.bipush 60, 2) := by decide +kernel
theorem dL_reason_30 : decode cL_reason 30 = .ok (.invokestatic 57, 3) := by decide +kernel
theorem dL_reason_33 : decode cL_reason 33 = .ok (.aload_n 2, 1) := by decide +kernel
theorem dL_reason_34 : decode cL_reason 34 = .ok (.aload 7, 2) := by decide +kernel
theorem dL_reason_36 : decode cL_reason 36 = .ok (.bipush 14, 2) := by decide +kernel
theorem dL_reason_38 : decode cL_reason 38 = .ok (.invokestatic 57, 3) := by decide +kernel
theorem dL_reason_41 : decode cL_reason 41 = .ok (.aload 4, 2) := by decide +kernel
theorem dL_reason_43 : decode cL_reason 43 = .ok (.aload 8, 2) := by decide +kernel
theorem dL_reason_45 : decode cL_reason 45 = .ok (.bipush 64, 2) := by decide +kernel
theorem dL_reason_47 : decode cL_reason 47 = .ok (.invokestatic 57, 3) := by decide +kernel
theorem dL_reason_50 : decode cL_reason 50 = .ok (.aload 6, 2) := by decide +kernel
theorem dL_reason_52 : decode cL_reason 52 = .ok (.iload 9, 2) := by decide +kernel
theorem dL_reason_54 : decode cL_reason 54 = .ok (.bipush 19, 2) := by decide +kernel
theorem dL_reason_56 : decode cL_reason 56 = .ok (.iadd, 1) := by decide +kernel
theorem dL_reason_57 : decode cL_reason 57 = .ok (.iaload, 1) := by decide +kernel
theorem dL_reason_58 : decode cL_reason 58 = .ok (.ifCond .le 19, 3) := by decide +kernel
theorem dL_reason_61 : decode cL_reason 61 = .ok (.aload 6, 2) := by decide +kernel
theorem dL_reason_63 : decode cL_reason 63 = .ok (.aload 7, 2) := by decide +kernel
theorem dL_reason_65 : decode cL_reason 65 = .ok (.aload 8, 2) := by decide +kernel
theorem dL_reason_67 : decode cL_reason 67 = .ok (.iload 5, 2) := by decide +kernel
theorem dL_reason_69 : decode cL_reason 69 = .ok (.invokestatic 60, 3) := by decide +kernel
theorem dL_reason_72 : decode cL_reason 72 = .ok (.istore 10, 2) := by decide +kernel
theorem dL_reason_74 : decode cL_reason 74 = .ok (.goto (-24), 3) := by decide +kernel
theorem dL_reason_77 : decode cL_reason 77 = .ok (.aload_n 0, 1) := by decide +kernel
theorem dL_reason_78 : decode cL_reason 78 = .ok (.iload 5, 2) := by decide +kernel
theorem dL_reason_80 : decode cL_reason 80 = .ok (.iconst 0, 1) := by decide +kernel
theorem dL_reason_81 : decode cL_reason 81 = .ok (.invokevirtual 64, 3) := by decide +kernel
theorem dL_reason_84 : decode cL_reason 84 = .ok (.aload 6, 2) := by decide +kernel
theorem dL_reason_86 : decode cL_reason 86 = .ok (.iload 9, 2) := by decide +kernel
theorem dL_reason_88 : decode cL_reason 88 = .ok (.bipush 10, 2) := by decide +kernel
theorem dL_reason_90 : decode cL_reason 90 = .ok (.iadd, 1) := by decide +kernel
theorem dL_reason_91 : decode cL_reason 91 = .ok (.iaload, 1) := by decide +kernel
theorem dL_reason_92 : decode cL_reason 92 = .ok (.if_icmp .ne 85, 3) := by decide +kernel
theorem dL_reason_95 : decode cL_reason 95 = .ok (.aload_n 0, 1) := by decide +kernel
theorem dL_reason_96 : decode cL_reason 96 = .ok (.iload 5, 2) := by decide +kernel
theorem dL_reason_98 : decode cL_reason 98 = .ok (.iconst 1, 1) := by decide +kernel
theorem dL_reason_99 : decode cL_reason 99 = .ok (.invokevirtual 64, 3) := by decide +kernel
theorem dL_reason_102 : decode cL_reason 102 = .ok (.aload 6, 2) := by decide +kernel
theorem dL_reason_104 : decode cL_reason 104 = .ok (.iload 9, 2) := by decide +kernel
theorem dL_reason_106 : decode cL_reason 106 = .ok (.bipush 17, 2) := by decide +kernel
theorem dL_reason_108 : decode cL_reason 108 = .ok (.iadd, 1) := by decide +kernel
theorem dL_reason_109 : decode cL_reason 109 = .ok (.iaload, 1) := by decide +kernel
theorem dL_reason_110 : decode cL_reason 110 = .ok (.aload_n 1, 1) := by decide +kernel
theorem dL_reason_111 : decode cL_reason 111 = .ok (.iload 9, 2) := by decide +kernel
theorem dL_reason_113 : decode cL_reason 113 = .ok (.bipush 17, 2) := by decide +kernel
theorem dL_reason_115 : decode cL_reason 115 = .ok (.iadd, 1) := by decide +kernel
theorem dL_reason_116 : decode cL_reason 116 = .ok (.iaload, 1) := by decide +kernel
theorem dL_reason_117 : decode cL_reason 117 = .ok (.isub, 1) := by decide +kernel
theorem dL_reason_118 : decode cL_reason 118 = .ok (.if_icmp .ne 59, 3) := by decide +kernel
theorem dL_reason_121 : decode cL_reason 121 = .ok (.aload_n 0, 1) := by decide +kernel
theorem dL_reason_122 : decode cL_reason 122 = .ok (.iload 5, 2) := by decide +kernel
theorem dL_reason_124 : decode cL_reason 124 = .ok (.iconst 2, 1) := by decide +kernel
theorem dL_reason_125 : decode cL_reason 125 = .ok (.invokevirtual 64, 3) := by decide +kernel
theorem dL_reason_128 : decode cL_reason 128 = .ok (.aload 6, 2) := by decide +kernel
theorem dL_reason_130 : decode cL_reason 130 = .ok (.iload 9, 2) := by decide +kernel
theorem dL_reason_132 : decode cL_reason 132 = .ok (.bipush 14, 2) := by decide +kernel
theorem dL_reason_134 : decode cL_reason 134 = .ok (.iadd, 1) := by decide +kernel
theorem dL_reason_135 : decode cL_reason 135 = .ok (.iaload, 1) := by decide +kernel
theorem dL_reason_136 : decode cL_reason 136 = .ok (.aload_n 1, 1) := by decide +kernel
theorem dL_reason_137 : decode cL_reason 137 = .ok (.iload 9, 2) := by decide +kernel
theorem dL_reason_139 : decode cL_reason 139 = .ok (.bipush 14, 2) := by decide +kernel
theorem dL_reason_141 : decode cL_reason 141 = .ok (.iadd, 1) := by decide +kernel
theorem dL_reason_142 : decode cL_reason 142 = .ok (.iaload, 1) := by decide +kernel
theorem dL_reason_143 : decode cL_reason 143 = .ok (.isub, 1) := by decide +kernel
theorem dL_reason_144 : decode cL_reason 144 = .ok (.if_icmp .ne 33, 3) := by decide +kernel
theorem dL_reason_147 : decode cL_reason 147 = .ok (.aload_n 0, 1) := by decide +kernel
theorem dL_reason_148 : decode cL_reason 148 = .ok (.iload 5, 2) := by decide +kernel
theorem dL_reason_150 : decode cL_reason 150 = .ok (.iconst 3, 1) := by decide +kernel
theorem dL_reason_151 : decode cL_reason 151 = .ok (.invokevirtual 64, 3) := by decide +kernel
theorem dL_reason_154 : decode cL_reason 154 = .ok (.aload 6, 2) := by decide +kernel
theorem dL_reason_156 : decode cL_reason 156 = .ok (.iload 9, 2) := by decide +kernel
theorem dL_reason_158 : decode cL_reason 158 = .ok (.bipush 16, 2) := by decide +kernel
theorem dL_reason_160 : decode cL_reason 160 = .ok (.iadd, 1) := by decide +kernel
theorem dL_reason_161 : decode cL_reason 161 = .ok (.iaload, 1) := by decide +kernel
theorem dL_reason_162 : decode cL_reason 162 = .ok (.aload_n 1, 1) := by decide +kernel
theorem dL_reason_163 : decode cL_reason 163 = .ok (.iload 9, 2) := by decide +kernel
theorem dL_reason_165 : decode cL_reason 165 = .ok (.bipush 16, 2) := by decide +kernel
theorem dL_reason_167 : decode cL_reason 167 = .ok (.iadd, 1) := by decide +kernel
theorem dL_reason_168 : decode cL_reason 168 = .ok (.iaload, 1) := by decide +kernel
theorem dL_reason_169 : decode cL_reason 169 = .ok (.isub, 1) := by decide +kernel
theorem dL_reason_170 : decode cL_reason 170 = .ok (.if_icmp .ne 7, 3) := by decide +kernel
theorem dL_reason_173 : decode cL_reason 173 = .ok (.iconst 1, 1) := by decide +kernel
theorem dL_reason_174 : decode cL_reason 174 = .ok (.goto 4, 3) := by decide +kernel
theorem dL_reason_177 : decode cL_reason 177 = .ok (.iconst 0, 1) := by decide +kernel
theorem dL_reason_178 : decode cL_reason 178 = .ok (.istore 10, 2) := by decide +kernel
theorem dL_reason_180 : decode cL_reason 180 = .ok (.aload 6, 2) := by decide +kernel
theorem dL_reason_182 : decode cL_reason 182 = .ok (.iload 9, 2) := by decide +kernel
theorem dL_reason_184 : decode cL_reason 184 = .ok (.bipush 15, 2) := by decide +kernel
theorem dL_reason_186 : decode cL_reason 186 = .ok (.iadd, 1) := by decide +kernel
theorem dL_reason_187 : decode cL_reason 187 = .ok (.iaload, 1) := by decide +kernel
theorem dL_reason_188 : decode cL_reason 188 = .ok (.aload_n 1, 1) := by decide +kernel
theorem dL_reason_189 : decode cL_reason 189 = .ok (.iload 9, 2) := by decide +kernel
theorem dL_reason_191 : decode cL_reason 191 = .ok (.bipush 15, 2) := by decide +kernel
theorem dL_reason_193 : decode cL_reason 193 = .ok (.iadd, 1) := by decide +kernel
theorem dL_reason_194 : decode cL_reason 194 = .ok (.iaload, 1) := by decide +kernel
theorem dL_reason_195 : decode cL_reason 195 = .ok (.if_icmp .gt 39, 3) := by decide +kernel
theorem dL_reason_198 : decode cL_reason 198 = .ok (.aload 6, 2) := by decide +kernel
theorem dL_reason_200 : decode cL_reason 200 = .ok (.iload 9, 2) := by decide +kernel
theorem dL_reason_202 : decode cL_reason 202 = .ok (.bipush 14, 2) := by decide +kernel
theorem dL_reason_204 : decode cL_reason 204 = .ok (.iadd, 1) := by decide +kernel
theorem dL_reason_205 : decode cL_reason 205 = .ok (.iaload, 1) := by decide +kernel
theorem dL_reason_206 : decode cL_reason 206 = .ok (.aload_n 1, 1) := by decide +kernel
theorem dL_reason_207 : decode cL_reason 207 = .ok (.iload 9, 2) := by decide +kernel
theorem dL_reason_209 : decode cL_reason 209 = .ok (.bipush 14, 2) := by decide +kernel
theorem dL_reason_211 : decode cL_reason 211 = .ok (.iadd, 1) := by decide +kernel
theorem dL_reason_212 : decode cL_reason 212 = .ok (.iaload, 1) := by decide +kernel
theorem dL_reason_213 : decode cL_reason 213 = .ok (.if_icmp .gt 21, 3) := by decide +kernel
theorem dL_reason_216 : decode cL_reason 216 = .ok (.aload 6, 2) := by decide +kernel
theorem dL_reason_218 : decode cL_reason 218 = .ok (.iload 9, 2) := by decide +kernel
theorem dL_reason_220 : decode cL_reason 220 = .ok (.bipush 12, 2) := by decide +kernel
theorem dL_reason_222 : decode cL_reason 222 = .ok (.iadd, 1) := by decide +kernel
theorem dL_reason_223 : decode cL_reason 223 = .ok (.iaload, 1) := by decide +kernel
theorem dL_reason_224 : decode cL_reason 224 = .ok (.aload 6, 2) := by decide +kernel
theorem dL_reason_226 : decode cL_reason 226 = .ok (.iload 9, 2) := by decide +kernel
theorem dL_reason_228 : decode cL_reason 228 = .ok (.iconst 5, 1) := by decide +kernel
theorem dL_reason_229 : decode cL_reason 229 = .ok (.iadd, 1) := by decide +kernel
theorem dL_reason_230 : decode cL_reason 230 = .ok (.iaload, 1) := by decide +kernel
theorem dL_reason_231 : decode cL_reason 231 = .ok (.if_icmp .eq 7, 3) := by decide +kernel
theorem dL_reason_234 : decode cL_reason 234 = .ok (.iconst 1, 1) := by decide +kernel
theorem dL_reason_235 : decode cL_reason 235 = .ok (.goto 4, 3) := by decide +kernel
theorem dL_reason_238 : decode cL_reason 238 = .ok (.iconst 0, 1) := by decide +kernel
theorem dL_reason_239 : decode cL_reason 239 = .ok (.istore 11, 2) := by decide +kernel
theorem dL_reason_241 : decode cL_reason 241 = .ok (.iconst 0, 1) := by decide +kernel
theorem dL_reason_242 : decode cL_reason 242 = .ok (.istore 12, 2) := by decide +kernel
theorem dL_reason_244 : decode cL_reason 244 = .ok (.iload 12, 2) := by decide +kernel
theorem dL_reason_246 : decode cL_reason 246 = .ok (.aload_n 1, 1) := by decide +kernel
theorem dL_reason_247 : decode cL_reason 247 = .ok (.iload 9, 2) := by decide +kernel
theorem dL_reason_249 : decode cL_reason 249 = .ok (.iconst 4, 1) := by decide +kernel
theorem dL_reason_250 : decode cL_reason 250 = .ok (.iadd, 1) := by decide +kernel
theorem dL_reason_251 : decode cL_reason 251 = .ok (.iaload, 1) := by decide +kernel
theorem dL_reason_252 : decode cL_reason 252 = .ok (.if_icmp .ge 32, 3) := by decide +kernel
theorem dL_reason_255 : decode cL_reason 255 = .ok (.aload 6, 2) := by decide +kernel
theorem dL_reason_257 : decode cL_reason 257 = .ok (.iload 9, 2) := by decide +kernel
theorem dL_reason_259 : decode cL_reason 259 = .ok (.bipush 10, 2) := by decide +kernel
theorem dL_reason_261 : decode cL_reason 261 = .ok (.iadd, 1) := by decide +kernel
theorem dL_reason_262 : decode cL_reason 262 = .ok (.aload_n 3, 1) := by decide +kernel
theorem dL_reason_263 : decode cL_reason 263 = .ok (.bipush 8, 2) := by decide +kernel
theorem dL_reason_265 : decode cL_reason 265 = .ok (.iload 5, 2) := by decide +kernel
theorem dL_reason_267 : decode cL_reason 267 = .ok (.imul, 1) := by decide +kernel
theorem dL_reason_268 : decode cL_reason 268 = .ok (.iload 12, 2) := by decide +kernel
theorem dL_reason_270 : decode cL_reason 270 = .ok (.iadd, 1) := by decide +kernel
theorem dL_reason_271 : decode cL_reason 271 = .ok (.iaload, 1) := by decide +kernel
theorem dL_reason_272 : decode cL_reason 272 = .ok (.ldc 30, 2) := by decide +kernel
theorem dL_reason_274 : decode cL_reason 274 = .ok (.idiv, 1) := by decide +kernel
theorem dL_reason_275 : decode cL_reason 275 = .ok (.invokestatic 31, 3) := by decide +kernel
theorem dL_reason_278 : decode cL_reason 278 = .ok (.iinc 12 1, 3) := by decide +kernel
theorem dL_reason_281 : decode cL_reason 281 = .ok (.goto (-37), 3) := by decide +kernel
theorem dL_reason_284 : decode cL_reason 284 = .ok (.aload 6, 2) := by decide +kernel
theorem dL_reason_286 : decode cL_reason 286 = .ok (.iload 9, 2) := by decide +kernel
theorem dL_reason_288 : decode cL_reason 288 = .ok (.bipush 10, 2) := by decide +kernel
theorem dL_reason_290 : decode cL_reason 290 = .ok (.iadd, 1) := by decide +kernel
theorem dL_reason_291 : decode cL_reason 291 = .ok (.iaload, 1) := by decide +kernel
theorem dL_reason_292 : decode cL_reason 292 = .ok (.aload_n 1, 1) := by decide +kernel
theorem dL_reason_293 : decode cL_reason 293 = .ok (.iload 9, 2) := by decide +kernel
theorem dL_reason_295 : decode cL_reason 295 = .ok (.iaload, 1) := by decide +kernel
theorem dL_reason_296 : decode cL_reason 296 = .ok (.if_icmp .ne 24, 3) := by decide +kernel
theorem dL_reason_299 : decode cL_reason 299 = .ok (.aload 6, 2) := by decide +kernel
theorem dL_reason_301 : decode cL_reason 301 = .ok (.iload 9, 2) := by decide +kernel
theorem dL_reason_303 : decode cL_reason 303 = .ok (.bipush 11, 2) := by decide +kernel
theorem dL_reason_305 : decode cL_reason 305 = .ok (.iadd, 1) := by decide +kernel
theorem dL_reason_306 : decode cL_reason 306 = .ok (.iaload, 1) := by decide +kernel
theorem dL_reason_307 : decode cL_reason 307 = .ok (.aload_n 1, 1) := by decide +kernel
theorem dL_reason_308 : decode cL_reason 308 = .ok (.iload 9, 2) := by decide +kernel
theorem dL_reason_310 : decode cL_reason 310 = .ok (.iconst 1, 1) := by decide +kernel
theorem dL_reason_311 : decode cL_reason 311 = .ok (.iadd, 1) := by decide +kernel
theorem dL_reason_312 : decode cL_reason 312 = .ok (.iaload, 1) := by decide +kernel
theorem dL_reason_313 : decode cL_reason 313 = .ok (.if_icmp .ne 7, 3) := by decide +kernel
theorem dL_reason_316 : decode cL_reason 316 = .ok (.iconst 0, 1) := by decide +kernel
theorem dL_reason_317 : decode cL_reason 317 = .ok (.goto 13, 3) := by decide +kernel
theorem dL_reason_320 : decode cL_reason 320 = .ok (.iload 11, 2) := by decide +kernel
theorem dL_reason_322 : decode cL_reason 322 = .ok (.ifCond .eq 7, 3) := by decide +kernel
theorem dL_reason_325 : decode cL_reason 325 = .ok (.iconst 1, 1) := by decide +kernel
theorem dL_reason_326 : decode cL_reason 326 = .ok (.goto 4, 3) := by decide +kernel
theorem dL_reason_329 : decode cL_reason 329 = .ok (.iconst 2, 1) := by decide +kernel
theorem dL_reason_330 : decode cL_reason 330 = .ok (.istore 12, 2) := by decide +kernel
theorem dL_reason_332 : decode cL_reason 332 = .ok (.iload 10, 2) := by decide +kernel
theorem dL_reason_334 : decode cL_reason 334 = .ok (.ifCond .eq 19, 3) := by decide +kernel
theorem dL_reason_337 : decode cL_reason 337 = .ok (.aload_n 0, 1) := by decide +kernel
theorem dL_reason_338 : decode cL_reason 338 = .ok (.iload 5, 2) := by decide +kernel
theorem dL_reason_340 : decode cL_reason 340 = .ok (.invokevirtual 67, 3) := by decide +kernel
theorem dL_reason_343 : decode cL_reason 343 = .ok (.iload 12, 2) := by decide +kernel
theorem dL_reason_345 : decode cL_reason 345 = .ok (.if_icmp .ne 8, 3) := by decide +kernel
theorem dL_reason_348 : decode cL_reason 348 = .ok (.iload 12, 2) := by decide +kernel
theorem dL_reason_350 : decode cL_reason 350 = .ok (.goto 4, 3) := by decide +kernel
theorem dL_reason_353 : decode cL_reason 353 = .ok (.iconst (-1), 1) := by decide +kernel
theorem dL_reason_354 : decode cL_reason 354 = .ok (.ireturn, 1) := by decide +kernel
theorem dL_areCounts_0 : decode cL_areCounts 0 = .ok (.aload_n 0, 1) := by decide +kernel
theorem dL_areCounts_1 : decode cL_areCounts 1 = .ok (.iconst 0, 1) := by decide +kernel
theorem dL_areCounts_2 : decode cL_areCounts 2 = .ok (.invokevirtual 70, 3) := by decide +kernel
theorem dL_areCounts_5 : decode cL_areCounts 5 = .ok (.aload_n 2, 1) := by decide +kernel
theorem dL_areCounts_6 : decode cL_areCounts 6 = .ok (.bipush 13, 2) := by decide +kernel
theorem dL_areCounts_8 : decode cL_areCounts 8 = .ok (.iaload, 1) := by decide +kernel
theorem dL_areCounts_9 : decode cL_areCounts 9 = .ok (.if_icmp .ne 123, 3) := by decide +kernel
theorem dL_areCounts_12 : decode cL_areCounts 12 = .ok (.aload_n 0, 1) := by decide +kernel
theorem dL_areCounts_13 : decode cL_areCounts 13 = .ok (.iconst 1, 1) := by decide +kernel
theorem dL_areCounts_14 : decode cL_areCounts 14 = .ok (.invokevirtual 70, 3) := by decide +kernel
theorem dL_areCounts_17 : decode cL_areCounts 17 = .ok (.aload_n 1, 1) := by decide +kernel
theorem dL_areCounts_18 : decode cL_areCounts 18 = .ok (.bipush 6, 2) := by decide +kernel
theorem dL_areCounts_20 : decode cL_areCounts 20 = .ok (.iaload, 1) := by decide +kernel
theorem dL_areCounts_21 : decode cL_areCounts 21 = .ok (.aload_n 1, 1) := by decide +kernel
theorem dL_areCounts_22 : decode cL_areCounts 22 = .ok (.bipush 26, 2) := by decide +kernel
theorem dL_areCounts_24 : decode cL_areCounts 24 = .ok (.iaload, 1) := by decide +kernel
theorem dL_areCounts_25 : decode cL_areCounts 25 = .ok (.iadd, 1) := by decide +kernel
theorem dL_areCounts_26 : decode cL_areCounts 26 = .ok (.aload_n 1, 1) := by decide +kernel
theorem dL_areCounts_27 : decode cL_areCounts 27 = .ok (.bipush 46, 2) := by decide +kernel
theorem dL_areCounts_29 : decode cL_areCounts 29 = .ok (.iaload, 1) := by decide +kernel
theorem dL_areCounts_30 : decode cL_areCounts 30 = .ok (.iadd, 1) := by decide +kernel
theorem dL_areCounts_31 : decode cL_areCounts 31 = .ok (.if_icmp .ne 101, 3) := by decide +kernel
theorem dL_areCounts_34 : decode cL_areCounts 34 = .ok (.aload_n 0, 1) := by decide +kernel
theorem dL_areCounts_35 : decode cL_areCounts 35 = .ok (.iconst 2, 1) := by decide +kernel
theorem dL_areCounts_36 : decode cL_areCounts 36 = .ok (.invokevirtual 70, 3) := by decide +kernel
theorem dL_areCounts_39 : decode cL_areCounts 39 = .ok (.aload_n 1, 1) := by decide +kernel
theorem dL_areCounts_40 : decode cL_areCounts 40 = .ok (.iconst 5, 1) := by decide +kernel
theorem dL_areCounts_41 : decode cL_areCounts 41 = .ok (.iaload, 1) := by decide +kernel
theorem dL_areCounts_42 : decode cL_areCounts 42 = .ok (.aload_n 1, 1) := by decide +kernel
theorem dL_areCounts_43 : decode cL_areCounts 43 = .ok (.bipush 25, 2) := by decide +kernel
theorem dL_areCounts_45 : decode cL_areCounts 45 = .ok (.iaload, 1) := by decide +kernel
theorem dL_areCounts_46 : decode cL_areCounts 46 = .ok (.iadd, 1) := by decide +kernel
theorem dL_areCounts_47 : decode cL_areCounts 47 = .ok (.aload_n 1, 1) := by decide +kernel
theorem dL_areCounts_48 : decode cL_areCounts 48 = .ok (.bipush 45, 2) := by decide +kernel
theorem dL_areCounts_50 : decode cL_areCounts 50 = .ok (.iaload, 1) := by decide +kernel
theorem dL_areCounts_51 : decode cL_areCounts 51 = .ok (.iadd, 1) := by decide +kernel
theorem dL_areCounts_52 : decode cL_areCounts 52 = .ok (.if_icmp .ne 80, 3) := by decide +kernel
theorem dL_areCounts_55 : decode cL_areCounts 55 = .ok (.aload_n 0, 1) := by decide +kernel
theorem dL_areCounts_56 : decode cL_areCounts 56 = .ok (.iconst 3, 1) := by decide +kernel
theorem dL_areCounts_57 : decode cL_areCounts 57 = .ok (.invokevirtual 70, 3) := by decide +kernel
theorem dL_areCounts_60 : decode cL_areCounts 60 = .ok (.aload_n 1, 1) := by decide +kernel
theorem dL_areCounts_61 : decode cL_areCounts 61 = .ok (.bipush 19, 2) := by decide +kernel
theorem dL_areCounts_63 : decode cL_areCounts 63 = .ok (.iaload, 1) := by decide +kernel
theorem dL_areCounts_64 : decode cL_areCounts 64 = .ok (.aload_n 1, 1) := by decide +kernel
theorem dL_areCounts_65 : decode cL_areCounts 65 = .ok (.bipush 39, 2) := by decide +kernel
theorem dL_areCounts_67 : decode cL_areCounts 67 = .ok (.iaload, 1) := by decide +kernel
theorem dL_areCounts_68 : decode cL_areCounts 68 = .ok (.iadd, 1) := by decide +kernel
theorem dL_areCounts_69 : decode cL_areCounts 69 = .ok (.aload_n 1, 1) := by decide +kernel
theorem dL_areCounts_70 : decode cL_areCounts 70 = .ok (.bipush 59, 2) := by decide +kernel
theorem dL_areCounts_72 : decode cL_areCounts 72 = .ok (.iaload, 1) := by decide +kernel
theorem dL_areCounts_73 : decode cL_areCounts 73 = .ok (.iadd, 1) := by decide +kernel
theorem dL_areCounts_74 : decode cL_areCounts 74 = .ok (.if_icmp .ne 58, 3) := by decide +kernel
theorem dL_areCounts_77 : decode cL_areCounts 77 = .ok (.aload_n 0, 1) := by decide +kernel
theorem dL_areCounts_78 : decode cL_areCounts 78 = .ok (.iconst 4, 1) := by decide +kernel
theorem dL_areCounts_79 : decode cL_areCounts 79 = .ok (.invokevirtual 70, 3) := by decide +kernel
theorem dL_areCounts_82 : decode cL_areCounts 82 = .ok (.aload_n 2, 1) := by decide +kernel
theorem dL_areCounts_83 : decode cL_areCounts 83 = .ok (.iconst 3, 1) := by decide +kernel
theorem dL_areCounts_84 : decode cL_areCounts 84 = .ok (.iaload, 1) := by decide +kernel
theorem dL_areCounts_85 : decode cL_areCounts 85 = .ok (.aload_n 2, 1) := by decide +kernel
theorem dL_areCounts_86 : decode cL_areCounts 86 = .ok (.iconst 4, 1) := by decide +kernel
theorem dL_areCounts_87 : decode cL_areCounts 87 = .ok (.iaload, 1) := by decide +kernel
theorem dL_areCounts_88 : decode cL_areCounts 88 = .ok (.iadd, 1) := by decide +kernel
theorem dL_areCounts_89 : decode cL_areCounts 89 = .ok (.aload_n 2, 1) := by decide +kernel
theorem dL_areCounts_90 : decode cL_areCounts 90 = .ok (.iconst 5, 1) := by decide +kernel
theorem dL_areCounts_91 : decode cL_areCounts 91 = .ok (.iaload, 1) := by decide +kernel
theorem dL_areCounts_92 : decode cL_areCounts 92 = .ok (.iadd, 1) := by decide +kernel
theorem dL_areCounts_93 : decode cL_areCounts 93 = .ok (.if_icmp .ne 39, 3) := by decide +kernel
theorem dL_areCounts_96 : decode cL_areCounts 96 = .ok (.aload_n 0, 1) := by decide +kernel
theorem dL_areCounts_97 : decode cL_areCounts 97 = .ok (.iconst 5, 1) := by decide +kernel
theorem dL_areCounts_98 : decode cL_areCounts 98 = .ok (.invokevirtual 70, 3) := by decide +kernel
theorem dL_areCounts_101 : decode cL_areCounts 101 = .ok (.aload_n 2, 1) := by decide +kernel
theorem dL_areCounts_102 : decode cL_areCounts 102 = .ok (.bipush 6, 2) := by decide +kernel
theorem dL_areCounts_104 : decode cL_areCounts 104 = .ok (.iaload, 1) := by decide +kernel
theorem dL_areCounts_105 : decode cL_areCounts 105 = .ok (.aload_n 2, 1) := by decide +kernel
theorem dL_areCounts_106 : decode cL_areCounts 106 = .ok (.bipush 7, 2) := by decide +kernel
theorem dL_areCounts_108 : decode cL_areCounts 108 = .ok (.iaload, 1) := by decide +kernel
theorem dL_areCounts_109 : decode cL_areCounts 109 = .ok (.iadd, 1) := by decide +kernel
theorem dL_areCounts_110 : decode cL_areCounts 110 = .ok (.aload_n 2, 1) := by decide +kernel
theorem dL_areCounts_111 : decode cL_areCounts 111 = .ok (.bipush 8, 2) := by decide +kernel
theorem dL_areCounts_113 : decode cL_areCounts 113 = .ok (.iaload, 1) := by decide +kernel
theorem dL_areCounts_114 : decode cL_areCounts 114 = .ok (.iadd, 1) := by decide +kernel
theorem dL_areCounts_115 : decode cL_areCounts 115 = .ok (.if_icmp .ne 17, 3) := by decide +kernel
theorem dL_areCounts_118 : decode cL_areCounts 118 = .ok (.aload_n 0, 1) := by decide +kernel
theorem dL_areCounts_119 : decode cL_areCounts 119 = .ok (.bipush 6, 2) := by decide +kernel
theorem dL_areCounts_121 : decode cL_areCounts 121 = .ok (.invokevirtual 70, 3) := by decide +kernel
theorem dL_areCounts_124 : decode cL_areCounts 124 = .ok (.iload_n 3, 1) := by decide +kernel
theorem dL_areCounts_125 : decode cL_areCounts 125 = .ok (.if_icmp .ne 7, 3) := by decide +kernel
theorem dL_areCounts_128 : decode cL_areCounts 128 = .ok (.iconst 1, 1) := by decide +kernel
theorem dL_areCounts_129 : decode cL_areCounts 129 = .ok (.goto 4, 3) := by decide +kernel
theorem dL_areCounts_132 : decode cL_areCounts 132 = .ok (.iconst 0, 1) := by decide +kernel
theorem dL_areCounts_133 : decode cL_areCounts 133 = .ok (.istore 4, 2) := by decide +kernel
theorem dL_areCounts_135 : decode cL_areCounts 135 = .ok (.iconst 0, 1) := by decide +kernel
theorem dL_areCounts_136 : decode cL_areCounts 136 = .ok (.istore 5, 2) := by decide +kernel
theorem dL_areCounts_138 : decode cL_areCounts 138 = .ok (.iload 5, 2) := by decide +kernel
theorem dL_areCounts_140 : decode cL_areCounts 140 = .ok (.iconst 4, 1) := by decide +kernel
theorem dL_areCounts_141 : decode cL_areCounts 141 = .ok (.if_icmp .ge 37, 3) := by decide +kernel
theorem dL_areCounts_144 : decode cL_areCounts 144 = .ok (.iload 4, 2) := by decide +kernel
theorem dL_areCounts_146 : decode cL_areCounts 146 = .ok (.ifCond .eq 23, 3) := by decide +kernel
theorem dL_areCounts_149 : decode cL_areCounts 149 = .ok (.aload_n 0, 1) := by decide +kernel
theorem dL_areCounts_150 : decode cL_areCounts 150 = .ok (.iload 5, 2) := by decide +kernel
theorem dL_areCounts_152 : decode cL_areCounts 152 = .ok (.invokevirtual 73, 3) := by decide +kernel
theorem dL_areCounts_155 : decode cL_areCounts 155 = .ok (.aload_n 2, 1) := by decide +kernel
theorem dL_areCounts_156 : decode cL_areCounts 156 = .ok (.bipush 9, 2) := by decide +kernel
theorem dL_areCounts_158 : decode cL_areCounts 158 = .ok (.iload 5, 2) := by decide +kernel
theorem dL_areCounts_160 : decode cL_areCounts 160 = .ok (.iadd, 1) := by decide +kernel
theorem dL_areCounts_161 : decode cL_areCounts 161 = .ok (.iaload, 1) := by decide +kernel
theorem dL_areCounts_162 : decode cL_areCounts 162 = .ok (.if_icmp .ne 7, 3) := by decide +kernel
theorem dL_areCounts_165 : decode cL_areCounts 165 = .ok (.iconst 1, 1) := by decide +kernel
theorem dL_areCounts_166 : decode cL_areCounts 166 = .ok (.goto 4, 3) := by decide +kernel
theorem dL_areCounts_169 : decode cL_areCounts 169 = .ok (.iconst 0, 1) := by decide +kernel
theorem dL_areCounts_170 : decode cL_areCounts 170 = .ok (.istore 4, 2) := by decide +kernel
theorem dL_areCounts_172 : decode cL_areCounts 172 = .ok (.iinc 5 1, 3) := by decide +kernel
theorem dL_areCounts_175 : decode cL_areCounts 175 = .ok (.goto (-37), 3) := by decide +kernel
theorem dL_areCounts_178 : decode cL_areCounts 178 = .ok (.aload_n 1, 1) := by decide +kernel
theorem dL_areCounts_179 : decode cL_areCounts 179 = .ok (.iconst 5, 1) := by decide +kernel
theorem dL_areCounts_180 : decode cL_areCounts 180 = .ok (.iaload, 1) := by decide +kernel
theorem dL_areCounts_181 : decode cL_areCounts 181 = .ok (.aload_n 1, 1) := by decide +kernel
theorem dL_areCounts_182 : decode cL_areCounts 182 = .ok (.bipush 25, 2) := by decide +kernel
theorem dL_areCounts_184 : decode cL_areCounts 184 = .ok (.iaload, 1) := by decide +kernel
theorem dL_areCounts_185 : decode cL_areCounts 185 = .ok (.iadd, 1) := by decide +kernel
theorem dL_areCounts_186 : decode cL_areCounts 186 = .ok (.aload_n 1, 1) := by decide +kernel
theorem dL_areCounts_187 : decode cL_areCounts 187 = .ok (.bipush 45, 2) := by decide +kernel
theorem dL_areCounts_189 : decode cL_areCounts 189 = .ok (.iaload, 1) := by decide +kernel
theorem dL_areCounts_190 : decode cL_areCounts 190 = .ok (.iadd, 1) := by decide +kernel
theorem dL_areCounts_191 : decode cL_areCounts 191 = .ok (.istore 5, 2) := by decide +kernel
theorem dL_areCounts_193 : decode cL_areCounts 193 = .ok (.iload 4, 2) := by decide +kernel
theorem dL_areCounts_195 : decode cL_areCounts 195 = .ok (.ifCond .eq 40, 3) := by decide +kernel
theorem dL_areCounts_198 : decode cL_areCounts 198 = .ok (.aload_n 0, 1) := by decide +kernel
theorem dL_areCounts_199 : decode cL_areCounts 199 = .ok (.invokevirtual 76, 3) := by decide +kernel
theorem dL_areCounts_202 : decode cL_areCounts 202 = .ok (.iload 5, 2) := by decide +kernel
theorem dL_areCounts_204 : decode cL_areCounts 204 = .ok (.ifCond .ne 7, 3) := by decide +kernel
theorem dL_areCounts_207 : decode cL_areCounts 207 = .ok (.fconst 0, 1) := by decide +kernel
theorem dL_areCounts_208 : decode cL_areCounts 208 = .ok (.goto 19, 3) := by decide +kernel
theorem dL_areCounts_211 : decode cL_areCounts 211 = .ok (.aload_n 2, 1) := by decide +kernel
theorem dL_areCounts_212 : decode cL_areCounts 212 = .ok (.iconst 3, 1) := by decide +kernel
theorem dL_areCounts_213 : decode cL_areCounts 213 = .ok (.iaload, 1) := by decide +kernel
theorem dL_areCounts_214 : decode cL_areCounts 214 = .ok (.aload_n 2, 1) := by decide +kernel
theorem dL_areCounts_215 : decode cL_areCounts 215 = .ok (.iconst 4, 1) := by decide +kernel
theorem dL_areCounts_216 : decode cL_areCounts 216 = .ok (.iaload, 1) := by decide +kernel
theorem dL_areCounts_217 : decode cL_areCounts 217 = .ok (.iadd, 1) := by decide +kernel
theorem dL_areCounts_218 : decode cL_areCounts 218 = .ok (.aload_n 2, 1) := by decide +kernel
theorem dL_areCounts_219 : decode cL_areCounts 219 = .ok (.iconst 5, 1) := by decide +kernel
theorem dL_areCounts_220 : decode cL_areCounts 220 = .ok (.iaload, 1) := by decide +kernel
theorem dL_areCounts_221 : decode cL_areCounts 221 = .ok (.iadd, 1) := by decide +kernel
theorem dL_areCounts_222 : decode cL_areCounts 222 = .ok (.i2f, 1) := by decide +kernel
theorem dL_areCounts_223 : decode cL_areCounts 223 = .ok (.iload 5, 2) := by decide +kernel
theorem dL_areCounts_225 : decode cL_areCounts 225 = .ok (.i2f, 1) := by decide +kernel
theorem dL_areCounts_226 : decode cL_areCounts 226 = .ok (.fdiv, 1) := by decide +kernel
theorem dL_areCounts_227 : decode cL_areCounts 227 = .ok (.fcmp .l, 1) := by decide +kernel
theorem dL_areCounts_228 : decode cL_areCounts 228 = .ok (.ifCond .ne 7, 3) := by decide +kernel
theorem dL_areCounts_231 : decode cL_areCounts 231 = .ok (.iconst 1, 1) := by decide +kernel
theorem dL_areCounts_232 : decode cL_areCounts 232 = .ok (.goto 4, 3) := by decide +kernel
theorem dL_areCounts_235 : decode cL_areCounts 235 = .ok (.iconst 0, 1) := by decide +kernel
theorem dL_areCounts_236 : decode cL_areCounts 236 = .ok (.ireturn, 1) := by decide +kernel
theorem dL_would_0 : decode cL_would 0 = .ok (.iload_n 3, 1) := by decide +kernel
theorem dL_would_1 : decode cL_would 1 = .ok (.sipush 4001, 3) := by decide +kernel
theorem dL_would_4 : decode cL_would 4 = .ok (.invokestatic 80, 3) := by decide +kernel
theorem dL_would_7 : decode cL_would 7 = .ok (.sipush 2000, 3) := by decide +kernel
theorem dL_would_10 : decode cL_would 10 = .ok (.isub, 1) := by decide +kernel
theorem dL_would_11 : decode cL_would 11 = .ok (.istore 4, 2) := by decide +kernel
theorem dL_would_13 : decode cL_would 13 = .ok (.iconst 1, 1) := by decide +kernel
theorem dL_would_14 : decode cL_would 14 = .ok (.iload_n 3, 1) := by decide +kernel
theorem dL_would_15 : decode cL_would 15 = .ok (.iconst 5, 1) := by decide +kernel
theorem dL_would_16 : decode cL_would 16 = .ok (.ishr, 1) := by decide +kernel
theorem dL_would_17 : decode cL_would 17 = .ok (.bipush 60, 2) := by decide +kernel
theorem dL_would_19 : decode cL_would 19 = .ok (.invokestatic 80, 3) := by decide +kernel
theorem dL_would_22 : decode cL_would 22 = .ok (.iadd, 1) := by decide +kernel
theorem dL_would_23 : decode cL_would 23 = .ok (.istore 5, 2) := by decide +kernel
theorem dL_would_25 : decode cL_would 25 = .ok (.bipush 20, 2) := by decide +kernel
theorem dL_would_27 : decode cL_would 27 = .ok (.iload_n 2, 1) := by decide +kernel
theorem dL_would_28 : decode cL_would 28 = .ok (.imul, 1) := by decide +kernel
theorem dL_would_29 : decode cL_would 29 = .ok (.istore 6, 2) := by decide +kernel
theorem dL_would_31 : decode cL_would 31 = .ok (.iload 4, 2) := by decide +kernel
theorem dL_would_33 : decode cL_would 33 = .ok (.aload_n 1, 1) := by decide +kernel
theorem dL_would_34 : decode cL_would 34 = .ok (.iload 6, 2) := by decide +kernel
theorem dL_would_36 : decode cL_would 36 = .ok (.iaload, 1) := by decide +kernel
theorem dL_would_37 : decode cL_would 37 = .ok (.aload_n 1, 1) := by decide +kernel
theorem dL_would_38 : decode cL_would 38 = .ok (.iload 6, 2) := by decide +kernel
theorem dL_would_40 : decode cL_would 40 = .ok (.iconst 1, 1) := by decide +kernel
theorem dL_would_41 : decode cL_would 41 = .ok (.iadd, 1) := by decide +kernel
theorem dL_would_42 : decode cL_would 42 = .ok (.iaload, 1) := by decide +kernel
theorem dL_would_43 : decode cL_would 43 = .ok (.invokestatic 27, 3) := by decide +kernel
theorem dL_would_46 : decode cL_would 46 = .ok (.istore 7, 2) := by decide +kernel
theorem dL_would_48 : decode cL_would 48 = .ok (.bipush 15, 2) := by decide +kernel
theorem dL_would_50 : decode cL_would 50 = .ok (.istore 8, 2) := by decide +kernel
theorem dL_would_52 : decode cL_would 52 = .ok (.bipush 14, 2) := by decide +kernel
theorem dL_would_54 : decode cL_would 54 = .ok (.istore 9, 2) := by decide +kernel
theorem dL_would_56 : decode cL_would 56 = .ok (.iload 9, 2) := by decide +kernel
theorem dL_would_58 : decode cL_would 58 = .ok (.ifCond .lt 63, 3) := by decide +kernel
theorem dL_would_61 : decode cL_would 61 = .ok (.aload_n 1, 1) := by decide +kernel
theorem dL_would_62 : decode cL_would 62 = .ok (.iload 6, 2) := by decide +kernel
theorem dL_would_64 : decode cL_would 64 = .ok (.iaload, 1) := by decide +kernel
theorem dL_would_65 : decode cL_would 65 = .ok (.aload_n 1, 1) := by decide +kernel
theorem dL_would_66 : decode cL_would 66 = .ok (.iload 6, 2) := by decide +kernel
theorem dL_would_68 : decode cL_would 68 = .ok (.iconst 1, 1) := by decide +kernel
theorem dL_would_69 : decode cL_would 69 = .ok (.iadd, 1) := by decide +kernel
theorem dL_would_70 : decode cL_would 70 = .ok (.iaload, 1) := by decide +kernel
theorem dL_would_71 : decode cL_would 71 = .ok (.iload 9, 2) := by decide +kernel
theorem dL_would_73 : decode cL_would 73 = .ok (.invokestatic 15, 3) := by decide +kernel
theorem dL_would_76 : decode cL_would 76 = .ok (.iload 4, 2) := by decide +kernel
theorem dL_would_78 : decode cL_would 78 = .ok (.isub, 1) := by decide +kernel
theorem dL_would_79 : decode cL_would 79 = .ok (.invokestatic 39, 3) := by decide +kernel
theorem dL_would_82 : decode cL_would 82 = .ok (.aload_n 1, 1) := by decide +kernel
theorem dL_would_83 : decode cL_would 83 = .ok (.iload 6, 2) := by decide +kernel
theorem dL_would_85 : decode cL_would 85 = .ok (.iaload, 1) := by decide +kernel
theorem dL_would_86 : decode cL_would 86 = .ok (.aload_n 1, 1) := by decide +kernel
theorem dL_would_87 : decode cL_would 87 = .ok (.iload 6, 2) := by decide +kernel
theorem dL_would_89 : decode cL_would 89 = .ok (.iconst 1, 1) := by decide +kernel
theorem dL_would_90 : decode cL_would 90 = .ok (.iadd, 1) := by decide +kernel
theorem dL_would_91 : decode cL_would 91 = .ok (.iaload, 1) := by decide +kernel
theorem dL_would_92 : decode cL_would 92 = .ok (.iload 8, 2) := by decide +kernel
theorem dL_would_94 : decode cL_would 94 = .ok (.invokestatic 15, 3) := by decide +kernel
theorem dL_would_97 : decode cL_would 97 = .ok (.iload 4, 2) := by decide +kernel
theorem dL_would_99 : decode cL_would 99 = .ok (.isub, 1) := by decide +kernel
theorem dL_would_100 : decode cL_would 100 = .ok (.invokestatic 39, 3) := by decide +kernel
theorem dL_would_103 : decode cL_would 103 = .ok (.if_icmp .gt 8, 3) := by decide +kernel
theorem dL_would_106 : decode cL_would 106 = .ok (.iload 9, 2) := by decide +kernel
theorem dL_would_108 : decode cL_would 108 = .ok (.goto 5, 3) := by decide +kernel
theorem dL_would_111 : decode cL_would 111 = .ok (.iload 8, 2) := by decide +kernel
theorem dL_would_113 : decode cL_would 113 = .ok (.istore 8, 2) := by decide +kernel
theorem dL_would_115 : decode cL_would 115 = .ok (.iinc 9 (-1), 3) := by decide +kernel
theorem dL_would_118 : decode cL_would 118 = .ok (.goto (-62), 3) := by decide +kernel
theorem dL_would_121 : decode cL_would 121 = .ok (.aload_n 0, 1) := by decide +kernel
theorem dL_would_122 : decode cL_would 122 = .ok (.iload_n 2, 1) := by decide +kernel
theorem dL_would_123 : decode cL_would 123 = .ok (.iload 4, 2) := by decide +kernel
theorem dL_would_125 : decode cL_would 125 = .ok (.iconst 0, 1) := by decide +kernel
theorem dL_would_126 : decode cL_would 126 = .ok (.invokevirtual 83, 3) := by decide +kernel
theorem dL_would_129 : decode cL_would 129 = .ok (.iload 7, 2) := by decide +kernel
theorem dL_would_131 : decode cL_would 131 = .ok (.if_icmp .ne 94, 3) := by decide +kernel
theorem dL_would_134 : decode cL_would 134 = .ok (.aload_n 0, 1) := by decide +kernel
theorem dL_would_135 : decode cL_would 135 = .ok (.iload_n 2, 1) := by decide +kernel
theorem dL_would_136 : decode cL_would 136 = .ok (.iload 4, 2) := by decide +kernel
theorem dL_would_138 : decode cL_would 138 = .ok (.iconst 1, 1) := by decide +kernel
theorem dL_would_139 : decode cL_would 139 = .ok (.invokevirtual 83, 3) := by decide +kernel
theorem dL_would_142 : decode cL_would 142 = .ok (.aload_n 1, 1) := by decide +kernel
theorem dL_would_143 : decode cL_would 143 = .ok (.iload 6, 2) := by decide +kernel
theorem dL_would_145 : decode cL_would 145 = .ok (.iaload, 1) := by decide +kernel
theorem dL_would_146 : decode cL_would 146 = .ok (.aload_n 1, 1) := by decide +kernel
theorem dL_would_147 : decode cL_would 147 = .ok (.iload 6, 2) := by decide +kernel
theorem dL_would_149 : decode cL_would 149 = .ok (.iconst 1, 1) := by decide +kernel
theorem dL_would_150 : decode cL_would 150 = .ok (.iadd, 1) := by decide +kernel
theorem dL_would_151 : decode cL_would 151 = .ok (.iaload, 1) := by decide +kernel
theorem dL_would_152 : decode cL_would 152 = .ok (.iload 7, 2) := by decide +kernel
theorem dL_would_154 : decode cL_would 154 = .ok (.invokestatic 15, 3) := by decide +kernel
theorem dL_would_157 : decode cL_would 157 = .ok (.if_icmp .ne 68, 3) := by decide +kernel
theorem dL_would_160 : decode cL_would 160 = .ok (.aload_n 0, 1) := by decide +kernel
theorem dL_would_161 : decode cL_would 161 = .ok (.iload_n 2, 1) := by decide +kernel
theorem dL_would_162 : decode cL_would 162 = .ok (.iload 4, 2) := by decide +kernel
theorem dL_would_164 : decode cL_would 164 = .ok (.iconst 2, 1) := by decide +kernel
theorem dL_would_165 : decode cL_would 165 = .ok (.invokevirtual 83, 3) := by decide +kernel
theorem dL_would_168 : decode cL_would 168 = .ok (.aload_n 1, 1) := by decide +kernel
theorem dL_would_169 : decode cL_would 169 = .ok (.iload 6, 2) := by decide +kernel
theorem dL_would_171 : decode cL_would 171 = .ok (.iconst 1, 1) := by decide +kernel
theorem dL_would_172 : decode cL_would 172 = .ok (.iadd, 1) := by decide +kernel
theorem dL_would_173 : decode cL_would 173 = .ok (.iaload, 1) := by decide +kernel
theorem dL_would_174 : decode cL_would 174 = .ok (.iload 7, 2) := by decide +kernel
theorem dL_would_176 : decode cL_would 176 = .ok (.invokestatic 19, 3) := by decide +kernel
theorem dL_would_179 : decode cL_would 179 = .ok (.if_icmp .ne 46, 3) := by decide +kernel
theorem dL_would_182 : decode cL_would 182 = .ok (.aload_n 0, 1) := by decide +kernel
theorem dL_would_183 : decode cL_would 183 = .ok (.iload_n 2, 1) := by decide +kernel
theorem dL_would_184 : decode cL_would 184 = .ok (.iload 4, 2) := by decide +kernel
theorem dL_would_186 : decode cL_would 186 = .ok (.iconst 3, 1) := by decide +kernel
theorem dL_would_187 : decode cL_would 187 = .ok (.invokevirtual 83, 3) := by decide +kernel
theorem dL_would_190 : decode cL_would 190 = .ok (.iload 8, 2) := by decide +kernel
theorem dL_would_192 : decode cL_would 192 = .ok (.if_icmp .ne 33, 3) := by decide +kernel
theorem dL_would_195 : decode cL_would 195 = .ok (.aload_n 0, 1) := by decide +kernel
theorem dL_would_196 : decode cL_would 196 = .ok (.iload_n 2, 1) := by decide +kernel
theorem dL_would_197 : decode cL_would 197 = .ok (.iload 4, 2) := by decide +kernel
theorem dL_would_199 : decode cL_would 199 = .ok (.iconst 4, 1) := by decide +kernel
theorem dL_would_200 : decode cL_would 200 = .ok (.invokevirtual 83, 3) := by decide +kernel
theorem dL_would_203 : decode cL_would 203 = .ok (.aload_n 1, 1) := by decide +kernel
theorem dL_would_204 : decode cL_would 204 = .ok (.iload 6, 2) := by decide +kernel
theorem dL_would_206 : decode cL_would 206 = .ok (.iaload, 1) := by decide +kernel
theorem dL_would_207 : decode cL_would 207 = .ok (.aload_n 1, 1) := by decide +kernel
theorem dL_would_208 : decode cL_would 208 = .ok (.iload 6, 2) := by decide +kernel
theorem dL_would_210 : decode cL_would 210 = .ok (.iconst 1, 1) := by decide +kernel
theorem dL_would_211 : decode cL_would 211 = .ok (.iadd, 1) := by decide +kernel
theorem dL_would_212 : decode cL_would 212 = .ok (.iaload, 1) := by decide +kernel
theorem dL_would_213 : decode cL_would 213 = .ok (.iload 8, 2) := by decide +kernel
theorem dL_would_215 : decode cL_would 215 = .ok (.invokestatic 15, 3) := by decide +kernel
theorem dL_would_218 : decode cL_would 218 = .ok (.if_icmp .ne 7, 3) := by decide +kernel
theorem dL_would_221 : decode cL_would 221 = .ok (.iconst 1, 1) := by decide +kernel
theorem dL_would_222 : decode cL_would 222 = .ok (.goto 4, 3) := by decide +kernel
theorem dL_would_225 : decode cL_would 225 = .ok (.iconst 0, 1) := by decide +kernel
theorem dL_would_226 : decode cL_would 226 = .ok (.istore 9, 2) := by decide +kernel
theorem dL_would_228 : decode cL_would 228 = .ok (.iconst 2, 1) := by decide +kernel
theorem dL_would_229 : decode cL_would 229 = .ok (.newarray .int, 2) := by decide +kernel
theorem dL_would_231 : decode cL_would 231 = .ok (.astore 10, 2) := by decide +kernel
theorem dL_would_233 : decode cL_would 233 = .ok (.aload 10, 2) := by decide +kernel
theorem dL_would_235 : decode cL_would 235 = .ok (.iconst 0, 1) := by decide +kernel
theorem dL_would_236 : decode cL_would 236 = .ok (.aload_n 1, 1) := by decide +kernel
theorem dL_would_237 : decode cL_would 237 = .ok (.iload 6, 2) := by decide +kernel
theorem dL_would_239 : decode cL_would 239 = .ok (.iaload, 1) := by decide +kernel
theorem dL_would_240 : decode cL_would 240 = .ok (.iastore, 1) := by decide +kernel
theorem dL_would_241 : decode cL_would 241 = .ok (.aload 10, 2) := by decide +kernel
theorem dL_would_243 : decode cL_would 243 = .ok (.iconst 1, 1) := by decide +kernel
theorem dL_would_244 : decode cL_would 244 = .ok (.aload_n 1, 1) := by decide +kernel
theorem dL_would_245 : decode cL_would 245 = .ok (.iload 6, 2) := by decide +kernel
theorem dL_would_247 : decode cL_would 247 = .ok (.iconst 1, 1) := by decide +kernel
theorem dL_would_248 : decode cL_would 248 = .ok (.iadd, 1) := by decide +kernel
theorem dL_would_249 : decode cL_would 249 = .ok (.iaload, 1) := by decide +kernel
theorem dL_would_250 : decode cL_would 250 = .ok (.iastore, 1) := by decide +kernel
theorem dL_would_251 : decode cL_would 251 = .ok (.iconst 0, 1) := by decide +kernel
theorem dL_would_252 : decode cL_would 252 = .ok (.istore 11, 2) := by decide +kernel
theorem dL_would_254 : decode cL_would 254 = .ok (.iload 11, 2) := by decide +kernel
theorem dL_would_256 : decode cL_would 256 = .ok (.bipush 61, 2) := by decide +kernel
theorem dL_would_258 : decode cL_would 258 = .ok (.if_icmp .ge 43, 3) := by decide +kernel
theorem dL_would_261 : decode cL_would 261 = .ok (.aload 10, 2) := by decide +kernel
theorem dL_would_263 : decode cL_would 263 = .ok (.iconst 0, 1) := by decide +kernel
theorem dL_would_264 : decode cL_would 264 = .ok (.iaload, 1) := by decide +kernel
theorem dL_would_265 : decode cL_would 265 = .ok (.iload 4, 2) := by decide +kernel
theorem dL_would_267 : decode cL_would 267 = .ok (.isub, 1) := by decide +kernel
theorem dL_would_268 : decode cL_would 268 = .ok (.invokestatic 39, 3) := by decide +kernel
theorem dL_would_271 : decode cL_would 271 = .ok (.iload 5, 2) := by decide +kernel
theorem dL_would_273 : decode cL_would 273 = .ok (.if_icmp .lt 28, 3) := by decide +kernel
theorem dL_would_276 : decode cL_would 276 = .ok (.aload 10, 2) := by decide +kernel
theorem dL_would_278 : decode cL_would 278 = .ok (.iconst 0, 1) := by decide +kernel
theorem dL_would_279 : decode cL_would 279 = .ok (.iload 4, 2) := by decide +kernel
theorem dL_would_281 : decode cL_would 281 = .ok (.aload 10, 2) := by decide +kernel
theorem dL_would_283 : decode cL_would 283 = .ok (.iconst 0, 1) := by decide +kernel
theorem dL_would_284 : decode cL_would 284 = .ok (.iaload, 1) := by decide +kernel
theorem dL_would_285 : decode cL_would 285 = .ok (.aload 10, 2) := by decide +kernel
theorem dL_would_287 : decode cL_would 287 = .ok (.iconst 1, 1) := by decide +kernel
theorem dL_would_288 : decode cL_would 288 = .ok (.iaload, 1) := by decide +kernel
theorem dL_would_289 : decode cL_would 289 = .ok (.invokestatic 27, 3) := by decide +kernel
theorem dL_would_292 : decode cL_would 292 = .ok (.invokestatic 31, 3) := by decide +kernel
theorem dL_would_295 : decode cL_would 295 = .ok (.iinc 11 1, 3) := by decide +kernel
theorem dL_would_298 : decode cL_would 298 = .ok (.goto (-44), 3) := by decide +kernel
theorem dL_would_301 : decode cL_would 301 = .ok (.iload 9, 2) := by decide +kernel
theorem dL_would_303 : decode cL_would 303 = .ok (.ifCond .eq 34, 3) := by decide +kernel
theorem dL_would_306 : decode cL_would 306 = .ok (.aload_n 0, 1) := by decide +kernel
theorem dL_would_307 : decode cL_would 307 = .ok (.iload_n 2, 1) := by decide +kernel
theorem dL_would_308 : decode cL_would 308 = .ok (.iload 4, 2) := by decide +kernel
theorem dL_would_310 : decode cL_would 310 = .ok (.iload 5, 2) := by decide +kernel
theorem dL_would_312 : decode cL_would 312 = .ok (.invokevirtual 84, 3) := by decide +kernel
theorem dL_would_315 : decode cL_would 315 = .ok (.iload 11, 2) := by decide +kernel
theorem dL_would_317 : decode cL_would 317 = .ok (.bipush 60, 2) := by decide +kernel
theorem dL_would_319 : decode cL_would 319 = .ok (.if_icmp .le 9, 3) := by decide +kernel
theorem dL_would_322 : decode cL_would 322 = .ok (.sipush (-10000), 3) := by decide +kernel
theorem dL_would_325 : decode cL_would 325 = .ok (.goto 5, 3) := by decide +kernel
theorem dL_would_328 : decode cL_would 328 = .ok (.iload 11, 2) := by decide +kernel
theorem dL_would_330 : decode cL_would 330 = .ok (.if_icmp .ne 7, 3) := by decide +kernel
theorem dL_would_333 : decode cL_would 333 = .ok (.iconst 1, 1) := by decide +kernel
theorem dL_would_334 : decode cL_would 334 = .ok (.goto 4, 3) := by decide +kernel
theorem dL_would_337 : decode cL_would 337 = .ok (.iconst 0, 1) := by decide +kernel
theorem dL_would_338 : decode cL_would 338 = .ok (.ireturn, 1) := by decide +kernel
theorem dL_acts_0 : decode cL_acts 0 = .ok (.bipush 20, 2) := by decide +kernel
theorem dL_acts_2 : decode cL_acts 2 = .ok (.iload 5, 2) := by decide +kernel
theorem dL_acts_4 : decode cL_acts 4 = .ok (.imul, 1) := by decide +kernel
theorem dL_acts_5 : decode cL_acts 5 = .ok (.istore 8, 2) := by decide +kernel
theorem dL_acts_7 : decode cL_acts 7 = .ok (.aload_n 1, 1) := by decide +kernel
theorem dL_acts_8 : decode cL_acts 8 = .ok (.iload 8, 2) := by decide +kernel
theorem dL_acts_10 : decode cL_acts 10 = .ok (.bipush 19, 2) := by decide +kernel
theorem dL_acts_12 : decode cL_acts 12 = .ok (.iadd, 1) := by decide +kernel
theorem dL_acts_13 : decode cL_acts 13 = .ok (.iaload, 1) := by decide +kernel
theorem dL_acts_14 : decode cL_acts 14 = .ok (.istore 9, 2) := by decide +kernel
theorem dL_acts_16 : decode cL_acts 16 = .ok (.iload 6, 2) := by decide +kernel
theorem dL_acts_18 : decode cL_acts 18 = .ok (.tableswitch 410 0 6 #[42, 114, 177, 266, 381, 381, 381], 42) := by decide +kernel
theorem dL_acts_60 : decode cL_acts 60 = .ok (.aload_n 1, 1) := by decide +kernel
theorem dL_acts_61 : decode cL_acts 61 = .ok (.iload 8, 2) := by decide +kernel
theorem dL_acts_63 : decode cL_acts 63 = .ok (.iconst 4, 1) := by decide +kernel
theorem dL_acts_64 : decode cL_acts 64 = .ok (.iadd, 1) := by decide +kernel
theorem dL_acts_65 : decode cL_acts 65 = .ok (.iaload, 1) := by decide +kernel
theorem dL_acts_66 : decode cL_acts 66 = .ok (.ifCond .eq 9, 3) := by decide +kernel
theorem dL_acts_69 : decode cL_acts 69 = .ok (.iload 9, 2) := by decide +kernel
theorem dL_acts_71 : decode cL_acts 71 = .ok (.iconst 4, 1) := by decide +kernel
theorem dL_acts_72 : decode cL_acts 72 = .ok (.if_icmp .ne 25, 3) := by decide +kernel
theorem dL_acts_75 : decode cL_acts 75 = .ok (.aload_n 0, 1) := by decide +kernel
theorem dL_acts_76 : decode cL_acts 76 = .ok (.iload 5, 2) := by decide +kernel
theorem dL_acts_78 : decode cL_acts 78 = .ok (.iconst 5, 1) := by decide +kernel
theorem dL_acts_79 : decode cL_acts 79 = .ok (.invokevirtual 42, 3) := by decide +kernel
theorem dL_acts_82 : decode cL_acts 82 = .ok (.aload_n 1, 1) := by decide +kernel
theorem dL_acts_83 : decode cL_acts 83 = .ok (.iload 8, 2) := by decide +kernel
theorem dL_acts_85 : decode cL_acts 85 = .ok (.iconst 4, 1) := by decide +kernel
theorem dL_acts_86 : decode cL_acts 86 = .ok (.iadd, 1) := by decide +kernel
theorem dL_acts_87 : decode cL_acts 87 = .ok (.iaload, 1) := by decide +kernel
theorem dL_acts_88 : decode cL_acts 88 = .ok (.if_icmp .ne 7, 3) := by decide +kernel
theorem dL_acts_91 : decode cL_acts 91 = .ok (.iconst 1, 1) := by decide +kernel
theorem dL_acts_92 : decode cL_acts 92 = .ok (.goto 4, 3) := by decide +kernel
theorem dL_acts_95 : decode cL_acts 95 = .ok (.iconst 0, 1) := by decide +kernel
theorem dL_acts_96 : decode cL_acts 96 = .ok (.ireturn, 1) := by decide +kernel
theorem dL_acts_97 : decode cL_acts 97 = .ok (.aload_n 1, 1) := by decide +kernel
theorem dL_acts_98 : decode cL_acts 98 = .ok (.iload 8, 2) := by decide +kernel
theorem dL_acts_100 : decode cL_acts 100 = .ok (.iconst 4, 1) := by decide +kernel
theorem dL_acts_101 : decode cL_acts 101 = .ok (.iadd, 1) := by decide +kernel
theorem dL_acts_102 : decode cL_acts 102 = .ok (.iaload, 1) := by decide +kernel
theorem dL_acts_103 : decode cL_acts 103 = .ok (.istore 10, 2) := by decide +kernel
theorem dL_acts_105 : decode cL_acts 105 = .ok (.aload_n 1, 1) := by decide +kernel
theorem dL_acts_106 : decode cL_acts 106 = .ok (.aload_n 2, 1) := by decide +kernel
theorem dL_acts_107 : decode cL_acts 107 = .ok (.aload_n 3, 1) := by decide +kernel
theorem dL_acts_108 : decode cL_acts 108 = .ok (.aload 4, 2) := by decide +kernel
theorem dL_acts_110 : decode cL_acts 110 = .ok (.iload 5, 2) := by decide +kernel
theorem dL_acts_112 : decode cL_acts 112 = .ok (.invokestatic 23, 3) := by decide +kernel
theorem dL_acts_115 : decode cL_acts 115 = .ok (.aload_n 0, 1) := by decide +kernel
theorem dL_acts_116 : decode cL_acts 116 = .ok (.iload 5, 2) := by decide +kernel
theorem dL_acts_118 : decode cL_acts 118 = .ok (.invokevirtual 87, 3) := by decide +kernel
theorem dL_acts_121 : decode cL_acts 121 = .ok (.iload 10, 2) := by decide +kernel
theorem dL_acts_123 : decode cL_acts 123 = .ok (.if_icmp .ne 7, 3) := by decide +kernel
theorem dL_acts_126 : decode cL_acts 126 = .ok (.iconst 1, 1) := by decide +kernel
theorem dL_acts_127 : decode cL_acts 127 = .ok (.goto 4, 3) := by decide +kernel
theorem dL_acts_130 : decode cL_acts 130 = .ok (.iconst 0, 1) := by decide +kernel
theorem dL_acts_131 : decode cL_acts 131 = .ok (.ireturn, 1) := by decide +kernel
theorem dL_acts_132 : decode cL_acts 132 = .ok (.iload 9, 2) := by decide +kernel
theorem dL_acts_134 : decode cL_acts 134 = .ok (.ifCond .ne 20, 3) := by decide +kernel
theorem dL_acts_137 : decode cL_acts 137 = .ok (.aload_n 0, 1) := by decide +kernel
theorem dL_acts_138 : decode cL_acts 138 = .ok (.iload 5, 2) := by decide +kernel
theorem dL_acts_140 : decode cL_acts 140 = .ok (.bipush 9, 2) := by decide +kernel
theorem dL_acts_142 : decode cL_acts 142 = .ok (.invokevirtual 42, 3) := by decide +kernel
theorem dL_acts_145 : decode cL_acts 145 = .ok (.ifCond .ne 7, 3) := by decide +kernel
theorem dL_acts_148 : decode cL_acts 148 = .ok (.iconst 1, 1) := by decide +kernel
theorem dL_acts_149 : decode cL_acts 149 = .ok (.goto 4, 3) := by decide +kernel
theorem dL_acts_152 : decode cL_acts 152 = .ok (.iconst 0, 1) := by decide +kernel
theorem dL_acts_153 : decode cL_acts 153 = .ok (.ireturn, 1) := by decide +kernel
theorem dL_acts_154 : decode cL_acts 154 = .ok (.aload 4, 2) := by decide +kernel
theorem dL_acts_156 : decode cL_acts 156 = .ok (.iconst 0, 1) := by decide +kernel
theorem dL_acts_157 : decode cL_acts 157 = .ok (.iaload, 1) := by decide +kernel
theorem dL_acts_158 : decode cL_acts 158 = .ok (.istore 11, 2) := by decide +kernel
theorem dL_acts_160 : decode cL_acts 160 = .ok (.aload_n 1, 1) := by decide +kernel
theorem dL_acts_161 : decode cL_acts 161 = .ok (.aload 4, 2) := by decide +kernel
theorem dL_acts_163 : decode cL_acts 163 = .ok (.iload 5, 2) := by decide +kernel
theorem dL_acts_165 : decode cL_acts 165 = .ok (.invokestatic 35, 3) := by decide +kernel
theorem dL_acts_168 : decode cL_acts 168 = .ok (.aload_n 2, 1) := by decide +kernel
theorem dL_acts_169 : decode cL_acts 169 = .ok (.iconst 3, 1) := by decide +kernel
theorem dL_acts_170 : decode cL_acts 170 = .ok (.iload 5, 2) := by decide +kernel
theorem dL_acts_172 : decode cL_acts 172 = .ok (.iadd, 1) := by decide +kernel
theorem dL_acts_173 : decode cL_acts 173 = .ok (.dup2, 1) := by decide +kernel
theorem dL_acts_174 : decode cL_acts 174 = .ok (.iaload, 1) := by decide +kernel
theorem dL_acts_175 : decode cL_acts 175 = .ok (.iconst 1, 1) := by decide +kernel
theorem dL_acts_176 : decode cL_acts 176 = .ok (.iadd, 1) := by decide +kernel
theorem dL_acts_177 : decode cL_acts 177 = .ok (.iastore, 1) := by decide +kernel
theorem dL_acts_178 : decode cL_acts 178 = .ok (.aload_n 0, 1) := by decide +kernel
theorem dL_acts_179 : decode cL_acts 179 = .ok (.iload 5, 2) := by decide +kernel
theorem dL_acts_181 : decode cL_acts 181 = .ok (.invokevirtual 90, 3) := by decide +kernel
theorem dL_acts_184 : decode cL_acts 184 = .ok (.iload 11, 2) := by decide +kernel
theorem dL_acts_186 : decode cL_acts 186 = .ok (.if_icmp .ne 7, 3) := by decide +kernel
theorem dL_acts_189 : decode cL_acts 189 = .ok (.iconst 1, 1) := by decide +kernel
theorem dL_acts_190 : decode cL_acts 190 = .ok (.goto 4, 3) := by decide +kernel
theorem dL_acts_193 : decode cL_acts 193 = .ok (.iconst 0, 1) := by decide +kernel
theorem dL_acts_194 : decode cL_acts 194 = .ok (.ireturn, 1) := by decide +kernel
theorem dL_acts_195 : decode cL_acts 195 = .ok (.iload 9, 2) := by decide +kernel
theorem dL_acts_197 : decode cL_acts 197 = .ok (.iconst 2, 1) := by decide +kernel
theorem dL_acts_198 : decode cL_acts 198 = .ok (.if_icmp .ge 21, 3) := by decide +kernel
theorem dL_acts_201 : decode cL_acts 201 = .ok (.aload_n 0, 1) := by decide +kernel
theorem dL_acts_202 : decode cL_acts 202 = .ok (.iload 5, 2) := by decide +kernel
theorem dL_acts_204 : decode cL_acts 204 = .ok (.bipush 9, 2) := by decide +kernel
theorem dL_acts_206 : decode cL_acts 206 = .ok (.invokevirtual 42, 3) := by decide +kernel
theorem dL_acts_209 : decode cL_acts 209 = .ok (.iconst 2, 1) := by decide +kernel
theorem dL_acts_210 : decode cL_acts 210 = .ok (.if_icmp .ge 7, 3) := by decide +kernel
theorem dL_acts_213 : decode cL_acts 213 = .ok (.iconst 1, 1) := by decide +kernel
theorem dL_acts_214 : decode cL_acts 214 = .ok (.goto 4, 3) := by decide +kernel
theorem dL_acts_217 : decode cL_acts 217 = .ok (.iconst 0, 1) := by decide +kernel
theorem dL_acts_218 : decode cL_acts 218 = .ok (.ireturn, 1) := by decide +kernel
theorem dL_acts_219 : decode cL_acts 219 = .ok (.iconst 0, 1) := by decide +kernel
theorem dL_acts_220 : decode cL_acts 220 = .ok (.istore 12, 2) := by decide +kernel
theorem dL_acts_222 : decode cL_acts 222 = .ok (.iload 12, 2) := by decide +kernel
theorem dL_acts_224 : decode cL_acts 224 = .ok (.bipush 16, 2) := by decide +kernel
theorem dL_acts_226 : decode cL_acts 226 = .ok (.if_icmp .ge 39, 3) := by decide +kernel
theorem dL_acts_229 : decode cL_acts 229 = .ok (.aload 4, 2) := by decide +kernel
theorem dL_acts_231 : decode cL_acts 231 = .ok (.iload 12, 2) := by decide +kernel
theorem dL_acts_233 : decode cL_acts 233 = .ok (.iaload, 1) := by decide +kernel
theorem dL_acts_234 : decode cL_acts 234 = .ok (.istore 13, 2) := by decide +kernel
theorem dL_acts_236 : decode cL_acts 236 = .ok (.aload 4, 2) := by decide +kernel
theorem dL_acts_238 : decode cL_acts 238 = .ok (.iload 12, 2) := by decide +kernel
theorem dL_acts_240 : decode cL_acts 240 = .ok (.aload 4, 2) := by decide +kernel
theorem dL_acts_242 : decode cL_acts 242 = .ok (.bipush 16, 2) := by decide +kernel
theorem dL_acts_244 : decode cL_acts 244 = .ok (.iload 12, 2) := by decide +kernel
theorem dL_acts_246 : decode cL_acts 246 = .ok (.iadd, 1) := by decide +kernel
theorem dL_acts_247 : decode cL_acts 247 = .ok (.iaload, 1) := by decide +kernel
theorem dL_acts_248 : decode cL_acts 248 = .ok (.iastore, 1) := by decide +kernel
theorem dL_acts_249 : decode cL_acts 249 = .ok (.aload 4, 2) := by decide +kernel
theorem dL_acts_251 : decode cL_acts 251 = .ok (.bipush 16, 2) := by decide +kernel
theorem dL_acts_253 : decode cL_acts 253 = .ok (.iload 12, 2) := by decide +kernel
theorem dL_acts_255 : decode cL_acts 255 = .ok (.iadd, 1) := by decide +kernel
theorem dL_acts_256 : decode cL_acts 256 = .ok (.iload 13, 2) := by decide +kernel
theorem dL_acts_258 : decode cL_acts 258 = .ok (.iastore, 1) := by decide +kernel
theorem dL_acts_259 : decode cL_acts 259 = .ok (.iinc 12 1, 3) := by decide +kernel
theorem dL_acts_262 : decode cL_acts 262 = .ok (.goto (-40), 3) := by decide +kernel
theorem dL_acts_265 : decode cL_acts 265 = .ok (.aload_n 0, 1) := by decide +kernel
theorem dL_acts_266 : decode cL_acts 266 = .ok (.iload 5, 2) := by decide +kernel
theorem dL_acts_268 : decode cL_acts 268 = .ok (.invokevirtual 93, 3) := by decide +kernel
theorem dL_acts_271 : decode cL_acts 271 = .ok (.aload 4, 2) := by decide +kernel
theorem dL_acts_273 : decode cL_acts 273 = .ok (.iconst 0, 1) := by decide +kernel
theorem dL_acts_274 : decode cL_acts 274 = .ok (.iaload, 1) := by decide +kernel
theorem dL_acts_275 : decode cL_acts 275 = .ok (.if_icmp .ne 7, 3) := by decide +kernel
theorem dL_acts_278 : decode cL_acts 278 = .ok (.iconst 1, 1) := by decide +kernel
theorem dL_acts_279 : decode cL_acts 279 = .ok (.goto 4, 3) := by decide +kernel
theorem dL_acts_282 : decode cL_acts 282 = .ok (.iconst 0, 1) := by decide +kernel
theorem dL_acts_283 : decode cL_acts 283 = .ok (.ireturn, 1) := by decide +kernel
theorem dL_acts_284 : decode cL_acts 284 = .ok (.iload 7, 2) := by decide +kernel
theorem dL_acts_286 : decode cL_acts 286 = .ok (.iconst 4, 1) := by decide +kernel
theorem dL_acts_287 : decode cL_acts 287 = .ok (.invokestatic 80, 3) := by decide +kernel
theorem dL_acts_290 : decode cL_acts 290 = .ok (.istore 12, 2) := by decide +kernel
theorem dL_acts_292 : decode cL_acts 292 = .ok (.aload_n 2, 1) := by decide +kernel
theorem dL_acts_293 : decode cL_acts 293 = .ok (.bipush 9, 2) := by decide +kernel
theorem dL_acts_295 : decode cL_acts 295 = .ok (.iload 12, 2) := by decide +kernel
theorem dL_acts_297 : decode cL_acts 297 = .ok (.iadd, 1) := by decide +kernel
theorem dL_acts_298 : decode cL_acts 298 = .ok (.iaload, 1) := by decide +kernel
theorem dL_acts_299 : decode cL_acts 299 = .ok (.istore 13, 2) := by decide +kernel
theorem dL_acts_301 : decode cL_acts 301 = .ok (.aload_n 2, 1) := by decide +kernel
theorem dL_acts_302 : decode cL_acts 302 = .ok (.bipush 9, 2) := by decide +kernel
theorem dL_acts_304 : decode cL_acts 304 = .ok (.iload 12, 2) := by decide +kernel
theorem dL_acts_306 : decode cL_acts 306 = .ok (.iadd, 1) := by decide +kernel
theorem dL_acts_307 : decode cL_acts 307 = .ok (.iload 12, 2) := by decide +kernel
theorem dL_acts_309 : decode cL_acts 309 = .ok (.ifCond .ne 16, 3) := by decide +kernel
theorem dL_acts_312 : decode cL_acts 312 = .ok (.iconst 1, 1) := by decide +kernel
theorem dL_acts_313 : decode cL_acts 313 = .ok (.iload 7, 2) := by decide +kernel
theorem dL_acts_315 : decode cL_acts 315 = .ok (.iconst 2, 1) := by decide +kernel
theorem dL_acts_316 : decode cL_acts 316 = .ok (.ishr, 1) := by decide +kernel
theorem dL_acts_317 : decode cL_acts 317 = .ok (.iconst 4, 1) := by decide +kernel
theorem dL_acts_318 : decode cL_acts 318 = .ok (.invokestatic 80, 3) := by decide +kernel
theorem dL_acts_321 : decode cL_acts 321 = .ok (.iadd, 1) := by decide +kernel
theorem dL_acts_322 : decode cL_acts 322 = .ok (.goto 52, 3) := by decide +kernel
theorem dL_acts_325 : decode cL_acts 325 = .ok (.iload 12, 2) := by decide +kernel
theorem dL_acts_327 : decode cL_acts 327 = .ok (.iconst 1, 1) := by decide +kernel
theorem dL_acts_328 : decode cL_acts 328 = .ok (.if_icmp .ne 15, 3) := by decide +kernel
theorem dL_acts_331 : decode cL_acts 331 = .ok (.iload 7, 2) := by decide +kernel
theorem dL_acts_333 : decode cL_acts 333 = .ok (.iconst 2, 1) := by decide +kernel
theorem dL_acts_334 : decode cL_acts 334 = .ok (.ishr, 1) := by decide +kernel
theorem dL_acts_335 : decode cL_acts 335 = .ok (.bipush 100, 2) := by decide +kernel
theorem dL_acts_337 : decode cL_acts 337 = .ok (.invokestatic 80, 3) := by decide +kernel
theorem dL_acts_340 : decode cL_acts 340 = .ok (.goto 34, 3) := by decide +kernel
theorem dL_acts_343 : decode cL_acts 343 = .ok (.iload 12, 2) := by decide +kernel
theorem dL_acts_345 : decode cL_acts 345 = .ok (.iconst 2, 1) := by decide +kernel
theorem dL_acts_346 : decode cL_acts 346 = .ok (.if_icmp .ne 17, 3) := by decide +kernel
theorem dL_acts_349 : decode cL_acts 349 = .ok (.iconst 1, 1) := by decide +kernel
theorem dL_acts_350 : decode cL_acts 350 = .ok (.iload 7, 2) := by decide +kernel
theorem dL_acts_352 : decode cL_acts 352 = .ok (.iconst 2, 1) := by decide +kernel
theorem dL_acts_353 : decode cL_acts 353 = .ok (.ishr, 1) := by decide +kernel
theorem dL_acts_354 : decode cL_acts 354 = .ok (.bipush 8, 2) := by decide +kernel
theorem dL_acts_356 : decode cL_acts 356 = .ok (.invokestatic 80, 3) := by decide +kernel
theorem dL_acts_359 : decode cL_acts 359 = .ok (.iadd, 1) := by decide +kernel
theorem dL_acts_360 : decode cL_acts 360 = .ok (.goto 14, 3) := by decide +kernel
theorem dL_acts_363 : decode cL_acts 363 = .ok (.iconst 1, 1) := by decide +kernel
theorem dL_acts_364 : decode cL_acts 364 = .ok (.iload 7, 2) := by decide +kernel
theorem dL_acts_366 : decode cL_acts 366 = .ok (.iconst 2, 1) := by decide +kernel
theorem dL_acts_367 : decode cL_acts 367 = .ok (.ishr, 1) := by decide +kernel
theorem dL_acts_368 : decode cL_acts 368 = .ok (.bipush 9, 2) := by decide +kernel
theorem dL_acts_370 : decode cL_acts 370 = .ok (.invokestatic 80, 3) := by decide +kernel
theorem dL_acts_373 : decode cL_acts 373 = .ok (.iadd, 1) := by decide +kernel
theorem dL_acts_374 : decode cL_acts 374 = .ok (.iastore, 1) := by decide +kernel
theorem dL_acts_375 : decode cL_acts 375 = .ok (.aload_n 0, 1) := by decide +kernel
theorem dL_acts_376 : decode cL_acts 376 = .ok (.iload 12, 2) := by decide +kernel
theorem dL_acts_378 : decode cL_acts 378 = .ok (.aload_n 2, 1) := by decide +kernel
theorem dL_acts_379 : decode cL_acts 379 = .ok (.bipush 9, 2) := by decide +kernel
theorem dL_acts_381 : decode cL_acts 381 = .ok (.iload 12, 2) := by decide +kernel
theorem dL_acts_383 : decode cL_acts 383 = .ok (.iadd, 1) := by decide +kernel
theorem dL_acts_384 : decode cL_acts 384 = .ok (.iaload, 1) := by decide +kernel
theorem dL_acts_385 : decode cL_acts 385 = .ok (.invokevirtual 96, 3) := by decide +kernel
theorem dL_acts_388 : decode cL_acts 388 = .ok (.iload 13, 2) := by decide +kernel
theorem dL_acts_390 : decode cL_acts 390 = .ok (.if_icmp .ne 7, 3) := by decide +kernel
theorem dL_acts_393 : decode cL_acts 393 = .ok (.iconst 1, 1) := by decide +kernel
theorem dL_acts_394 : decode cL_acts 394 = .ok (.goto 4, 3) := by decide +kernel
theorem dL_acts_397 : decode cL_acts 397 = .ok (.iconst 0, 1) := by decide +kernel
theorem dL_acts_398 : decode cL_acts 398 = .ok (.ireturn, 1) := by decide +kernel
theorem dL_acts_399 : decode cL_acts 399 = .ok (.iload 9, 2) := by decide +kernel
theorem dL_acts_401 : decode cL_acts 401 = .ok (.ifCond .eq 21, 3) := by decide +kernel
theorem dL_acts_404 : decode cL_acts 404 = .ok (.aload_n 0, 1) := by decide +kernel
theorem dL_acts_405 : decode cL_acts 405 = .ok (.iload 5, 2) := by decide +kernel
theorem dL_acts_407 : decode cL_acts 407 = .ok (.invokevirtual 99, 3) := by decide +kernel
theorem dL_acts_410 : decode cL_acts 410 = .ok (.aload_n 1, 1) := by decide +kernel
theorem dL_acts_411 : decode cL_acts 411 = .ok (.aload_n 2, 1) := by decide +kernel
theorem dL_acts_412 : decode cL_acts 412 = .ok (.aload 4, 2) := by decide +kernel
theorem dL_acts_414 : decode cL_acts 414 = .ok (.iload 5, 2) := by decide +kernel
theorem dL_acts_416 : decode cL_acts 416 = .ok (.invokestatic 60, 3) := by decide +kernel
theorem dL_acts_419 : decode cL_acts 419 = .ok (.if_icmp .ne 7, 3) := by decide +kernel
theorem dL_acts_422 : decode cL_acts 422 = .ok (.iconst 1, 1) := by decide +kernel
theorem dL_acts_423 : decode cL_acts 423 = .ok (.goto 4, 3) := by decide +kernel
theorem dL_acts_426 : decode cL_acts 426 = .ok (.iconst 0, 1) := by decide +kernel
theorem dL_acts_427 : decode cL_acts 427 = .ok (.ireturn, 1) := by decide +kernel
theorem dL_acts_428 : decode cL_acts 428 = .ok (.iload 7, 2) := by decide +kernel
theorem dL_acts_430 : decode cL_acts 430 = .ok (.iconst 3, 1) := by decide +kernel
theorem dL_acts_431 : decode cL_acts 431 = .ok (.ishr, 1) := by decide +kernel
theorem dL_acts_432 : decode cL_acts 432 = .ok (.iconst 3, 1) := by decide +kernel
theorem dL_acts_433 : decode cL_acts 433 = .ok (.invokestatic 80, 3) := by decide +kernel
theorem dL_acts_436 : decode cL_acts 436 = .ok (.ifCond .ne 20, 3) := by decide +kernel
theorem dL_acts_439 : decode cL_acts 439 = .ok (.iload 7, 2) := by decide +kernel
theorem dL_acts_441 : decode cL_acts 441 = .ok (.iconst 5, 1) := by decide +kernel
theorem dL_acts_442 : decode cL_acts 442 = .ok (.ishr, 1) := by decide +kernel
theorem dL_acts_443 : decode cL_acts 443 = .ok (.sipush 4001, 3) := by decide +kernel
theorem dL_acts_446 : decode cL_acts 446 = .ok (.invokestatic 80, 3) := by decide +kernel
theorem dL_acts_449 : decode cL_acts 449 = .ok (.sipush 2000, 3) := by decide +kernel
theorem dL_acts_452 : decode cL_acts 452 = .ok (.isub, 1) := by decide +kernel
theorem dL_acts_453 : decode cL_acts 453 = .ok (.goto 17, 3) := by decide +kernel
theorem dL_acts_456 : decode cL_acts 456 = .ok (.iload 7, 2) := by decide +kernel
theorem dL_acts_458 : decode cL_acts 458 = .ok (.iconst 5, 1) := by decide +kernel
theorem dL_acts_459 : decode cL_acts 459 = .ok (.ishr, 1) := by decide +kernel
theorem dL_acts_460 : decode cL_acts 460 = .ok (.sipush 300, 3) := by decide +kernel
theorem dL_acts_463 : decode cL_acts 463 = .ok (.invokestatic 80, 3) := by decide +kernel
theorem dL_acts_466 : decode cL_acts 466 = .ok (.sipush 150, 3) := by decide +kernel
theorem dL_acts_469 : decode cL_acts 469 = .ok (.isub, 1) := by decide +kernel
theorem dL_acts_470 : decode cL_acts 470 = .ok (.istore 14, 2) := by decide +kernel
theorem dL_acts_472 : decode cL_acts 472 = .ok (.iload 9, 2) := by decide +kernel
theorem dL_acts_474 : decode cL_acts 474 = .ok (.iconst 4, 1) := by decide +kernel
theorem dL_acts_475 : decode cL_acts 475 = .ok (.if_icmp .eq 26, 3) := by decide +kernel
theorem dL_acts_478 : decode cL_acts 478 = .ok (.aload_n 0, 1) := by decide +kernel
theorem dL_acts_479 : decode cL_acts 479 = .ok (.iload 5, 2) := by decide +kernel
theorem dL_acts_481 : decode cL_acts 481 = .ok (.iload 14, 2) := by decide +kernel
theorem dL_acts_483 : decode cL_acts 483 = .ok (.invokevirtual 102, 3) := by decide +kernel
theorem dL_acts_486 : decode cL_acts 486 = .ok (.aload_n 1, 1) := by decide +kernel
theorem dL_acts_487 : decode cL_acts 487 = .ok (.aload_n 2, 1) := by decide +kernel
theorem dL_acts_488 : decode cL_acts 488 = .ok (.aload_n 3, 1) := by decide +kernel
theorem dL_acts_489 : decode cL_acts 489 = .ok (.aload 4, 2) := by decide +kernel
theorem dL_acts_491 : decode cL_acts 491 = .ok (.iload 5, 2) := by decide +kernel
theorem dL_acts_493 : decode cL_acts 493 = .ok (.iload 14, 2) := by decide +kernel
theorem dL_acts_495 : decode cL_acts 495 = .ok (.invokestatic 105, 3) := by decide +kernel
theorem dL_acts_498 : decode cL_acts 498 = .ok (.if_icmp .ne 7, 3) := by decide +kernel
theorem dL_acts_501 : decode cL_acts 501 = .ok (.iconst 1, 1) := by decide +kernel
theorem dL_acts_502 : decode cL_acts 502 = .ok (.goto 4, 3) := by decide +kernel
theorem dL_acts_505 : decode cL_acts 505 = .ok (.iconst 0, 1) := by decide +kernel
theorem dL_acts_506 : decode cL_acts 506 = .ok (.ireturn, 1) := by decide +kernel
theorem dL_law_0 : decode cL_law 0 = .ok (.new 43, 3) := by decide +kernel
theorem dL_law_3 : decode cL_law 3 = .ok (.dup, 1) := by decide +kernel
theorem dL_law_4 : decode cL_law 4 = .ok (.invokespecial 109, 3) := by decide +kernel
theorem dL_law_7 : decode cL_law 7 = .ok (.astore_n 1, 1) := by decide +kernel
theorem dL_law_8 : decode cL_law 8 = .ok (.bipush 60, 2) := by decide +kernel
theorem dL_law_10 : decode cL_law 10 = .ok (.newarray .int, 2) := by decide +kernel
theorem dL_law_12 : decode cL_law 12 = .ok (.astore_n 2, 1) := by decide +kernel
theorem dL_law_13 : decode cL_law 13 = .ok (.bipush 14, 2) := by decide +kernel
theorem dL_law_15 : decode cL_law 15 = .ok (.newarray .int, 2) := by decide +kernel
theorem dL_law_17 : decode cL_law 17 = .ok (.astore_n 3, 1) := by decide +kernel
theorem dL_law_18 : decode cL_law 18 = .ok (.bipush 24, 2) := by decide +kernel
theorem dL_law_20 : decode cL_law 20 = .ok (.newarray .int, 2) := by decide +kernel
theorem dL_law_22 : decode cL_law 22 = .ok (.astore 4, 2) := by decide +kernel
theorem dL_law_24 : decode cL_law 24 = .ok (.bipush 64, 2) := by decide +kernel
theorem dL_law_26 : decode cL_law 26 = .ok (.newarray .int, 2) := by decide +kernel
theorem dL_law_28 : decode cL_law 28 = .ok (.astore 5, 2) := by decide +kernel
theorem dL_law_30 : decode cL_law 30 = .ok (.bipush 64, 2) := by decide +kernel
theorem dL_law_32 : decode cL_law 32 = .ok (.newarray .int, 2) := by decide +kernel
theorem dL_law_34 : decode cL_law 34 = .ok (.astore 6, 2) := by decide +kernel
theorem dL_law_36 : decode cL_law 36 = .ok (.bipush 64, 2) := by decide +kernel
theorem dL_law_38 : decode cL_law 38 = .ok (.newarray .int, 2) := by decide +kernel
theorem dL_law_40 : decode cL_law 40 = .ok (.astore 7, 2) := by decide +kernel
theorem dL_law_42 : decode cL_law 42 = .ok (.aload_n 3, 1) := by decide +kernel
theorem dL_law_43 : decode cL_law 43 = .ok (.bipush 9, 2) := by decide +kernel
theorem dL_law_45 : decode cL_law 45 = .ok (.iconst 1, 1) := by decide +kernel
theorem dL_law_46 : decode cL_law 46 = .ok (.iastore, 1) := by decide +kernel
theorem dL_law_47 : decode cL_law 47 = .ok (.aload_n 3, 1) := by decide +kernel
theorem dL_law_48 : decode cL_law 48 = .ok (.bipush 11, 2) := by decide +kernel
theorem dL_law_50 : decode cL_law 50 = .ok (.iconst 4, 1) := by decide +kernel
theorem dL_law_51 : decode cL_law 51 = .ok (.iastore, 1) := by decide +kernel
theorem dL_law_52 : decode cL_law 52 = .ok (.aload_n 3, 1) := by decide +kernel
theorem dL_law_53 : decode cL_law 53 = .ok (.bipush 12, 2) := by decide +kernel
theorem dL_law_55 : decode cL_law 55 = .ok (.iconst 3, 1) := by decide +kernel
theorem dL_law_56 : decode cL_law 56 = .ok (.iastore, 1) := by decide +kernel
theorem dL_law_57 : decode cL_law 57 = .ok (.aload_n 1, 1) := by decide +kernel
theorem dL_law_58 : decode cL_law 58 = .ok (.aload_n 2, 1) := by decide +kernel
theorem dL_law_59 : decode cL_law 59 = .ok (.aload_n 3, 1) := by decide +kernel
theorem dL_law_60 : decode cL_law 60 = .ok (.iconst 3, 1) := by decide +kernel
theorem dL_law_61 : decode cL_law 61 = .ok (.invokestatic 110, 3) := by decide +kernel
theorem dL_law_64 : decode cL_law 64 = .ok (.istore 8, 2) := by decide +kernel
theorem dL_law_66 : decode cL_law 66 = .ok (.iconst 0, 1) := by decide +kernel
theorem dL_law_67 : decode cL_law 67 = .ok (.istore 9, 2) := by decide +kernel
theorem dL_law_69 : decode cL_law 69 = .ok (.iload 9, 2) := by decide +kernel
theorem dL_law_71 : decode cL_law 71 = .ok (.bipush 60, 2) := by decide +kernel
theorem dL_law_73 : decode cL_law 73 = .ok (.if_icmp .ge 263, 3) := by decide +kernel
theorem dL_law_76 : decode cL_law 76 = .ok (.iload 8, 2) := by decide +kernel
theorem dL_law_78 : decode cL_law 78 = .ok (.ifCond .eq 258, 3) := by decide +kernel
theorem dL_law_81 : decode cL_law 81 = .ok (.aload_n 0, 1) := by decide +kernel
theorem dL_law_82 : decode cL_law 82 = .ok (.iload 9, 2) := by decide +kernel
theorem dL_law_84 : decode cL_law 84 = .ok (.invokestatic 114, 3) := by decide +kernel
theorem dL_law_87 : decode cL_law 87 = .ok (.istore 10, 2) := by decide +kernel
theorem dL_law_89 : decode cL_law 89 = .ok (.iload 10, 2) := by decide +kernel
theorem dL_law_91 : decode cL_law 91 = .ok (.bipush 19, 2) := by decide +kernel
theorem dL_law_93 : decode cL_law 93 = .ok (.ishr, 1) := by decide +kernel
theorem dL_law_94 : decode cL_law 94 = .ok (.iconst 4, 1) := by decide +kernel
theorem dL_law_95 : decode cL_law 95 = .ok (.invokestatic 80, 3) := by decide +kernel
theorem dL_law_98 : decode cL_law 98 = .ok (.iconst 3, 1) := by decide +kernel
theorem dL_law_99 : decode cL_law 99 = .ok (.irem, 1) := by decide +kernel
theorem dL_law_100 : decode cL_law 100 = .ok (.istore 11, 2) := by decide +kernel
theorem dL_law_102 : decode cL_law 102 = .ok (.iload 9, 2) := by decide +kernel
theorem dL_law_104 : decode cL_law 104 = .ok (.bipush 6, 2) := by decide +kernel
theorem dL_law_106 : decode cL_law 106 = .ok (.if_icmp .ge 8, 3) := by decide +kernel
theorem dL_law_109 : decode cL_law 109 = .ok (.bipush 9, 2) := by decide +kernel
theorem dL_law_111 : decode cL_law 111 = .ok (.goto 13, 3) := by decide +kernel
theorem dL_law_114 : decode cL_law 114 = .ok (.iload 10, 2) := by decide +kernel
theorem dL_law_116 : decode cL_law 116 = .ok (.bipush 21, 2) := by decide +kernel
theorem dL_law_118 : decode cL_law 118 = .ok (.ishr, 1) := by decide +kernel
theorem dL_law_119 : decode cL_law 119 = .ok (.bipush 16, 2) := by decide +kernel
theorem dL_law_121 : decode cL_law 121 = .ok (.invokestatic 80, 3) := by decide +kernel
theorem dL_law_124 : decode cL_law 124 = .ok (.istore 12, 2) := by decide +kernel
theorem dL_law_126 : decode cL_law 126 = .ok (.aload_n 1, 1) := by decide +kernel
theorem dL_law_127 : decode cL_law 127 = .ok (.aload_n 2, 1) := by decide +kernel
theorem dL_law_128 : decode cL_law 128 = .ok (.aload_n 3, 1) := by decide +kernel
theorem dL_law_129 : decode cL_law 129 = .ok (.aload 4, 2) := by decide +kernel
theorem dL_law_131 : decode cL_law 131 = .ok (.iload 11, 2) := by decide +kernel
theorem dL_law_133 : decode cL_law 133 = .ok (.ifCond .ne 8, 3) := by decide +kernel
theorem dL_law_136 : decode cL_law 136 = .ok (.aload 5, 2) := by decide +kernel
theorem dL_law_138 : decode cL_law 138 = .ok (.goto 16, 3) := by decide +kernel
theorem dL_law_141 : decode cL_law 141 = .ok (.iload 11, 2) := by decide +kernel
theorem dL_law_143 : decode cL_law 143 = .ok (.iconst 1, 1) := by decide +kernel
theorem dL_law_144 : decode cL_law 144 = .ok (.if_icmp .ne 8, 3) := by decide +kernel
theorem dL_law_147 : decode cL_law 147 = .ok (.aload 6, 2) := by decide +kernel
theorem dL_law_149 : decode cL_law 149 = .ok (.goto 5, 3) := by decide +kernel
theorem dL_law_152 : decode cL_law 152 = .ok (.aload 7, 2) := by decide +kernel
theorem dL_law_154 : decode cL_law 154 = .ok (.iload 11, 2) := by decide +kernel
theorem dL_law_156 : decode cL_law 156 = .ok (.iload 12, 2) := by decide +kernel
theorem dL_law_158 : decode cL_law 158 = .ok (.iload 10, 2) := by decide +kernel
theorem dL_law_160 : decode cL_law 160 = .ok (.invokestatic 118, 3) := by decide +kernel
theorem dL_law_163 : decode cL_law 163 = .ok (.ifCond .eq 57, 3) := by decide +kernel
theorem dL_law_166 : decode cL_law 166 = .ok (.aload_n 1, 1) := by decide +kernel
theorem dL_law_167 : decode cL_law 167 = .ok (.aload_n 2, 1) := by decide +kernel
theorem dL_law_168 : decode cL_law 168 = .ok (.aload_n 3, 1) := by decide +kernel
theorem dL_law_169 : decode cL_law 169 = .ok (.aload 4, 2) := by decide +kernel
theorem dL_law_171 : decode cL_law 171 = .ok (.iload 11, 2) := by decide +kernel
theorem dL_law_173 : decode cL_law 173 = .ok (.ifCond .ne 8, 3) := by decide +kernel
theorem dL_law_176 : decode cL_law 176 = .ok (.aload 5, 2) := by decide +kernel
theorem dL_law_178 : decode cL_law 178 = .ok (.goto 16, 3) := by decide +kernel
theorem dL_law_181 : decode cL_law 181 = .ok (.iload 11, 2) := by decide +kernel
theorem dL_law_183 : decode cL_law 183 = .ok (.iconst 1, 1) := by decide +kernel
theorem dL_law_184 : decode cL_law 184 = .ok (.if_icmp .ne 8, 3) := by decide +kernel
theorem dL_law_187 : decode cL_law 187 = .ok (.aload 6, 2) := by decide +kernel
theorem dL_law_189 : decode cL_law 189 = .ok (.goto 5, 3) := by decide +kernel
theorem dL_law_192 : decode cL_law 192 = .ok (.aload 7, 2) := by decide +kernel
theorem dL_law_194 : decode cL_law 194 = .ok (.iload 11, 2) := by decide +kernel
theorem dL_law_196 : decode cL_law 196 = .ok (.invokestatic 122, 3) := by decide +kernel
theorem dL_law_199 : decode cL_law 199 = .ok (.ifCond .eq 21, 3) := by decide +kernel
theorem dL_law_202 : decode cL_law 202 = .ok (.aload_n 1, 1) := by decide +kernel
theorem dL_law_203 : decode cL_law 203 = .ok (.aload_n 2, 1) := by decide +kernel
theorem dL_law_204 : decode cL_law 204 = .ok (.iload 11, 2) := by decide +kernel
theorem dL_law_206 : decode cL_law 206 = .ok (.iload 10, 2) := by decide +kernel
theorem dL_law_208 : decode cL_law 208 = .ok (.iconst 3, 1) := by decide +kernel
theorem dL_law_209 : decode cL_law 209 = .ok (.ishr, 1) := by decide +kernel
theorem dL_law_210 : decode cL_law 210 = .ok (.invokestatic 126, 3) := by decide +kernel
theorem dL_law_213 : decode cL_law 213 = .ok (.ifCond .eq 7, 3) := by decide +kernel
theorem dL_law_216 : decode cL_law 216 = .ok (.iconst 1, 1) := by decide +kernel
theorem dL_law_217 : decode cL_law 217 = .ok (.goto 4, 3) := by decide +kernel
theorem dL_law_220 : decode cL_law 220 = .ok (.iconst 0, 1) := by decide +kernel
theorem dL_law_221 : decode cL_law 221 = .ok (.istore 8, 2) := by decide +kernel
theorem dL_law_223 : decode cL_law 223 = .ok (.aload_n 1, 1) := by decide +kernel
theorem dL_law_224 : decode cL_law 224 = .ok (.aload_n 2, 1) := by decide +kernel
theorem dL_law_225 : decode cL_law 225 = .ok (.aload_n 3, 1) := by decide +kernel
theorem dL_law_226 : decode cL_law 226 = .ok (.aload 4, 2) := by decide +kernel
theorem dL_law_228 : decode cL_law 228 = .ok (.aload 5, 2) := by decide +kernel
theorem dL_law_230 : decode cL_law 230 = .ok (.iconst 0, 1) := by decide +kernel
theorem dL_law_231 : decode cL_law 231 = .ok (.invokestatic 130, 3) := by decide +kernel
theorem dL_law_234 : decode cL_law 234 = .ok (.istore 13, 2) := by decide +kernel
theorem dL_law_236 : decode cL_law 236 = .ok (.aload_n 1, 1) := by decide +kernel
theorem dL_law_237 : decode cL_law 237 = .ok (.aload_n 2, 1) := by decide +kernel
theorem dL_law_238 : decode cL_law 238 = .ok (.aload_n 3, 1) := by decide +kernel
theorem dL_law_239 : decode cL_law 239 = .ok (.aload 4, 2) := by decide +kernel
theorem dL_law_241 : decode cL_law 241 = .ok (.aload 6, 2) := by decide +kernel
theorem dL_law_243 : decode cL_law 243 = .ok (.iconst 1, 1) := by decide +kernel
theorem dL_law_244 : decode cL_law 244 = .ok (.invokestatic 130, 3) := by decide +kernel
theorem dL_law_247 : decode cL_law 247 = .ok (.istore 14, 2) := by decide +kernel
theorem dL_law_249 : decode cL_law 249 = .ok (.aload_n 1, 1) := by decide +kernel
theorem dL_law_250 : decode cL_law 250 = .ok (.aload_n 2, 1) := by decide +kernel
theorem dL_law_251 : decode cL_law 251 = .ok (.aload_n 3, 1) := by decide +kernel
theorem dL_law_252 : decode cL_law 252 = .ok (.aload 4, 2) := by decide +kernel
theorem dL_law_254 : decode cL_law 254 = .ok (.aload 7, 2) := by decide +kernel
theorem dL_law_256 : decode cL_law 256 = .ok (.iconst 2, 1) := by decide +kernel
theorem dL_law_257 : decode cL_law 257 = .ok (.invokestatic 130, 3) := by decide +kernel
theorem dL_law_260 : decode cL_law 260 = .ok (.istore 15, 2) := by decide +kernel
theorem dL_law_262 : decode cL_law 262 = .ok (.iload 8, 2) := by decide +kernel
theorem dL_law_264 : decode cL_law 264 = .ok (.ifCond .eq 63, 3) := by decide +kernel
theorem dL_law_267 : decode cL_law 267 = .ok (.iload 13, 2) := by decide +kernel
theorem dL_law_269 : decode cL_law 269 = .ok (.ifCond .lt 58, 3) := by decide +kernel
theorem dL_law_272 : decode cL_law 272 = .ok (.iload 14, 2) := by decide +kernel
theorem dL_law_274 : decode cL_law 274 = .ok (.ifCond .lt 53, 3) := by decide +kernel
theorem dL_law_277 : decode cL_law 277 = .ok (.iload 15, 2) := by decide +kernel
theorem dL_law_279 : decode cL_law 279 = .ok (.ifCond .lt 48, 3) := by decide +kernel
theorem dL_law_282 : decode cL_law 282 = .ok (.aload_n 1, 1) := by decide +kernel
theorem dL_law_283 : decode cL_law 283 = .ok (.aload_n 2, 1) := by decide +kernel
theorem dL_law_284 : decode cL_law 284 = .ok (.aload_n 3, 1) := by decide +kernel
theorem dL_law_285 : decode cL_law 285 = .ok (.iload 13, 2) := by decide +kernel
theorem dL_law_287 : decode cL_law 287 = .ok (.ifCond .ne 7, 3) := by decide +kernel
theorem dL_law_290 : decode cL_law 290 = .ok (.iconst 1, 1) := by decide +kernel
theorem dL_law_291 : decode cL_law 291 = .ok (.goto 4, 3) := by decide +kernel
theorem dL_law_294 : decode cL_law 294 = .ok (.iconst 0, 1) := by decide +kernel
theorem dL_law_295 : decode cL_law 295 = .ok (.iload 14, 2) := by decide +kernel
theorem dL_law_297 : decode cL_law 297 = .ok (.ifCond .ne 7, 3) := by decide +kernel
theorem dL_law_300 : decode cL_law 300 = .ok (.iconst 1, 1) := by decide +kernel
theorem dL_law_301 : decode cL_law 301 = .ok (.goto 4, 3) := by decide +kernel
theorem dL_law_304 : decode cL_law 304 = .ok (.iconst 0, 1) := by decide +kernel
theorem dL_law_305 : decode cL_law 305 = .ok (.iadd, 1) := by decide +kernel
theorem dL_law_306 : decode cL_law 306 = .ok (.iload 15, 2) := by decide +kernel
theorem dL_law_308 : decode cL_law 308 = .ok (.ifCond .ne 7, 3) := by decide +kernel
theorem dL_law_311 : decode cL_law 311 = .ok (.iconst 1, 1) := by decide +kernel
theorem dL_law_312 : decode cL_law 312 = .ok (.goto 4, 3) := by decide +kernel
theorem dL_law_315 : decode cL_law 315 = .ok (.iconst 0, 1) := by decide +kernel
theorem dL_law_316 : decode cL_law 316 = .ok (.iadd, 1) := by decide +kernel
theorem dL_law_317 : decode cL_law 317 = .ok (.invokestatic 110, 3) := by decide +kernel
theorem dL_law_320 : decode cL_law 320 = .ok (.ifCond .eq 7, 3) := by decide +kernel
theorem dL_law_323 : decode cL_law 323 = .ok (.iconst 1, 1) := by decide +kernel
theorem dL_law_324 : decode cL_law 324 = .ok (.goto 4, 3) := by decide +kernel
theorem dL_law_327 : decode cL_law 327 = .ok (.iconst 0, 1) := by decide +kernel
theorem dL_law_328 : decode cL_law 328 = .ok (.istore 8, 2) := by decide +kernel
theorem dL_law_330 : decode cL_law 330 = .ok (.iinc 9 1, 3) := by decide +kernel
theorem dL_law_333 : decode cL_law 333 = .ok (.goto (-264), 3) := by decide +kernel
theorem dL_law_336 : decode cL_law 336 = .ok (.iload 8, 2) := by decide +kernel
theorem dL_law_338 : decode cL_law 338 = .ok (.ireturn, 1) := by decide +kernel
