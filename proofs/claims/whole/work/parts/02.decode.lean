theorem dX0_init_0 : decode cX0_init 0 = .ok (.aload_n 0, 1) := by decide +kernel
theorem dX0_init_1 : decode cX0_init 1 = .ok (.invokespecial 3, 3) := by decide +kernel
theorem dX0_init_4 : decode cX0_init 4 = .ok (.aload_n 0, 1) := by decide +kernel
theorem dX0_init_5 : decode cX0_init 5 = .ok (.bipush 80, 2) := by decide +kernel
theorem dX0_init_7 : decode cX0_init 7 = .ok (.newarray .int, 2) := by decide +kernel
theorem dX0_init_9 : decode cX0_init 9 = .ok (.putfield 9, 3) := by decide +kernel
theorem dX0_init_12 : decode cX0_init 12 = .ok (.aload_n 0, 1) := by decide +kernel
theorem dX0_init_13 : decode cX0_init 13 = .ok (.bipush 80, 2) := by decide +kernel
theorem dX0_init_15 : decode cX0_init 15 = .ok (.newarray .int, 2) := by decide +kernel
theorem dX0_init_17 : decode cX0_init 17 = .ok (.putfield 15, 3) := by decide +kernel
theorem dX0_init_20 : decode cX0_init 20 = .ok (.aload_n 0, 1) := by decide +kernel
theorem dX0_init_21 : decode cX0_init 21 = .ok (.bipush 80, 2) := by decide +kernel
theorem dX0_init_23 : decode cX0_init 23 = .ok (.newarray .int, 2) := by decide +kernel
theorem dX0_init_25 : decode cX0_init 25 = .ok (.putfield 18, 3) := by decide +kernel
theorem dX0_init_28 : decode cX0_init 28 = .ok (.aload_n 0, 1) := by decide +kernel
theorem dX0_init_29 : decode cX0_init 29 = .ok (.bipush 80, 2) := by decide +kernel
theorem dX0_init_31 : decode cX0_init 31 = .ok (.newarray .int, 2) := by decide +kernel
theorem dX0_init_33 : decode cX0_init 33 = .ok (.putfield 21, 3) := by decide +kernel
theorem dX0_init_36 : decode cX0_init 36 = .ok (.return_, 1) := by decide +kernel
theorem dX0_add_0 : decode cX0_add 0 = .ok (.aload_n 0, 1) := by decide +kernel
theorem dX0_add_1 : decode cX0_add 1 = .ok (.getfield 24, 3) := by decide +kernel
theorem dX0_add_4 : decode cX0_add 4 = .ok (.bipush 80, 2) := by decide +kernel
theorem dX0_add_6 : decode cX0_add 6 = .ok (.if_icmp .lt 6, 3) := by decide +kernel
theorem dX0_add_9 : decode cX0_add 9 = .ok (.bipush (-4), 2) := by decide +kernel
theorem dX0_add_11 : decode cX0_add 11 = .ok (.ireturn, 1) := by decide +kernel
theorem dX0_add_12 : decode cX0_add 12 = .ok (.aload_n 0, 1) := by decide +kernel
theorem dX0_add_13 : decode cX0_add 13 = .ok (.getfield 9, 3) := by decide +kernel
theorem dX0_add_16 : decode cX0_add 16 = .ok (.aload_n 0, 1) := by decide +kernel
theorem dX0_add_17 : decode cX0_add 17 = .ok (.getfield 24, 3) := by decide +kernel
theorem dX0_add_20 : decode cX0_add 20 = .ok (.iload_n 1, 1) := by decide +kernel
theorem dX0_add_21 : decode cX0_add 21 = .ok (.iastore, 1) := by decide +kernel
theorem dX0_add_22 : decode cX0_add 22 = .ok (.aload_n 0, 1) := by decide +kernel
theorem dX0_add_23 : decode cX0_add 23 = .ok (.getfield 15, 3) := by decide +kernel
theorem dX0_add_26 : decode cX0_add 26 = .ok (.aload_n 0, 1) := by decide +kernel
theorem dX0_add_27 : decode cX0_add 27 = .ok (.getfield 24, 3) := by decide +kernel
theorem dX0_add_30 : decode cX0_add 30 = .ok (.iload_n 2, 1) := by decide +kernel
theorem dX0_add_31 : decode cX0_add 31 = .ok (.iastore, 1) := by decide +kernel
theorem dX0_add_32 : decode cX0_add 32 = .ok (.aload_n 0, 1) := by decide +kernel
theorem dX0_add_33 : decode cX0_add 33 = .ok (.getfield 18, 3) := by decide +kernel
theorem dX0_add_36 : decode cX0_add 36 = .ok (.aload_n 0, 1) := by decide +kernel
theorem dX0_add_37 : decode cX0_add 37 = .ok (.getfield 24, 3) := by decide +kernel
theorem dX0_add_40 : decode cX0_add 40 = .ok (.iload_n 3, 1) := by decide +kernel
theorem dX0_add_41 : decode cX0_add 41 = .ok (.iastore, 1) := by decide +kernel
theorem dX0_add_42 : decode cX0_add 42 = .ok (.aload_n 0, 1) := by decide +kernel
theorem dX0_add_43 : decode cX0_add 43 = .ok (.getfield 21, 3) := by decide +kernel
theorem dX0_add_46 : decode cX0_add 46 = .ok (.aload_n 0, 1) := by decide +kernel
theorem dX0_add_47 : decode cX0_add 47 = .ok (.getfield 24, 3) := by decide +kernel
theorem dX0_add_50 : decode cX0_add 50 = .ok (.iconst 0, 1) := by decide +kernel
theorem dX0_add_51 : decode cX0_add 51 = .ok (.iastore, 1) := by decide +kernel
theorem dX0_add_52 : decode cX0_add 52 = .ok (.aload_n 0, 1) := by decide +kernel
theorem dX0_add_53 : decode cX0_add 53 = .ok (.dup, 1) := by decide +kernel
theorem dX0_add_54 : decode cX0_add 54 = .ok (.getfield 24, 3) := by decide +kernel
theorem dX0_add_57 : decode cX0_add 57 = .ok (.dup_x1, 1) := by decide +kernel
theorem dX0_add_58 : decode cX0_add 58 = .ok (.iconst 1, 1) := by decide +kernel
theorem dX0_add_59 : decode cX0_add 59 = .ok (.iadd, 1) := by decide +kernel
theorem dX0_add_60 : decode cX0_add 60 = .ok (.putfield 24, 3) := by decide +kernel
theorem dX0_add_63 : decode cX0_add 63 = .ok (.ireturn, 1) := by decide +kernel
theorem dX0_countWith_0 : decode cX0_countWith 0 = .ok (.iconst 0, 1) := by decide +kernel
theorem dX0_countWith_1 : decode cX0_countWith 1 = .ok (.istore 5, 2) := by decide +kernel
theorem dX0_countWith_3 : decode cX0_countWith 3 = .ok (.iconst 0, 1) := by decide +kernel
theorem dX0_countWith_4 : decode cX0_countWith 4 = .ok (.istore 6, 2) := by decide +kernel
theorem dX0_countWith_6 : decode cX0_countWith 6 = .ok (.iload 6, 2) := by decide +kernel
theorem dX0_countWith_8 : decode cX0_countWith 8 = .ok (.aload_n 0, 1) := by decide +kernel
theorem dX0_countWith_9 : decode cX0_countWith 9 = .ok (.getfield 24, 3) := by decide +kernel
theorem dX0_countWith_12 : decode cX0_countWith 12 = .ok (.if_icmp .ge 79, 3) := by decide +kernel
theorem dX0_countWith_15 : decode cX0_countWith 15 = .ok (.aload_n 0, 1) := by decide +kernel
theorem dX0_countWith_16 : decode cX0_countWith 16 = .ok (.getfield 21, 3) := by decide +kernel
theorem dX0_countWith_19 : decode cX0_countWith 19 = .ok (.iload 6, 2) := by decide +kernel
theorem dX0_countWith_21 : decode cX0_countWith 21 = .ok (.iaload, 1) := by decide +kernel
theorem dX0_countWith_22 : decode cX0_countWith 22 = .ok (.ifCond .ne 36, 3) := by decide +kernel
theorem dX0_countWith_25 : decode cX0_countWith 25 = .ok (.iload_n 1, 1) := by decide +kernel
theorem dX0_countWith_26 : decode cX0_countWith 26 = .ok (.aload_n 0, 1) := by decide +kernel
theorem dX0_countWith_27 : decode cX0_countWith 27 = .ok (.getfield 15, 3) := by decide +kernel
theorem dX0_countWith_30 : decode cX0_countWith 30 = .ok (.iload 6, 2) := by decide +kernel
theorem dX0_countWith_32 : decode cX0_countWith 32 = .ok (.iaload, 1) := by decide +kernel
theorem dX0_countWith_33 : decode cX0_countWith 33 = .ok (.invokestatic 28, 3) := by decide +kernel
theorem dX0_countWith_36 : decode cX0_countWith 36 = .ok (.ifCond .eq 22, 3) := by decide +kernel
theorem dX0_countWith_39 : decode cX0_countWith 39 = .ok (.iload_n 2, 1) := by decide +kernel
theorem dX0_countWith_40 : decode cX0_countWith 40 = .ok (.aload_n 0, 1) := by decide +kernel
theorem dX0_countWith_41 : decode cX0_countWith 41 = .ok (.getfield 15, 3) := by decide +kernel
theorem dX0_countWith_44 : decode cX0_countWith 44 = .ok (.iload 6, 2) := by decide +kernel
theorem dX0_countWith_46 : decode cX0_countWith 46 = .ok (.iaload, 1) := by decide +kernel
theorem dX0_countWith_47 : decode cX0_countWith 47 = .ok (.invokestatic 28, 3) := by decide +kernel
theorem dX0_countWith_50 : decode cX0_countWith 50 = .ok (.iload_n 3, 1) := by decide +kernel
theorem dX0_countWith_51 : decode cX0_countWith 51 = .ok (.if_icmp .ne 7, 3) := by decide +kernel
theorem dX0_countWith_54 : decode cX0_countWith 54 = .ok (.iconst 1, 1) := by decide +kernel
theorem dX0_countWith_55 : decode cX0_countWith 55 = .ok (.goto 4, 3) := by decide +kernel
theorem dX0_countWith_58 : decode cX0_countWith 58 = .ok (.iconst 0, 1) := by decide +kernel
theorem dX0_countWith_59 : decode cX0_countWith 59 = .ok (.istore 7, 2) := by decide +kernel
theorem dX0_countWith_61 : decode cX0_countWith 61 = .ok (.iload 7, 2) := by decide +kernel
theorem dX0_countWith_63 : decode cX0_countWith 63 = .ok (.ifCond .eq 22, 3) := by decide +kernel
theorem dX0_countWith_66 : decode cX0_countWith 66 = .ok (.iload 4, 2) := by decide +kernel
theorem dX0_countWith_68 : decode cX0_countWith 68 = .ok (.ifCond .eq 14, 3) := by decide +kernel
theorem dX0_countWith_71 : decode cX0_countWith 71 = .ok (.aload_n 0, 1) := by decide +kernel
theorem dX0_countWith_72 : decode cX0_countWith 72 = .ok (.getfield 18, 3) := by decide +kernel
theorem dX0_countWith_75 : decode cX0_countWith 75 = .ok (.iload 6, 2) := by decide +kernel
theorem dX0_countWith_77 : decode cX0_countWith 77 = .ok (.iaload, 1) := by decide +kernel
theorem dX0_countWith_78 : decode cX0_countWith 78 = .ok (.iload_n 1, 1) := by decide +kernel
theorem dX0_countWith_79 : decode cX0_countWith 79 = .ok (.if_icmp .ne 6, 3) := by decide +kernel
theorem dX0_countWith_82 : decode cX0_countWith 82 = .ok (.iinc 5 1, 3) := by decide +kernel
theorem dX0_countWith_85 : decode cX0_countWith 85 = .ok (.iinc 6 1, 3) := by decide +kernel
theorem dX0_countWith_88 : decode cX0_countWith 88 = .ok (.goto (-82), 3) := by decide +kernel
theorem dX0_countWith_91 : decode cX0_countWith 91 = .ok (.iload 5, 2) := by decide +kernel
theorem dX0_countWith_93 : decode cX0_countWith 93 = .ok (.ireturn, 1) := by decide +kernel
theorem dX1_init_0 : decode cX1_init 0 = .ok (.aload_n 0, 1) := by decide +kernel
theorem dX1_init_1 : decode cX1_init 1 = .ok (.invokespecial 3, 3) := by decide +kernel
theorem dX1_init_4 : decode cX1_init 4 = .ok (.aload_n 0, 1) := by decide +kernel
theorem dX1_init_5 : decode cX1_init 5 = .ok (.bipush 6, 2) := by decide +kernel
theorem dX1_init_7 : decode cX1_init 7 = .ok (.newarray .int, 2) := by decide +kernel
theorem dX1_init_9 : decode cX1_init 9 = .ok (.putfield 9, 3) := by decide +kernel
theorem dX1_init_12 : decode cX1_init 12 = .ok (.aload_n 0, 1) := by decide +kernel
theorem dX1_init_13 : decode cX1_init 13 = .ok (.bipush 6, 2) := by decide +kernel
theorem dX1_init_15 : decode cX1_init 15 = .ok (.newarray .int, 2) := by decide +kernel
theorem dX1_init_17 : decode cX1_init 17 = .ok (.putfield 15, 3) := by decide +kernel
theorem dX1_init_20 : decode cX1_init 20 = .ok (.aload_n 0, 1) := by decide +kernel
theorem dX1_init_21 : decode cX1_init 21 = .ok (.bipush 6, 2) := by decide +kernel
theorem dX1_init_23 : decode cX1_init 23 = .ok (.newarray .int, 2) := by decide +kernel
theorem dX1_init_25 : decode cX1_init 25 = .ok (.putfield 18, 3) := by decide +kernel
theorem dX1_init_28 : decode cX1_init 28 = .ok (.return_, 1) := by decide +kernel
theorem dX1_add_0 : decode cX1_add 0 = .ok (.aload_n 0, 1) := by decide +kernel
theorem dX1_add_1 : decode cX1_add 1 = .ok (.getfield 21, 3) := by decide +kernel
theorem dX1_add_4 : decode cX1_add 4 = .ok (.bipush 6, 2) := by decide +kernel
theorem dX1_add_6 : decode cX1_add 6 = .ok (.if_icmp .lt 6, 3) := by decide +kernel
theorem dX1_add_9 : decode cX1_add 9 = .ok (.bipush (-4), 2) := by decide +kernel
theorem dX1_add_11 : decode cX1_add 11 = .ok (.ireturn, 1) := by decide +kernel
theorem dX1_add_12 : decode cX1_add 12 = .ok (.aload_n 0, 1) := by decide +kernel
theorem dX1_add_13 : decode cX1_add 13 = .ok (.getfield 9, 3) := by decide +kernel
theorem dX1_add_16 : decode cX1_add 16 = .ok (.aload_n 0, 1) := by decide +kernel
theorem dX1_add_17 : decode cX1_add 17 = .ok (.getfield 21, 3) := by decide +kernel
theorem dX1_add_20 : decode cX1_add 20 = .ok (.iload_n 1, 1) := by decide +kernel
theorem dX1_add_21 : decode cX1_add 21 = .ok (.iastore, 1) := by decide +kernel
theorem dX1_add_22 : decode cX1_add 22 = .ok (.aload_n 0, 1) := by decide +kernel
theorem dX1_add_23 : decode cX1_add 23 = .ok (.getfield 15, 3) := by decide +kernel
theorem dX1_add_26 : decode cX1_add 26 = .ok (.aload_n 0, 1) := by decide +kernel
theorem dX1_add_27 : decode cX1_add 27 = .ok (.getfield 21, 3) := by decide +kernel
theorem dX1_add_30 : decode cX1_add 30 = .ok (.iload_n 2, 1) := by decide +kernel
theorem dX1_add_31 : decode cX1_add 31 = .ok (.iastore, 1) := by decide +kernel
theorem dX1_add_32 : decode cX1_add 32 = .ok (.aload_n 0, 1) := by decide +kernel
theorem dX1_add_33 : decode cX1_add 33 = .ok (.getfield 18, 3) := by decide +kernel
theorem dX1_add_36 : decode cX1_add 36 = .ok (.aload_n 0, 1) := by decide +kernel
theorem dX1_add_37 : decode cX1_add 37 = .ok (.getfield 21, 3) := by decide +kernel
theorem dX1_add_40 : decode cX1_add 40 = .ok (.iload_n 3, 1) := by decide +kernel
theorem dX1_add_41 : decode cX1_add 41 = .ok (.iastore, 1) := by decide +kernel
theorem dX1_add_42 : decode cX1_add 42 = .ok (.aload_n 0, 1) := by decide +kernel
theorem dX1_add_43 : decode cX1_add 43 = .ok (.dup, 1) := by decide +kernel
theorem dX1_add_44 : decode cX1_add 44 = .ok (.getfield 21, 3) := by decide +kernel
theorem dX1_add_47 : decode cX1_add 47 = .ok (.dup_x1, 1) := by decide +kernel
theorem dX1_add_48 : decode cX1_add 48 = .ok (.iconst 1, 1) := by decide +kernel
theorem dX1_add_49 : decode cX1_add 49 = .ok (.iadd, 1) := by decide +kernel
theorem dX1_add_50 : decode cX1_add 50 = .ok (.putfield 21, 3) := by decide +kernel
theorem dX1_add_53 : decode cX1_add 53 = .ok (.ireturn, 1) := by decide +kernel
theorem dX1_has_0 : decode cX1_has 0 = .ok (.iload_n 1, 1) := by decide +kernel
theorem dX1_has_1 : decode cX1_has 1 = .ok (.aload_n 0, 1) := by decide +kernel
theorem dX1_has_2 : decode cX1_has 2 = .ok (.getfield 21, 3) := by decide +kernel
theorem dX1_has_5 : decode cX1_has 5 = .ok (.invokestatic 25, 3) := by decide +kernel
theorem dX1_has_8 : decode cX1_has 8 = .ok (.ireturn, 1) := by decide +kernel
theorem dX1_hasAll_0 : decode cX1_hasAll 0 = .ok (.iload_n 1, 1) := by decide +kernel
theorem dX1_hasAll_1 : decode cX1_hasAll 1 = .ok (.ifCond .lt 16, 3) := by decide +kernel
theorem dX1_hasAll_4 : decode cX1_hasAll 4 = .ok (.iload_n 1, 1) := by decide +kernel
theorem dX1_hasAll_5 : decode cX1_hasAll 5 = .ok (.aload_n 0, 1) := by decide +kernel
theorem dX1_hasAll_6 : decode cX1_hasAll 6 = .ok (.getfield 21, 3) := by decide +kernel
theorem dX1_hasAll_9 : decode cX1_hasAll 9 = .ok (.ishr, 1) := by decide +kernel
theorem dX1_hasAll_10 : decode cX1_hasAll 10 = .ok (.ifCond .ne 7, 3) := by decide +kernel
theorem dX1_hasAll_13 : decode cX1_hasAll 13 = .ok (.iconst 1, 1) := by decide +kernel
theorem dX1_hasAll_14 : decode cX1_hasAll 14 = .ok (.goto 4, 3) := by decide +kernel
theorem dX1_hasAll_17 : decode cX1_hasAll 17 = .ok (.iconst 0, 1) := by decide +kernel
theorem dX1_hasAll_18 : decode cX1_hasAll 18 = .ok (.ireturn, 1) := by decide +kernel
theorem dX1_hasSome_0 : decode cX1_hasSome 0 = .ok (.iload_n 1, 1) := by decide +kernel
theorem dX1_hasSome_1 : decode cX1_hasSome 1 = .ok (.ifCond .eq 15, 3) := by decide +kernel
theorem dX1_hasSome_4 : decode cX1_hasSome 4 = .ok (.aload_n 0, 1) := by decide +kernel
theorem dX1_hasSome_5 : decode cX1_hasSome 5 = .ok (.iload_n 1, 1) := by decide +kernel
theorem dX1_hasSome_6 : decode cX1_hasSome 6 = .ok (.invokevirtual 29, 3) := by decide +kernel
theorem dX1_hasSome_9 : decode cX1_hasSome 9 = .ok (.ifCond .eq 7, 3) := by decide +kernel
theorem dX1_hasSome_12 : decode cX1_hasSome 12 = .ok (.iconst 1, 1) := by decide +kernel
theorem dX1_hasSome_13 : decode cX1_hasSome 13 = .ok (.goto 4, 3) := by decide +kernel
theorem dX1_hasSome_16 : decode cX1_hasSome 16 = .ok (.iconst 0, 1) := by decide +kernel
theorem dX1_hasSome_17 : decode cX1_hasSome 17 = .ok (.ireturn, 1) := by decide +kernel
theorem dX1_isSilly_0 : decode cX1_isSilly 0 = .ok (.iload_n 1, 1) := by decide +kernel
theorem dX1_isSilly_1 : decode cX1_isSilly 1 = .ok (.invokestatic 33, 3) := by decide +kernel
theorem dX1_isSilly_4 : decode cX1_isSilly 4 = .ok (.iconst 2, 1) := by decide +kernel
theorem dX1_isSilly_5 : decode cX1_isSilly 5 = .ok (.if_icmp .ge 5, 3) := by decide +kernel
theorem dX1_isSilly_8 : decode cX1_isSilly 8 = .ok (.iconst 0, 1) := by decide +kernel
theorem dX1_isSilly_9 : decode cX1_isSilly 9 = .ok (.ireturn, 1) := by decide +kernel
theorem dX1_isSilly_10 : decode cX1_isSilly 10 = .ok (.iconst 0, 1) := by decide +kernel
theorem dX1_isSilly_11 : decode cX1_isSilly 11 = .ok (.istore_n 2, 1) := by decide +kernel
theorem dX1_isSilly_12 : decode cX1_isSilly 12 = .ok (.iload_n 2, 1) := by decide +kernel
theorem dX1_isSilly_13 : decode cX1_isSilly 13 = .ok (.aload_n 0, 1) := by decide +kernel
theorem dX1_isSilly_14 : decode cX1_isSilly 14 = .ok (.getfield 21, 3) := by decide +kernel
theorem dX1_isSilly_17 : decode cX1_isSilly 17 = .ok (.if_icmp .ge 28, 3) := by decide +kernel
theorem dX1_isSilly_20 : decode cX1_isSilly 20 = .ok (.iload_n 2, 1) := by decide +kernel
theorem dX1_isSilly_21 : decode cX1_isSilly 21 = .ok (.iload_n 1, 1) := by decide +kernel
theorem dX1_isSilly_22 : decode cX1_isSilly 22 = .ok (.invokestatic 39, 3) := by decide +kernel
theorem dX1_isSilly_25 : decode cX1_isSilly 25 = .ok (.ifCond .eq 14, 3) := by decide +kernel
theorem dX1_isSilly_28 : decode cX1_isSilly 28 = .ok (.aload_n 0, 1) := by decide +kernel
theorem dX1_isSilly_29 : decode cX1_isSilly 29 = .ok (.iload_n 2, 1) := by decide +kernel
theorem dX1_isSilly_30 : decode cX1_isSilly 30 = .ok (.iload_n 1, 1) := by decide +kernel
theorem dX1_isSilly_31 : decode cX1_isSilly 31 = .ok (.invokevirtual 42, 3) := by decide +kernel
theorem dX1_isSilly_34 : decode cX1_isSilly 34 = .ok (.ifCond .eq 5, 3) := by decide +kernel
theorem dX1_isSilly_37 : decode cX1_isSilly 37 = .ok (.iconst 1, 1) := by decide +kernel
theorem dX1_isSilly_38 : decode cX1_isSilly 38 = .ok (.ireturn, 1) := by decide +kernel
theorem dX1_isSilly_39 : decode cX1_isSilly 39 = .ok (.iinc 2 1, 3) := by decide +kernel
theorem dX1_isSilly_42 : decode cX1_isSilly 42 = .ok (.goto (-30), 3) := by decide +kernel
theorem dX1_isSilly_45 : decode cX1_isSilly 45 = .ok (.iconst 0, 1) := by decide +kernel
theorem dX1_isSilly_46 : decode cX1_isSilly 46 = .ok (.ireturn, 1) := by decide +kernel
theorem dX1_outdoesAll_0 : decode cX1_outdoesAll 0 = .ok (.iconst 0, 1) := by decide +kernel
theorem dX1_outdoesAll_1 : decode cX1_outdoesAll 1 = .ok (.istore_n 3, 1) := by decide +kernel
theorem dX1_outdoesAll_2 : decode cX1_outdoesAll 2 = .ok (.iload_n 3, 1) := by decide +kernel
theorem dX1_outdoesAll_3 : decode cX1_outdoesAll 3 = .ok (.aload_n 0, 1) := by decide +kernel
theorem dX1_outdoesAll_4 : decode cX1_outdoesAll 4 = .ok (.getfield 21, 3) := by decide +kernel
theorem dX1_outdoesAll_7 : decode cX1_outdoesAll 7 = .ok (.if_icmp .ge 55, 3) := by decide +kernel
theorem dX1_outdoesAll_10 : decode cX1_outdoesAll 10 = .ok (.iload_n 3, 1) := by decide +kernel
theorem dX1_outdoesAll_11 : decode cX1_outdoesAll 11 = .ok (.iload_n 2, 1) := by decide +kernel
theorem dX1_outdoesAll_12 : decode cX1_outdoesAll 12 = .ok (.invokestatic 39, 3) := by decide +kernel
theorem dX1_outdoesAll_15 : decode cX1_outdoesAll 15 = .ok (.ifCond .ne 6, 3) := by decide +kernel
theorem dX1_outdoesAll_18 : decode cX1_outdoesAll 18 = .ok (.goto 38, 3) := by decide +kernel
theorem dX1_outdoesAll_21 : decode cX1_outdoesAll 21 = .ok (.aload_n 0, 1) := by decide +kernel
theorem dX1_outdoesAll_22 : decode cX1_outdoesAll 22 = .ok (.getfield 9, 3) := by decide +kernel
theorem dX1_outdoesAll_25 : decode cX1_outdoesAll 25 = .ok (.iload_n 3, 1) := by decide +kernel
theorem dX1_outdoesAll_26 : decode cX1_outdoesAll 26 = .ok (.iaload, 1) := by decide +kernel
theorem dX1_outdoesAll_27 : decode cX1_outdoesAll 27 = .ok (.aload_n 0, 1) := by decide +kernel
theorem dX1_outdoesAll_28 : decode cX1_outdoesAll 28 = .ok (.getfield 9, 3) := by decide +kernel
theorem dX1_outdoesAll_31 : decode cX1_outdoesAll 31 = .ok (.iload_n 1, 1) := by decide +kernel
theorem dX1_outdoesAll_32 : decode cX1_outdoesAll 32 = .ok (.iaload, 1) := by decide +kernel
theorem dX1_outdoesAll_33 : decode cX1_outdoesAll 33 = .ok (.iconst (-1), 1) := by decide +kernel
theorem dX1_outdoesAll_34 : decode cX1_outdoesAll 34 = .ok (.ixor, 1) := by decide +kernel
theorem dX1_outdoesAll_35 : decode cX1_outdoesAll 35 = .ok (.iand, 1) := by decide +kernel
theorem dX1_outdoesAll_36 : decode cX1_outdoesAll 36 = .ok (.ifCond .ne 18, 3) := by decide +kernel
theorem dX1_outdoesAll_39 : decode cX1_outdoesAll 39 = .ok (.aload_n 0, 1) := by decide +kernel
theorem dX1_outdoesAll_40 : decode cX1_outdoesAll 40 = .ok (.getfield 15, 3) := by decide +kernel
theorem dX1_outdoesAll_43 : decode cX1_outdoesAll 43 = .ok (.iload_n 1, 1) := by decide +kernel
theorem dX1_outdoesAll_44 : decode cX1_outdoesAll 44 = .ok (.iaload, 1) := by decide +kernel
theorem dX1_outdoesAll_45 : decode cX1_outdoesAll 45 = .ok (.aload_n 0, 1) := by decide +kernel
theorem dX1_outdoesAll_46 : decode cX1_outdoesAll 46 = .ok (.getfield 15, 3) := by decide +kernel
theorem dX1_outdoesAll_49 : decode cX1_outdoesAll 49 = .ok (.iload_n 3, 1) := by decide +kernel
theorem dX1_outdoesAll_50 : decode cX1_outdoesAll 50 = .ok (.iaload, 1) := by decide +kernel
theorem dX1_outdoesAll_51 : decode cX1_outdoesAll 51 = .ok (.if_icmp .le 5, 3) := by decide +kernel
theorem dX1_outdoesAll_54 : decode cX1_outdoesAll 54 = .ok (.iconst 0, 1) := by decide +kernel
theorem dX1_outdoesAll_55 : decode cX1_outdoesAll 55 = .ok (.ireturn, 1) := by decide +kernel
theorem dX1_outdoesAll_56 : decode cX1_outdoesAll 56 = .ok (.iinc 3 1, 3) := by decide +kernel
theorem dX1_outdoesAll_59 : decode cX1_outdoesAll 59 = .ok (.goto (-57), 3) := by decide +kernel
theorem dX1_outdoesAll_62 : decode cX1_outdoesAll 62 = .ok (.iconst 1, 1) := by decide +kernel
theorem dX1_outdoesAll_63 : decode cX1_outdoesAll 63 = .ok (.ireturn, 1) := by decide +kernel
theorem dX1_cheapestOf_0 : decode cX1_cheapestOf 0 = .ok (.bipush 7, 2) := by decide +kernel
theorem dX1_cheapestOf_2 : decode cX1_cheapestOf 2 = .ok (.istore_n 2, 1) := by decide +kernel
theorem dX1_cheapestOf_3 : decode cX1_cheapestOf 3 = .ok (.iconst 0, 1) := by decide +kernel
theorem dX1_cheapestOf_4 : decode cX1_cheapestOf 4 = .ok (.istore_n 3, 1) := by decide +kernel
theorem dX1_cheapestOf_5 : decode cX1_cheapestOf 5 = .ok (.iload_n 3, 1) := by decide +kernel
theorem dX1_cheapestOf_6 : decode cX1_cheapestOf 6 = .ok (.aload_n 0, 1) := by decide +kernel
theorem dX1_cheapestOf_7 : decode cX1_cheapestOf 7 = .ok (.getfield 21, 3) := by decide +kernel
theorem dX1_cheapestOf_10 : decode cX1_cheapestOf 10 = .ok (.if_icmp .ge 40, 3) := by decide +kernel
theorem dX1_cheapestOf_13 : decode cX1_cheapestOf 13 = .ok (.iload_n 3, 1) := by decide +kernel
theorem dX1_cheapestOf_14 : decode cX1_cheapestOf 14 = .ok (.iload_n 1, 1) := by decide +kernel
theorem dX1_cheapestOf_15 : decode cX1_cheapestOf 15 = .ok (.invokestatic 39, 3) := by decide +kernel
theorem dX1_cheapestOf_18 : decode cX1_cheapestOf 18 = .ok (.ifCond .eq 26, 3) := by decide +kernel
theorem dX1_cheapestOf_21 : decode cX1_cheapestOf 21 = .ok (.iload_n 2, 1) := by decide +kernel
theorem dX1_cheapestOf_22 : decode cX1_cheapestOf 22 = .ok (.bipush 7, 2) := by decide +kernel
theorem dX1_cheapestOf_24 : decode cX1_cheapestOf 24 = .ok (.if_icmp .eq 18, 3) := by decide +kernel
theorem dX1_cheapestOf_27 : decode cX1_cheapestOf 27 = .ok (.aload_n 0, 1) := by decide +kernel
theorem dX1_cheapestOf_28 : decode cX1_cheapestOf 28 = .ok (.getfield 15, 3) := by decide +kernel
theorem dX1_cheapestOf_31 : decode cX1_cheapestOf 31 = .ok (.iload_n 3, 1) := by decide +kernel
theorem dX1_cheapestOf_32 : decode cX1_cheapestOf 32 = .ok (.iaload, 1) := by decide +kernel
theorem dX1_cheapestOf_33 : decode cX1_cheapestOf 33 = .ok (.aload_n 0, 1) := by decide +kernel
theorem dX1_cheapestOf_34 : decode cX1_cheapestOf 34 = .ok (.getfield 15, 3) := by decide +kernel
theorem dX1_cheapestOf_37 : decode cX1_cheapestOf 37 = .ok (.iload_n 2, 1) := by decide +kernel
theorem dX1_cheapestOf_38 : decode cX1_cheapestOf 38 = .ok (.iaload, 1) := by decide +kernel
theorem dX1_cheapestOf_39 : decode cX1_cheapestOf 39 = .ok (.if_icmp .ge 5, 3) := by decide +kernel
theorem dX1_cheapestOf_42 : decode cX1_cheapestOf 42 = .ok (.iload_n 3, 1) := by decide +kernel
theorem dX1_cheapestOf_43 : decode cX1_cheapestOf 43 = .ok (.istore_n 2, 1) := by decide +kernel
theorem dX1_cheapestOf_44 : decode cX1_cheapestOf 44 = .ok (.iinc 3 1, 3) := by decide +kernel
theorem dX1_cheapestOf_47 : decode cX1_cheapestOf 47 = .ok (.goto (-42), 3) := by decide +kernel
theorem dX1_cheapestOf_50 : decode cX1_cheapestOf 50 = .ok (.iload_n 2, 1) := by decide +kernel
theorem dX1_cheapestOf_51 : decode cX1_cheapestOf 51 = .ok (.ireturn, 1) := by decide +kernel
theorem dX1_mostMarkedOf_0 : decode cX1_mostMarkedOf 0 = .ok (.bipush 7, 2) := by decide +kernel
theorem dX1_mostMarkedOf_2 : decode cX1_mostMarkedOf 2 = .ok (.istore_n 2, 1) := by decide +kernel
theorem dX1_mostMarkedOf_3 : decode cX1_mostMarkedOf 3 = .ok (.iconst (-1), 1) := by decide +kernel
theorem dX1_mostMarkedOf_4 : decode cX1_mostMarkedOf 4 = .ok (.istore_n 3, 1) := by decide +kernel
theorem dX1_mostMarkedOf_5 : decode cX1_mostMarkedOf 5 = .ok (.iconst 0, 1) := by decide +kernel
theorem dX1_mostMarkedOf_6 : decode cX1_mostMarkedOf 6 = .ok (.istore 4, 2) := by decide +kernel
theorem dX1_mostMarkedOf_8 : decode cX1_mostMarkedOf 8 = .ok (.iload 4, 2) := by decide +kernel
theorem dX1_mostMarkedOf_10 : decode cX1_mostMarkedOf 10 = .ok (.aload_n 0, 1) := by decide +kernel
theorem dX1_mostMarkedOf_11 : decode cX1_mostMarkedOf 11 = .ok (.getfield 21, 3) := by decide +kernel
theorem dX1_mostMarkedOf_14 : decode cX1_mostMarkedOf 14 = .ok (.if_icmp .ge 46, 3) := by decide +kernel
theorem dX1_mostMarkedOf_17 : decode cX1_mostMarkedOf 17 = .ok (.iload 4, 2) := by decide +kernel
theorem dX1_mostMarkedOf_19 : decode cX1_mostMarkedOf 19 = .ok (.iload_n 1, 1) := by decide +kernel
theorem dX1_mostMarkedOf_20 : decode cX1_mostMarkedOf 20 = .ok (.invokestatic 39, 3) := by decide +kernel
theorem dX1_mostMarkedOf_23 : decode cX1_mostMarkedOf 23 = .ok (.ifCond .eq 31, 3) := by decide +kernel
theorem dX1_mostMarkedOf_26 : decode cX1_mostMarkedOf 26 = .ok (.aload_n 0, 1) := by decide +kernel
theorem dX1_mostMarkedOf_27 : decode cX1_mostMarkedOf 27 = .ok (.getfield 9, 3) := by decide +kernel
theorem dX1_mostMarkedOf_30 : decode cX1_mostMarkedOf 30 = .ok (.iload 4, 2) := by decide +kernel
theorem dX1_mostMarkedOf_32 : decode cX1_mostMarkedOf 32 = .ok (.iaload, 1) := by decide +kernel
theorem dX1_mostMarkedOf_33 : decode cX1_mostMarkedOf 33 = .ok (.invokestatic 33, 3) := by decide +kernel
theorem dX1_mostMarkedOf_36 : decode cX1_mostMarkedOf 36 = .ok (.iload_n 3, 1) := by decide +kernel
theorem dX1_mostMarkedOf_37 : decode cX1_mostMarkedOf 37 = .ok (.if_icmp .le 17, 3) := by decide +kernel
theorem dX1_mostMarkedOf_40 : decode cX1_mostMarkedOf 40 = .ok (.aload_n 0, 1) := by decide +kernel
theorem dX1_mostMarkedOf_41 : decode cX1_mostMarkedOf 41 = .ok (.getfield 9, 3) := by decide +kernel
theorem dX1_mostMarkedOf_44 : decode cX1_mostMarkedOf 44 = .ok (.iload 4, 2) := by decide +kernel
theorem dX1_mostMarkedOf_46 : decode cX1_mostMarkedOf 46 = .ok (.iaload, 1) := by decide +kernel
theorem dX1_mostMarkedOf_47 : decode cX1_mostMarkedOf 47 = .ok (.invokestatic 33, 3) := by decide +kernel
theorem dX1_mostMarkedOf_50 : decode cX1_mostMarkedOf 50 = .ok (.istore_n 3, 1) := by decide +kernel
theorem dX1_mostMarkedOf_51 : decode cX1_mostMarkedOf 51 = .ok (.iload 4, 2) := by decide +kernel
theorem dX1_mostMarkedOf_53 : decode cX1_mostMarkedOf 53 = .ok (.istore_n 2, 1) := by decide +kernel
theorem dX1_mostMarkedOf_54 : decode cX1_mostMarkedOf 54 = .ok (.iinc 4 1, 3) := by decide +kernel
theorem dX1_mostMarkedOf_57 : decode cX1_mostMarkedOf 57 = .ok (.goto (-49), 3) := by decide +kernel
theorem dX1_mostMarkedOf_60 : decode cX1_mostMarkedOf 60 = .ok (.iload_n 2, 1) := by decide +kernel
theorem dX1_mostMarkedOf_61 : decode cX1_mostMarkedOf 61 = .ok (.ireturn, 1) := by decide +kernel
theorem dX1_passing_0 : decode cX1_passing 0 = .ok (.iconst 0, 1) := by decide +kernel
theorem dX1_passing_1 : decode cX1_passing 1 = .ok (.istore_n 3, 1) := by decide +kernel
theorem dX1_passing_2 : decode cX1_passing 2 = .ok (.iconst 0, 1) := by decide +kernel
theorem dX1_passing_3 : decode cX1_passing 3 = .ok (.istore 4, 2) := by decide +kernel
theorem dX1_passing_5 : decode cX1_passing 5 = .ok (.iload 4, 2) := by decide +kernel
theorem dX1_passing_7 : decode cX1_passing 7 = .ok (.aload_n 0, 1) := by decide +kernel
theorem dX1_passing_8 : decode cX1_passing 8 = .ok (.getfield 21, 3) := by decide +kernel
theorem dX1_passing_11 : decode cX1_passing 11 = .ok (.if_icmp .ge 27, 3) := by decide +kernel
theorem dX1_passing_14 : decode cX1_passing 14 = .ok (.aload_n 0, 1) := by decide +kernel
theorem dX1_passing_15 : decode cX1_passing 15 = .ok (.iload 4, 2) := by decide +kernel
theorem dX1_passing_17 : decode cX1_passing 17 = .ok (.iload_n 1, 1) := by decide +kernel
theorem dX1_passing_18 : decode cX1_passing 18 = .ok (.iload_n 2, 1) := by decide +kernel
theorem dX1_passing_19 : decode cX1_passing 19 = .ok (.invokevirtual 45, 3) := by decide +kernel
theorem dX1_passing_22 : decode cX1_passing 22 = .ok (.ifCond .eq 10, 3) := by decide +kernel
theorem dX1_passing_25 : decode cX1_passing 25 = .ok (.iload_n 3, 1) := by decide +kernel
theorem dX1_passing_26 : decode cX1_passing 26 = .ok (.iconst 1, 1) := by decide +kernel
theorem dX1_passing_27 : decode cX1_passing 27 = .ok (.iload 4, 2) := by decide +kernel
theorem dX1_passing_29 : decode cX1_passing 29 = .ok (.ishl, 1) := by decide +kernel
theorem dX1_passing_30 : decode cX1_passing 30 = .ok (.ior, 1) := by decide +kernel
theorem dX1_passing_31 : decode cX1_passing 31 = .ok (.istore_n 3, 1) := by decide +kernel
theorem dX1_passing_32 : decode cX1_passing 32 = .ok (.iinc 4 1, 3) := by decide +kernel
theorem dX1_passing_35 : decode cX1_passing 35 = .ok (.goto (-30), 3) := by decide +kernel
theorem dX1_passing_38 : decode cX1_passing 38 = .ok (.iload_n 3, 1) := by decide +kernel
theorem dX1_passing_39 : decode cX1_passing 39 = .ok (.ireturn, 1) := by decide +kernel
theorem dX1_passes_0 : decode cX1_passes 0 = .ok (.iload_n 2, 1) := by decide +kernel
theorem dX1_passes_1 : decode cX1_passes 1 = .ok (.tableswitch 105 3 7 #[35, 46, 57, 73, 89], 35) := by decide +kernel
theorem dX1_passes_36 : decode cX1_passes 36 = .ok (.iload_n 3, 1) := by decide +kernel
theorem dX1_passes_37 : decode cX1_passes 37 = .ok (.aload_n 0, 1) := by decide +kernel
theorem dX1_passes_38 : decode cX1_passes 38 = .ok (.getfield 9, 3) := by decide +kernel
theorem dX1_passes_41 : decode cX1_passes 41 = .ok (.iload_n 1, 1) := by decide +kernel
theorem dX1_passes_42 : decode cX1_passes 42 = .ok (.iaload, 1) := by decide +kernel
theorem dX1_passes_43 : decode cX1_passes 43 = .ok (.invokestatic 39, 3) := by decide +kernel
theorem dX1_passes_46 : decode cX1_passes 46 = .ok (.ireturn, 1) := by decide +kernel
theorem dX1_passes_47 : decode cX1_passes 47 = .ok (.iload_n 1, 1) := by decide +kernel
theorem dX1_passes_48 : decode cX1_passes 48 = .ok (.iload_n 3, 1) := by decide +kernel
theorem dX1_passes_49 : decode cX1_passes 49 = .ok (.if_icmp .ne 7, 3) := by decide +kernel
theorem dX1_passes_52 : decode cX1_passes 52 = .ok (.iconst 1, 1) := by decide +kernel
theorem dX1_passes_53 : decode cX1_passes 53 = .ok (.goto 4, 3) := by decide +kernel
theorem dX1_passes_56 : decode cX1_passes 56 = .ok (.iconst 0, 1) := by decide +kernel
theorem dX1_passes_57 : decode cX1_passes 57 = .ok (.ireturn, 1) := by decide +kernel
theorem dX1_passes_58 : decode cX1_passes 58 = .ok (.aload_n 0, 1) := by decide +kernel
theorem dX1_passes_59 : decode cX1_passes 59 = .ok (.getfield 18, 3) := by decide +kernel
theorem dX1_passes_62 : decode cX1_passes 62 = .ok (.iload_n 1, 1) := by decide +kernel
theorem dX1_passes_63 : decode cX1_passes 63 = .ok (.iaload, 1) := by decide +kernel
theorem dX1_passes_64 : decode cX1_passes 64 = .ok (.iload_n 3, 1) := by decide +kernel
theorem dX1_passes_65 : decode cX1_passes 65 = .ok (.if_icmp .ne 7, 3) := by decide +kernel
theorem dX1_passes_68 : decode cX1_passes 68 = .ok (.iconst 1, 1) := by decide +kernel
theorem dX1_passes_69 : decode cX1_passes 69 = .ok (.goto 4, 3) := by decide +kernel
theorem dX1_passes_72 : decode cX1_passes 72 = .ok (.iconst 0, 1) := by decide +kernel
theorem dX1_passes_73 : decode cX1_passes 73 = .ok (.ireturn, 1) := by decide +kernel
theorem dX1_passes_74 : decode cX1_passes 74 = .ok (.aload_n 0, 1) := by decide +kernel
theorem dX1_passes_75 : decode cX1_passes 75 = .ok (.getfield 15, 3) := by decide +kernel
theorem dX1_passes_78 : decode cX1_passes 78 = .ok (.iload_n 1, 1) := by decide +kernel
theorem dX1_passes_79 : decode cX1_passes 79 = .ok (.iaload, 1) := by decide +kernel
theorem dX1_passes_80 : decode cX1_passes 80 = .ok (.iload_n 3, 1) := by decide +kernel
theorem dX1_passes_81 : decode cX1_passes 81 = .ok (.if_icmp .ge 7, 3) := by decide +kernel
theorem dX1_passes_84 : decode cX1_passes 84 = .ok (.iconst 1, 1) := by decide +kernel
theorem dX1_passes_85 : decode cX1_passes 85 = .ok (.goto 4, 3) := by decide +kernel
theorem dX1_passes_88 : decode cX1_passes 88 = .ok (.iconst 0, 1) := by decide +kernel
theorem dX1_passes_89 : decode cX1_passes 89 = .ok (.ireturn, 1) := by decide +kernel
theorem dX1_passes_90 : decode cX1_passes 90 = .ok (.aload_n 0, 1) := by decide +kernel
theorem dX1_passes_91 : decode cX1_passes 91 = .ok (.getfield 15, 3) := by decide +kernel
theorem dX1_passes_94 : decode cX1_passes 94 = .ok (.iload_n 1, 1) := by decide +kernel
theorem dX1_passes_95 : decode cX1_passes 95 = .ok (.iaload, 1) := by decide +kernel
theorem dX1_passes_96 : decode cX1_passes 96 = .ok (.iload_n 3, 1) := by decide +kernel
theorem dX1_passes_97 : decode cX1_passes 97 = .ok (.if_icmp .ne 7, 3) := by decide +kernel
theorem dX1_passes_100 : decode cX1_passes 100 = .ok (.iconst 1, 1) := by decide +kernel
theorem dX1_passes_101 : decode cX1_passes 101 = .ok (.goto 4, 3) := by decide +kernel
theorem dX1_passes_104 : decode cX1_passes 104 = .ok (.iconst 0, 1) := by decide +kernel
theorem dX1_passes_105 : decode cX1_passes 105 = .ok (.ireturn, 1) := by decide +kernel
theorem dX1_passes_106 : decode cX1_passes 106 = .ok (.aload_n 0, 1) := by decide +kernel
theorem dX1_passes_107 : decode cX1_passes 107 = .ok (.getfield 15, 3) := by decide +kernel
theorem dX1_passes_110 : decode cX1_passes 110 = .ok (.iload_n 1, 1) := by decide +kernel
theorem dX1_passes_111 : decode cX1_passes 111 = .ok (.iaload, 1) := by decide +kernel
theorem dX1_passes_112 : decode cX1_passes 112 = .ok (.iload_n 3, 1) := by decide +kernel
theorem dX1_passes_113 : decode cX1_passes 113 = .ok (.if_icmp .le 7, 3) := by decide +kernel
theorem dX1_passes_116 : decode cX1_passes 116 = .ok (.iconst 1, 1) := by decide +kernel
theorem dX1_passes_117 : decode cX1_passes 117 = .ok (.goto 4, 3) := by decide +kernel
theorem dX1_passes_120 : decode cX1_passes 120 = .ok (.iconst 0, 1) := by decide +kernel
theorem dX1_passes_121 : decode cX1_passes 121 = .ok (.ireturn, 1) := by decide +kernel
theorem dX2_init_0 : decode cX2_init 0 = .ok (.aload_n 0, 1) := by decide +kernel
theorem dX2_init_1 : decode cX2_init 1 = .ok (.iload_n 1, 1) := by decide +kernel
theorem dX2_init_2 : decode cX2_init 2 = .ok (.iload_n 2, 1) := by decide +kernel
theorem dX2_init_3 : decode cX2_init 3 = .ok (.aload_n 3, 1) := by decide +kernel
theorem dX2_init_4 : decode cX2_init 4 = .ok (.invokespecial 1, 3) := by decide +kernel
theorem dX2_init_7 : decode cX2_init 7 = .ok (.return_, 1) := by decide +kernel
theorem dX2_share_0 : decode cX2_share 0 = .ok (.aload_n 0, 1) := by decide +kernel
theorem dX2_share_1 : decode cX2_share 1 = .ok (.aload_n 1, 1) := by decide +kernel
theorem dX2_share_2 : decode cX2_share 2 = .ok (.aload_n 0, 1) := by decide +kernel
theorem dX2_share_3 : decode cX2_share 3 = .ok (.aload_n 1, 1) := by decide +kernel
theorem dX2_share_4 : decode cX2_share 4 = .ok (.iload_n 2, 1) := by decide +kernel
theorem dX2_share_5 : decode cX2_share 5 = .ok (.invokevirtual 7, 3) := by decide +kernel
theorem dX2_share_8 : decode cX2_share 8 = .ok (.iload_n 3, 1) := by decide +kernel
theorem dX2_share_9 : decode cX2_share 9 = .ok (.invokespecial 13, 3) := by decide +kernel
theorem dX2_share_12 : decode cX2_share 12 = .ok (.return_, 1) := by decide +kernel
theorem dX2_seenOf_0 : decode cX2_seenOf 0 = .ok (.iconst 0, 1) := by decide +kernel
theorem dX2_seenOf_1 : decode cX2_seenOf 1 = .ok (.istore_n 3, 1) := by decide +kernel
theorem dX2_seenOf_2 : decode cX2_seenOf 2 = .ok (.iconst 0, 1) := by decide +kernel
theorem dX2_seenOf_3 : decode cX2_seenOf 3 = .ok (.istore 4, 2) := by decide +kernel
theorem dX2_seenOf_5 : decode cX2_seenOf 5 = .ok (.iload 4, 2) := by decide +kernel
theorem dX2_seenOf_7 : decode cX2_seenOf 7 = .ok (.aload_n 0, 1) := by decide +kernel
theorem dX2_seenOf_8 : decode cX2_seenOf 8 = .ok (.getfield 17, 3) := by decide +kernel
theorem dX2_seenOf_11 : decode cX2_seenOf 11 = .ok (.getfield 21, 3) := by decide +kernel
theorem dX2_seenOf_14 : decode cX2_seenOf 14 = .ok (.if_icmp .ge 28, 3) := by decide +kernel
theorem dX2_seenOf_17 : decode cX2_seenOf 17 = .ok (.iload_n 3, 1) := by decide +kernel
theorem dX2_seenOf_18 : decode cX2_seenOf 18 = .ok (.iload_n 2, 1) := by decide +kernel
theorem dX2_seenOf_19 : decode cX2_seenOf 19 = .ok (.if_icmp .eq 23, 3) := by decide +kernel
theorem dX2_seenOf_22 : decode cX2_seenOf 22 = .ok (.iload_n 3, 1) := by decide +kernel
theorem dX2_seenOf_23 : decode cX2_seenOf 23 = .ok (.iconst 1, 1) := by decide +kernel
theorem dX2_seenOf_24 : decode cX2_seenOf 24 = .ok (.aload_n 1, 1) := by decide +kernel
theorem dX2_seenOf_25 : decode cX2_seenOf 25 = .ok (.iload_n 2, 1) := by decide +kernel
theorem dX2_seenOf_26 : decode cX2_seenOf 26 = .ok (.iload_n 3, 1) := by decide +kernel
theorem dX2_seenOf_27 : decode cX2_seenOf 27 = .ok (.iconst (-1), 1) := by decide +kernel
theorem dX2_seenOf_28 : decode cX2_seenOf 28 = .ok (.ixor, 1) := by decide +kernel
theorem dX2_seenOf_29 : decode cX2_seenOf 29 = .ok (.iand, 1) := by decide +kernel
theorem dX2_seenOf_30 : decode cX2_seenOf 30 = .ok (.invokevirtual 27, 3) := by decide +kernel
theorem dX2_seenOf_33 : decode cX2_seenOf 33 = .ok (.ishl, 1) := by decide +kernel
theorem dX2_seenOf_34 : decode cX2_seenOf 34 = .ok (.ior, 1) := by decide +kernel
theorem dX2_seenOf_35 : decode cX2_seenOf 35 = .ok (.istore_n 3, 1) := by decide +kernel
theorem dX2_seenOf_36 : decode cX2_seenOf 36 = .ok (.iinc 4 1, 3) := by decide +kernel
theorem dX2_seenOf_39 : decode cX2_seenOf 39 = .ok (.goto (-34), 3) := by decide +kernel
theorem dX2_seenOf_42 : decode cX2_seenOf 42 = .ok (.iload_n 3, 1) := by decide +kernel
theorem dX2_seenOf_43 : decode cX2_seenOf 43 = .ok (.iload_n 2, 1) := by decide +kernel
theorem dX2_seenOf_44 : decode cX2_seenOf 44 = .ok (.iand, 1) := by decide +kernel
theorem dX2_seenOf_45 : decode cX2_seenOf 45 = .ok (.ireturn, 1) := by decide +kernel
theorem dX2_oddsBody_0 : decode cX2_oddsBody 0 = .ok (.aload_n 2, 1) := by decide +kernel
theorem dX2_oddsBody_1 : decode cX2_oddsBody 1 = .ok (.bipush 51, 2) := by decide +kernel
theorem dX2_oddsBody_3 : decode cX2_oddsBody 3 = .ok (.invokevirtual 33, 3) := by decide +kernel
theorem dX2_oddsBody_6 : decode cX2_oddsBody 6 = .ok (.aload_n 0, 1) := by decide +kernel
theorem dX2_oddsBody_7 : decode cX2_oddsBody 7 = .ok (.iload_n 1, 1) := by decide +kernel
theorem dX2_oddsBody_8 : decode cX2_oddsBody 8 = .ok (.aload_n 2, 1) := by decide +kernel
theorem dX2_oddsBody_9 : decode cX2_oddsBody 9 = .ok (.invokespecial 39, 3) := by decide +kernel
theorem dX2_oddsBody_12 : decode cX2_oddsBody 12 = .ok (.aload_n 0, 1) := by decide +kernel
theorem dX2_oddsBody_13 : decode cX2_oddsBody 13 = .ok (.iconst 2, 1) := by decide +kernel
theorem dX2_oddsBody_14 : decode cX2_oddsBody 14 = .ok (.aload_n 2, 1) := by decide +kernel
theorem dX2_oddsBody_15 : decode cX2_oddsBody 15 = .ok (.invokespecial 43, 3) := by decide +kernel
theorem dX2_oddsBody_18 : decode cX2_oddsBody 18 = .ok (.iadd, 1) := by decide +kernel
theorem dX2_oddsBody_19 : decode cX2_oddsBody 19 = .ok (.ireturn, 1) := by decide +kernel
theorem dX2_tellsBody_0 : decode cX2_tellsBody 0 = .ok (.aload_n 2, 1) := by decide +kernel
theorem dX2_tellsBody_1 : decode cX2_tellsBody 1 = .ok (.bipush 50, 2) := by decide +kernel
theorem dX2_tellsBody_3 : decode cX2_tellsBody 3 = .ok (.invokevirtual 33, 3) := by decide +kernel
theorem dX2_tellsBody_6 : decode cX2_tellsBody 6 = .ok (.aload_n 0, 1) := by decide +kernel
theorem dX2_tellsBody_7 : decode cX2_tellsBody 7 = .ok (.iload_n 1, 1) := by decide +kernel
theorem dX2_tellsBody_8 : decode cX2_tellsBody 8 = .ok (.aload_n 0, 1) := by decide +kernel
theorem dX2_tellsBody_9 : decode cX2_tellsBody 9 = .ok (.getfield 17, 3) := by decide +kernel
theorem dX2_tellsBody_12 : decode cX2_tellsBody 12 = .ok (.getfield 46, 3) := by decide +kernel
theorem dX2_tellsBody_15 : decode cX2_tellsBody 15 = .ok (.isub, 1) := by decide +kernel
theorem dX2_tellsBody_16 : decode cX2_tellsBody 16 = .ok (.aload_n 2, 1) := by decide +kernel
theorem dX2_tellsBody_17 : decode cX2_tellsBody 17 = .ok (.invokespecial 49, 3) := by decide +kernel
theorem dX2_tellsBody_20 : decode cX2_tellsBody 20 = .ok (.ireturn, 1) := by decide +kernel
theorem dX3_init_0 : decode cX3_init 0 = .ok (.aload_n 0, 1) := by decide +kernel
theorem dX3_init_1 : decode cX3_init 1 = .ok (.iload_n 1, 1) := by decide +kernel
theorem dX3_init_2 : decode cX3_init 2 = .ok (.iload_n 2, 1) := by decide +kernel
theorem dX3_init_3 : decode cX3_init 3 = .ok (.aload_n 3, 1) := by decide +kernel
theorem dX3_init_4 : decode cX3_init 4 = .ok (.invokespecial 3, 3) := by decide +kernel
theorem dX3_init_7 : decode cX3_init 7 = .ok (.return_, 1) := by decide +kernel
theorem dX3_share_0 : decode cX3_share 0 = .ok (.aload_n 0, 1) := by decide +kernel
theorem dX3_share_1 : decode cX3_share 1 = .ok (.getfield 9, 3) := by decide +kernel
theorem dX3_share_4 : decode cX3_share 4 = .ok (.getfield 15, 3) := by decide +kernel
theorem dX3_share_7 : decode cX3_share 7 = .ok (.iconst 0, 1) := by decide +kernel
theorem dX3_share_8 : decode cX3_share 8 = .ok (.iaload, 1) := by decide +kernel
theorem dX3_share_9 : decode cX3_share 9 = .ok (.aload_n 0, 1) := by decide +kernel
theorem dX3_share_10 : decode cX3_share 10 = .ok (.getfield 9, 3) := by decide +kernel
theorem dX3_share_13 : decode cX3_share 13 = .ok (.getfield 15, 3) := by decide +kernel
theorem dX3_share_16 : decode cX3_share 16 = .ok (.iconst 1, 1) := by decide +kernel
theorem dX3_share_17 : decode cX3_share 17 = .ok (.iaload, 1) := by decide +kernel
theorem dX3_share_18 : decode cX3_share 18 = .ok (.iadd, 1) := by decide +kernel
theorem dX3_share_19 : decode cX3_share 19 = .ok (.aload_n 0, 1) := by decide +kernel
theorem dX3_share_20 : decode cX3_share 20 = .ok (.getfield 9, 3) := by decide +kernel
theorem dX3_share_23 : decode cX3_share 23 = .ok (.getfield 15, 3) := by decide +kernel
theorem dX3_share_26 : decode cX3_share 26 = .ok (.iconst 2, 1) := by decide +kernel
theorem dX3_share_27 : decode cX3_share 27 = .ok (.iaload, 1) := by decide +kernel
theorem dX3_share_28 : decode cX3_share 28 = .ok (.iadd, 1) := by decide +kernel
theorem dX3_share_29 : decode cX3_share 29 = .ok (.i2l, 1) := by decide +kernel
theorem dX3_share_30 : decode cX3_share 30 = .ok (.lstore 4, 2) := by decide +kernel
theorem dX3_share_32 : decode cX3_share 32 = .ok (.lload 4, 2) := by decide +kernel
theorem dX3_share_34 : decode cX3_share 34 = .ok (.lconst 0, 1) := by decide +kernel
theorem dX3_share_35 : decode cX3_share 35 = .ok (.lcmp, 1) := by decide +kernel
theorem dX3_share_36 : decode cX3_share 36 = .ok (.ifCond .ne 11, 3) := by decide +kernel
theorem dX3_share_39 : decode cX3_share 39 = .ok (.aload_n 0, 1) := by decide +kernel
theorem dX3_share_40 : decode cX3_share 40 = .ok (.aload_n 1, 1) := by decide +kernel
theorem dX3_share_41 : decode cX3_share 41 = .ok (.iload_n 2, 1) := by decide +kernel
theorem dX3_share_42 : decode cX3_share 42 = .ok (.iload_n 3, 1) := by decide +kernel
theorem dX3_share_43 : decode cX3_share 43 = .ok (.invokespecial 21, 3) := by decide +kernel
theorem dX3_share_46 : decode cX3_share 46 = .ok (.return_, 1) := by decide +kernel
theorem dX3_share_47 : decode cX3_share 47 = .ok (.aload_n 0, 1) := by decide +kernel
theorem dX3_share_48 : decode cX3_share 48 = .ok (.invokevirtual 25, 3) := by decide +kernel
theorem dX3_share_51 : decode cX3_share 51 = .ok (.aload_n 0, 1) := by decide +kernel
theorem dX3_share_52 : decode cX3_share 52 = .ok (.aload_n 1, 1) := by decide +kernel
theorem dX3_share_53 : decode cX3_share 53 = .ok (.iload_n 2, 1) := by decide +kernel
theorem dX3_share_54 : decode cX3_share 54 = .ok (.iconst 0, 1) := by decide +kernel
theorem dX3_share_55 : decode cX3_share 55 = .ok (.invokevirtual 29, 3) := by decide +kernel
theorem dX3_share_58 : decode cX3_share 58 = .ok (.aload_n 0, 1) := by decide +kernel
theorem dX3_share_59 : decode cX3_share 59 = .ok (.bipush 7, 2) := by decide +kernel
theorem dX3_share_61 : decode cX3_share 61 = .ok (.iconst 0, 1) := by decide +kernel
theorem dX3_share_62 : decode cX3_share 62 = .ok (.invokevirtual 33, 3) := by decide +kernel
theorem dX3_share_65 : decode cX3_share 65 = .ok (.iadd, 1) := by decide +kernel
theorem dX3_share_66 : decode cX3_share 66 = .ok (.i2l, 1) := by decide +kernel
theorem dX3_share_67 : decode cX3_share 67 = .ok (.lstore 6, 2) := by decide +kernel
theorem dX3_share_69 : decode cX3_share 69 = .ok (.aload_n 0, 1) := by decide +kernel
theorem dX3_share_70 : decode cX3_share 70 = .ok (.aload_n 1, 1) := by decide +kernel
theorem dX3_share_71 : decode cX3_share 71 = .ok (.iload_n 2, 1) := by decide +kernel
theorem dX3_share_72 : decode cX3_share 72 = .ok (.iconst 1, 1) := by decide +kernel
theorem dX3_share_73 : decode cX3_share 73 = .ok (.invokevirtual 29, 3) := by decide +kernel
theorem dX3_share_76 : decode cX3_share 76 = .ok (.aload_n 0, 1) := by decide +kernel
theorem dX3_share_77 : decode cX3_share 77 = .ok (.bipush 7, 2) := by decide +kernel
theorem dX3_share_79 : decode cX3_share 79 = .ok (.iconst 1, 1) := by decide +kernel
theorem dX3_share_80 : decode cX3_share 80 = .ok (.invokevirtual 33, 3) := by decide +kernel
theorem dX3_share_83 : decode cX3_share 83 = .ok (.iadd, 1) := by decide +kernel
theorem dX3_share_84 : decode cX3_share 84 = .ok (.i2l, 1) := by decide +kernel
theorem dX3_share_85 : decode cX3_share 85 = .ok (.lstore 8, 2) := by decide +kernel
theorem dX3_share_87 : decode cX3_share 87 = .ok (.aload_n 0, 1) := by decide +kernel
theorem dX3_share_88 : decode cX3_share 88 = .ok (.aload_n 1, 1) := by decide +kernel
theorem dX3_share_89 : decode cX3_share 89 = .ok (.iload_n 2, 1) := by decide +kernel
theorem dX3_share_90 : decode cX3_share 90 = .ok (.iconst 2, 1) := by decide +kernel
theorem dX3_share_91 : decode cX3_share 91 = .ok (.invokevirtual 29, 3) := by decide +kernel
theorem dX3_share_94 : decode cX3_share 94 = .ok (.aload_n 0, 1) := by decide +kernel
theorem dX3_share_95 : decode cX3_share 95 = .ok (.bipush 7, 2) := by decide +kernel
theorem dX3_share_97 : decode cX3_share 97 = .ok (.iconst 2, 1) := by decide +kernel
theorem dX3_share_98 : decode cX3_share 98 = .ok (.invokevirtual 33, 3) := by decide +kernel
theorem dX3_share_101 : decode cX3_share 101 = .ok (.iadd, 1) := by decide +kernel
theorem dX3_share_102 : decode cX3_share 102 = .ok (.i2l, 1) := by decide +kernel
theorem dX3_share_103 : decode cX3_share 103 = .ok (.lstore 10, 2) := by decide +kernel
theorem dX3_share_105 : decode cX3_share 105 = .ok (.aload_n 0, 1) := by decide +kernel
theorem dX3_share_106 : decode cX3_share 106 = .ok (.getfield 9, 3) := by decide +kernel
theorem dX3_share_109 : decode cX3_share 109 = .ok (.getfield 15, 3) := by decide +kernel
theorem dX3_share_112 : decode cX3_share 112 = .ok (.iconst 0, 1) := by decide +kernel
theorem dX3_share_113 : decode cX3_share 113 = .ok (.iaload, 1) := by decide +kernel
theorem dX3_share_114 : decode cX3_share 114 = .ok (.i2l, 1) := by decide +kernel
theorem dX3_share_115 : decode cX3_share 115 = .ok (.lload 8, 2) := by decide +kernel
theorem dX3_share_117 : decode cX3_share 117 = .ok (.lmul, 1) := by decide +kernel
theorem dX3_share_118 : decode cX3_share 118 = .ok (.lload 10, 2) := by decide +kernel
theorem dX3_share_120 : decode cX3_share 120 = .ok (.lmul, 1) := by decide +kernel
theorem dX3_share_121 : decode cX3_share 121 = .ok (.lstore 12, 2) := by decide +kernel
theorem dX3_share_123 : decode cX3_share 123 = .ok (.aload_n 0, 1) := by decide +kernel
theorem dX3_share_124 : decode cX3_share 124 = .ok (.getfield 9, 3) := by decide +kernel
theorem dX3_share_127 : decode cX3_share 127 = .ok (.getfield 15, 3) := by decide +kernel
theorem dX3_share_130 : decode cX3_share 130 = .ok (.iconst 1, 1) := by decide +kernel
theorem dX3_share_131 : decode cX3_share 131 = .ok (.iaload, 1) := by decide +kernel
theorem dX3_share_132 : decode cX3_share 132 = .ok (.i2l, 1) := by decide +kernel
theorem dX3_share_133 : decode cX3_share 133 = .ok (.lload 6, 2) := by decide +kernel
theorem dX3_share_135 : decode cX3_share 135 = .ok (.lmul, 1) := by decide +kernel
theorem dX3_share_136 : decode cX3_share 136 = .ok (.lload 10, 2) := by decide +kernel
theorem dX3_share_138 : decode cX3_share 138 = .ok (.lmul, 1) := by decide +kernel
theorem dX3_share_139 : decode cX3_share 139 = .ok (.lstore 14, 2) := by decide +kernel
theorem dX3_share_141 : decode cX3_share 141 = .ok (.aload_n 0, 1) := by decide +kernel
theorem dX3_share_142 : decode cX3_share 142 = .ok (.getfield 9, 3) := by decide +kernel
theorem dX3_share_145 : decode cX3_share 145 = .ok (.getfield 15, 3) := by decide +kernel
theorem dX3_share_148 : decode cX3_share 148 = .ok (.iconst 2, 1) := by decide +kernel
theorem dX3_share_149 : decode cX3_share 149 = .ok (.iaload, 1) := by decide +kernel
theorem dX3_share_150 : decode cX3_share 150 = .ok (.i2l, 1) := by decide +kernel
theorem dX3_share_151 : decode cX3_share 151 = .ok (.lload 6, 2) := by decide +kernel
theorem dX3_share_153 : decode cX3_share 153 = .ok (.lmul, 1) := by decide +kernel
theorem dX3_share_154 : decode cX3_share 154 = .ok (.lload 8, 2) := by decide +kernel
theorem dX3_share_156 : decode cX3_share 156 = .ok (.lmul, 1) := by decide +kernel
theorem dX3_share_157 : decode cX3_share 157 = .ok (.lstore 16, 2) := by decide +kernel
theorem dX3_share_159 : decode cX3_share 159 = .ok (.iconst 0, 1) := by decide +kernel
theorem dX3_share_160 : decode cX3_share 160 = .ok (.istore 18, 2) := by decide +kernel
theorem dX3_share_162 : decode cX3_share 162 = .ok (.iload 18, 2) := by decide +kernel
theorem dX3_share_164 : decode cX3_share 164 = .ok (.bipush 8, 2) := by decide +kernel
theorem dX3_share_166 : decode cX3_share 166 = .ok (.if_icmp .ge 85, 3) := by decide +kernel
theorem dX3_share_169 : decode cX3_share 169 = .ok (.iload 18, 2) := by decide +kernel
theorem dX3_share_171 : decode cX3_share 171 = .ok (.bipush 7, 2) := by decide +kernel
theorem dX3_share_173 : decode cX3_share 173 = .ok (.if_icmp .eq 12, 3) := by decide +kernel
theorem dX3_share_176 : decode cX3_share 176 = .ok (.iload 18, 2) := by decide +kernel
theorem dX3_share_178 : decode cX3_share 178 = .ok (.iload_n 2, 1) := by decide +kernel
theorem dX3_share_179 : decode cX3_share 179 = .ok (.invokestatic 37, 3) := by decide +kernel
theorem dX3_share_182 : decode cX3_share 182 = .ok (.ifCond .eq 63, 3) := by decide +kernel
theorem dX3_share_185 : decode cX3_share 185 = .ok (.aload_n 0, 1) := by decide +kernel
theorem dX3_share_186 : decode cX3_share 186 = .ok (.getfield 41, 3) := by decide +kernel
theorem dX3_share_189 : decode cX3_share 189 = .ok (.iload 18, 2) := by decide +kernel
theorem dX3_share_191 : decode cX3_share 191 = .ok (.lload 12, 2) := by decide +kernel
theorem dX3_share_193 : decode cX3_share 193 = .ok (.aload_n 0, 1) := by decide +kernel
theorem dX3_share_194 : decode cX3_share 194 = .ok (.iload 18, 2) := by decide +kernel
theorem dX3_share_196 : decode cX3_share 196 = .ok (.iconst 0, 1) := by decide +kernel
theorem dX3_share_197 : decode cX3_share 197 = .ok (.invokevirtual 33, 3) := by decide +kernel
theorem dX3_share_200 : decode cX3_share 200 = .ok (.i2l, 1) := by decide +kernel
theorem dX3_share_201 : decode cX3_share 201 = .ok (.lmul, 1) := by decide +kernel
theorem dX3_share_202 : decode cX3_share 202 = .ok (.lload 14, 2) := by decide +kernel
theorem dX3_share_204 : decode cX3_share 204 = .ok (.aload_n 0, 1) := by decide +kernel
theorem dX3_share_205 : decode cX3_share 205 = .ok (.iload 18, 2) := by decide +kernel
theorem dX3_share_207 : decode cX3_share 207 = .ok (.iconst 1, 1) := by decide +kernel
theorem dX3_share_208 : decode cX3_share 208 = .ok (.invokevirtual 33, 3) := by decide +kernel
theorem dX3_share_211 : decode cX3_share 211 = .ok (.i2l, 1) := by decide +kernel
theorem dX3_share_212 : decode cX3_share 212 = .ok (.lmul, 1) := by decide +kernel
theorem dX3_share_213 : decode cX3_share 213 = .ok (.ladd, 1) := by decide +kernel
theorem dX3_share_214 : decode cX3_share 214 = .ok (.lload 16, 2) := by decide +kernel
theorem dX3_share_216 : decode cX3_share 216 = .ok (.aload_n 0, 1) := by decide +kernel
theorem dX3_share_217 : decode cX3_share 217 = .ok (.iload 18, 2) := by decide +kernel
theorem dX3_share_219 : decode cX3_share 219 = .ok (.iconst 2, 1) := by decide +kernel
theorem dX3_share_220 : decode cX3_share 220 = .ok (.invokevirtual 33, 3) := by decide +kernel
theorem dX3_share_223 : decode cX3_share 223 = .ok (.i2l, 1) := by decide +kernel
theorem dX3_share_224 : decode cX3_share 224 = .ok (.lmul, 1) := by decide +kernel
theorem dX3_share_225 : decode cX3_share 225 = .ok (.ladd, 1) := by decide +kernel
theorem dX3_share_226 : decode cX3_share 226 = .ok (.lastore, 1) := by decide +kernel
theorem dX3_share_227 : decode cX3_share 227 = .ok (.aload_n 0, 1) := by decide +kernel
theorem dX3_share_228 : decode cX3_share 228 = .ok (.getfield 45, 3) := by decide +kernel
theorem dX3_share_231 : decode cX3_share 231 = .ok (.iload 18, 2) := by decide +kernel
theorem dX3_share_233 : decode cX3_share 233 = .ok (.lload 4, 2) := by decide +kernel
theorem dX3_share_235 : decode cX3_share 235 = .ok (.lload 6, 2) := by decide +kernel
theorem dX3_share_237 : decode cX3_share 237 = .ok (.lmul, 1) := by decide +kernel
theorem dX3_share_238 : decode cX3_share 238 = .ok (.lload 8, 2) := by decide +kernel
theorem dX3_share_240 : decode cX3_share 240 = .ok (.lmul, 1) := by decide +kernel
theorem dX3_share_241 : decode cX3_share 241 = .ok (.lload 10, 2) := by decide +kernel
theorem dX3_share_243 : decode cX3_share 243 = .ok (.lmul, 1) := by decide +kernel
theorem dX3_share_244 : decode cX3_share 244 = .ok (.lastore, 1) := by decide +kernel
theorem dX3_share_245 : decode cX3_share 245 = .ok (.iinc 18 1, 3) := by decide +kernel
theorem dX3_share_248 : decode cX3_share 248 = .ok (.goto (-86), 3) := by decide +kernel
theorem dX3_share_251 : decode cX3_share 251 = .ok (.return_, 1) := by decide +kernel
theorem dX3_oddsBody_0 : decode cX3_oddsBody 0 = .ok (.aload_n 2, 1) := by decide +kernel
theorem dX3_oddsBody_1 : decode cX3_oddsBody 1 = .ok (.bipush 40, 2) := by decide +kernel
theorem dX3_oddsBody_3 : decode cX3_oddsBody 3 = .ok (.invokevirtual 48, 3) := by decide +kernel
theorem dX3_oddsBody_6 : decode cX3_oddsBody 6 = .ok (.aload_n 0, 1) := by decide +kernel
theorem dX3_oddsBody_7 : decode cX3_oddsBody 7 = .ok (.iload_n 1, 1) := by decide +kernel
theorem dX3_oddsBody_8 : decode cX3_oddsBody 8 = .ok (.aload_n 2, 1) := by decide +kernel
theorem dX3_oddsBody_9 : decode cX3_oddsBody 9 = .ok (.invokespecial 54, 3) := by decide +kernel
theorem dX3_oddsBody_12 : decode cX3_oddsBody 12 = .ok (.ineg, 1) := by decide +kernel
theorem dX3_oddsBody_13 : decode cX3_oddsBody 13 = .ok (.ireturn, 1) := by decide +kernel
theorem dX4_init_0 : decode cX4_init 0 = .ok (.aload_n 0, 1) := by decide +kernel
theorem dX4_init_1 : decode cX4_init 1 = .ok (.invokespecial 3, 3) := by decide +kernel
theorem dX4_init_4 : decode cX4_init 4 = .ok (.aload_n 0, 1) := by decide +kernel
theorem dX4_init_5 : decode cX4_init 5 = .ok (.bipush 24, 2) := by decide +kernel
theorem dX4_init_7 : decode cX4_init 7 = .ok (.newarray .int, 2) := by decide +kernel
theorem dX4_init_9 : decode cX4_init 9 = .ok (.putfield 9, 3) := by decide +kernel
theorem dX4_init_12 : decode cX4_init 12 = .ok (.aload_n 0, 1) := by decide +kernel
theorem dX4_init_13 : decode cX4_init 13 = .ok (.bipush 8, 2) := by decide +kernel
theorem dX4_init_15 : decode cX4_init 15 = .ok (.newarray .long, 2) := by decide +kernel
theorem dX4_init_17 : decode cX4_init 17 = .ok (.putfield 15, 3) := by decide +kernel
theorem dX4_init_20 : decode cX4_init 20 = .ok (.aload_n 0, 1) := by decide +kernel
theorem dX4_init_21 : decode cX4_init 21 = .ok (.bipush 8, 2) := by decide +kernel
theorem dX4_init_23 : decode cX4_init 23 = .ok (.newarray .long, 2) := by decide +kernel
theorem dX4_init_25 : decode cX4_init 25 = .ok (.putfield 19, 3) := by decide +kernel
theorem dX4_init_28 : decode cX4_init 28 = .ok (.aload_n 0, 1) := by decide +kernel
theorem dX4_init_29 : decode cX4_init 29 = .ok (.iload_n 1, 1) := by decide +kernel
theorem dX4_init_30 : decode cX4_init 30 = .ok (.putfield 22, 3) := by decide +kernel
theorem dX4_init_33 : decode cX4_init 33 = .ok (.aload_n 0, 1) := by decide +kernel
theorem dX4_init_34 : decode cX4_init 34 = .ok (.iload_n 2, 1) := by decide +kernel
theorem dX4_init_35 : decode cX4_init 35 = .ok (.putfield 26, 3) := by decide +kernel
theorem dX4_init_38 : decode cX4_init 38 = .ok (.aload_n 0, 1) := by decide +kernel
theorem dX4_init_39 : decode cX4_init 39 = .ok (.aload_n 3, 1) := by decide +kernel
theorem dX4_init_40 : decode cX4_init 40 = .ok (.putfield 29, 3) := by decide +kernel
theorem dX4_init_43 : decode cX4_init 43 = .ok (.return_, 1) := by decide +kernel
theorem dX4_weightOf_0 : decode cX4_weightOf 0 = .ok (.iload_n 2, 1) := by decide +kernel
theorem dX4_weightOf_1 : decode cX4_weightOf 1 = .ok (.bipush 7, 2) := by decide +kernel
theorem dX4_weightOf_3 : decode cX4_weightOf 3 = .ok (.if_icmp .ne 16, 3) := by decide +kernel
theorem dX4_weightOf_6 : decode cX4_weightOf 6 = .ok (.aload_n 0, 1) := by decide +kernel
theorem dX4_weightOf_7 : decode cX4_weightOf 7 = .ok (.getfield 29, 3) := by decide +kernel
theorem dX4_weightOf_10 : decode cX4_weightOf 10 = .ok (.getfield 33, 3) := by decide +kernel
theorem dX4_weightOf_13 : decode cX4_weightOf 13 = .ok (.bipush 50, 2) := by decide +kernel
theorem dX4_weightOf_15 : decode cX4_weightOf 15 = .ok (.invokestatic 38, 3) := by decide +kernel
theorem dX4_weightOf_18 : decode cX4_weightOf 18 = .ok (.ireturn, 1) := by decide +kernel
theorem dX4_weightOf_19 : decode cX4_weightOf 19 = .ok (.aload_n 0, 1) := by decide +kernel
theorem dX4_weightOf_20 : decode cX4_weightOf 20 = .ok (.getfield 29, 3) := by decide +kernel
theorem dX4_weightOf_23 : decode cX4_weightOf 23 = .ok (.getfield 44, 3) := by decide +kernel
theorem dX4_weightOf_26 : decode cX4_weightOf 26 = .ok (.iload_n 2, 1) := by decide +kernel
theorem dX4_weightOf_27 : decode cX4_weightOf 27 = .ok (.iaload, 1) := by decide +kernel
theorem dX4_weightOf_28 : decode cX4_weightOf 28 = .ok (.istore 4, 2) := by decide +kernel
theorem dX4_weightOf_30 : decode cX4_weightOf 30 = .ok (.iconst 0, 1) := by decide +kernel
theorem dX4_weightOf_31 : decode cX4_weightOf 31 = .ok (.istore 5, 2) := by decide +kernel
theorem dX4_weightOf_33 : decode cX4_weightOf 33 = .ok (.iload 5, 2) := by decide +kernel
theorem dX4_weightOf_35 : decode cX4_weightOf 35 = .ok (.bipush 8, 2) := by decide +kernel
theorem dX4_weightOf_37 : decode cX4_weightOf 37 = .ok (.if_icmp .ge 38, 3) := by decide +kernel
theorem dX4_weightOf_40 : decode cX4_weightOf 40 = .ok (.iload 5, 2) := by decide +kernel
theorem dX4_weightOf_42 : decode cX4_weightOf 42 = .ok (.aload_n 1, 1) := by decide +kernel
theorem dX4_weightOf_43 : decode cX4_weightOf 43 = .ok (.getfield 47, 3) := by decide +kernel
theorem dX4_weightOf_46 : decode cX4_weightOf 46 = .ok (.iload_n 2, 1) := by decide +kernel
theorem dX4_weightOf_47 : decode cX4_weightOf 47 = .ok (.iaload, 1) := by decide +kernel
theorem dX4_weightOf_48 : decode cX4_weightOf 48 = .ok (.invokestatic 52, 3) := by decide +kernel
theorem dX4_weightOf_51 : decode cX4_weightOf 51 = .ok (.ifCond .eq 18, 3) := by decide +kernel
theorem dX4_weightOf_54 : decode cX4_weightOf 54 = .ok (.iload 4, 2) := by decide +kernel
theorem dX4_weightOf_56 : decode cX4_weightOf 56 = .ok (.aload_n 0, 1) := by decide +kernel
theorem dX4_weightOf_57 : decode cX4_weightOf 57 = .ok (.getfield 29, 3) := by decide +kernel
theorem dX4_weightOf_60 : decode cX4_weightOf 60 = .ok (.getfield 56, 3) := by decide +kernel
theorem dX4_weightOf_63 : decode cX4_weightOf 63 = .ok (.iload 5, 2) := by decide +kernel
theorem dX4_weightOf_65 : decode cX4_weightOf 65 = .ok (.iaload, 1) := by decide +kernel
theorem dX4_weightOf_66 : decode cX4_weightOf 66 = .ok (.iadd, 1) := by decide +kernel
theorem dX4_weightOf_67 : decode cX4_weightOf 67 = .ok (.istore 4, 2) := by decide +kernel
theorem dX4_weightOf_69 : decode cX4_weightOf 69 = .ok (.iinc 5 1, 3) := by decide +kernel
theorem dX4_weightOf_72 : decode cX4_weightOf 72 = .ok (.goto (-39), 3) := by decide +kernel
theorem dX4_weightOf_75 : decode cX4_weightOf 75 = .ok (.iconst 1, 1) := by decide +kernel
theorem dX4_weightOf_76 : decode cX4_weightOf 76 = .ok (.iload 4, 2) := by decide +kernel
theorem dX4_weightOf_78 : decode cX4_weightOf 78 = .ok (.aload_n 0, 1) := by decide +kernel
theorem dX4_weightOf_79 : decode cX4_weightOf 79 = .ok (.getfield 29, 3) := by decide +kernel
theorem dX4_weightOf_82 : decode cX4_weightOf 82 = .ok (.getfield 59, 3) := by decide +kernel
theorem dX4_weightOf_85 : decode cX4_weightOf 85 = .ok (.aload_n 1, 1) := by decide +kernel
theorem dX4_weightOf_86 : decode cX4_weightOf 86 = .ok (.getfield 62, 3) := by decide +kernel
theorem dX4_weightOf_89 : decode cX4_weightOf 89 = .ok (.iload_n 2, 1) := by decide +kernel
theorem dX4_weightOf_90 : decode cX4_weightOf 90 = .ok (.iaload, 1) := by decide +kernel
theorem dX4_weightOf_91 : decode cX4_weightOf 91 = .ok (.imul, 1) := by decide +kernel
theorem dX4_weightOf_92 : decode cX4_weightOf 92 = .ok (.bipush 10, 2) := by decide +kernel
theorem dX4_weightOf_94 : decode cX4_weightOf 94 = .ok (.idiv, 1) := by decide +kernel
theorem dX4_weightOf_95 : decode cX4_weightOf 95 = .ok (.isub, 1) := by decide +kernel
theorem dX4_weightOf_96 : decode cX4_weightOf 96 = .ok (.invokestatic 65, 3) := by decide +kernel
theorem dX4_weightOf_99 : decode cX4_weightOf 99 = .ok (.istore 4, 2) := by decide +kernel
theorem dX4_weightOf_101 : decode cX4_weightOf 101 = .ok (.iload_n 2, 1) := by decide +kernel
theorem dX4_weightOf_102 : decode cX4_weightOf 102 = .ok (.iconst 3, 1) := by decide +kernel
theorem dX4_weightOf_103 : decode cX4_weightOf 103 = .ok (.irem, 1) := by decide +kernel
theorem dX4_weightOf_104 : decode cX4_weightOf 104 = .ok (.iload_n 3, 1) := by decide +kernel
theorem dX4_weightOf_105 : decode cX4_weightOf 105 = .ok (.if_icmp .ne 21, 3) := by decide +kernel
theorem dX4_weightOf_108 : decode cX4_weightOf 108 = .ok (.iload 4, 2) := by decide +kernel
theorem dX4_weightOf_110 : decode cX4_weightOf 110 = .ok (.iconst 1, 1) := by decide +kernel
theorem dX4_weightOf_111 : decode cX4_weightOf 111 = .ok (.aload_n 0, 1) := by decide +kernel
theorem dX4_weightOf_112 : decode cX4_weightOf 112 = .ok (.getfield 29, 3) := by decide +kernel
theorem dX4_weightOf_115 : decode cX4_weightOf 115 = .ok (.getfield 68, 3) := by decide +kernel
theorem dX4_weightOf_118 : decode cX4_weightOf 118 = .ok (.iload_n 3, 1) := by decide +kernel
theorem dX4_weightOf_119 : decode cX4_weightOf 119 = .ok (.iaload, 1) := by decide +kernel
theorem dX4_weightOf_120 : decode cX4_weightOf 120 = .ok (.invokestatic 65, 3) := by decide +kernel
theorem dX4_weightOf_123 : decode cX4_weightOf 123 = .ok (.imul, 1) := by decide +kernel
theorem dX4_weightOf_124 : decode cX4_weightOf 124 = .ok (.istore 4, 2) := by decide +kernel
theorem dX4_weightOf_126 : decode cX4_weightOf 126 = .ok (.iload 4, 2) := by decide +kernel
theorem dX4_weightOf_128 : decode cX4_weightOf 128 = .ok (.bipush 50, 2) := by decide +kernel
theorem dX4_weightOf_130 : decode cX4_weightOf 130 = .ok (.invokestatic 38, 3) := by decide +kernel
theorem dX4_weightOf_133 : decode cX4_weightOf 133 = .ok (.ireturn, 1) := by decide +kernel
theorem dX4_prepare_0 : decode cX4_prepare 0 = .ok (.iconst 0, 1) := by decide +kernel
theorem dX4_prepare_1 : decode cX4_prepare 1 = .ok (.istore_n 2, 1) := by decide +kernel
theorem dX4_prepare_2 : decode cX4_prepare 2 = .ok (.iload_n 2, 1) := by decide +kernel
theorem dX4_prepare_3 : decode cX4_prepare 3 = .ok (.iconst 3, 1) := by decide +kernel
theorem dX4_prepare_4 : decode cX4_prepare 4 = .ok (.if_icmp .ge 63, 3) := by decide +kernel
theorem dX4_prepare_7 : decode cX4_prepare 7 = .ok (.iconst 0, 1) := by decide +kernel
theorem dX4_prepare_8 : decode cX4_prepare 8 = .ok (.istore_n 3, 1) := by decide +kernel
theorem dX4_prepare_9 : decode cX4_prepare 9 = .ok (.iload_n 3, 1) := by decide +kernel
theorem dX4_prepare_10 : decode cX4_prepare 10 = .ok (.aload_n 1, 1) := by decide +kernel
theorem dX4_prepare_11 : decode cX4_prepare 11 = .ok (.getfield 71, 3) := by decide +kernel
theorem dX4_prepare_14 : decode cX4_prepare 14 = .ok (.if_icmp .ge 27, 3) := by decide +kernel
theorem dX4_prepare_17 : decode cX4_prepare 17 = .ok (.aload_n 0, 1) := by decide +kernel
theorem dX4_prepare_18 : decode cX4_prepare 18 = .ok (.getfield 9, 3) := by decide +kernel
theorem dX4_prepare_21 : decode cX4_prepare 21 = .ok (.iload_n 2, 1) := by decide +kernel
theorem dX4_prepare_22 : decode cX4_prepare 22 = .ok (.bipush 8, 2) := by decide +kernel
theorem dX4_prepare_24 : decode cX4_prepare 24 = .ok (.imul, 1) := by decide +kernel
theorem dX4_prepare_25 : decode cX4_prepare 25 = .ok (.iload_n 3, 1) := by decide +kernel
theorem dX4_prepare_26 : decode cX4_prepare 26 = .ok (.iadd, 1) := by decide +kernel
theorem dX4_prepare_27 : decode cX4_prepare 27 = .ok (.aload_n 0, 1) := by decide +kernel
theorem dX4_prepare_28 : decode cX4_prepare 28 = .ok (.aload_n 1, 1) := by decide +kernel
theorem dX4_prepare_29 : decode cX4_prepare 29 = .ok (.iload_n 3, 1) := by decide +kernel
theorem dX4_prepare_30 : decode cX4_prepare 30 = .ok (.iload_n 2, 1) := by decide +kernel
theorem dX4_prepare_31 : decode cX4_prepare 31 = .ok (.invokevirtual 74, 3) := by decide +kernel
theorem dX4_prepare_34 : decode cX4_prepare 34 = .ok (.iastore, 1) := by decide +kernel
theorem dX4_prepare_35 : decode cX4_prepare 35 = .ok (.iinc 3 1, 3) := by decide +kernel
theorem dX4_prepare_38 : decode cX4_prepare 38 = .ok (.goto (-29), 3) := by decide +kernel
theorem dX4_prepare_41 : decode cX4_prepare 41 = .ok (.aload_n 0, 1) := by decide +kernel
theorem dX4_prepare_42 : decode cX4_prepare 42 = .ok (.getfield 9, 3) := by decide +kernel
theorem dX4_prepare_45 : decode cX4_prepare 45 = .ok (.iload_n 2, 1) := by decide +kernel
theorem dX4_prepare_46 : decode cX4_prepare 46 = .ok (.bipush 8, 2) := by decide +kernel
theorem dX4_prepare_48 : decode cX4_prepare 48 = .ok (.imul, 1) := by decide +kernel
theorem dX4_prepare_49 : decode cX4_prepare 49 = .ok (.bipush 7, 2) := by decide +kernel
theorem dX4_prepare_51 : decode cX4_prepare 51 = .ok (.iadd, 1) := by decide +kernel
theorem dX4_prepare_52 : decode cX4_prepare 52 = .ok (.aload_n 0, 1) := by decide +kernel
theorem dX4_prepare_53 : decode cX4_prepare 53 = .ok (.aload_n 1, 1) := by decide +kernel
theorem dX4_prepare_54 : decode cX4_prepare 54 = .ok (.bipush 7, 2) := by decide +kernel
theorem dX4_prepare_56 : decode cX4_prepare 56 = .ok (.iload_n 2, 1) := by decide +kernel
theorem dX4_prepare_57 : decode cX4_prepare 57 = .ok (.invokevirtual 74, 3) := by decide +kernel
theorem dX4_prepare_60 : decode cX4_prepare 60 = .ok (.iastore, 1) := by decide +kernel
theorem dX4_prepare_61 : decode cX4_prepare 61 = .ok (.iinc 2 1, 3) := by decide +kernel
theorem dX4_prepare_64 : decode cX4_prepare 64 = .ok (.goto (-62), 3) := by decide +kernel
theorem dX4_prepare_67 : decode cX4_prepare 67 = .ok (.return_, 1) := by decide +kernel
theorem dX4_weighed_0 : decode cX4_weighed 0 = .ok (.aload_n 0, 1) := by decide +kernel
theorem dX4_weighed_1 : decode cX4_weighed 1 = .ok (.getfield 9, 3) := by decide +kernel
theorem dX4_weighed_4 : decode cX4_weighed 4 = .ok (.iload_n 2, 1) := by decide +kernel
theorem dX4_weighed_5 : decode cX4_weighed 5 = .ok (.bipush 8, 2) := by decide +kernel
theorem dX4_weighed_7 : decode cX4_weighed 7 = .ok (.imul, 1) := by decide +kernel
theorem dX4_weighed_8 : decode cX4_weighed 8 = .ok (.iload_n 1, 1) := by decide +kernel
theorem dX4_weighed_9 : decode cX4_weighed 9 = .ok (.iadd, 1) := by decide +kernel
theorem dX4_weighed_10 : decode cX4_weighed 10 = .ok (.iaload, 1) := by decide +kernel
theorem dX4_weighed_11 : decode cX4_weighed 11 = .ok (.ireturn, 1) := by decide +kernel
theorem dX4_sumWeights_0 : decode cX4_sumWeights 0 = .ok (.iconst 0, 1) := by decide +kernel
theorem dX4_sumWeights_1 : decode cX4_sumWeights 1 = .ok (.istore 4, 2) := by decide +kernel
theorem dX4_sumWeights_3 : decode cX4_sumWeights 3 = .ok (.iconst 0, 1) := by decide +kernel
theorem dX4_sumWeights_4 : decode cX4_sumWeights 4 = .ok (.istore 5, 2) := by decide +kernel
theorem dX4_sumWeights_6 : decode cX4_sumWeights 6 = .ok (.iload 5, 2) := by decide +kernel
theorem dX4_sumWeights_8 : decode cX4_sumWeights 8 = .ok (.aload_n 1, 1) := by decide +kernel
theorem dX4_sumWeights_9 : decode cX4_sumWeights 9 = .ok (.getfield 71, 3) := by decide +kernel
theorem dX4_sumWeights_12 : decode cX4_sumWeights 12 = .ok (.if_icmp .ge 30, 3) := by decide +kernel
theorem dX4_sumWeights_15 : decode cX4_sumWeights 15 = .ok (.iload 5, 2) := by decide +kernel
theorem dX4_sumWeights_17 : decode cX4_sumWeights 17 = .ok (.iload_n 2, 1) := by decide +kernel
theorem dX4_sumWeights_18 : decode cX4_sumWeights 18 = .ok (.invokestatic 52, 3) := by decide +kernel
theorem dX4_sumWeights_21 : decode cX4_sumWeights 21 = .ok (.ifCond .eq 15, 3) := by decide +kernel
theorem dX4_sumWeights_24 : decode cX4_sumWeights 24 = .ok (.iload 4, 2) := by decide +kernel
theorem dX4_sumWeights_26 : decode cX4_sumWeights 26 = .ok (.aload_n 0, 1) := by decide +kernel
theorem dX4_sumWeights_27 : decode cX4_sumWeights 27 = .ok (.iload 5, 2) := by decide +kernel
theorem dX4_sumWeights_29 : decode cX4_sumWeights 29 = .ok (.iload_n 3, 1) := by decide +kernel
theorem dX4_sumWeights_30 : decode cX4_sumWeights 30 = .ok (.invokevirtual 78, 3) := by decide +kernel
theorem dX4_sumWeights_33 : decode cX4_sumWeights 33 = .ok (.iadd, 1) := by decide +kernel
theorem dX4_sumWeights_34 : decode cX4_sumWeights 34 = .ok (.istore 4, 2) := by decide +kernel
theorem dX4_sumWeights_36 : decode cX4_sumWeights 36 = .ok (.iinc 5 1, 3) := by decide +kernel
theorem dX4_sumWeights_39 : decode cX4_sumWeights 39 = .ok (.goto (-33), 3) := by decide +kernel
theorem dX4_sumWeights_42 : decode cX4_sumWeights 42 = .ok (.iload 4, 2) := by decide +kernel
theorem dX4_sumWeights_44 : decode cX4_sumWeights 44 = .ok (.ireturn, 1) := by decide +kernel
theorem dX4_greatestWeight_0 : decode cX4_greatestWeight 0 = .ok (.iconst 0, 1) := by decide +kernel
theorem dX4_greatestWeight_1 : decode cX4_greatestWeight 1 = .ok (.istore 4, 2) := by decide +kernel
theorem dX4_greatestWeight_3 : decode cX4_greatestWeight 3 = .ok (.iconst 0, 1) := by decide +kernel
theorem dX4_greatestWeight_4 : decode cX4_greatestWeight 4 = .ok (.istore 5, 2) := by decide +kernel
theorem dX4_greatestWeight_6 : decode cX4_greatestWeight 6 = .ok (.iload 5, 2) := by decide +kernel
theorem dX4_greatestWeight_8 : decode cX4_greatestWeight 8 = .ok (.aload_n 1, 1) := by decide +kernel
theorem dX4_greatestWeight_9 : decode cX4_greatestWeight 9 = .ok (.getfield 71, 3) := by decide +kernel
theorem dX4_greatestWeight_12 : decode cX4_greatestWeight 12 = .ok (.if_icmp .ge 32, 3) := by decide +kernel
theorem dX4_greatestWeight_15 : decode cX4_greatestWeight 15 = .ok (.iload 5, 2) := by decide +kernel
theorem dX4_greatestWeight_17 : decode cX4_greatestWeight 17 = .ok (.iload_n 2, 1) := by decide +kernel
theorem dX4_greatestWeight_18 : decode cX4_greatestWeight 18 = .ok (.invokestatic 52, 3) := by decide +kernel
theorem dX4_greatestWeight_21 : decode cX4_greatestWeight 21 = .ok (.ifCond .eq 17, 3) := by decide +kernel
theorem dX4_greatestWeight_24 : decode cX4_greatestWeight 24 = .ok (.iload 4, 2) := by decide +kernel
theorem dX4_greatestWeight_26 : decode cX4_greatestWeight 26 = .ok (.aload_n 0, 1) := by decide +kernel
theorem dX4_greatestWeight_27 : decode cX4_greatestWeight 27 = .ok (.iload 5, 2) := by decide +kernel
theorem dX4_greatestWeight_29 : decode cX4_greatestWeight 29 = .ok (.iload_n 3, 1) := by decide +kernel
theorem dX4_greatestWeight_30 : decode cX4_greatestWeight 30 = .ok (.invokevirtual 78, 3) := by decide +kernel
theorem dX4_greatestWeight_33 : decode cX4_greatestWeight 33 = .ok (.invokestatic 65, 3) := by decide +kernel
theorem dX4_greatestWeight_36 : decode cX4_greatestWeight 36 = .ok (.istore 4, 2) := by decide +kernel
theorem dX4_greatestWeight_38 : decode cX4_greatestWeight 38 = .ok (.iinc 5 1, 3) := by decide +kernel
theorem dX4_greatestWeight_41 : decode cX4_greatestWeight 41 = .ok (.goto (-35), 3) := by decide +kernel
theorem dX4_greatestWeight_44 : decode cX4_greatestWeight 44 = .ok (.iload 4, 2) := by decide +kernel
theorem dX4_greatestWeight_46 : decode cX4_greatestWeight 46 = .ok (.ireturn, 1) := by decide +kernel
theorem dX4_clearShares_0 : decode cX4_clearShares 0 = .ok (.iconst 0, 1) := by decide +kernel
theorem dX4_clearShares_1 : decode cX4_clearShares 1 = .ok (.istore_n 1, 1) := by decide +kernel
theorem dX4_clearShares_2 : decode cX4_clearShares 2 = .ok (.iload_n 1, 1) := by decide +kernel
theorem dX4_clearShares_3 : decode cX4_clearShares 3 = .ok (.bipush 8, 2) := by decide +kernel
theorem dX4_clearShares_5 : decode cX4_clearShares 5 = .ok (.if_icmp .ge 23, 3) := by decide +kernel
theorem dX4_clearShares_8 : decode cX4_clearShares 8 = .ok (.aload_n 0, 1) := by decide +kernel
theorem dX4_clearShares_9 : decode cX4_clearShares 9 = .ok (.getfield 15, 3) := by decide +kernel
theorem dX4_clearShares_12 : decode cX4_clearShares 12 = .ok (.iload_n 1, 1) := by decide +kernel
theorem dX4_clearShares_13 : decode cX4_clearShares 13 = .ok (.lconst 0, 1) := by decide +kernel
theorem dX4_clearShares_14 : decode cX4_clearShares 14 = .ok (.lastore, 1) := by decide +kernel
theorem dX4_clearShares_15 : decode cX4_clearShares 15 = .ok (.aload_n 0, 1) := by decide +kernel
theorem dX4_clearShares_16 : decode cX4_clearShares 16 = .ok (.getfield 19, 3) := by decide +kernel
theorem dX4_clearShares_19 : decode cX4_clearShares 19 = .ok (.iload_n 1, 1) := by decide +kernel
theorem dX4_clearShares_20 : decode cX4_clearShares 20 = .ok (.lconst 1, 1) := by decide +kernel
theorem dX4_clearShares_21 : decode cX4_clearShares 21 = .ok (.lastore, 1) := by decide +kernel
theorem dX4_clearShares_22 : decode cX4_clearShares 22 = .ok (.iinc 1 1, 3) := by decide +kernel
theorem dX4_clearShares_25 : decode cX4_clearShares 25 = .ok (.goto (-23), 3) := by decide +kernel
theorem dX4_clearShares_28 : decode cX4_clearShares 28 = .ok (.return_, 1) := by decide +kernel
theorem dX4_thousandths_0 : decode cX4_thousandths 0 = .ok (.aload_n 0, 1) := by decide +kernel
theorem dX4_thousandths_1 : decode cX4_thousandths 1 = .ok (.getfield 19, 3) := by decide +kernel
theorem dX4_thousandths_4 : decode cX4_thousandths 4 = .ok (.iload_n 1, 1) := by decide +kernel
theorem dX4_thousandths_5 : decode cX4_thousandths 5 = .ok (.laload, 1) := by decide +kernel
theorem dX4_thousandths_6 : decode cX4_thousandths 6 = .ok (.lconst 0, 1) := by decide +kernel
theorem dX4_thousandths_7 : decode cX4_thousandths 7 = .ok (.lcmp, 1) := by decide +kernel
theorem dX4_thousandths_8 : decode cX4_thousandths 8 = .ok (.ifCond .gt 7, 3) := by decide +kernel
theorem dX4_thousandths_11 : decode cX4_thousandths 11 = .ok (.iconst 0, 1) := by decide +kernel
theorem dX4_thousandths_12 : decode cX4_thousandths 12 = .ok (.goto 21, 3) := by decide +kernel
theorem dX4_thousandths_15 : decode cX4_thousandths 15 = .ok (.ldc2_w 81, 3) := by decide +kernel
theorem dX4_thousandths_18 : decode cX4_thousandths 18 = .ok (.aload_n 0, 1) := by decide +kernel
theorem dX4_thousandths_19 : decode cX4_thousandths 19 = .ok (.getfield 15, 3) := by decide +kernel
theorem dX4_thousandths_22 : decode cX4_thousandths 22 = .ok (.iload_n 1, 1) := by decide +kernel
theorem dX4_thousandths_23 : decode cX4_thousandths 23 = .ok (.laload, 1) := by decide +kernel
theorem dX4_thousandths_24 : decode cX4_thousandths 24 = .ok (.lmul, 1) := by decide +kernel
theorem dX4_thousandths_25 : decode cX4_thousandths 25 = .ok (.aload_n 0, 1) := by decide +kernel
theorem dX4_thousandths_26 : decode cX4_thousandths 26 = .ok (.getfield 19, 3) := by decide +kernel
theorem dX4_thousandths_29 : decode cX4_thousandths 29 = .ok (.iload_n 1, 1) := by decide +kernel
theorem dX4_thousandths_30 : decode cX4_thousandths 30 = .ok (.laload, 1) := by decide +kernel
theorem dX4_thousandths_31 : decode cX4_thousandths 31 = .ok (.ldiv, 1) := by decide +kernel
theorem dX4_thousandths_32 : decode cX4_thousandths 32 = .ok (.l2i, 1) := by decide +kernel
theorem dX4_thousandths_33 : decode cX4_thousandths 33 = .ok (.ireturn, 1) := by decide +kernel
theorem dX4_isBeaten_0 : decode cX4_isBeaten 0 = .ok (.iconst 0, 1) := by decide +kernel
theorem dX4_isBeaten_1 : decode cX4_isBeaten 1 = .ok (.istore_n 2, 1) := by decide +kernel
theorem dX4_isBeaten_2 : decode cX4_isBeaten 2 = .ok (.iload_n 2, 1) := by decide +kernel
theorem dX4_isBeaten_3 : decode cX4_isBeaten 3 = .ok (.bipush 8, 2) := by decide +kernel
theorem dX4_isBeaten_5 : decode cX4_isBeaten 5 = .ok (.if_icmp .ge 41, 3) := by decide +kernel
theorem dX4_isBeaten_8 : decode cX4_isBeaten 8 = .ok (.aload_n 0, 1) := by decide +kernel
theorem dX4_isBeaten_9 : decode cX4_isBeaten 9 = .ok (.getfield 15, 3) := by decide +kernel
theorem dX4_isBeaten_12 : decode cX4_isBeaten 12 = .ok (.iload_n 2, 1) := by decide +kernel
theorem dX4_isBeaten_13 : decode cX4_isBeaten 13 = .ok (.laload, 1) := by decide +kernel
theorem dX4_isBeaten_14 : decode cX4_isBeaten 14 = .ok (.aload_n 0, 1) := by decide +kernel
theorem dX4_isBeaten_15 : decode cX4_isBeaten 15 = .ok (.getfield 19, 3) := by decide +kernel
theorem dX4_isBeaten_18 : decode cX4_isBeaten 18 = .ok (.iload_n 1, 1) := by decide +kernel
theorem dX4_isBeaten_19 : decode cX4_isBeaten 19 = .ok (.laload, 1) := by decide +kernel
theorem dX4_isBeaten_20 : decode cX4_isBeaten 20 = .ok (.lmul, 1) := by decide +kernel
theorem dX4_isBeaten_21 : decode cX4_isBeaten 21 = .ok (.aload_n 0, 1) := by decide +kernel
theorem dX4_isBeaten_22 : decode cX4_isBeaten 22 = .ok (.getfield 15, 3) := by decide +kernel
theorem dX4_isBeaten_25 : decode cX4_isBeaten 25 = .ok (.iload_n 1, 1) := by decide +kernel
theorem dX4_isBeaten_26 : decode cX4_isBeaten 26 = .ok (.laload, 1) := by decide +kernel
theorem dX4_isBeaten_27 : decode cX4_isBeaten 27 = .ok (.aload_n 0, 1) := by decide +kernel
theorem dX4_isBeaten_28 : decode cX4_isBeaten 28 = .ok (.getfield 19, 3) := by decide +kernel
theorem dX4_isBeaten_31 : decode cX4_isBeaten 31 = .ok (.iload_n 2, 1) := by decide +kernel
theorem dX4_isBeaten_32 : decode cX4_isBeaten 32 = .ok (.laload, 1) := by decide +kernel
theorem dX4_isBeaten_33 : decode cX4_isBeaten 33 = .ok (.lmul, 1) := by decide +kernel
theorem dX4_isBeaten_34 : decode cX4_isBeaten 34 = .ok (.lcmp, 1) := by decide +kernel
theorem dX4_isBeaten_35 : decode cX4_isBeaten 35 = .ok (.ifCond .le 5, 3) := by decide +kernel
theorem dX4_isBeaten_38 : decode cX4_isBeaten 38 = .ok (.iconst 1, 1) := by decide +kernel
theorem dX4_isBeaten_39 : decode cX4_isBeaten 39 = .ok (.ireturn, 1) := by decide +kernel
theorem dX4_isBeaten_40 : decode cX4_isBeaten 40 = .ok (.iinc 2 1, 3) := by decide +kernel
theorem dX4_isBeaten_43 : decode cX4_isBeaten 43 = .ok (.goto (-41), 3) := by decide +kernel
theorem dX4_isBeaten_46 : decode cX4_isBeaten 46 = .ok (.iconst 0, 1) := by decide +kernel
theorem dX4_isBeaten_47 : decode cX4_isBeaten 47 = .ok (.ireturn, 1) := by decide +kernel
theorem dX4_share_0 : decode cX4_share 0 = .ok (.aload_n 0, 1) := by decide +kernel
theorem dX4_share_1 : decode cX4_share 1 = .ok (.invokevirtual 83, 3) := by decide +kernel
theorem dX4_share_4 : decode cX4_share 4 = .ok (.iconst 0, 1) := by decide +kernel
theorem dX4_share_5 : decode cX4_share 5 = .ok (.istore 4, 2) := by decide +kernel
theorem dX4_share_7 : decode cX4_share 7 = .ok (.iload 4, 2) := by decide +kernel
theorem dX4_share_9 : decode cX4_share 9 = .ok (.aload_n 1, 1) := by decide +kernel
theorem dX4_share_10 : decode cX4_share 10 = .ok (.getfield 71, 3) := by decide +kernel
theorem dX4_share_13 : decode cX4_share 13 = .ok (.if_icmp .ge 38, 3) := by decide +kernel
theorem dX4_share_16 : decode cX4_share 16 = .ok (.iload 4, 2) := by decide +kernel
theorem dX4_share_18 : decode cX4_share 18 = .ok (.iload_n 2, 1) := by decide +kernel
theorem dX4_share_19 : decode cX4_share 19 = .ok (.invokestatic 52, 3) := by decide +kernel
theorem dX4_share_22 : decode cX4_share 22 = .ok (.ifCond .eq 23, 3) := by decide +kernel
theorem dX4_share_25 : decode cX4_share 25 = .ok (.aload_n 0, 1) := by decide +kernel
theorem dX4_share_26 : decode cX4_share 26 = .ok (.getfield 15, 3) := by decide +kernel
theorem dX4_share_29 : decode cX4_share 29 = .ok (.iload 4, 2) := by decide +kernel
theorem dX4_share_31 : decode cX4_share 31 = .ok (.lconst 1, 1) := by decide +kernel
theorem dX4_share_32 : decode cX4_share 32 = .ok (.lastore, 1) := by decide +kernel
theorem dX4_share_33 : decode cX4_share 33 = .ok (.aload_n 0, 1) := by decide +kernel
theorem dX4_share_34 : decode cX4_share 34 = .ok (.getfield 19, 3) := by decide +kernel
theorem dX4_share_37 : decode cX4_share 37 = .ok (.iload 4, 2) := by decide +kernel
theorem dX4_share_39 : decode cX4_share 39 = .ok (.iload_n 2, 1) := by decide +kernel
theorem dX4_share_40 : decode cX4_share 40 = .ok (.invokestatic 86, 3) := by decide +kernel
theorem dX4_share_43 : decode cX4_share 43 = .ok (.i2l, 1) := by decide +kernel
theorem dX4_share_44 : decode cX4_share 44 = .ok (.lastore, 1) := by decide +kernel
theorem dX4_share_45 : decode cX4_share 45 = .ok (.iinc 4 1, 3) := by decide +kernel
theorem dX4_share_48 : decode cX4_share 48 = .ok (.goto (-41), 3) := by decide +kernel
theorem dX4_share_51 : decode cX4_share 51 = .ok (.return_, 1) := by decide +kernel
theorem dX4_weighsBody_0 : decode cX4_weighsBody 0 = .ok (.aload_n 2, 1) := by decide +kernel
theorem dX4_weighsBody_1 : decode cX4_weighsBody 1 = .ok (.bipush 10, 2) := by decide +kernel
theorem dX4_weighsBody_3 : decode cX4_weighsBody 3 = .ok (.invokevirtual 92, 3) := by decide +kernel
theorem dX4_weighsBody_6 : decode cX4_weighsBody 6 = .ok (.iload_n 1, 1) := by decide +kernel
theorem dX4_weighsBody_7 : decode cX4_weighsBody 7 = .ok (.aload_n 0, 1) := by decide +kernel
theorem dX4_weighsBody_8 : decode cX4_weighsBody 8 = .ok (.getfield 29, 3) := by decide +kernel
theorem dX4_weighsBody_11 : decode cX4_weighsBody 11 = .ok (.getfield 98, 3) := by decide +kernel
theorem dX4_weighsBody_14 : decode cX4_weighsBody 14 = .ok (.iadd, 1) := by decide +kernel
theorem dX4_weighsBody_15 : decode cX4_weighsBody 15 = .ok (.ireturn, 1) := by decide +kernel
theorem dX4_oddsBody_0 : decode cX4_oddsBody 0 = .ok (.aload_n 2, 1) := by decide +kernel
theorem dX4_oddsBody_1 : decode cX4_oddsBody 1 = .ok (.bipush 11, 2) := by decide +kernel
theorem dX4_oddsBody_3 : decode cX4_oddsBody 3 = .ok (.invokevirtual 92, 3) := by decide +kernel
theorem dX4_oddsBody_6 : decode cX4_oddsBody 6 = .ok (.aload_n 0, 1) := by decide +kernel
theorem dX4_oddsBody_7 : decode cX4_oddsBody 7 = .ok (.iload_n 1, 1) := by decide +kernel
theorem dX4_oddsBody_8 : decode cX4_oddsBody 8 = .ok (.aload_n 2, 1) := by decide +kernel
theorem dX4_oddsBody_9 : decode cX4_oddsBody 9 = .ok (.invokevirtual 101, 3) := by decide +kernel
theorem dX4_oddsBody_12 : decode cX4_oddsBody 12 = .ok (.aload_n 0, 1) := by decide +kernel
theorem dX4_oddsBody_13 : decode cX4_oddsBody 13 = .ok (.getfield 26, 3) := by decide +kernel
theorem dX4_oddsBody_16 : decode cX4_oddsBody 16 = .ok (.isub, 1) := by decide +kernel
theorem dX4_oddsBody_17 : decode cX4_oddsBody 17 = .ok (.ireturn, 1) := by decide +kernel
theorem dX4_tellsBody_0 : decode cX4_tellsBody 0 = .ok (.aload_n 2, 1) := by decide +kernel
theorem dX4_tellsBody_1 : decode cX4_tellsBody 1 = .ok (.bipush 12, 2) := by decide +kernel
theorem dX4_tellsBody_3 : decode cX4_tellsBody 3 = .ok (.invokevirtual 92, 3) := by decide +kernel
theorem dX4_tellsBody_6 : decode cX4_tellsBody 6 = .ok (.aload_n 0, 1) := by decide +kernel
theorem dX4_tellsBody_7 : decode cX4_tellsBody 7 = .ok (.iload_n 1, 1) := by decide +kernel
theorem dX4_tellsBody_8 : decode cX4_tellsBody 8 = .ok (.aload_n 2, 1) := by decide +kernel
theorem dX4_tellsBody_9 : decode cX4_tellsBody 9 = .ok (.invokevirtual 105, 3) := by decide +kernel
theorem dX4_tellsBody_12 : decode cX4_tellsBody 12 = .ok (.iconst 2, 1) := by decide +kernel
theorem dX4_tellsBody_13 : decode cX4_tellsBody 13 = .ok (.imul, 1) := by decide +kernel
theorem dX4_tellsBody_14 : decode cX4_tellsBody 14 = .ok (.ireturn, 1) := by decide +kernel
theorem dX5_init_0 : decode cX5_init 0 = .ok (.aload_n 0, 1) := by decide +kernel
theorem dX5_init_1 : decode cX5_init 1 = .ok (.iload_n 1, 1) := by decide +kernel
theorem dX5_init_2 : decode cX5_init 2 = .ok (.iload_n 2, 1) := by decide +kernel
theorem dX5_init_3 : decode cX5_init 3 = .ok (.aload_n 3, 1) := by decide +kernel
theorem dX5_init_4 : decode cX5_init 4 = .ok (.invokespecial 3, 3) := by decide +kernel
theorem dX5_init_7 : decode cX5_init 7 = .ok (.aload_n 0, 1) := by decide +kernel
theorem dX5_init_8 : decode cX5_init 8 = .ok (.iconst 4, 1) := by decide +kernel
theorem dX5_init_9 : decode cX5_init 9 = .ok (.newarray .int, 2) := by decide +kernel
theorem dX5_init_11 : decode cX5_init 11 = .ok (.putfield 9, 3) := by decide +kernel
theorem dX5_init_14 : decode cX5_init 14 = .ok (.aload_n 0, 1) := by decide +kernel
theorem dX5_init_15 : decode cX5_init 15 = .ok (.iconst 4, 1) := by decide +kernel
theorem dX5_init_16 : decode cX5_init 16 = .ok (.newarray .int, 2) := by decide +kernel
theorem dX5_init_18 : decode cX5_init 18 = .ok (.putfield 15, 3) := by decide +kernel
theorem dX5_init_21 : decode cX5_init 21 = .ok (.return_, 1) := by decide +kernel
theorem dX5_share_0 : decode cX5_share 0 = .ok (.aload_n 0, 1) := by decide +kernel
theorem dX5_share_1 : decode cX5_share 1 = .ok (.invokevirtual 18, 3) := by decide +kernel
theorem dX5_share_4 : decode cX5_share 4 = .ok (.aload_n 0, 1) := by decide +kernel
theorem dX5_share_5 : decode cX5_share 5 = .ok (.aload_n 1, 1) := by decide +kernel
theorem dX5_share_6 : decode cX5_share 6 = .ok (.iload_n 2, 1) := by decide +kernel
theorem dX5_share_7 : decode cX5_share 7 = .ok (.iload_n 3, 1) := by decide +kernel
theorem dX5_share_8 : decode cX5_share 8 = .ok (.invokevirtual 22, 3) := by decide +kernel
theorem dX5_share_11 : decode cX5_share 11 = .ok (.aload_n 0, 1) := by decide +kernel
theorem dX5_share_12 : decode cX5_share 12 = .ok (.bipush 7, 2) := by decide +kernel
theorem dX5_share_14 : decode cX5_share 14 = .ok (.iload_n 3, 1) := by decide +kernel
theorem dX5_share_15 : decode cX5_share 15 = .ok (.invokevirtual 26, 3) := by decide +kernel
theorem dX5_share_18 : decode cX5_share 18 = .ok (.istore 4, 2) := by decide +kernel
theorem dX5_share_20 : decode cX5_share 20 = .ok (.iload 4, 2) := by decide +kernel
theorem dX5_share_22 : decode cX5_share 22 = .ok (.istore 5, 2) := by decide +kernel
theorem dX5_share_24 : decode cX5_share 24 = .ok (.iconst 0, 1) := by decide +kernel
theorem dX5_share_25 : decode cX5_share 25 = .ok (.istore 6, 2) := by decide +kernel
theorem dX5_share_27 : decode cX5_share 27 = .ok (.iload 6, 2) := by decide +kernel
theorem dX5_share_29 : decode cX5_share 29 = .ok (.iconst 4, 1) := by decide +kernel
theorem dX5_share_30 : decode cX5_share 30 = .ok (.if_icmp .ge 21, 3) := by decide +kernel
theorem dX5_share_33 : decode cX5_share 33 = .ok (.iload 5, 2) := by decide +kernel
theorem dX5_share_35 : decode cX5_share 35 = .ok (.aload_n 0, 1) := by decide +kernel
theorem dX5_share_36 : decode cX5_share 36 = .ok (.getfield 9, 3) := by decide +kernel
theorem dX5_share_39 : decode cX5_share 39 = .ok (.iload 6, 2) := by decide +kernel
theorem dX5_share_41 : decode cX5_share 41 = .ok (.iaload, 1) := by decide +kernel
theorem dX5_share_42 : decode cX5_share 42 = .ok (.iadd, 1) := by decide +kernel
theorem dX5_share_43 : decode cX5_share 43 = .ok (.istore 5, 2) := by decide +kernel
theorem dX5_share_45 : decode cX5_share 45 = .ok (.iinc 6 1, 3) := by decide +kernel
theorem dX5_share_48 : decode cX5_share 48 = .ok (.goto (-21), 3) := by decide +kernel
theorem dX5_share_51 : decode cX5_share 51 = .ok (.iconst 0, 1) := by decide +kernel
theorem dX5_share_52 : decode cX5_share 52 = .ok (.istore 6, 2) := by decide +kernel
theorem dX5_share_54 : decode cX5_share 54 = .ok (.iload 6, 2) := by decide +kernel
theorem dX5_share_56 : decode cX5_share 56 = .ok (.aload_n 1, 1) := by decide +kernel
theorem dX5_share_57 : decode cX5_share 57 = .ok (.getfield 30, 3) := by decide +kernel
theorem dX5_share_60 : decode cX5_share 60 = .ok (.if_icmp .ge 68, 3) := by decide +kernel
theorem dX5_share_63 : decode cX5_share 63 = .ok (.iload 6, 2) := by decide +kernel
theorem dX5_share_65 : decode cX5_share 65 = .ok (.iload_n 2, 1) := by decide +kernel
theorem dX5_share_66 : decode cX5_share 66 = .ok (.invokestatic 36, 3) := by decide +kernel
theorem dX5_share_69 : decode cX5_share 69 = .ok (.ifCond .eq 53, 3) := by decide +kernel
theorem dX5_share_72 : decode cX5_share 72 = .ok (.aload_n 1, 1) := by decide +kernel
theorem dX5_share_73 : decode cX5_share 73 = .ok (.getfield 40, 3) := by decide +kernel
theorem dX5_share_76 : decode cX5_share 76 = .ok (.iload 6, 2) := by decide +kernel
theorem dX5_share_78 : decode cX5_share 78 = .ok (.iaload, 1) := by decide +kernel
theorem dX5_share_79 : decode cX5_share 79 = .ok (.istore 7, 2) := by decide +kernel
theorem dX5_share_81 : decode cX5_share 81 = .ok (.aload_n 0, 1) := by decide +kernel
theorem dX5_share_82 : decode cX5_share 82 = .ok (.getfield 43, 3) := by decide +kernel
theorem dX5_share_85 : decode cX5_share 85 = .ok (.iload 6, 2) := by decide +kernel
theorem dX5_share_87 : decode cX5_share 87 = .ok (.aload_n 0, 1) := by decide +kernel
theorem dX5_share_88 : decode cX5_share 88 = .ok (.getfield 9, 3) := by decide +kernel
theorem dX5_share_91 : decode cX5_share 91 = .ok (.iload 7, 2) := by decide +kernel
theorem dX5_share_93 : decode cX5_share 93 = .ok (.iaload, 1) := by decide +kernel
theorem dX5_share_94 : decode cX5_share 94 = .ok (.aload_n 0, 1) := by decide +kernel
theorem dX5_share_95 : decode cX5_share 95 = .ok (.iload 6, 2) := by decide +kernel
theorem dX5_share_97 : decode cX5_share 97 = .ok (.iload_n 3, 1) := by decide +kernel
theorem dX5_share_98 : decode cX5_share 98 = .ok (.invokevirtual 26, 3) := by decide +kernel
theorem dX5_share_101 : decode cX5_share 101 = .ok (.imul, 1) := by decide +kernel
theorem dX5_share_102 : decode cX5_share 102 = .ok (.i2l, 1) := by decide +kernel
theorem dX5_share_103 : decode cX5_share 103 = .ok (.lastore, 1) := by decide +kernel
theorem dX5_share_104 : decode cX5_share 104 = .ok (.aload_n 0, 1) := by decide +kernel
theorem dX5_share_105 : decode cX5_share 105 = .ok (.getfield 47, 3) := by decide +kernel
theorem dX5_share_108 : decode cX5_share 108 = .ok (.iload 6, 2) := by decide +kernel
theorem dX5_share_110 : decode cX5_share 110 = .ok (.iload 5, 2) := by decide +kernel
theorem dX5_share_112 : decode cX5_share 112 = .ok (.aload_n 0, 1) := by decide +kernel
theorem dX5_share_113 : decode cX5_share 113 = .ok (.getfield 15, 3) := by decide +kernel
theorem dX5_share_116 : decode cX5_share 116 = .ok (.iload 7, 2) := by decide +kernel
theorem dX5_share_118 : decode cX5_share 118 = .ok (.iaload, 1) := by decide +kernel
theorem dX5_share_119 : decode cX5_share 119 = .ok (.imul, 1) := by decide +kernel
theorem dX5_share_120 : decode cX5_share 120 = .ok (.i2l, 1) := by decide +kernel
theorem dX5_share_121 : decode cX5_share 121 = .ok (.lastore, 1) := by decide +kernel
theorem dX5_share_122 : decode cX5_share 122 = .ok (.iinc 6 1, 3) := by decide +kernel
theorem dX5_share_125 : decode cX5_share 125 = .ok (.goto (-71), 3) := by decide +kernel
theorem dX5_share_128 : decode cX5_share 128 = .ok (.aload_n 0, 1) := by decide +kernel
theorem dX5_share_129 : decode cX5_share 129 = .ok (.getfield 43, 3) := by decide +kernel
theorem dX5_share_132 : decode cX5_share 132 = .ok (.bipush 7, 2) := by decide +kernel
theorem dX5_share_134 : decode cX5_share 134 = .ok (.iload 4, 2) := by decide +kernel
theorem dX5_share_136 : decode cX5_share 136 = .ok (.i2l, 1) := by decide +kernel
theorem dX5_share_137 : decode cX5_share 137 = .ok (.lastore, 1) := by decide +kernel
theorem dX5_share_138 : decode cX5_share 138 = .ok (.aload_n 0, 1) := by decide +kernel
theorem dX5_share_139 : decode cX5_share 139 = .ok (.getfield 47, 3) := by decide +kernel
theorem dX5_share_142 : decode cX5_share 142 = .ok (.bipush 7, 2) := by decide +kernel
theorem dX5_share_144 : decode cX5_share 144 = .ok (.iload 5, 2) := by decide +kernel
theorem dX5_share_146 : decode cX5_share 146 = .ok (.i2l, 1) := by decide +kernel
theorem dX5_share_147 : decode cX5_share 147 = .ok (.lastore, 1) := by decide +kernel
theorem dX5_share_148 : decode cX5_share 148 = .ok (.return_, 1) := by decide +kernel
theorem dX5_gatherNests_0 : decode cX5_gatherNests 0 = .ok (.iconst 0, 1) := by decide +kernel
theorem dX5_gatherNests_1 : decode cX5_gatherNests 1 = .ok (.istore 4, 2) := by decide +kernel
theorem dX5_gatherNests_3 : decode cX5_gatherNests 3 = .ok (.iload 4, 2) := by decide +kernel
theorem dX5_gatherNests_5 : decode cX5_gatherNests 5 = .ok (.iconst 4, 1) := by decide +kernel
theorem dX5_gatherNests_6 : decode cX5_gatherNests 6 = .ok (.if_icmp .ge 25, 3) := by decide +kernel
theorem dX5_gatherNests_9 : decode cX5_gatherNests 9 = .ok (.aload_n 0, 1) := by decide +kernel
theorem dX5_gatherNests_10 : decode cX5_gatherNests 10 = .ok (.getfield 9, 3) := by decide +kernel
theorem dX5_gatherNests_13 : decode cX5_gatherNests 13 = .ok (.iload 4, 2) := by decide +kernel
theorem dX5_gatherNests_15 : decode cX5_gatherNests 15 = .ok (.iconst 0, 1) := by decide +kernel
theorem dX5_gatherNests_16 : decode cX5_gatherNests 16 = .ok (.iastore, 1) := by decide +kernel
theorem dX5_gatherNests_17 : decode cX5_gatherNests 17 = .ok (.aload_n 0, 1) := by decide +kernel
theorem dX5_gatherNests_18 : decode cX5_gatherNests 18 = .ok (.getfield 15, 3) := by decide +kernel
theorem dX5_gatherNests_21 : decode cX5_gatherNests 21 = .ok (.iload 4, 2) := by decide +kernel
theorem dX5_gatherNests_23 : decode cX5_gatherNests 23 = .ok (.iconst 0, 1) := by decide +kernel
theorem dX5_gatherNests_24 : decode cX5_gatherNests 24 = .ok (.iastore, 1) := by decide +kernel
theorem dX5_gatherNests_25 : decode cX5_gatherNests 25 = .ok (.iinc 4 1, 3) := by decide +kernel
theorem dX5_gatherNests_28 : decode cX5_gatherNests 28 = .ok (.goto (-25), 3) := by decide +kernel
theorem dX5_gatherNests_31 : decode cX5_gatherNests 31 = .ok (.iconst 0, 1) := by decide +kernel
theorem dX5_gatherNests_32 : decode cX5_gatherNests 32 = .ok (.istore 4, 2) := by decide +kernel
theorem dX5_gatherNests_34 : decode cX5_gatherNests 34 = .ok (.iload 4, 2) := by decide +kernel
theorem dX5_gatherNests_36 : decode cX5_gatherNests 36 = .ok (.aload_n 1, 1) := by decide +kernel
theorem dX5_gatherNests_37 : decode cX5_gatherNests 37 = .ok (.getfield 30, 3) := by decide +kernel
theorem dX5_gatherNests_40 : decode cX5_gatherNests 40 = .ok (.if_icmp .ge 68, 3) := by decide +kernel
theorem dX5_gatherNests_43 : decode cX5_gatherNests 43 = .ok (.iload 4, 2) := by decide +kernel
theorem dX5_gatherNests_45 : decode cX5_gatherNests 45 = .ok (.iload_n 2, 1) := by decide +kernel
theorem dX5_gatherNests_46 : decode cX5_gatherNests 46 = .ok (.invokestatic 36, 3) := by decide +kernel
theorem dX5_gatherNests_49 : decode cX5_gatherNests 49 = .ok (.ifCond .eq 53, 3) := by decide +kernel
theorem dX5_gatherNests_52 : decode cX5_gatherNests 52 = .ok (.aload_n 1, 1) := by decide +kernel
theorem dX5_gatherNests_53 : decode cX5_gatherNests 53 = .ok (.getfield 40, 3) := by decide +kernel
theorem dX5_gatherNests_56 : decode cX5_gatherNests 56 = .ok (.iload 4, 2) := by decide +kernel
theorem dX5_gatherNests_58 : decode cX5_gatherNests 58 = .ok (.iaload, 1) := by decide +kernel
theorem dX5_gatherNests_59 : decode cX5_gatherNests 59 = .ok (.istore 5, 2) := by decide +kernel
theorem dX5_gatherNests_61 : decode cX5_gatherNests 61 = .ok (.aload_n 0, 1) := by decide +kernel
theorem dX5_gatherNests_62 : decode cX5_gatherNests 62 = .ok (.getfield 9, 3) := by decide +kernel
theorem dX5_gatherNests_65 : decode cX5_gatherNests 65 = .ok (.iload 5, 2) := by decide +kernel
theorem dX5_gatherNests_67 : decode cX5_gatherNests 67 = .ok (.aload_n 0, 1) := by decide +kernel
theorem dX5_gatherNests_68 : decode cX5_gatherNests 68 = .ok (.getfield 9, 3) := by decide +kernel
theorem dX5_gatherNests_71 : decode cX5_gatherNests 71 = .ok (.iload 5, 2) := by decide +kernel
theorem dX5_gatherNests_73 : decode cX5_gatherNests 73 = .ok (.iaload, 1) := by decide +kernel
theorem dX5_gatherNests_74 : decode cX5_gatherNests 74 = .ok (.aload_n 0, 1) := by decide +kernel
theorem dX5_gatherNests_75 : decode cX5_gatherNests 75 = .ok (.iload 4, 2) := by decide +kernel
theorem dX5_gatherNests_77 : decode cX5_gatherNests 77 = .ok (.iload_n 3, 1) := by decide +kernel
theorem dX5_gatherNests_78 : decode cX5_gatherNests 78 = .ok (.invokevirtual 26, 3) := by decide +kernel
theorem dX5_gatherNests_81 : decode cX5_gatherNests 81 = .ok (.invokestatic 50, 3) := by decide +kernel
theorem dX5_gatherNests_84 : decode cX5_gatherNests 84 = .ok (.iastore, 1) := by decide +kernel
theorem dX5_gatherNests_85 : decode cX5_gatherNests 85 = .ok (.aload_n 0, 1) := by decide +kernel
theorem dX5_gatherNests_86 : decode cX5_gatherNests 86 = .ok (.getfield 15, 3) := by decide +kernel
theorem dX5_gatherNests_89 : decode cX5_gatherNests 89 = .ok (.iload 5, 2) := by decide +kernel
theorem dX5_gatherNests_91 : decode cX5_gatherNests 91 = .ok (.dup2, 1) := by decide +kernel
theorem dX5_gatherNests_92 : decode cX5_gatherNests 92 = .ok (.iaload, 1) := by decide +kernel
theorem dX5_gatherNests_93 : decode cX5_gatherNests 93 = .ok (.aload_n 0, 1) := by decide +kernel
theorem dX5_gatherNests_94 : decode cX5_gatherNests 94 = .ok (.iload 4, 2) := by decide +kernel
theorem dX5_gatherNests_96 : decode cX5_gatherNests 96 = .ok (.iload_n 3, 1) := by decide +kernel
theorem dX5_gatherNests_97 : decode cX5_gatherNests 97 = .ok (.invokevirtual 26, 3) := by decide +kernel
theorem dX5_gatherNests_100 : decode cX5_gatherNests 100 = .ok (.iadd, 1) := by decide +kernel
theorem dX5_gatherNests_101 : decode cX5_gatherNests 101 = .ok (.iastore, 1) := by decide +kernel
theorem dX5_gatherNests_102 : decode cX5_gatherNests 102 = .ok (.iinc 4 1, 3) := by decide +kernel
theorem dX5_gatherNests_105 : decode cX5_gatherNests 105 = .ok (.goto (-71), 3) := by decide +kernel
theorem dX5_gatherNests_108 : decode cX5_gatherNests 108 = .ok (.return_, 1) := by decide +kernel
theorem dX5_weighsBody_0 : decode cX5_weighsBody 0 = .ok (.aload_n 2, 1) := by decide +kernel
theorem dX5_weighsBody_1 : decode cX5_weighsBody 1 = .ok (.bipush 30, 2) := by decide +kernel
theorem dX5_weighsBody_3 : decode cX5_weighsBody 3 = .ok (.invokevirtual 55, 3) := by decide +kernel
theorem dX5_weighsBody_6 : decode cX5_weighsBody 6 = .ok (.aload_n 0, 1) := by decide +kernel
theorem dX5_weighsBody_7 : decode cX5_weighsBody 7 = .ok (.iload_n 1, 1) := by decide +kernel
theorem dX5_weighsBody_8 : decode cX5_weighsBody 8 = .ok (.iconst 3, 1) := by decide +kernel
theorem dX5_weighsBody_9 : decode cX5_weighsBody 9 = .ok (.imul, 1) := by decide +kernel
theorem dX5_weighsBody_10 : decode cX5_weighsBody 10 = .ok (.aload_n 2, 1) := by decide +kernel
theorem dX5_weighsBody_11 : decode cX5_weighsBody 11 = .ok (.invokespecial 61, 3) := by decide +kernel
theorem dX5_weighsBody_14 : decode cX5_weighsBody 14 = .ok (.ireturn, 1) := by decide +kernel
theorem dX5_tellsBody_0 : decode cX5_tellsBody 0 = .ok (.aload_n 2, 1) := by decide +kernel
theorem dX5_tellsBody_1 : decode cX5_tellsBody 1 = .ok (.bipush 31, 2) := by decide +kernel
theorem dX5_tellsBody_3 : decode cX5_tellsBody 3 = .ok (.invokevirtual 55, 3) := by decide +kernel
theorem dX5_tellsBody_6 : decode cX5_tellsBody 6 = .ok (.aload_n 0, 1) := by decide +kernel
theorem dX5_tellsBody_7 : decode cX5_tellsBody 7 = .ok (.iload_n 1, 1) := by decide +kernel
theorem dX5_tellsBody_8 : decode cX5_tellsBody 8 = .ok (.aload_n 2, 1) := by decide +kernel
theorem dX5_tellsBody_9 : decode cX5_tellsBody 9 = .ok (.invokespecial 65, 3) := by decide +kernel
theorem dX5_tellsBody_12 : decode cX5_tellsBody 12 = .ok (.aload_n 0, 1) := by decide +kernel
theorem dX5_tellsBody_13 : decode cX5_tellsBody 13 = .ok (.iconst 1, 1) := by decide +kernel
theorem dX5_tellsBody_14 : decode cX5_tellsBody 14 = .ok (.aload_n 2, 1) := by decide +kernel
theorem dX5_tellsBody_15 : decode cX5_tellsBody 15 = .ok (.invokevirtual 68, 3) := by decide +kernel
theorem dX5_tellsBody_18 : decode cX5_tellsBody 18 = .ok (.iadd, 1) := by decide +kernel
theorem dX5_tellsBody_19 : decode cX5_tellsBody 19 = .ok (.ireturn, 1) := by decide +kernel
theorem dX6_init_0 : decode cX6_init 0 = .ok (.aload_n 0, 1) := by decide +kernel
theorem dX6_init_1 : decode cX6_init 1 = .ok (.invokespecial 3, 3) := by decide +kernel
theorem dX6_init_4 : decode cX6_init 4 = .ok (.aload_n 0, 1) := by decide +kernel
theorem dX6_init_5 : decode cX6_init 5 = .ok (.iconst 1, 1) := by decide +kernel
theorem dX6_init_6 : decode cX6_init 6 = .ok (.putfield 9, 3) := by decide +kernel
theorem dX6_init_9 : decode cX6_init 9 = .ok (.aload_n 0, 1) := by decide +kernel
theorem dX6_init_10 : decode cX6_init 10 = .ok (.bipush 7, 2) := by decide +kernel
theorem dX6_init_12 : decode cX6_init 12 = .ok (.newarray .int, 2) := by decide +kernel
theorem dX6_init_14 : decode cX6_init 14 = .ok (.putfield 15, 3) := by decide +kernel
theorem dX6_init_17 : decode cX6_init 17 = .ok (.aload_n 0, 1) := by decide +kernel
theorem dX6_init_18 : decode cX6_init 18 = .ok (.bipush 80, 2) := by decide +kernel
theorem dX6_init_20 : decode cX6_init 20 = .ok (.newarray .int, 2) := by decide +kernel
theorem dX6_init_22 : decode cX6_init 22 = .ok (.putfield 19, 3) := by decide +kernel
theorem dX6_init_25 : decode cX6_init 25 = .ok (.aload_n 0, 1) := by decide +kernel
theorem dX6_init_26 : decode cX6_init 26 = .ok (.bipush 80, 2) := by decide +kernel
theorem dX6_init_28 : decode cX6_init 28 = .ok (.newarray .int, 2) := by decide +kernel
theorem dX6_init_30 : decode cX6_init 30 = .ok (.putfield 22, 3) := by decide +kernel
theorem dX6_init_33 : decode cX6_init 33 = .ok (.aload_n 0, 1) := by decide +kernel
theorem dX6_init_34 : decode cX6_init 34 = .ok (.sipush 128, 3) := by decide +kernel
theorem dX6_init_37 : decode cX6_init 37 = .ok (.newarray .int, 2) := by decide +kernel
theorem dX6_init_39 : decode cX6_init 39 = .ok (.putfield 25, 3) := by decide +kernel
theorem dX6_init_42 : decode cX6_init 42 = .ok (.aload_n 0, 1) := by decide +kernel
theorem dX6_init_43 : decode cX6_init 43 = .ok (.sipush 128, 3) := by decide +kernel
theorem dX6_init_46 : decode cX6_init 46 = .ok (.newarray .int, 2) := by decide +kernel
theorem dX6_init_48 : decode cX6_init 48 = .ok (.putfield 28, 3) := by decide +kernel
theorem dX6_init_51 : decode cX6_init 51 = .ok (.aload_n 0, 1) := by decide +kernel
theorem dX6_init_52 : decode cX6_init 52 = .ok (.bipush 7, 2) := by decide +kernel
theorem dX6_init_54 : decode cX6_init 54 = .ok (.newarray .int, 2) := by decide +kernel
theorem dX6_init_56 : decode cX6_init 56 = .ok (.putfield 31, 3) := by decide +kernel
theorem dX6_init_59 : decode cX6_init 59 = .ok (.return_, 1) := by decide +kernel
theorem dX6_clear_0 : decode cX6_clear 0 = .ok (.aload_n 0, 1) := by decide +kernel
theorem dX6_clear_1 : decode cX6_clear 1 = .ok (.iload_n 1, 1) := by decide +kernel
theorem dX6_clear_2 : decode cX6_clear 2 = .ok (.iconst 1, 1) := by decide +kernel
theorem dX6_clear_3 : decode cX6_clear 3 = .ok (.iadd, 1) := by decide +kernel
theorem dX6_clear_4 : decode cX6_clear 4 = .ok (.putfield 9, 3) := by decide +kernel
theorem dX6_clear_7 : decode cX6_clear 7 = .ok (.aload_n 0, 1) := by decide +kernel
theorem dX6_clear_8 : decode cX6_clear 8 = .ok (.iconst 0, 1) := by decide +kernel
theorem dX6_clear_9 : decode cX6_clear 9 = .ok (.putfield 34, 3) := by decide +kernel
theorem dX6_clear_12 : decode cX6_clear 12 = .ok (.iconst 0, 1) := by decide +kernel
theorem dX6_clear_13 : decode cX6_clear 13 = .ok (.istore_n 2, 1) := by decide +kernel
theorem dX6_clear_14 : decode cX6_clear 14 = .ok (.iload_n 2, 1) := by decide +kernel
theorem dX6_clear_15 : decode cX6_clear 15 = .ok (.bipush 7, 2) := by decide +kernel
theorem dX6_clear_17 : decode cX6_clear 17 = .ok (.if_icmp .ge 16, 3) := by decide +kernel
theorem dX6_clear_20 : decode cX6_clear 20 = .ok (.aload_n 0, 1) := by decide +kernel
theorem dX6_clear_21 : decode cX6_clear 21 = .ok (.getfield 15, 3) := by decide +kernel
theorem dX6_clear_24 : decode cX6_clear 24 = .ok (.iload_n 2, 1) := by decide +kernel
theorem dX6_clear_25 : decode cX6_clear 25 = .ok (.iconst 0, 1) := by decide +kernel
theorem dX6_clear_26 : decode cX6_clear 26 = .ok (.iastore, 1) := by decide +kernel
theorem dX6_clear_27 : decode cX6_clear 27 = .ok (.iinc 2 1, 3) := by decide +kernel
theorem dX6_clear_30 : decode cX6_clear 30 = .ok (.goto (-16), 3) := by decide +kernel
theorem dX6_clear_33 : decode cX6_clear 33 = .ok (.return_, 1) := by decide +kernel
theorem dX6_require_0 : decode cX6_require 0 = .ok (.iload_n 2, 1) := by decide +kernel
theorem dX6_require_1 : decode cX6_require 1 = .ok (.bipush 7, 2) := by decide +kernel
theorem dX6_require_3 : decode cX6_require 3 = .ok (.if_icmp .ne 12, 3) := by decide +kernel
theorem dX6_require_6 : decode cX6_require 6 = .ok (.aload_n 0, 1) := by decide +kernel
theorem dX6_require_7 : decode cX6_require 7 = .ok (.getfield 9, 3) := by decide +kernel
theorem dX6_require_10 : decode cX6_require 10 = .ok (.iconst 1, 1) := by decide +kernel
theorem dX6_require_11 : decode cX6_require 11 = .ok (.isub, 1) := by decide +kernel
theorem dX6_require_12 : decode cX6_require 12 = .ok (.goto 4, 3) := by decide +kernel
theorem dX6_require_15 : decode cX6_require 15 = .ok (.iload_n 2, 1) := by decide +kernel
theorem dX6_require_16 : decode cX6_require 16 = .ok (.istore_n 3, 1) := by decide +kernel
theorem dX6_require_17 : decode cX6_require 17 = .ok (.aload_n 0, 1) := by decide +kernel
theorem dX6_require_18 : decode cX6_require 18 = .ok (.iload_n 1, 1) := by decide +kernel
theorem dX6_require_19 : decode cX6_require 19 = .ok (.invokevirtual 37, 3) := by decide +kernel
theorem dX6_require_22 : decode cX6_require 22 = .ok (.iconst 1, 1) := by decide +kernel
theorem dX6_require_23 : decode cX6_require 23 = .ok (.iload_n 3, 1) := by decide +kernel
theorem dX6_require_24 : decode cX6_require 24 = .ok (.ishl, 1) := by decide +kernel
theorem dX6_require_25 : decode cX6_require 25 = .ok (.iconst (-1), 1) := by decide +kernel
theorem dX6_require_26 : decode cX6_require 26 = .ok (.ixor, 1) := by decide +kernel
theorem dX6_require_27 : decode cX6_require 27 = .ok (.iand, 1) := by decide +kernel
theorem dX6_require_28 : decode cX6_require 28 = .ok (.istore 4, 2) := by decide +kernel
theorem dX6_require_30 : decode cX6_require 30 = .ok (.aload_n 0, 1) := by decide +kernel
theorem dX6_require_31 : decode cX6_require 31 = .ok (.getfield 34, 3) := by decide +kernel
theorem dX6_require_34 : decode cX6_require 34 = .ok (.aload_n 0, 1) := by decide +kernel
theorem dX6_require_35 : decode cX6_require 35 = .ok (.getfield 19, 3) := by decide +kernel
theorem dX6_require_38 : decode cX6_require 38 = .ok (.arraylength, 1) := by decide +kernel
theorem dX6_require_39 : decode cX6_require 39 = .ok (.if_icmp .ge 34, 3) := by decide +kernel
theorem dX6_require_42 : decode cX6_require 42 = .ok (.aload_n 0, 1) := by decide +kernel
theorem dX6_require_43 : decode cX6_require 43 = .ok (.getfield 19, 3) := by decide +kernel
theorem dX6_require_46 : decode cX6_require 46 = .ok (.aload_n 0, 1) := by decide +kernel
theorem dX6_require_47 : decode cX6_require 47 = .ok (.getfield 34, 3) := by decide +kernel
theorem dX6_require_50 : decode cX6_require 50 = .ok (.iload_n 3, 1) := by decide +kernel
theorem dX6_require_51 : decode cX6_require 51 = .ok (.iastore, 1) := by decide +kernel
theorem dX6_require_52 : decode cX6_require 52 = .ok (.aload_n 0, 1) := by decide +kernel
theorem dX6_require_53 : decode cX6_require 53 = .ok (.getfield 22, 3) := by decide +kernel
theorem dX6_require_56 : decode cX6_require 56 = .ok (.aload_n 0, 1) := by decide +kernel
theorem dX6_require_57 : decode cX6_require 57 = .ok (.getfield 34, 3) := by decide +kernel
theorem dX6_require_60 : decode cX6_require 60 = .ok (.iload 4, 2) := by decide +kernel
theorem dX6_require_62 : decode cX6_require 62 = .ok (.iastore, 1) := by decide +kernel
theorem dX6_require_63 : decode cX6_require 63 = .ok (.aload_n 0, 1) := by decide +kernel
theorem dX6_require_64 : decode cX6_require 64 = .ok (.dup, 1) := by decide +kernel
theorem dX6_require_65 : decode cX6_require 65 = .ok (.getfield 34, 3) := by decide +kernel
theorem dX6_require_68 : decode cX6_require 68 = .ok (.iconst 1, 1) := by decide +kernel
theorem dX6_require_69 : decode cX6_require 69 = .ok (.iadd, 1) := by decide +kernel
theorem dX6_require_70 : decode cX6_require 70 = .ok (.putfield 34, 3) := by decide +kernel
theorem dX6_require_73 : decode cX6_require 73 = .ok (.iconst 0, 1) := by decide +kernel
theorem dX6_require_74 : decode cX6_require 74 = .ok (.istore 5, 2) := by decide +kernel
theorem dX6_require_76 : decode cX6_require 76 = .ok (.iload 5, 2) := by decide +kernel
theorem dX6_require_78 : decode cX6_require 78 = .ok (.aload_n 0, 1) := by decide +kernel
theorem dX6_require_79 : decode cX6_require 79 = .ok (.getfield 9, 3) := by decide +kernel
theorem dX6_require_82 : decode cX6_require 82 = .ok (.if_icmp .ge 32, 3) := by decide +kernel
theorem dX6_require_85 : decode cX6_require 85 = .ok (.iload 5, 2) := by decide +kernel
theorem dX6_require_87 : decode cX6_require 87 = .ok (.iload 4, 2) := by decide +kernel
theorem dX6_require_89 : decode cX6_require 89 = .ok (.invokestatic 41, 3) := by decide +kernel
theorem dX6_require_92 : decode cX6_require 92 = .ok (.ifCond .eq 16, 3) := by decide +kernel
theorem dX6_require_95 : decode cX6_require 95 = .ok (.aload_n 0, 1) := by decide +kernel
theorem dX6_require_96 : decode cX6_require 96 = .ok (.getfield 15, 3) := by decide +kernel
theorem dX6_require_99 : decode cX6_require 99 = .ok (.iload 5, 2) := by decide +kernel
theorem dX6_require_101 : decode cX6_require 101 = .ok (.dup2, 1) := by decide +kernel
theorem dX6_require_102 : decode cX6_require 102 = .ok (.iaload, 1) := by decide +kernel
theorem dX6_require_103 : decode cX6_require 103 = .ok (.iconst 1, 1) := by decide +kernel
theorem dX6_require_104 : decode cX6_require 104 = .ok (.iload_n 3, 1) := by decide +kernel
theorem dX6_require_105 : decode cX6_require 105 = .ok (.ishl, 1) := by decide +kernel
theorem dX6_require_106 : decode cX6_require 106 = .ok (.ior, 1) := by decide +kernel
theorem dX6_require_107 : decode cX6_require 107 = .ok (.iastore, 1) := by decide +kernel
theorem dX6_require_108 : decode cX6_require 108 = .ok (.iinc 5 1, 3) := by decide +kernel
theorem dX6_require_111 : decode cX6_require 111 = .ok (.goto (-35), 3) := by decide +kernel
theorem dX6_require_114 : decode cX6_require 114 = .ok (.return_, 1) := by decide +kernel
theorem dX6_withNothing_0 : decode cX6_withNothing 0 = .ok (.iload_n 1, 1) := by decide +kernel
theorem dX6_withNothing_1 : decode cX6_withNothing 1 = .ok (.iconst 1, 1) := by decide +kernel
theorem dX6_withNothing_2 : decode cX6_withNothing 2 = .ok (.aload_n 0, 1) := by decide +kernel
theorem dX6_withNothing_3 : decode cX6_withNothing 3 = .ok (.getfield 9, 3) := by decide +kernel
theorem dX6_withNothing_6 : decode cX6_withNothing 6 = .ok (.iconst 1, 1) := by decide +kernel
theorem dX6_withNothing_7 : decode cX6_withNothing 7 = .ok (.isub, 1) := by decide +kernel
theorem dX6_withNothing_8 : decode cX6_withNothing 8 = .ok (.ishl, 1) := by decide +kernel
theorem dX6_withNothing_9 : decode cX6_withNothing 9 = .ok (.ior, 1) := by decide +kernel
theorem dX6_withNothing_10 : decode cX6_withNothing 10 = .ok (.ireturn, 1) := by decide +kernel
theorem dX6_mayFollow_0 : decode cX6_mayFollow 0 = .ok (.iload_n 1, 1) := by decide +kernel
theorem dX6_mayFollow_1 : decode cX6_mayFollow 1 = .ok (.iload_n 2, 1) := by decide +kernel
theorem dX6_mayFollow_2 : decode cX6_mayFollow 2 = .ok (.invokestatic 41, 3) := by decide +kernel
theorem dX6_mayFollow_5 : decode cX6_mayFollow 5 = .ok (.ifCond .ne 20, 3) := by decide +kernel
theorem dX6_mayFollow_8 : decode cX6_mayFollow 8 = .ok (.aload_n 0, 1) := by decide +kernel
theorem dX6_mayFollow_9 : decode cX6_mayFollow 9 = .ok (.getfield 15, 3) := by decide +kernel
theorem dX6_mayFollow_12 : decode cX6_mayFollow 12 = .ok (.iload_n 1, 1) := by decide +kernel
theorem dX6_mayFollow_13 : decode cX6_mayFollow 13 = .ok (.iaload, 1) := by decide +kernel
theorem dX6_mayFollow_14 : decode cX6_mayFollow 14 = .ok (.iload_n 2, 1) := by decide +kernel
theorem dX6_mayFollow_15 : decode cX6_mayFollow 15 = .ok (.iconst (-1), 1) := by decide +kernel
theorem dX6_mayFollow_16 : decode cX6_mayFollow 16 = .ok (.ixor, 1) := by decide +kernel
theorem dX6_mayFollow_17 : decode cX6_mayFollow 17 = .ok (.iand, 1) := by decide +kernel
theorem dX6_mayFollow_18 : decode cX6_mayFollow 18 = .ok (.ifCond .ne 7, 3) := by decide +kernel
theorem dX6_mayFollow_21 : decode cX6_mayFollow 21 = .ok (.iconst 1, 1) := by decide +kernel
theorem dX6_mayFollow_22 : decode cX6_mayFollow 22 = .ok (.goto 4, 3) := by decide +kernel
theorem dX6_mayFollow_25 : decode cX6_mayFollow 25 = .ok (.iconst 0, 1) := by decide +kernel
theorem dX6_mayFollow_26 : decode cX6_mayFollow 26 = .ok (.ireturn, 1) := by decide +kernel
theorem dX6_countAgreeing_0 : decode cX6_countAgreeing 0 = .ok (.iconst 1, 1) := by decide +kernel
theorem dX6_countAgreeing_1 : decode cX6_countAgreeing 1 = .ok (.aload_n 0, 1) := by decide +kernel
theorem dX6_countAgreeing_2 : decode cX6_countAgreeing 2 = .ok (.getfield 9, 3) := by decide +kernel
theorem dX6_countAgreeing_5 : decode cX6_countAgreeing 5 = .ok (.ishl, 1) := by decide +kernel
theorem dX6_countAgreeing_6 : decode cX6_countAgreeing 6 = .ok (.iconst 1, 1) := by decide +kernel
theorem dX6_countAgreeing_7 : decode cX6_countAgreeing 7 = .ok (.isub, 1) := by decide +kernel
theorem dX6_countAgreeing_8 : decode cX6_countAgreeing 8 = .ok (.istore_n 1, 1) := by decide +kernel
theorem dX6_countAgreeing_9 : decode cX6_countAgreeing 9 = .ok (.iconst 0, 1) := by decide +kernel
theorem dX6_countAgreeing_10 : decode cX6_countAgreeing 10 = .ok (.istore_n 2, 1) := by decide +kernel
theorem dX6_countAgreeing_11 : decode cX6_countAgreeing 11 = .ok (.iload_n 2, 1) := by decide +kernel
theorem dX6_countAgreeing_12 : decode cX6_countAgreeing 12 = .ok (.iload_n 1, 1) := by decide +kernel
theorem dX6_countAgreeing_13 : decode cX6_countAgreeing 13 = .ok (.if_icmp .gt 16, 3) := by decide +kernel
theorem dX6_countAgreeing_16 : decode cX6_countAgreeing 16 = .ok (.aload_n 0, 1) := by decide +kernel
theorem dX6_countAgreeing_17 : decode cX6_countAgreeing 17 = .ok (.getfield 25, 3) := by decide +kernel
theorem dX6_countAgreeing_20 : decode cX6_countAgreeing 20 = .ok (.iload_n 2, 1) := by decide +kernel
theorem dX6_countAgreeing_21 : decode cX6_countAgreeing 21 = .ok (.iconst 0, 1) := by decide +kernel
theorem dX6_countAgreeing_22 : decode cX6_countAgreeing 22 = .ok (.iastore, 1) := by decide +kernel
theorem dX6_countAgreeing_23 : decode cX6_countAgreeing 23 = .ok (.iinc 2 1, 3) := by decide +kernel
theorem dX6_countAgreeing_26 : decode cX6_countAgreeing 26 = .ok (.goto (-15), 3) := by decide +kernel
theorem dX6_countAgreeing_29 : decode cX6_countAgreeing 29 = .ok (.aload_n 0, 1) := by decide +kernel
theorem dX6_countAgreeing_30 : decode cX6_countAgreeing 30 = .ok (.getfield 25, 3) := by decide +kernel
theorem dX6_countAgreeing_33 : decode cX6_countAgreeing 33 = .ok (.iconst 0, 1) := by decide +kernel
theorem dX6_countAgreeing_34 : decode cX6_countAgreeing 34 = .ok (.iconst 1, 1) := by decide +kernel
theorem dX6_countAgreeing_35 : decode cX6_countAgreeing 35 = .ok (.iastore, 1) := by decide +kernel
theorem dX6_countAgreeing_36 : decode cX6_countAgreeing 36 = .ok (.iconst 0, 1) := by decide +kernel
theorem dX6_countAgreeing_37 : decode cX6_countAgreeing 37 = .ok (.istore_n 2, 1) := by decide +kernel
theorem dX6_countAgreeing_38 : decode cX6_countAgreeing 38 = .ok (.iload_n 2, 1) := by decide +kernel
theorem dX6_countAgreeing_39 : decode cX6_countAgreeing 39 = .ok (.iload_n 1, 1) := by decide +kernel
theorem dX6_countAgreeing_40 : decode cX6_countAgreeing 40 = .ok (.if_icmp .ge 62, 3) := by decide +kernel
theorem dX6_countAgreeing_43 : decode cX6_countAgreeing 43 = .ok (.iconst 0, 1) := by decide +kernel
theorem dX6_countAgreeing_44 : decode cX6_countAgreeing 44 = .ok (.istore_n 3, 1) := by decide +kernel
theorem dX6_countAgreeing_45 : decode cX6_countAgreeing 45 = .ok (.iload_n 3, 1) := by decide +kernel
theorem dX6_countAgreeing_46 : decode cX6_countAgreeing 46 = .ok (.aload_n 0, 1) := by decide +kernel
theorem dX6_countAgreeing_47 : decode cX6_countAgreeing 47 = .ok (.getfield 9, 3) := by decide +kernel
theorem dX6_countAgreeing_50 : decode cX6_countAgreeing 50 = .ok (.if_icmp .ge 46, 3) := by decide +kernel
theorem dX6_countAgreeing_53 : decode cX6_countAgreeing 53 = .ok (.aload_n 0, 1) := by decide +kernel
theorem dX6_countAgreeing_54 : decode cX6_countAgreeing 54 = .ok (.getfield 25, 3) := by decide +kernel
theorem dX6_countAgreeing_57 : decode cX6_countAgreeing 57 = .ok (.iload_n 2, 1) := by decide +kernel
theorem dX6_countAgreeing_58 : decode cX6_countAgreeing 58 = .ok (.iaload, 1) := by decide +kernel
theorem dX6_countAgreeing_59 : decode cX6_countAgreeing 59 = .ok (.ifCond .le 37, 3) := by decide +kernel
theorem dX6_countAgreeing_62 : decode cX6_countAgreeing 62 = .ok (.aload_n 0, 1) := by decide +kernel
theorem dX6_countAgreeing_63 : decode cX6_countAgreeing 63 = .ok (.iload_n 3, 1) := by decide +kernel
theorem dX6_countAgreeing_64 : decode cX6_countAgreeing 64 = .ok (.iload_n 2, 1) := by decide +kernel
theorem dX6_countAgreeing_65 : decode cX6_countAgreeing 65 = .ok (.invokevirtual 45, 3) := by decide +kernel
theorem dX6_countAgreeing_68 : decode cX6_countAgreeing 68 = .ok (.ifCond .eq 22, 3) := by decide +kernel
theorem dX6_countAgreeing_71 : decode cX6_countAgreeing 71 = .ok (.aload_n 0, 1) := by decide +kernel
theorem dX6_countAgreeing_72 : decode cX6_countAgreeing 72 = .ok (.getfield 25, 3) := by decide +kernel
theorem dX6_countAgreeing_75 : decode cX6_countAgreeing 75 = .ok (.iload_n 2, 1) := by decide +kernel
theorem dX6_countAgreeing_76 : decode cX6_countAgreeing 76 = .ok (.iconst 1, 1) := by decide +kernel
theorem dX6_countAgreeing_77 : decode cX6_countAgreeing 77 = .ok (.iload_n 3, 1) := by decide +kernel
theorem dX6_countAgreeing_78 : decode cX6_countAgreeing 78 = .ok (.ishl, 1) := by decide +kernel
theorem dX6_countAgreeing_79 : decode cX6_countAgreeing 79 = .ok (.ior, 1) := by decide +kernel
theorem dX6_countAgreeing_80 : decode cX6_countAgreeing 80 = .ok (.dup2, 1) := by decide +kernel
theorem dX6_countAgreeing_81 : decode cX6_countAgreeing 81 = .ok (.iaload, 1) := by decide +kernel
theorem dX6_countAgreeing_82 : decode cX6_countAgreeing 82 = .ok (.aload_n 0, 1) := by decide +kernel
theorem dX6_countAgreeing_83 : decode cX6_countAgreeing 83 = .ok (.getfield 25, 3) := by decide +kernel
theorem dX6_countAgreeing_86 : decode cX6_countAgreeing 86 = .ok (.iload_n 2, 1) := by decide +kernel
theorem dX6_countAgreeing_87 : decode cX6_countAgreeing 87 = .ok (.iaload, 1) := by decide +kernel
theorem dX6_countAgreeing_88 : decode cX6_countAgreeing 88 = .ok (.iadd, 1) := by decide +kernel
theorem dX6_countAgreeing_89 : decode cX6_countAgreeing 89 = .ok (.iastore, 1) := by decide +kernel
theorem dX6_countAgreeing_90 : decode cX6_countAgreeing 90 = .ok (.iinc 3 1, 3) := by decide +kernel
theorem dX6_countAgreeing_93 : decode cX6_countAgreeing 93 = .ok (.goto (-48), 3) := by decide +kernel
theorem dX6_countAgreeing_96 : decode cX6_countAgreeing 96 = .ok (.iinc 2 1, 3) := by decide +kernel
theorem dX6_countAgreeing_99 : decode cX6_countAgreeing 99 = .ok (.goto (-61), 3) := by decide +kernel
theorem dX6_countAgreeing_102 : decode cX6_countAgreeing 102 = .ok (.aload_n 0, 1) := by decide +kernel
theorem dX6_countAgreeing_103 : decode cX6_countAgreeing 103 = .ok (.iload_n 1, 1) := by decide +kernel
theorem dX6_countAgreeing_104 : decode cX6_countAgreeing 104 = .ok (.invokevirtual 48, 3) := by decide +kernel
theorem dX6_countAgreeing_107 : decode cX6_countAgreeing 107 = .ok (.aload_n 0, 1) := by decide +kernel
theorem dX6_countAgreeing_108 : decode cX6_countAgreeing 108 = .ok (.getfield 25, 3) := by decide +kernel
theorem dX6_countAgreeing_111 : decode cX6_countAgreeing 111 = .ok (.iload_n 1, 1) := by decide +kernel
theorem dX6_countAgreeing_112 : decode cX6_countAgreeing 112 = .ok (.iaload, 1) := by decide +kernel
theorem dX6_countAgreeing_113 : decode cX6_countAgreeing 113 = .ok (.ireturn, 1) := by decide +kernel
theorem dX6_countRests_0 : decode cX6_countRests 0 = .ok (.aload_n 0, 1) := by decide +kernel
theorem dX6_countRests_1 : decode cX6_countRests 1 = .ok (.getfield 28, 3) := by decide +kernel
theorem dX6_countRests_4 : decode cX6_countRests 4 = .ok (.iload_n 1, 1) := by decide +kernel
theorem dX6_countRests_5 : decode cX6_countRests 5 = .ok (.iconst 1, 1) := by decide +kernel
theorem dX6_countRests_6 : decode cX6_countRests 6 = .ok (.iastore, 1) := by decide +kernel
theorem dX6_countRests_7 : decode cX6_countRests 7 = .ok (.iload_n 1, 1) := by decide +kernel
theorem dX6_countRests_8 : decode cX6_countRests 8 = .ok (.iconst 1, 1) := by decide +kernel
theorem dX6_countRests_9 : decode cX6_countRests 9 = .ok (.isub, 1) := by decide +kernel
theorem dX6_countRests_10 : decode cX6_countRests 10 = .ok (.istore_n 2, 1) := by decide +kernel
theorem dX6_countRests_11 : decode cX6_countRests 11 = .ok (.iload_n 2, 1) := by decide +kernel
theorem dX6_countRests_12 : decode cX6_countRests 12 = .ok (.ifCond .lt 69, 3) := by decide +kernel
theorem dX6_countRests_15 : decode cX6_countRests 15 = .ok (.aload_n 0, 1) := by decide +kernel
theorem dX6_countRests_16 : decode cX6_countRests 16 = .ok (.getfield 28, 3) := by decide +kernel
theorem dX6_countRests_19 : decode cX6_countRests 19 = .ok (.iload_n 2, 1) := by decide +kernel
theorem dX6_countRests_20 : decode cX6_countRests 20 = .ok (.iconst 0, 1) := by decide +kernel
theorem dX6_countRests_21 : decode cX6_countRests 21 = .ok (.iastore, 1) := by decide +kernel
theorem dX6_countRests_22 : decode cX6_countRests 22 = .ok (.iconst 0, 1) := by decide +kernel
theorem dX6_countRests_23 : decode cX6_countRests 23 = .ok (.istore_n 3, 1) := by decide +kernel
theorem dX6_countRests_24 : decode cX6_countRests 24 = .ok (.iload_n 3, 1) := by decide +kernel
theorem dX6_countRests_25 : decode cX6_countRests 25 = .ok (.aload_n 0, 1) := by decide +kernel
theorem dX6_countRests_26 : decode cX6_countRests 26 = .ok (.getfield 9, 3) := by decide +kernel
theorem dX6_countRests_29 : decode cX6_countRests 29 = .ok (.if_icmp .ge 46, 3) := by decide +kernel
theorem dX6_countRests_32 : decode cX6_countRests 32 = .ok (.aload_n 0, 1) := by decide +kernel
theorem dX6_countRests_33 : decode cX6_countRests 33 = .ok (.getfield 25, 3) := by decide +kernel
theorem dX6_countRests_36 : decode cX6_countRests 36 = .ok (.iload_n 2, 1) := by decide +kernel
theorem dX6_countRests_37 : decode cX6_countRests 37 = .ok (.iaload, 1) := by decide +kernel
theorem dX6_countRests_38 : decode cX6_countRests 38 = .ok (.ifCond .le 37, 3) := by decide +kernel
theorem dX6_countRests_41 : decode cX6_countRests 41 = .ok (.aload_n 0, 1) := by decide +kernel
theorem dX6_countRests_42 : decode cX6_countRests 42 = .ok (.iload_n 3, 1) := by decide +kernel
theorem dX6_countRests_43 : decode cX6_countRests 43 = .ok (.iload_n 2, 1) := by decide +kernel
theorem dX6_countRests_44 : decode cX6_countRests 44 = .ok (.invokevirtual 45, 3) := by decide +kernel
theorem dX6_countRests_47 : decode cX6_countRests 47 = .ok (.ifCond .eq 22, 3) := by decide +kernel
theorem dX6_countRests_50 : decode cX6_countRests 50 = .ok (.aload_n 0, 1) := by decide +kernel
theorem dX6_countRests_51 : decode cX6_countRests 51 = .ok (.getfield 28, 3) := by decide +kernel
theorem dX6_countRests_54 : decode cX6_countRests 54 = .ok (.iload_n 2, 1) := by decide +kernel
theorem dX6_countRests_55 : decode cX6_countRests 55 = .ok (.dup2, 1) := by decide +kernel
theorem dX6_countRests_56 : decode cX6_countRests 56 = .ok (.iaload, 1) := by decide +kernel
theorem dX6_countRests_57 : decode cX6_countRests 57 = .ok (.aload_n 0, 1) := by decide +kernel
theorem dX6_countRests_58 : decode cX6_countRests 58 = .ok (.getfield 28, 3) := by decide +kernel
theorem dX6_countRests_61 : decode cX6_countRests 61 = .ok (.iload_n 2, 1) := by decide +kernel
theorem dX6_countRests_62 : decode cX6_countRests 62 = .ok (.iconst 1, 1) := by decide +kernel
theorem dX6_countRests_63 : decode cX6_countRests 63 = .ok (.iload_n 3, 1) := by decide +kernel
theorem dX6_countRests_64 : decode cX6_countRests 64 = .ok (.ishl, 1) := by decide +kernel
theorem dX6_countRests_65 : decode cX6_countRests 65 = .ok (.ior, 1) := by decide +kernel
theorem dX6_countRests_66 : decode cX6_countRests 66 = .ok (.iaload, 1) := by decide +kernel
theorem dX6_countRests_67 : decode cX6_countRests 67 = .ok (.iadd, 1) := by decide +kernel
theorem dX6_countRests_68 : decode cX6_countRests 68 = .ok (.iastore, 1) := by decide +kernel
theorem dX6_countRests_69 : decode cX6_countRests 69 = .ok (.iinc 3 1, 3) := by decide +kernel
theorem dX6_countRests_72 : decode cX6_countRests 72 = .ok (.goto (-48), 3) := by decide +kernel
theorem dX6_countRests_75 : decode cX6_countRests 75 = .ok (.iinc 2 (-1), 3) := by decide +kernel
theorem dX6_countRests_78 : decode cX6_countRests 78 = .ok (.goto (-67), 3) := by decide +kernel
theorem dX6_countRests_81 : decode cX6_countRests 81 = .ok (.return_, 1) := by decide +kernel
theorem dX6_countTakes_0 : decode cX6_countTakes 0 = .ok (.aload_n 0, 1) := by decide +kernel
theorem dX6_countTakes_1 : decode cX6_countTakes 1 = .ok (.iload_n 1, 1) := by decide +kernel
theorem dX6_countTakes_2 : decode cX6_countTakes 2 = .ok (.invokevirtual 37, 3) := by decide +kernel
theorem dX6_countTakes_5 : decode cX6_countTakes 5 = .ok (.istore_n 2, 1) := by decide +kernel
theorem dX6_countTakes_6 : decode cX6_countTakes 6 = .ok (.iconst 1, 1) := by decide +kernel
theorem dX6_countTakes_7 : decode cX6_countTakes 7 = .ok (.aload_n 0, 1) := by decide +kernel
theorem dX6_countTakes_8 : decode cX6_countTakes 8 = .ok (.getfield 9, 3) := by decide +kernel
theorem dX6_countTakes_11 : decode cX6_countTakes 11 = .ok (.ishl, 1) := by decide +kernel
theorem dX6_countTakes_12 : decode cX6_countTakes 12 = .ok (.iconst 1, 1) := by decide +kernel
theorem dX6_countTakes_13 : decode cX6_countTakes 13 = .ok (.isub, 1) := by decide +kernel
theorem dX6_countTakes_14 : decode cX6_countTakes 14 = .ok (.istore_n 3, 1) := by decide +kernel
theorem dX6_countTakes_15 : decode cX6_countTakes 15 = .ok (.iconst 0, 1) := by decide +kernel
theorem dX6_countTakes_16 : decode cX6_countTakes 16 = .ok (.istore 4, 2) := by decide +kernel
theorem dX6_countTakes_18 : decode cX6_countTakes 18 = .ok (.iload 4, 2) := by decide +kernel
theorem dX6_countTakes_20 : decode cX6_countTakes 20 = .ok (.aload_n 0, 1) := by decide +kernel
theorem dX6_countTakes_21 : decode cX6_countTakes 21 = .ok (.getfield 9, 3) := by decide +kernel
theorem dX6_countTakes_24 : decode cX6_countTakes 24 = .ok (.if_icmp .ge 17, 3) := by decide +kernel
theorem dX6_countTakes_27 : decode cX6_countTakes 27 = .ok (.aload_n 0, 1) := by decide +kernel
theorem dX6_countTakes_28 : decode cX6_countTakes 28 = .ok (.getfield 31, 3) := by decide +kernel
theorem dX6_countTakes_31 : decode cX6_countTakes 31 = .ok (.iload 4, 2) := by decide +kernel
theorem dX6_countTakes_33 : decode cX6_countTakes 33 = .ok (.iconst 0, 1) := by decide +kernel
theorem dX6_countTakes_34 : decode cX6_countTakes 34 = .ok (.iastore, 1) := by decide +kernel
theorem dX6_countTakes_35 : decode cX6_countTakes 35 = .ok (.iinc 4 1, 3) := by decide +kernel
theorem dX6_countTakes_38 : decode cX6_countTakes 38 = .ok (.goto (-20), 3) := by decide +kernel
theorem dX6_countTakes_41 : decode cX6_countTakes 41 = .ok (.iconst 0, 1) := by decide +kernel
theorem dX6_countTakes_42 : decode cX6_countTakes 42 = .ok (.istore 4, 2) := by decide +kernel
theorem dX6_countTakes_44 : decode cX6_countTakes 44 = .ok (.iload 4, 2) := by decide +kernel
theorem dX6_countTakes_46 : decode cX6_countTakes 46 = .ok (.iload_n 3, 1) := by decide +kernel
theorem dX6_countTakes_47 : decode cX6_countTakes 47 = .ok (.if_icmp .ge 97, 3) := by decide +kernel
theorem dX6_countTakes_50 : decode cX6_countTakes 50 = .ok (.iload 4, 2) := by decide +kernel
theorem dX6_countTakes_52 : decode cX6_countTakes 52 = .ok (.iload_n 2, 1) := by decide +kernel
theorem dX6_countTakes_53 : decode cX6_countTakes 53 = .ok (.iand, 1) := by decide +kernel
theorem dX6_countTakes_54 : decode cX6_countTakes 54 = .ok (.ifCond .ne 84, 3) := by decide +kernel
theorem dX6_countTakes_57 : decode cX6_countTakes 57 = .ok (.aload_n 0, 1) := by decide +kernel
theorem dX6_countTakes_58 : decode cX6_countTakes 58 = .ok (.getfield 25, 3) := by decide +kernel
theorem dX6_countTakes_61 : decode cX6_countTakes 61 = .ok (.iload 4, 2) := by decide +kernel
theorem dX6_countTakes_63 : decode cX6_countTakes 63 = .ok (.iaload, 1) := by decide +kernel
theorem dX6_countTakes_64 : decode cX6_countTakes 64 = .ok (.ifCond .ne 6, 3) := by decide +kernel
theorem dX6_countTakes_67 : decode cX6_countTakes 67 = .ok (.goto 71, 3) := by decide +kernel
theorem dX6_countTakes_70 : decode cX6_countTakes 70 = .ok (.iconst 0, 1) := by decide +kernel
theorem dX6_countTakes_71 : decode cX6_countTakes 71 = .ok (.istore 5, 2) := by decide +kernel
theorem dX6_countTakes_73 : decode cX6_countTakes 73 = .ok (.iload 5, 2) := by decide +kernel
theorem dX6_countTakes_75 : decode cX6_countTakes 75 = .ok (.aload_n 0, 1) := by decide +kernel
theorem dX6_countTakes_76 : decode cX6_countTakes 76 = .ok (.getfield 9, 3) := by decide +kernel
theorem dX6_countTakes_79 : decode cX6_countTakes 79 = .ok (.if_icmp .ge 59, 3) := by decide +kernel
theorem dX6_countTakes_82 : decode cX6_countTakes 82 = .ok (.iload 5, 2) := by decide +kernel
theorem dX6_countTakes_84 : decode cX6_countTakes 84 = .ok (.iload_n 2, 1) := by decide +kernel
theorem dX6_countTakes_85 : decode cX6_countTakes 85 = .ok (.invokestatic 41, 3) := by decide +kernel
theorem dX6_countTakes_88 : decode cX6_countTakes 88 = .ok (.ifCond .eq 44, 3) := by decide +kernel
theorem dX6_countTakes_91 : decode cX6_countTakes 91 = .ok (.aload_n 0, 1) := by decide +kernel
theorem dX6_countTakes_92 : decode cX6_countTakes 92 = .ok (.iload 5, 2) := by decide +kernel
theorem dX6_countTakes_94 : decode cX6_countTakes 94 = .ok (.iload 4, 2) := by decide +kernel
theorem dX6_countTakes_96 : decode cX6_countTakes 96 = .ok (.invokevirtual 45, 3) := by decide +kernel
theorem dX6_countTakes_99 : decode cX6_countTakes 99 = .ok (.ifCond .eq 33, 3) := by decide +kernel
theorem dX6_countTakes_102 : decode cX6_countTakes 102 = .ok (.aload_n 0, 1) := by decide +kernel
theorem dX6_countTakes_103 : decode cX6_countTakes 103 = .ok (.getfield 31, 3) := by decide +kernel
theorem dX6_countTakes_106 : decode cX6_countTakes 106 = .ok (.iload 5, 2) := by decide +kernel
theorem dX6_countTakes_108 : decode cX6_countTakes 108 = .ok (.dup2, 1) := by decide +kernel
theorem dX6_countTakes_109 : decode cX6_countTakes 109 = .ok (.iaload, 1) := by decide +kernel
theorem dX6_countTakes_110 : decode cX6_countTakes 110 = .ok (.aload_n 0, 1) := by decide +kernel
theorem dX6_countTakes_111 : decode cX6_countTakes 111 = .ok (.getfield 25, 3) := by decide +kernel
theorem dX6_countTakes_114 : decode cX6_countTakes 114 = .ok (.iload 4, 2) := by decide +kernel
theorem dX6_countTakes_116 : decode cX6_countTakes 116 = .ok (.iaload, 1) := by decide +kernel
theorem dX6_countTakes_117 : decode cX6_countTakes 117 = .ok (.aload_n 0, 1) := by decide +kernel
theorem dX6_countTakes_118 : decode cX6_countTakes 118 = .ok (.getfield 28, 3) := by decide +kernel
theorem dX6_countTakes_121 : decode cX6_countTakes 121 = .ok (.iload 4, 2) := by decide +kernel
theorem dX6_countTakes_123 : decode cX6_countTakes 123 = .ok (.iconst 1, 1) := by decide +kernel
theorem dX6_countTakes_124 : decode cX6_countTakes 124 = .ok (.iload 5, 2) := by decide +kernel
theorem dX6_countTakes_126 : decode cX6_countTakes 126 = .ok (.ishl, 1) := by decide +kernel
theorem dX6_countTakes_127 : decode cX6_countTakes 127 = .ok (.ior, 1) := by decide +kernel
theorem dX6_countTakes_128 : decode cX6_countTakes 128 = .ok (.iaload, 1) := by decide +kernel
theorem dX6_countTakes_129 : decode cX6_countTakes 129 = .ok (.imul, 1) := by decide +kernel
theorem dX6_countTakes_130 : decode cX6_countTakes 130 = .ok (.iadd, 1) := by decide +kernel
theorem dX6_countTakes_131 : decode cX6_countTakes 131 = .ok (.iastore, 1) := by decide +kernel
theorem dX6_countTakes_132 : decode cX6_countTakes 132 = .ok (.iinc 5 1, 3) := by decide +kernel
theorem dX6_countTakes_135 : decode cX6_countTakes 135 = .ok (.goto (-62), 3) := by decide +kernel
theorem dX6_countTakes_138 : decode cX6_countTakes 138 = .ok (.iinc 4 1, 3) := by decide +kernel
theorem dX6_countTakes_141 : decode cX6_countTakes 141 = .ok (.goto (-97), 3) := by decide +kernel
theorem dX6_countTakes_144 : decode cX6_countTakes 144 = .ok (.return_, 1) := by decide +kernel
theorem dX6_mostTakes_0 : decode cX6_mostTakes 0 = .ok (.iconst 0, 1) := by decide +kernel
theorem dX6_mostTakes_1 : decode cX6_mostTakes 1 = .ok (.istore_n 1, 1) := by decide +kernel
theorem dX6_mostTakes_2 : decode cX6_mostTakes 2 = .ok (.iconst 0, 1) := by decide +kernel
theorem dX6_mostTakes_3 : decode cX6_mostTakes 3 = .ok (.istore_n 2, 1) := by decide +kernel
theorem dX6_mostTakes_4 : decode cX6_mostTakes 4 = .ok (.iload_n 2, 1) := by decide +kernel
theorem dX6_mostTakes_5 : decode cX6_mostTakes 5 = .ok (.aload_n 0, 1) := by decide +kernel
theorem dX6_mostTakes_6 : decode cX6_mostTakes 6 = .ok (.getfield 9, 3) := by decide +kernel
theorem dX6_mostTakes_9 : decode cX6_mostTakes 9 = .ok (.if_icmp .ge 20, 3) := by decide +kernel
theorem dX6_mostTakes_12 : decode cX6_mostTakes 12 = .ok (.iload_n 1, 1) := by decide +kernel
theorem dX6_mostTakes_13 : decode cX6_mostTakes 13 = .ok (.aload_n 0, 1) := by decide +kernel
theorem dX6_mostTakes_14 : decode cX6_mostTakes 14 = .ok (.getfield 31, 3) := by decide +kernel
theorem dX6_mostTakes_17 : decode cX6_mostTakes 17 = .ok (.iload_n 2, 1) := by decide +kernel
theorem dX6_mostTakes_18 : decode cX6_mostTakes 18 = .ok (.iaload, 1) := by decide +kernel
theorem dX6_mostTakes_19 : decode cX6_mostTakes 19 = .ok (.invokestatic 52, 3) := by decide +kernel
theorem dX6_mostTakes_22 : decode cX6_mostTakes 22 = .ok (.istore_n 1, 1) := by decide +kernel
theorem dX6_mostTakes_23 : decode cX6_mostTakes 23 = .ok (.iinc 2 1, 3) := by decide +kernel
theorem dX6_mostTakes_26 : decode cX6_mostTakes 26 = .ok (.goto (-22), 3) := by decide +kernel
theorem dX6_mostTakes_29 : decode cX6_mostTakes 29 = .ok (.iload_n 1, 1) := by decide +kernel
theorem dX6_mostTakes_30 : decode cX6_mostTakes 30 = .ok (.ireturn, 1) := by decide +kernel
theorem dX6_takenBits_0 : decode cX6_takenBits 0 = .ok (.iconst 0, 1) := by decide +kernel
theorem dX6_takenBits_1 : decode cX6_takenBits 1 = .ok (.istore_n 1, 1) := by decide +kernel
theorem dX6_takenBits_2 : decode cX6_takenBits 2 = .ok (.iconst 0, 1) := by decide +kernel
theorem dX6_takenBits_3 : decode cX6_takenBits 3 = .ok (.istore_n 2, 1) := by decide +kernel
theorem dX6_takenBits_4 : decode cX6_takenBits 4 = .ok (.iload_n 2, 1) := by decide +kernel
theorem dX6_takenBits_5 : decode cX6_takenBits 5 = .ok (.aload_n 0, 1) := by decide +kernel
theorem dX6_takenBits_6 : decode cX6_takenBits 6 = .ok (.getfield 9, 3) := by decide +kernel
theorem dX6_takenBits_9 : decode cX6_takenBits 9 = .ok (.if_icmp .ge 39, 3) := by decide +kernel
theorem dX6_takenBits_12 : decode cX6_takenBits 12 = .ok (.aload_n 0, 1) := by decide +kernel
theorem dX6_takenBits_13 : decode cX6_takenBits 13 = .ok (.getfield 31, 3) := by decide +kernel
theorem dX6_takenBits_16 : decode cX6_takenBits 16 = .ok (.iload_n 2, 1) := by decide +kernel
theorem dX6_takenBits_17 : decode cX6_takenBits 17 = .ok (.iaload, 1) := by decide +kernel
theorem dX6_takenBits_18 : decode cX6_takenBits 18 = .ok (.ifCond .le 24, 3) := by decide +kernel
theorem dX6_takenBits_21 : decode cX6_takenBits 21 = .ok (.iload_n 1, 1) := by decide +kernel
theorem dX6_takenBits_22 : decode cX6_takenBits 22 = .ok (.iconst 1, 1) := by decide +kernel
theorem dX6_takenBits_23 : decode cX6_takenBits 23 = .ok (.iload_n 2, 1) := by decide +kernel
theorem dX6_takenBits_24 : decode cX6_takenBits 24 = .ok (.aload_n 0, 1) := by decide +kernel
theorem dX6_takenBits_25 : decode cX6_takenBits 25 = .ok (.getfield 9, 3) := by decide +kernel
theorem dX6_takenBits_28 : decode cX6_takenBits 28 = .ok (.iconst 1, 1) := by decide +kernel
theorem dX6_takenBits_29 : decode cX6_takenBits 29 = .ok (.isub, 1) := by decide +kernel
theorem dX6_takenBits_30 : decode cX6_takenBits 30 = .ok (.if_icmp .ne 8, 3) := by decide +kernel
theorem dX6_takenBits_33 : decode cX6_takenBits 33 = .ok (.bipush 7, 2) := by decide +kernel
theorem dX6_takenBits_35 : decode cX6_takenBits 35 = .ok (.goto 4, 3) := by decide +kernel
theorem dX6_takenBits_38 : decode cX6_takenBits 38 = .ok (.iload_n 2, 1) := by decide +kernel
theorem dX6_takenBits_39 : decode cX6_takenBits 39 = .ok (.ishl, 1) := by decide +kernel
theorem dX6_takenBits_40 : decode cX6_takenBits 40 = .ok (.ior, 1) := by decide +kernel
theorem dX6_takenBits_41 : decode cX6_takenBits 41 = .ok (.istore_n 1, 1) := by decide +kernel
theorem dX6_takenBits_42 : decode cX6_takenBits 42 = .ok (.iinc 2 1, 3) := by decide +kernel
theorem dX6_takenBits_45 : decode cX6_takenBits 45 = .ok (.goto (-41), 3) := by decide +kernel
theorem dX6_takenBits_48 : decode cX6_takenBits 48 = .ok (.iload_n 1, 1) := by decide +kernel
theorem dX6_takenBits_49 : decode cX6_takenBits 49 = .ok (.ireturn, 1) := by decide +kernel
theorem dX6_fewestBroken_0 : decode cX6_fewestBroken 0 = .ok (.iconst 1, 1) := by decide +kernel
theorem dX6_fewestBroken_1 : decode cX6_fewestBroken 1 = .ok (.aload_n 0, 1) := by decide +kernel
theorem dX6_fewestBroken_2 : decode cX6_fewestBroken 2 = .ok (.getfield 9, 3) := by decide +kernel
theorem dX6_fewestBroken_5 : decode cX6_fewestBroken 5 = .ok (.ishl, 1) := by decide +kernel
theorem dX6_fewestBroken_6 : decode cX6_fewestBroken 6 = .ok (.iconst 1, 1) := by decide +kernel
theorem dX6_fewestBroken_7 : decode cX6_fewestBroken 7 = .ok (.isub, 1) := by decide +kernel
theorem dX6_fewestBroken_8 : decode cX6_fewestBroken 8 = .ok (.istore_n 1, 1) := by decide +kernel
theorem dX6_fewestBroken_9 : decode cX6_fewestBroken 9 = .ok (.aload_n 0, 1) := by decide +kernel
theorem dX6_fewestBroken_10 : decode cX6_fewestBroken 10 = .ok (.getfield 25, 3) := by decide +kernel
theorem dX6_fewestBroken_13 : decode cX6_fewestBroken 13 = .ok (.astore_n 2, 1) := by decide +kernel
theorem dX6_fewestBroken_14 : decode cX6_fewestBroken 14 = .ok (.aload_n 0, 1) := by decide +kernel
theorem dX6_fewestBroken_15 : decode cX6_fewestBroken 15 = .ok (.getfield 31, 3) := by decide +kernel
theorem dX6_fewestBroken_18 : decode cX6_fewestBroken 18 = .ok (.astore_n 3, 1) := by decide +kernel
theorem dX6_fewestBroken_19 : decode cX6_fewestBroken 19 = .ok (.iconst 0, 1) := by decide +kernel
theorem dX6_fewestBroken_20 : decode cX6_fewestBroken 20 = .ok (.istore 4, 2) := by decide +kernel
theorem dX6_fewestBroken_22 : decode cX6_fewestBroken 22 = .ok (.iload 4, 2) := by decide +kernel
theorem dX6_fewestBroken_24 : decode cX6_fewestBroken 24 = .ok (.iload_n 1, 1) := by decide +kernel
theorem dX6_fewestBroken_25 : decode cX6_fewestBroken 25 = .ok (.if_icmp .gt 15, 3) := by decide +kernel
theorem dX6_fewestBroken_28 : decode cX6_fewestBroken 28 = .ok (.aload_n 2, 1) := by decide +kernel
theorem dX6_fewestBroken_29 : decode cX6_fewestBroken 29 = .ok (.iload 4, 2) := by decide +kernel
theorem dX6_fewestBroken_31 : decode cX6_fewestBroken 31 = .ok (.bipush 80, 2) := by decide +kernel
theorem dX6_fewestBroken_33 : decode cX6_fewestBroken 33 = .ok (.iastore, 1) := by decide +kernel
theorem dX6_fewestBroken_34 : decode cX6_fewestBroken 34 = .ok (.iinc 4 1, 3) := by decide +kernel
theorem dX6_fewestBroken_37 : decode cX6_fewestBroken 37 = .ok (.goto (-15), 3) := by decide +kernel
theorem dX6_fewestBroken_40 : decode cX6_fewestBroken 40 = .ok (.aload_n 2, 1) := by decide +kernel
theorem dX6_fewestBroken_41 : decode cX6_fewestBroken 41 = .ok (.iconst 0, 1) := by decide +kernel
theorem dX6_fewestBroken_42 : decode cX6_fewestBroken 42 = .ok (.iconst 0, 1) := by decide +kernel
theorem dX6_fewestBroken_43 : decode cX6_fewestBroken 43 = .ok (.iastore, 1) := by decide +kernel
theorem dX6_fewestBroken_44 : decode cX6_fewestBroken 44 = .ok (.iconst 0, 1) := by decide +kernel
theorem dX6_fewestBroken_45 : decode cX6_fewestBroken 45 = .ok (.istore 4, 2) := by decide +kernel
theorem dX6_fewestBroken_47 : decode cX6_fewestBroken 47 = .ok (.iload 4, 2) := by decide +kernel
theorem dX6_fewestBroken_49 : decode cX6_fewestBroken 49 = .ok (.iload_n 1, 1) := by decide +kernel
theorem dX6_fewestBroken_50 : decode cX6_fewestBroken 50 = .ok (.if_icmp .ge 73, 3) := by decide +kernel
theorem dX6_fewestBroken_53 : decode cX6_fewestBroken 53 = .ok (.aload_n 0, 1) := by decide +kernel
theorem dX6_fewestBroken_54 : decode cX6_fewestBroken 54 = .ok (.iload 4, 2) := by decide +kernel
theorem dX6_fewestBroken_56 : decode cX6_fewestBroken 56 = .ok (.aload_n 3, 1) := by decide +kernel
theorem dX6_fewestBroken_57 : decode cX6_fewestBroken 57 = .ok (.invokevirtual 58, 3) := by decide +kernel
theorem dX6_fewestBroken_60 : decode cX6_fewestBroken 60 = .ok (.iconst 0, 1) := by decide +kernel
theorem dX6_fewestBroken_61 : decode cX6_fewestBroken 61 = .ok (.istore 5, 2) := by decide +kernel
theorem dX6_fewestBroken_63 : decode cX6_fewestBroken 63 = .ok (.iload 5, 2) := by decide +kernel
theorem dX6_fewestBroken_65 : decode cX6_fewestBroken 65 = .ok (.aload_n 0, 1) := by decide +kernel
theorem dX6_fewestBroken_66 : decode cX6_fewestBroken 66 = .ok (.getfield 9, 3) := by decide +kernel
theorem dX6_fewestBroken_69 : decode cX6_fewestBroken 69 = .ok (.if_icmp .ge 48, 3) := by decide +kernel
theorem dX6_fewestBroken_72 : decode cX6_fewestBroken 72 = .ok (.iload 5, 2) := by decide +kernel
theorem dX6_fewestBroken_74 : decode cX6_fewestBroken 74 = .ok (.iload 4, 2) := by decide +kernel
theorem dX6_fewestBroken_76 : decode cX6_fewestBroken 76 = .ok (.invokestatic 41, 3) := by decide +kernel
theorem dX6_fewestBroken_79 : decode cX6_fewestBroken 79 = .ok (.ifCond .ne 32, 3) := by decide +kernel
theorem dX6_fewestBroken_82 : decode cX6_fewestBroken 82 = .ok (.iload 4, 2) := by decide +kernel
theorem dX6_fewestBroken_84 : decode cX6_fewestBroken 84 = .ok (.iconst 1, 1) := by decide +kernel
theorem dX6_fewestBroken_85 : decode cX6_fewestBroken 85 = .ok (.iload 5, 2) := by decide +kernel
theorem dX6_fewestBroken_87 : decode cX6_fewestBroken 87 = .ok (.ishl, 1) := by decide +kernel
theorem dX6_fewestBroken_88 : decode cX6_fewestBroken 88 = .ok (.ior, 1) := by decide +kernel
theorem dX6_fewestBroken_89 : decode cX6_fewestBroken 89 = .ok (.istore 6, 2) := by decide +kernel
theorem dX6_fewestBroken_91 : decode cX6_fewestBroken 91 = .ok (.aload_n 2, 1) := by decide +kernel
theorem dX6_fewestBroken_92 : decode cX6_fewestBroken 92 = .ok (.iload 6, 2) := by decide +kernel
theorem dX6_fewestBroken_94 : decode cX6_fewestBroken 94 = .ok (.aload_n 2, 1) := by decide +kernel
theorem dX6_fewestBroken_95 : decode cX6_fewestBroken 95 = .ok (.iload 6, 2) := by decide +kernel
theorem dX6_fewestBroken_97 : decode cX6_fewestBroken 97 = .ok (.iaload, 1) := by decide +kernel
theorem dX6_fewestBroken_98 : decode cX6_fewestBroken 98 = .ok (.aload_n 2, 1) := by decide +kernel
theorem dX6_fewestBroken_99 : decode cX6_fewestBroken 99 = .ok (.iload 4, 2) := by decide +kernel
theorem dX6_fewestBroken_101 : decode cX6_fewestBroken 101 = .ok (.iaload, 1) := by decide +kernel
theorem dX6_fewestBroken_102 : decode cX6_fewestBroken 102 = .ok (.aload_n 3, 1) := by decide +kernel
theorem dX6_fewestBroken_103 : decode cX6_fewestBroken 103 = .ok (.iload 5, 2) := by decide +kernel
theorem dX6_fewestBroken_105 : decode cX6_fewestBroken 105 = .ok (.iaload, 1) := by decide +kernel
theorem dX6_fewestBroken_106 : decode cX6_fewestBroken 106 = .ok (.iadd, 1) := by decide +kernel
theorem dX6_fewestBroken_107 : decode cX6_fewestBroken 107 = .ok (.invokestatic 62, 3) := by decide +kernel
theorem dX6_fewestBroken_110 : decode cX6_fewestBroken 110 = .ok (.iastore, 1) := by decide +kernel
theorem dX6_fewestBroken_111 : decode cX6_fewestBroken 111 = .ok (.iinc 5 1, 3) := by decide +kernel
theorem dX6_fewestBroken_114 : decode cX6_fewestBroken 114 = .ok (.goto (-51), 3) := by decide +kernel
theorem dX6_fewestBroken_117 : decode cX6_fewestBroken 117 = .ok (.iinc 4 1, 3) := by decide +kernel
theorem dX6_fewestBroken_120 : decode cX6_fewestBroken 120 = .ok (.goto (-73), 3) := by decide +kernel
theorem dX6_fewestBroken_123 : decode cX6_fewestBroken 123 = .ok (.aload_n 2, 1) := by decide +kernel
theorem dX6_fewestBroken_124 : decode cX6_fewestBroken 124 = .ok (.iload_n 1, 1) := by decide +kernel
theorem dX6_fewestBroken_125 : decode cX6_fewestBroken 125 = .ok (.iaload, 1) := by decide +kernel
theorem dX6_fewestBroken_126 : decode cX6_fewestBroken 126 = .ok (.ireturn, 1) := by decide +kernel
theorem dX6_countBroken_0 : decode cX6_countBroken 0 = .ok (.iconst 0, 1) := by decide +kernel
theorem dX6_countBroken_1 : decode cX6_countBroken 1 = .ok (.istore_n 3, 1) := by decide +kernel
theorem dX6_countBroken_2 : decode cX6_countBroken 2 = .ok (.iload_n 3, 1) := by decide +kernel
theorem dX6_countBroken_3 : decode cX6_countBroken 3 = .ok (.aload_n 0, 1) := by decide +kernel
theorem dX6_countBroken_4 : decode cX6_countBroken 4 = .ok (.getfield 9, 3) := by decide +kernel
theorem dX6_countBroken_7 : decode cX6_countBroken 7 = .ok (.if_icmp .ge 13, 3) := by decide +kernel
theorem dX6_countBroken_10 : decode cX6_countBroken 10 = .ok (.aload_n 2, 1) := by decide +kernel
theorem dX6_countBroken_11 : decode cX6_countBroken 11 = .ok (.iload_n 3, 1) := by decide +kernel
theorem dX6_countBroken_12 : decode cX6_countBroken 12 = .ok (.iconst 0, 1) := by decide +kernel
theorem dX6_countBroken_13 : decode cX6_countBroken 13 = .ok (.iastore, 1) := by decide +kernel
theorem dX6_countBroken_14 : decode cX6_countBroken 14 = .ok (.iinc 3 1, 3) := by decide +kernel
theorem dX6_countBroken_17 : decode cX6_countBroken 17 = .ok (.goto (-15), 3) := by decide +kernel
theorem dX6_countBroken_20 : decode cX6_countBroken 20 = .ok (.iconst 0, 1) := by decide +kernel
theorem dX6_countBroken_21 : decode cX6_countBroken 21 = .ok (.istore_n 3, 1) := by decide +kernel
theorem dX6_countBroken_22 : decode cX6_countBroken 22 = .ok (.iload_n 3, 1) := by decide +kernel
theorem dX6_countBroken_23 : decode cX6_countBroken 23 = .ok (.aload_n 0, 1) := by decide +kernel
theorem dX6_countBroken_24 : decode cX6_countBroken 24 = .ok (.getfield 34, 3) := by decide +kernel
theorem dX6_countBroken_27 : decode cX6_countBroken 27 = .ok (.if_icmp .ge 32, 3) := by decide +kernel
theorem dX6_countBroken_30 : decode cX6_countBroken 30 = .ok (.aload_n 0, 1) := by decide +kernel
theorem dX6_countBroken_31 : decode cX6_countBroken 31 = .ok (.getfield 22, 3) := by decide +kernel
theorem dX6_countBroken_34 : decode cX6_countBroken 34 = .ok (.iload_n 3, 1) := by decide +kernel
theorem dX6_countBroken_35 : decode cX6_countBroken 35 = .ok (.iaload, 1) := by decide +kernel
theorem dX6_countBroken_36 : decode cX6_countBroken 36 = .ok (.iload_n 1, 1) := by decide +kernel
theorem dX6_countBroken_37 : decode cX6_countBroken 37 = .ok (.iand, 1) := by decide +kernel
theorem dX6_countBroken_38 : decode cX6_countBroken 38 = .ok (.ifCond .eq 15, 3) := by decide +kernel
theorem dX6_countBroken_41 : decode cX6_countBroken 41 = .ok (.aload_n 2, 1) := by decide +kernel
theorem dX6_countBroken_42 : decode cX6_countBroken 42 = .ok (.aload_n 0, 1) := by decide +kernel
theorem dX6_countBroken_43 : decode cX6_countBroken 43 = .ok (.getfield 19, 3) := by decide +kernel
theorem dX6_countBroken_46 : decode cX6_countBroken 46 = .ok (.iload_n 3, 1) := by decide +kernel
theorem dX6_countBroken_47 : decode cX6_countBroken 47 = .ok (.iaload, 1) := by decide +kernel
theorem dX6_countBroken_48 : decode cX6_countBroken 48 = .ok (.dup2, 1) := by decide +kernel
theorem dX6_countBroken_49 : decode cX6_countBroken 49 = .ok (.iaload, 1) := by decide +kernel
theorem dX6_countBroken_50 : decode cX6_countBroken 50 = .ok (.iconst 1, 1) := by decide +kernel
theorem dX6_countBroken_51 : decode cX6_countBroken 51 = .ok (.iadd, 1) := by decide +kernel
theorem dX6_countBroken_52 : decode cX6_countBroken 52 = .ok (.iastore, 1) := by decide +kernel
theorem dX6_countBroken_53 : decode cX6_countBroken 53 = .ok (.iinc 3 1, 3) := by decide +kernel
theorem dX6_countBroken_56 : decode cX6_countBroken 56 = .ok (.goto (-34), 3) := by decide +kernel
theorem dX6_countBroken_59 : decode cX6_countBroken 59 = .ok (.return_, 1) := by decide +kernel
theorem dX7_init_0 : decode cX7_init 0 = .ok (.aload_n 0, 1) := by decide +kernel
theorem dX7_init_1 : decode cX7_init 1 = .ok (.iload_n 1, 1) := by decide +kernel
theorem dX7_init_2 : decode cX7_init 2 = .ok (.iload_n 2, 1) := by decide +kernel
theorem dX7_init_3 : decode cX7_init 3 = .ok (.aload_n 3, 1) := by decide +kernel
theorem dX7_init_4 : decode cX7_init 4 = .ok (.invokespecial 3, 3) := by decide +kernel
theorem dX7_init_7 : decode cX7_init 7 = .ok (.return_, 1) := by decide +kernel
theorem dX7_share_0 : decode cX7_share 0 = .ok (.aload_n 0, 1) := by decide +kernel
theorem dX7_share_1 : decode cX7_share 1 = .ok (.invokevirtual 9, 3) := by decide +kernel
theorem dX7_share_4 : decode cX7_share 4 = .ok (.aload_n 0, 1) := by decide +kernel
theorem dX7_share_5 : decode cX7_share 5 = .ok (.bipush 7, 2) := by decide +kernel
theorem dX7_share_7 : decode cX7_share 7 = .ok (.iload_n 3, 1) := by decide +kernel
theorem dX7_share_8 : decode cX7_share 8 = .ok (.invokevirtual 15, 3) := by decide +kernel
theorem dX7_share_11 : decode cX7_share 11 = .ok (.istore 4, 2) := by decide +kernel
theorem dX7_share_13 : decode cX7_share 13 = .ok (.aload_n 0, 1) := by decide +kernel
theorem dX7_share_14 : decode cX7_share 14 = .ok (.aload_n 1, 1) := by decide +kernel
theorem dX7_share_15 : decode cX7_share 15 = .ok (.iload_n 2, 1) := by decide +kernel
theorem dX7_share_16 : decode cX7_share 16 = .ok (.iload_n 3, 1) := by decide +kernel
theorem dX7_share_17 : decode cX7_share 17 = .ok (.invokevirtual 19, 3) := by decide +kernel
theorem dX7_share_20 : decode cX7_share 20 = .ok (.iload 4, 2) := by decide +kernel
theorem dX7_share_22 : decode cX7_share 22 = .ok (.iadd, 1) := by decide +kernel
theorem dX7_share_23 : decode cX7_share 23 = .ok (.istore 5, 2) := by decide +kernel
theorem dX7_share_25 : decode cX7_share 25 = .ok (.iconst 0, 1) := by decide +kernel
theorem dX7_share_26 : decode cX7_share 26 = .ok (.istore 6, 2) := by decide +kernel
theorem dX7_share_28 : decode cX7_share 28 = .ok (.iload 6, 2) := by decide +kernel
theorem dX7_share_30 : decode cX7_share 30 = .ok (.aload_n 1, 1) := by decide +kernel
theorem dX7_share_31 : decode cX7_share 31 = .ok (.getfield 23, 3) := by decide +kernel
theorem dX7_share_34 : decode cX7_share 34 = .ok (.if_icmp .ge 43, 3) := by decide +kernel
theorem dX7_share_37 : decode cX7_share 37 = .ok (.iload 6, 2) := by decide +kernel
theorem dX7_share_39 : decode cX7_share 39 = .ok (.iload_n 2, 1) := by decide +kernel
theorem dX7_share_40 : decode cX7_share 40 = .ok (.invokestatic 29, 3) := by decide +kernel
theorem dX7_share_43 : decode cX7_share 43 = .ok (.ifCond .eq 28, 3) := by decide +kernel
theorem dX7_share_46 : decode cX7_share 46 = .ok (.aload_n 0, 1) := by decide +kernel
theorem dX7_share_47 : decode cX7_share 47 = .ok (.getfield 33, 3) := by decide +kernel
theorem dX7_share_50 : decode cX7_share 50 = .ok (.iload 6, 2) := by decide +kernel
theorem dX7_share_52 : decode cX7_share 52 = .ok (.aload_n 0, 1) := by decide +kernel
theorem dX7_share_53 : decode cX7_share 53 = .ok (.iload 6, 2) := by decide +kernel
theorem dX7_share_55 : decode cX7_share 55 = .ok (.iload_n 3, 1) := by decide +kernel
theorem dX7_share_56 : decode cX7_share 56 = .ok (.invokevirtual 15, 3) := by decide +kernel
theorem dX7_share_59 : decode cX7_share 59 = .ok (.i2l, 1) := by decide +kernel
theorem dX7_share_60 : decode cX7_share 60 = .ok (.lastore, 1) := by decide +kernel
theorem dX7_share_61 : decode cX7_share 61 = .ok (.aload_n 0, 1) := by decide +kernel
theorem dX7_share_62 : decode cX7_share 62 = .ok (.getfield 37, 3) := by decide +kernel
theorem dX7_share_65 : decode cX7_share 65 = .ok (.iload 6, 2) := by decide +kernel
theorem dX7_share_67 : decode cX7_share 67 = .ok (.iload 5, 2) := by decide +kernel
theorem dX7_share_69 : decode cX7_share 69 = .ok (.i2l, 1) := by decide +kernel
theorem dX7_share_70 : decode cX7_share 70 = .ok (.lastore, 1) := by decide +kernel
theorem dX7_share_71 : decode cX7_share 71 = .ok (.iinc 6 1, 3) := by decide +kernel
theorem dX7_share_74 : decode cX7_share 74 = .ok (.goto (-46), 3) := by decide +kernel
theorem dX7_share_77 : decode cX7_share 77 = .ok (.aload_n 0, 1) := by decide +kernel
theorem dX7_share_78 : decode cX7_share 78 = .ok (.getfield 33, 3) := by decide +kernel
theorem dX7_share_81 : decode cX7_share 81 = .ok (.bipush 7, 2) := by decide +kernel
theorem dX7_share_83 : decode cX7_share 83 = .ok (.iload 4, 2) := by decide +kernel
theorem dX7_share_85 : decode cX7_share 85 = .ok (.i2l, 1) := by decide +kernel
theorem dX7_share_86 : decode cX7_share 86 = .ok (.lastore, 1) := by decide +kernel
theorem dX7_share_87 : decode cX7_share 87 = .ok (.aload_n 0, 1) := by decide +kernel
theorem dX7_share_88 : decode cX7_share 88 = .ok (.getfield 37, 3) := by decide +kernel
theorem dX7_share_91 : decode cX7_share 91 = .ok (.bipush 7, 2) := by decide +kernel
theorem dX7_share_93 : decode cX7_share 93 = .ok (.iload 5, 2) := by decide +kernel
theorem dX7_share_95 : decode cX7_share 95 = .ok (.i2l, 1) := by decide +kernel
theorem dX7_share_96 : decode cX7_share 96 = .ok (.lastore, 1) := by decide +kernel
theorem dX7_share_97 : decode cX7_share 97 = .ok (.return_, 1) := by decide +kernel
theorem dX7_oddsBody_0 : decode cX7_oddsBody 0 = .ok (.aload_n 2, 1) := by decide +kernel
theorem dX7_oddsBody_1 : decode cX7_oddsBody 1 = .ok (.bipush 20, 2) := by decide +kernel
theorem dX7_oddsBody_3 : decode cX7_oddsBody 3 = .ok (.invokevirtual 40, 3) := by decide +kernel
theorem dX7_oddsBody_6 : decode cX7_oddsBody 6 = .ok (.aload_n 0, 1) := by decide +kernel
theorem dX7_oddsBody_7 : decode cX7_oddsBody 7 = .ok (.iload_n 1, 1) := by decide +kernel
theorem dX7_oddsBody_8 : decode cX7_oddsBody 8 = .ok (.aload_n 2, 1) := by decide +kernel
theorem dX7_oddsBody_9 : decode cX7_oddsBody 9 = .ok (.invokespecial 46, 3) := by decide +kernel
theorem dX7_oddsBody_12 : decode cX7_oddsBody 12 = .ok (.bipush 6, 2) := by decide +kernel
theorem dX7_oddsBody_14 : decode cX7_oddsBody 14 = .ok (.ixor, 1) := by decide +kernel
theorem dX7_oddsBody_15 : decode cX7_oddsBody 15 = .ok (.ireturn, 1) := by decide +kernel
theorem dX8_init_0 : decode cX8_init 0 = .ok (.aload_n 0, 1) := by decide +kernel
theorem dX8_init_1 : decode cX8_init 1 = .ok (.iload_n 1, 1) := by decide +kernel
theorem dX8_init_2 : decode cX8_init 2 = .ok (.iload_n 2, 1) := by decide +kernel
theorem dX8_init_3 : decode cX8_init 3 = .ok (.aload_n 3, 1) := by decide +kernel
theorem dX8_init_4 : decode cX8_init 4 = .ok (.invokespecial 1, 3) := by decide +kernel
theorem dX8_init_7 : decode cX8_init 7 = .ok (.return_, 1) := by decide +kernel
theorem dX8_prepare_0 : decode cX8_prepare 0 = .ok (.aload_n 0, 1) := by decide +kernel
theorem dX8_prepare_1 : decode cX8_prepare 1 = .ok (.aload_n 1, 1) := by decide +kernel
theorem dX8_prepare_2 : decode cX8_prepare 2 = .ok (.invokespecial 7, 3) := by decide +kernel
theorem dX8_prepare_5 : decode cX8_prepare 5 = .ok (.aload_n 0, 1) := by decide +kernel
theorem dX8_prepare_6 : decode cX8_prepare 6 = .ok (.getfield 11, 3) := by decide +kernel
theorem dX8_prepare_9 : decode cX8_prepare 9 = .ok (.aload_n 1, 1) := by decide +kernel
theorem dX8_prepare_10 : decode cX8_prepare 10 = .ok (.invokevirtual 17, 3) := by decide +kernel
theorem dX8_prepare_13 : decode cX8_prepare 13 = .ok (.return_, 1) := by decide +kernel
theorem dX8_share_0 : decode cX8_share 0 = .ok (.aload_n 0, 1) := by decide +kernel
theorem dX8_share_1 : decode cX8_share 1 = .ok (.invokevirtual 22, 3) := by decide +kernel
theorem dX8_share_4 : decode cX8_share 4 = .ok (.aload_n 0, 1) := by decide +kernel
theorem dX8_share_5 : decode cX8_share 5 = .ok (.getfield 26, 3) := by decide +kernel
theorem dX8_share_8 : decode cX8_share 8 = .ok (.aload_n 0, 1) := by decide +kernel
theorem dX8_share_9 : decode cX8_share 9 = .ok (.getfield 11, 3) := by decide +kernel
theorem dX8_share_12 : decode cX8_share 12 = .ok (.aload_n 1, 1) := by decide +kernel
theorem dX8_share_13 : decode cX8_share 13 = .ok (.iload_n 2, 1) := by decide +kernel
theorem dX8_share_14 : decode cX8_share 14 = .ok (.invokevirtual 30, 3) := by decide +kernel
theorem dX8_share_17 : decode cX8_share 17 = .ok (.lconst 1, 1) := by decide +kernel
theorem dX8_share_18 : decode cX8_share 18 = .ok (.lastore, 1) := by decide +kernel
theorem dX8_share_19 : decode cX8_share 19 = .ok (.return_, 1) := by decide +kernel
theorem dX8_weighsBody_0 : decode cX8_weighsBody 0 = .ok (.aload_n 2, 1) := by decide +kernel
theorem dX8_weighsBody_1 : decode cX8_weighsBody 1 = .ok (.bipush 60, 2) := by decide +kernel
theorem dX8_weighsBody_3 : decode cX8_weighsBody 3 = .ok (.invokevirtual 34, 3) := by decide +kernel
theorem dX8_weighsBody_6 : decode cX8_weighsBody 6 = .ok (.aload_n 0, 1) := by decide +kernel
theorem dX8_weighsBody_7 : decode cX8_weighsBody 7 = .ok (.iload_n 1, 1) := by decide +kernel
theorem dX8_weighsBody_8 : decode cX8_weighsBody 8 = .ok (.aload_n 2, 1) := by decide +kernel
theorem dX8_weighsBody_9 : decode cX8_weighsBody 9 = .ok (.invokespecial 40, 3) := by decide +kernel
theorem dX8_weighsBody_12 : decode cX8_weighsBody 12 = .ok (.aload_n 0, 1) := by decide +kernel
theorem dX8_weighsBody_13 : decode cX8_weighsBody 13 = .ok (.getfield 44, 3) := by decide +kernel
theorem dX8_weighsBody_16 : decode cX8_weighsBody 16 = .ok (.ixor, 1) := by decide +kernel
theorem dX8_weighsBody_17 : decode cX8_weighsBody 17 = .ok (.ireturn, 1) := by decide +kernel
theorem dX8_tellsBody_0 : decode cX8_tellsBody 0 = .ok (.aload_n 2, 1) := by decide +kernel
theorem dX8_tellsBody_1 : decode cX8_tellsBody 1 = .ok (.bipush 61, 2) := by decide +kernel
theorem dX8_tellsBody_3 : decode cX8_tellsBody 3 = .ok (.invokevirtual 34, 3) := by decide +kernel
theorem dX8_tellsBody_6 : decode cX8_tellsBody 6 = .ok (.aload_n 0, 1) := by decide +kernel
theorem dX8_tellsBody_7 : decode cX8_tellsBody 7 = .ok (.iload_n 1, 1) := by decide +kernel
theorem dX8_tellsBody_8 : decode cX8_tellsBody 8 = .ok (.aload_n 2, 1) := by decide +kernel
theorem dX8_tellsBody_9 : decode cX8_tellsBody 9 = .ok (.invokevirtual 48, 3) := by decide +kernel
theorem dX8_tellsBody_12 : decode cX8_tellsBody 12 = .ok (.aload_n 0, 1) := by decide +kernel
theorem dX8_tellsBody_13 : decode cX8_tellsBody 13 = .ok (.iload_n 1, 1) := by decide +kernel
theorem dX8_tellsBody_14 : decode cX8_tellsBody 14 = .ok (.aload_n 2, 1) := by decide +kernel
theorem dX8_tellsBody_15 : decode cX8_tellsBody 15 = .ok (.invokespecial 51, 3) := by decide +kernel
theorem dX8_tellsBody_18 : decode cX8_tellsBody 18 = .ok (.isub, 1) := by decide +kernel
theorem dX8_tellsBody_19 : decode cX8_tellsBody 19 = .ok (.ireturn, 1) := by decide +kernel
theorem dX9_init_0 : decode cX9_init 0 = .ok (.aload_n 0, 1) := by decide +kernel
theorem dX9_init_1 : decode cX9_init 1 = .ok (.invokespecial 3, 3) := by decide +kernel
theorem dX9_init_4 : decode cX9_init 4 = .ok (.aload_n 0, 1) := by decide +kernel
theorem dX9_init_5 : decode cX9_init 5 = .ok (.bipush 6, 2) := by decide +kernel
theorem dX9_init_7 : decode cX9_init 7 = .ok (.newarray .int, 2) := by decide +kernel
theorem dX9_init_9 : decode cX9_init 9 = .ok (.putfield 9, 3) := by decide +kernel
theorem dX9_init_12 : decode cX9_init 12 = .ok (.aload_n 0, 1) := by decide +kernel
theorem dX9_init_13 : decode cX9_init 13 = .ok (.bipush 8, 2) := by decide +kernel
theorem dX9_init_15 : decode cX9_init 15 = .ok (.newarray .int, 2) := by decide +kernel
theorem dX9_init_17 : decode cX9_init 17 = .ok (.putfield 15, 3) := by decide +kernel
theorem dX9_init_20 : decode cX9_init 20 = .ok (.aload_n 0, 1) := by decide +kernel
theorem dX9_init_21 : decode cX9_init 21 = .ok (.bipush 6, 2) := by decide +kernel
theorem dX9_init_23 : decode cX9_init 23 = .ok (.putfield 18, 3) := by decide +kernel
theorem dX9_init_26 : decode cX9_init 26 = .ok (.aload_n 0, 1) := by decide +kernel
theorem dX9_init_27 : decode cX9_init 27 = .ok (.iconst 3, 1) := by decide +kernel
theorem dX9_init_28 : decode cX9_init 28 = .ok (.newarray .int, 2) := by decide +kernel
theorem dX9_init_30 : decode cX9_init 30 = .ok (.putfield 22, 3) := by decide +kernel
theorem dX9_init_33 : decode cX9_init 33 = .ok (.aload_n 0, 1) := by decide +kernel
theorem dX9_init_34 : decode cX9_init 34 = .ok (.iconst 3, 1) := by decide +kernel
theorem dX9_init_35 : decode cX9_init 35 = .ok (.newarray .int, 2) := by decide +kernel
theorem dX9_init_37 : decode cX9_init 37 = .ok (.putfield 25, 3) := by decide +kernel
theorem dX9_init_40 : decode cX9_init 40 = .ok (.aload_n 0, 1) := by decide +kernel
theorem dX9_init_41 : decode cX9_init 41 = .ok (.bipush 10, 2) := by decide +kernel
theorem dX9_init_43 : decode cX9_init 43 = .ok (.newarray .int, 2) := by decide +kernel
theorem dX9_init_45 : decode cX9_init 45 = .ok (.putfield 28, 3) := by decide +kernel
theorem dX9_init_48 : decode cX9_init 48 = .ok (.aload_n 0, 1) := by decide +kernel
theorem dX9_init_49 : decode cX9_init 49 = .ok (.bipush 10, 2) := by decide +kernel
theorem dX9_init_51 : decode cX9_init 51 = .ok (.newarray .int, 2) := by decide +kernel
theorem dX9_init_53 : decode cX9_init 53 = .ok (.putfield 31, 3) := by decide +kernel
theorem dX9_init_56 : decode cX9_init 56 = .ok (.aload_n 0, 1) := by decide +kernel
theorem dX9_init_57 : decode cX9_init 57 = .ok (.bipush 16, 2) := by decide +kernel
theorem dX9_init_59 : decode cX9_init 59 = .ok (.newarray .int, 2) := by decide +kernel
theorem dX9_init_61 : decode cX9_init 61 = .ok (.putfield 34, 3) := by decide +kernel
theorem dX9_init_64 : decode cX9_init 64 = .ok (.aload_n 0, 1) := by decide +kernel
theorem dX9_init_65 : decode cX9_init 65 = .ok (.aload_n 1, 1) := by decide +kernel
theorem dX9_init_66 : decode cX9_init 66 = .ok (.putfield 37, 3) := by decide +kernel
theorem dX9_init_69 : decode cX9_init 69 = .ok (.aload_n 0, 1) := by decide +kernel
theorem dX9_init_70 : decode cX9_init 70 = .ok (.iload_n 2, 1) := by decide +kernel
theorem dX9_init_71 : decode cX9_init 71 = .ok (.putfield 40, 3) := by decide +kernel
theorem dX9_init_74 : decode cX9_init 74 = .ok (.aload_n 0, 1) := by decide +kernel
theorem dX9_init_75 : decode cX9_init 75 = .ok (.bipush 120, 2) := by decide +kernel
theorem dX9_init_77 : decode cX9_init 77 = .ok (.newarray .int, 2) := by decide +kernel
theorem dX9_init_79 : decode cX9_init 79 = .ok (.putfield 43, 3) := by decide +kernel
theorem dX9_init_82 : decode cX9_init 82 = .ok (.iconst 0, 1) := by decide +kernel
theorem dX9_init_83 : decode cX9_init 83 = .ok (.istore_n 3, 1) := by decide +kernel
theorem dX9_init_84 : decode cX9_init 84 = .ok (.iload_n 3, 1) := by decide +kernel
theorem dX9_init_85 : decode cX9_init 85 = .ok (.bipush 6, 2) := by decide +kernel
theorem dX9_init_87 : decode cX9_init 87 = .ok (.if_icmp .ge 17, 3) := by decide +kernel
theorem dX9_init_90 : decode cX9_init 90 = .ok (.aload_n 0, 1) := by decide +kernel
theorem dX9_init_91 : decode cX9_init 91 = .ok (.getfield 9, 3) := by decide +kernel
theorem dX9_init_94 : decode cX9_init 94 = .ok (.iload_n 3, 1) := by decide +kernel
theorem dX9_init_95 : decode cX9_init 95 = .ok (.bipush 10, 2) := by decide +kernel
theorem dX9_init_97 : decode cX9_init 97 = .ok (.iastore, 1) := by decide +kernel
theorem dX9_init_98 : decode cX9_init 98 = .ok (.iinc 3 1, 3) := by decide +kernel
theorem dX9_init_101 : decode cX9_init 101 = .ok (.goto (-17), 3) := by decide +kernel
theorem dX9_init_104 : decode cX9_init 104 = .ok (.iconst 0, 1) := by decide +kernel
theorem dX9_init_105 : decode cX9_init 105 = .ok (.istore_n 3, 1) := by decide +kernel
theorem dX9_init_106 : decode cX9_init 106 = .ok (.iload_n 3, 1) := by decide +kernel
theorem dX9_init_107 : decode cX9_init 107 = .ok (.iconst 3, 1) := by decide +kernel
theorem dX9_init_108 : decode cX9_init 108 = .ok (.if_icmp .ge 16, 3) := by decide +kernel
theorem dX9_init_111 : decode cX9_init 111 = .ok (.aload_n 0, 1) := by decide +kernel
theorem dX9_init_112 : decode cX9_init 112 = .ok (.getfield 25, 3) := by decide +kernel
theorem dX9_init_115 : decode cX9_init 115 = .ok (.iload_n 3, 1) := by decide +kernel
theorem dX9_init_116 : decode cX9_init 116 = .ok (.iconst 1, 1) := by decide +kernel
theorem dX9_init_117 : decode cX9_init 117 = .ok (.iastore, 1) := by decide +kernel
theorem dX9_init_118 : decode cX9_init 118 = .ok (.iinc 3 1, 3) := by decide +kernel
theorem dX9_init_121 : decode cX9_init 121 = .ok (.goto (-15), 3) := by decide +kernel
theorem dX9_init_124 : decode cX9_init 124 = .ok (.return_, 1) := by decide +kernel
theorem dX9_readClauses_0 : decode cX9_readClauses 0 = .ok (.iconst 0, 1) := by decide +kernel
theorem dX9_readClauses_1 : decode cX9_readClauses 1 = .ok (.istore_n 1, 1) := by decide +kernel
theorem dX9_readClauses_2 : decode cX9_readClauses 2 = .ok (.iload_n 1, 1) := by decide +kernel
theorem dX9_readClauses_3 : decode cX9_readClauses 3 = .ok (.bipush 10, 2) := by decide +kernel
theorem dX9_readClauses_5 : decode cX9_readClauses 5 = .ok (.if_icmp .ge 58, 3) := by decide +kernel
theorem dX9_readClauses_8 : decode cX9_readClauses 8 = .ok (.aload_n 0, 1) := by decide +kernel
theorem dX9_readClauses_9 : decode cX9_readClauses 9 = .ok (.invokevirtual 46, 3) := by decide +kernel
theorem dX9_readClauses_12 : decode cX9_readClauses 12 = .ok (.ifCond .ne 5, 3) := by decide +kernel
theorem dX9_readClauses_15 : decode cX9_readClauses 15 = .ok (.iconst 0, 1) := by decide +kernel
theorem dX9_readClauses_16 : decode cX9_readClauses 16 = .ok (.ireturn, 1) := by decide +kernel
theorem dX9_readClauses_17 : decode cX9_readClauses 17 = .ok (.aload_n 0, 1) := by decide +kernel
theorem dX9_readClauses_18 : decode cX9_readClauses 18 = .ok (.dup, 1) := by decide +kernel
theorem dX9_readClauses_19 : decode cX9_readClauses 19 = .ok (.getfield 50, 3) := by decide +kernel
theorem dX9_readClauses_22 : decode cX9_readClauses 22 = .ok (.iconst 1, 1) := by decide +kernel
theorem dX9_readClauses_23 : decode cX9_readClauses 23 = .ok (.iadd, 1) := by decide +kernel
theorem dX9_readClauses_24 : decode cX9_readClauses 24 = .ok (.putfield 50, 3) := by decide +kernel
theorem dX9_readClauses_27 : decode cX9_readClauses 27 = .ok (.aload_n 0, 1) := by decide +kernel
theorem dX9_readClauses_28 : decode cX9_readClauses 28 = .ok (.getfield 53, 3) := by decide +kernel
theorem dX9_readClauses_31 : decode cX9_readClauses 31 = .ok (.aload_n 0, 1) := by decide +kernel
theorem dX9_readClauses_32 : decode cX9_readClauses 32 = .ok (.getfield 40, 3) := by decide +kernel
theorem dX9_readClauses_35 : decode cX9_readClauses 35 = .ok (.if_icmp .ne 5, 3) := by decide +kernel
theorem dX9_readClauses_38 : decode cX9_readClauses 38 = .ok (.iconst 1, 1) := by decide +kernel
theorem dX9_readClauses_39 : decode cX9_readClauses 39 = .ok (.ireturn, 1) := by decide +kernel
theorem dX9_readClauses_40 : decode cX9_readClauses 40 = .ok (.iload_n 1, 1) := by decide +kernel
theorem dX9_readClauses_41 : decode cX9_readClauses 41 = .ok (.bipush 9, 2) := by decide +kernel
theorem dX9_readClauses_43 : decode cX9_readClauses 43 = .ok (.if_icmp .eq 12, 3) := by decide +kernel
theorem dX9_readClauses_46 : decode cX9_readClauses 46 = .ok (.aload_n 0, 1) := by decide +kernel
theorem dX9_readClauses_47 : decode cX9_readClauses 47 = .ok (.bipush 59, 2) := by decide +kernel
theorem dX9_readClauses_49 : decode cX9_readClauses 49 = .ok (.invokevirtual 56, 3) := by decide +kernel
theorem dX9_readClauses_52 : decode cX9_readClauses 52 = .ok (.ifCond .ne 5, 3) := by decide +kernel
theorem dX9_readClauses_55 : decode cX9_readClauses 55 = .ok (.iconst 0, 1) := by decide +kernel
theorem dX9_readClauses_56 : decode cX9_readClauses 56 = .ok (.ireturn, 1) := by decide +kernel
theorem dX9_readClauses_57 : decode cX9_readClauses 57 = .ok (.iinc 1 1, 3) := by decide +kernel
theorem dX9_readClauses_60 : decode cX9_readClauses 60 = .ok (.goto (-58), 3) := by decide +kernel
theorem dX9_readClauses_63 : decode cX9_readClauses 63 = .ok (.iconst 0, 1) := by decide +kernel
theorem dX9_readClauses_64 : decode cX9_readClauses 64 = .ok (.ireturn, 1) := by decide +kernel
theorem dX9_readClause_0 : decode cX9_readClause 0 = .ok (.aload_n 0, 1) := by decide +kernel
theorem dX9_readClause_1 : decode cX9_readClause 1 = .ok (.invokevirtual 60, 3) := by decide +kernel
theorem dX9_readClause_4 : decode cX9_readClause 4 = .ok (.tableswitch 163 0 6 #[44, 53, 62, 83, 104, 128, 133], 44) := by decide +kernel
theorem dX9_readClause_48 : decode cX9_readClause 48 = .ok (.aload_n 0, 1) := by decide +kernel
theorem dX9_readClause_49 : decode cX9_readClause 49 = .ok (.aload_n 0, 1) := by decide +kernel
theorem dX9_readClause_50 : decode cX9_readClause 50 = .ok (.getfield 9, 3) := by decide +kernel
theorem dX9_readClause_53 : decode cX9_readClause 53 = .ok (.invokevirtual 64, 3) := by decide +kernel
theorem dX9_readClause_56 : decode cX9_readClause 56 = .ok (.ireturn, 1) := by decide +kernel
theorem dX9_readClause_57 : decode cX9_readClause 57 = .ok (.aload_n 0, 1) := by decide +kernel
theorem dX9_readClause_58 : decode cX9_readClause 58 = .ok (.aload_n 0, 1) := by decide +kernel
theorem dX9_readClause_59 : decode cX9_readClause 59 = .ok (.getfield 15, 3) := by decide +kernel
theorem dX9_readClause_62 : decode cX9_readClause 62 = .ok (.invokevirtual 64, 3) := by decide +kernel
theorem dX9_readClause_65 : decode cX9_readClause 65 = .ok (.ireturn, 1) := by decide +kernel
theorem dX9_readClause_66 : decode cX9_readClause 66 = .ok (.aload_n 0, 1) := by decide +kernel
theorem dX9_readClause_67 : decode cX9_readClause 67 = .ok (.aload_n 0, 1) := by decide +kernel
theorem dX9_readClause_68 : decode cX9_readClause 68 = .ok (.invokevirtual 68, 3) := by decide +kernel
theorem dX9_readClause_71 : decode cX9_readClause 71 = .ok (.putfield 71, 3) := by decide +kernel
theorem dX9_readClause_74 : decode cX9_readClause 74 = .ok (.aload_n 0, 1) := by decide +kernel
theorem dX9_readClause_75 : decode cX9_readClause 75 = .ok (.getfield 71, 3) := by decide +kernel
theorem dX9_readClause_78 : decode cX9_readClause 78 = .ok (.ifCond .lt 7, 3) := by decide +kernel
theorem dX9_readClause_81 : decode cX9_readClause 81 = .ok (.iconst 1, 1) := by decide +kernel
theorem dX9_readClause_82 : decode cX9_readClause 82 = .ok (.goto 4, 3) := by decide +kernel
theorem dX9_readClause_85 : decode cX9_readClause 85 = .ok (.iconst 0, 1) := by decide +kernel
theorem dX9_readClause_86 : decode cX9_readClause 86 = .ok (.ireturn, 1) := by decide +kernel
theorem dX9_readClause_87 : decode cX9_readClause 87 = .ok (.aload_n 0, 1) := by decide +kernel
theorem dX9_readClause_88 : decode cX9_readClause 88 = .ok (.aload_n 0, 1) := by decide +kernel
theorem dX9_readClause_89 : decode cX9_readClause 89 = .ok (.invokevirtual 68, 3) := by decide +kernel
theorem dX9_readClause_92 : decode cX9_readClause 92 = .ok (.putfield 74, 3) := by decide +kernel
theorem dX9_readClause_95 : decode cX9_readClause 95 = .ok (.aload_n 0, 1) := by decide +kernel
theorem dX9_readClause_96 : decode cX9_readClause 96 = .ok (.getfield 74, 3) := by decide +kernel
theorem dX9_readClause_99 : decode cX9_readClause 99 = .ok (.ifCond .lt 7, 3) := by decide +kernel
theorem dX9_readClause_102 : decode cX9_readClause 102 = .ok (.iconst 1, 1) := by decide +kernel
theorem dX9_readClause_103 : decode cX9_readClause 103 = .ok (.goto 4, 3) := by decide +kernel
theorem dX9_readClause_106 : decode cX9_readClause 106 = .ok (.iconst 0, 1) := by decide +kernel
theorem dX9_readClause_107 : decode cX9_readClause 107 = .ok (.ireturn, 1) := by decide +kernel
theorem dX9_readClause_108 : decode cX9_readClause 108 = .ok (.aload_n 0, 1) := by decide +kernel
theorem dX9_readClause_109 : decode cX9_readClause 109 = .ok (.aload_n 0, 1) := by decide +kernel
theorem dX9_readClause_110 : decode cX9_readClause 110 = .ok (.iconst 1, 1) := by decide +kernel
theorem dX9_readClause_111 : decode cX9_readClause 111 = .ok (.bipush 9, 2) := by decide +kernel
theorem dX9_readClause_113 : decode cX9_readClause 113 = .ok (.invokevirtual 77, 3) := by decide +kernel
theorem dX9_readClause_116 : decode cX9_readClause 116 = .ok (.putfield 18, 3) := by decide +kernel
theorem dX9_readClause_119 : decode cX9_readClause 119 = .ok (.aload_n 0, 1) := by decide +kernel
theorem dX9_readClause_120 : decode cX9_readClause 120 = .ok (.getfield 18, 3) := by decide +kernel
theorem dX9_readClause_123 : decode cX9_readClause 123 = .ok (.ifCond .lt 7, 3) := by decide +kernel
theorem dX9_readClause_126 : decode cX9_readClause 126 = .ok (.iconst 1, 1) := by decide +kernel
theorem dX9_readClause_127 : decode cX9_readClause 127 = .ok (.goto 4, 3) := by decide +kernel
theorem dX9_readClause_130 : decode cX9_readClause 130 = .ok (.iconst 0, 1) := by decide +kernel
theorem dX9_readClause_131 : decode cX9_readClause 131 = .ok (.ireturn, 1) := by decide +kernel
theorem dX9_readClause_132 : decode cX9_readClause 132 = .ok (.aload_n 0, 1) := by decide +kernel
theorem dX9_readClause_133 : decode cX9_readClause 133 = .ok (.invokevirtual 81, 3) := by decide +kernel
theorem dX9_readClause_136 : decode cX9_readClause 136 = .ok (.ireturn, 1) := by decide +kernel
theorem dX9_readClause_137 : decode cX9_readClause 137 = .ok (.aload_n 0, 1) := by decide +kernel
theorem dX9_readClause_138 : decode cX9_readClause 138 = .ok (.bipush 32, 2) := by decide +kernel
theorem dX9_readClause_140 : decode cX9_readClause 140 = .ok (.invokevirtual 56, 3) := by decide +kernel
theorem dX9_readClause_143 : decode cX9_readClause 143 = .ok (.ifCond .eq 22, 3) := by decide +kernel
theorem dX9_readClause_146 : decode cX9_readClause 146 = .ok (.aload_n 0, 1) := by decide +kernel
theorem dX9_readClause_147 : decode cX9_readClause 147 = .ok (.iconst 0, 1) := by decide +kernel
theorem dX9_readClause_148 : decode cX9_readClause 148 = .ok (.invokevirtual 84, 3) := by decide +kernel
theorem dX9_readClause_151 : decode cX9_readClause 151 = .ok (.ifCond .eq 14, 3) := by decide +kernel
theorem dX9_readClause_154 : decode cX9_readClause 154 = .ok (.aload_n 0, 1) := by decide +kernel
theorem dX9_readClause_155 : decode cX9_readClause 155 = .ok (.invokevirtual 88, 3) := by decide +kernel
theorem dX9_readClause_158 : decode cX9_readClause 158 = .ok (.ifCond .eq 7, 3) := by decide +kernel
theorem dX9_readClause_161 : decode cX9_readClause 161 = .ok (.iconst 1, 1) := by decide +kernel
theorem dX9_readClause_162 : decode cX9_readClause 162 = .ok (.goto 4, 3) := by decide +kernel
theorem dX9_readClause_165 : decode cX9_readClause 165 = .ok (.iconst 0, 1) := by decide +kernel
theorem dX9_readClause_166 : decode cX9_readClause 166 = .ok (.ireturn, 1) := by decide +kernel
theorem dX9_readClause_167 : decode cX9_readClause 167 = .ok (.iconst 0, 1) := by decide +kernel
theorem dX9_readClause_168 : decode cX9_readClause 168 = .ok (.ireturn, 1) := by decide +kernel
theorem dX9_wordAt_0 : decode cX9_wordAt 0 = .ok (.iload_n 0, 1) := by decide +kernel
theorem dX9_wordAt_1 : decode cX9_wordAt 1 = .ok (.tableswitch 57 0 5 #[39, 42, 45, 48, 51, 54], 39) := by decide +kernel
theorem dX9_wordAt_40 : decode cX9_wordAt 40 = .ok (.ldc 91, 2) := by decide +kernel
theorem dX9_wordAt_42 : decode cX9_wordAt 42 = .ok (.areturn, 1) := by decide +kernel
theorem dX9_wordAt_43 : decode cX9_wordAt 43 = .ok (.ldc 93, 2) := by decide +kernel
theorem dX9_wordAt_45 : decode cX9_wordAt 45 = .ok (.areturn, 1) := by decide +kernel
theorem dX9_wordAt_46 : decode cX9_wordAt 46 = .ok (.ldc 95, 2) := by decide +kernel
theorem dX9_wordAt_48 : decode cX9_wordAt 48 = .ok (.areturn, 1) := by decide +kernel
theorem dX9_wordAt_49 : decode cX9_wordAt 49 = .ok (.ldc 96, 2) := by decide +kernel
theorem dX9_wordAt_51 : decode cX9_wordAt 51 = .ok (.areturn, 1) := by decide +kernel
theorem dX9_wordAt_52 : decode cX9_wordAt 52 = .ok (.ldc 97, 2) := by decide +kernel
theorem dX9_wordAt_54 : decode cX9_wordAt 54 = .ok (.areturn, 1) := by decide +kernel
theorem dX9_wordAt_55 : decode cX9_wordAt 55 = .ok (.ldc 98, 2) := by decide +kernel
theorem dX9_wordAt_57 : decode cX9_wordAt 57 = .ok (.areturn, 1) := by decide +kernel
theorem dX9_wordAt_58 : decode cX9_wordAt 58 = .ok (.ldc 100, 2) := by decide +kernel
theorem dX9_wordAt_60 : decode cX9_wordAt 60 = .ok (.areturn, 1) := by decide +kernel
theorem dX9_readWord_0 : decode cX9_readWord 0 = .ok (.iconst 0, 1) := by decide +kernel
theorem dX9_readWord_1 : decode cX9_readWord 1 = .ok (.istore_n 1, 1) := by decide +kernel
theorem dX9_readWord_2 : decode cX9_readWord 2 = .ok (.iconst 0, 1) := by decide +kernel
theorem dX9_readWord_3 : decode cX9_readWord 3 = .ok (.istore_n 2, 1) := by decide +kernel
theorem dX9_readWord_4 : decode cX9_readWord 4 = .ok (.iload_n 2, 1) := by decide +kernel
theorem dX9_readWord_5 : decode cX9_readWord 5 = .ok (.bipush 7, 2) := by decide +kernel
theorem dX9_readWord_7 : decode cX9_readWord 7 = .ok (.if_icmp .ge 50, 3) := by decide +kernel
theorem dX9_readWord_10 : decode cX9_readWord 10 = .ok (.iload_n 2, 1) := by decide +kernel
theorem dX9_readWord_11 : decode cX9_readWord 11 = .ok (.invokestatic 102, 3) := by decide +kernel
theorem dX9_readWord_14 : decode cX9_readWord 14 = .ok (.astore_n 3, 1) := by decide +kernel
theorem dX9_readWord_15 : decode cX9_readWord 15 = .ok (.aload_n 0, 1) := by decide +kernel
theorem dX9_readWord_16 : decode cX9_readWord 16 = .ok (.aload_n 3, 1) := by decide +kernel
theorem dX9_readWord_17 : decode cX9_readWord 17 = .ok (.invokevirtual 106, 3) := by decide +kernel
theorem dX9_readWord_20 : decode cX9_readWord 20 = .ok (.istore 4, 2) := by decide +kernel
theorem dX9_readWord_22 : decode cX9_readWord 22 = .ok (.iload_n 1, 1) := by decide +kernel
theorem dX9_readWord_23 : decode cX9_readWord 23 = .ok (.iload 4, 2) := by decide +kernel
theorem dX9_readWord_25 : decode cX9_readWord 25 = .ok (.invokestatic 110, 3) := by decide +kernel
theorem dX9_readWord_28 : decode cX9_readWord 28 = .ok (.istore_n 1, 1) := by decide +kernel
theorem dX9_readWord_29 : decode cX9_readWord 29 = .ok (.iload 4, 2) := by decide +kernel
theorem dX9_readWord_31 : decode cX9_readWord 31 = .ok (.aload_n 3, 1) := by decide +kernel
theorem dX9_readWord_32 : decode cX9_readWord 32 = .ok (.invokevirtual 115, 3) := by decide +kernel
theorem dX9_readWord_35 : decode cX9_readWord 35 = .ok (.if_icmp .ne 16, 3) := by decide +kernel
theorem dX9_readWord_38 : decode cX9_readWord 38 = .ok (.aload_n 0, 1) := by decide +kernel
theorem dX9_readWord_39 : decode cX9_readWord 39 = .ok (.dup, 1) := by decide +kernel
theorem dX9_readWord_40 : decode cX9_readWord 40 = .ok (.getfield 53, 3) := by decide +kernel
theorem dX9_readWord_43 : decode cX9_readWord 43 = .ok (.iload 4, 2) := by decide +kernel
theorem dX9_readWord_45 : decode cX9_readWord 45 = .ok (.iadd, 1) := by decide +kernel
theorem dX9_readWord_46 : decode cX9_readWord 46 = .ok (.putfield 53, 3) := by decide +kernel
theorem dX9_readWord_49 : decode cX9_readWord 49 = .ok (.iload_n 2, 1) := by decide +kernel
theorem dX9_readWord_50 : decode cX9_readWord 50 = .ok (.ireturn, 1) := by decide +kernel
theorem dX9_readWord_51 : decode cX9_readWord 51 = .ok (.iinc 2 1, 3) := by decide +kernel
theorem dX9_readWord_54 : decode cX9_readWord 54 = .ok (.goto (-50), 3) := by decide +kernel
theorem dX9_readWord_57 : decode cX9_readWord 57 = .ok (.aload_n 0, 1) := by decide +kernel
theorem dX9_readWord_58 : decode cX9_readWord 58 = .ok (.dup, 1) := by decide +kernel
theorem dX9_readWord_59 : decode cX9_readWord 59 = .ok (.getfield 53, 3) := by decide +kernel
theorem dX9_readWord_62 : decode cX9_readWord 62 = .ok (.iload_n 1, 1) := by decide +kernel
theorem dX9_readWord_63 : decode cX9_readWord 63 = .ok (.iadd, 1) := by decide +kernel
theorem dX9_readWord_64 : decode cX9_readWord 64 = .ok (.putfield 53, 3) := by decide +kernel
theorem dX9_readWord_67 : decode cX9_readWord 67 = .ok (.iconst (-1), 1) := by decide +kernel
theorem dX9_readWord_68 : decode cX9_readWord 68 = .ok (.ireturn, 1) := by decide +kernel
theorem dX9_countAlike_0 : decode cX9_countAlike 0 = .ok (.iconst 0, 1) := by decide +kernel
theorem dX9_countAlike_1 : decode cX9_countAlike 1 = .ok (.istore_n 2, 1) := by decide +kernel
theorem dX9_countAlike_2 : decode cX9_countAlike 2 = .ok (.iload_n 2, 1) := by decide +kernel
theorem dX9_countAlike_3 : decode cX9_countAlike 3 = .ok (.aload_n 1, 1) := by decide +kernel
theorem dX9_countAlike_4 : decode cX9_countAlike 4 = .ok (.invokevirtual 115, 3) := by decide +kernel
theorem dX9_countAlike_7 : decode cX9_countAlike 7 = .ok (.if_icmp .ge 41, 3) := by decide +kernel
theorem dX9_countAlike_10 : decode cX9_countAlike 10 = .ok (.iload_n 2, 1) := by decide +kernel
theorem dX9_countAlike_11 : decode cX9_countAlike 11 = .ok (.aload_n 0, 1) := by decide +kernel
theorem dX9_countAlike_12 : decode cX9_countAlike 12 = .ok (.getfield 40, 3) := by decide +kernel
theorem dX9_countAlike_15 : decode cX9_countAlike 15 = .ok (.aload_n 0, 1) := by decide +kernel
theorem dX9_countAlike_16 : decode cX9_countAlike 16 = .ok (.getfield 53, 3) := by decide +kernel
theorem dX9_countAlike_19 : decode cX9_countAlike 19 = .ok (.isub, 1) := by decide +kernel
theorem dX9_countAlike_20 : decode cX9_countAlike 20 = .ok (.if_icmp .ge 28, 3) := by decide +kernel
theorem dX9_countAlike_23 : decode cX9_countAlike 23 = .ok (.aload_n 1, 1) := by decide +kernel
theorem dX9_countAlike_24 : decode cX9_countAlike 24 = .ok (.iload_n 2, 1) := by decide +kernel
theorem dX9_countAlike_25 : decode cX9_countAlike 25 = .ok (.invokevirtual 119, 3) := by decide +kernel
theorem dX9_countAlike_28 : decode cX9_countAlike 28 = .ok (.aload_n 0, 1) := by decide +kernel
theorem dX9_countAlike_29 : decode cX9_countAlike 29 = .ok (.getfield 37, 3) := by decide +kernel
theorem dX9_countAlike_32 : decode cX9_countAlike 32 = .ok (.aload_n 0, 1) := by decide +kernel
theorem dX9_countAlike_33 : decode cX9_countAlike 33 = .ok (.getfield 53, 3) := by decide +kernel
theorem dX9_countAlike_36 : decode cX9_countAlike 36 = .ok (.iload_n 2, 1) := by decide +kernel
theorem dX9_countAlike_37 : decode cX9_countAlike 37 = .ok (.iadd, 1) := by decide +kernel
theorem dX9_countAlike_38 : decode cX9_countAlike 38 = .ok (.iaload, 1) := by decide +kernel
theorem dX9_countAlike_39 : decode cX9_countAlike 39 = .ok (.if_icmp .ne 9, 3) := by decide +kernel
theorem dX9_countAlike_42 : decode cX9_countAlike 42 = .ok (.iinc 2 1, 3) := by decide +kernel
theorem dX9_countAlike_45 : decode cX9_countAlike 45 = .ok (.goto (-43), 3) := by decide +kernel
theorem dX9_countAlike_48 : decode cX9_countAlike 48 = .ok (.iload_n 2, 1) := by decide +kernel
theorem dX9_countAlike_49 : decode cX9_countAlike 49 = .ok (.ireturn, 1) := by decide +kernel
theorem dX9_readWorth_0 : decode cX9_readWorth 0 = .ok (.aload_n 0, 1) := by decide +kernel
theorem dX9_readWorth_1 : decode cX9_readWorth 1 = .ok (.iconst 0, 1) := by decide +kernel
theorem dX9_readWorth_2 : decode cX9_readWorth 2 = .ok (.aload_n 1, 1) := by decide +kernel
theorem dX9_readWorth_3 : decode cX9_readWorth 3 = .ok (.arraylength, 1) := by decide +kernel
theorem dX9_readWorth_4 : decode cX9_readWorth 4 = .ok (.iconst 1, 1) := by decide +kernel
theorem dX9_readWorth_5 : decode cX9_readWorth 5 = .ok (.isub, 1) := by decide +kernel
theorem dX9_readWorth_6 : decode cX9_readWorth 6 = .ok (.invokevirtual 77, 3) := by decide +kernel
theorem dX9_readWorth_9 : decode cX9_readWorth 9 = .ok (.istore_n 2, 1) := by decide +kernel
theorem dX9_readWorth_10 : decode cX9_readWorth 10 = .ok (.iload_n 2, 1) := by decide +kernel
theorem dX9_readWorth_11 : decode cX9_readWorth 11 = .ok (.ifCond .ge 5, 3) := by decide +kernel
theorem dX9_readWorth_14 : decode cX9_readWorth 14 = .ok (.iconst 0, 1) := by decide +kernel
theorem dX9_readWorth_15 : decode cX9_readWorth 15 = .ok (.ireturn, 1) := by decide +kernel
theorem dX9_readWorth_16 : decode cX9_readWorth 16 = .ok (.aload_n 0, 1) := by decide +kernel
theorem dX9_readWorth_17 : decode cX9_readWorth 17 = .ok (.invokevirtual 68, 3) := by decide +kernel
theorem dX9_readWorth_20 : decode cX9_readWorth 20 = .ok (.istore_n 3, 1) := by decide +kernel
theorem dX9_readWorth_21 : decode cX9_readWorth 21 = .ok (.iload_n 3, 1) := by decide +kernel
theorem dX9_readWorth_22 : decode cX9_readWorth 22 = .ok (.ifCond .ge 5, 3) := by decide +kernel
theorem dX9_readWorth_25 : decode cX9_readWorth 25 = .ok (.iconst 0, 1) := by decide +kernel
theorem dX9_readWorth_26 : decode cX9_readWorth 26 = .ok (.ireturn, 1) := by decide +kernel
theorem dX9_readWorth_27 : decode cX9_readWorth 27 = .ok (.aload_n 1, 1) := by decide +kernel
theorem dX9_readWorth_28 : decode cX9_readWorth 28 = .ok (.iload_n 2, 1) := by decide +kernel
theorem dX9_readWorth_29 : decode cX9_readWorth 29 = .ok (.iload_n 3, 1) := by decide +kernel
theorem dX9_readWorth_30 : decode cX9_readWorth 30 = .ok (.iastore, 1) := by decide +kernel
theorem dX9_readWorth_31 : decode cX9_readWorth 31 = .ok (.iconst 1, 1) := by decide +kernel
theorem dX9_readWorth_32 : decode cX9_readWorth 32 = .ok (.ireturn, 1) := by decide +kernel
theorem dX9_readKind_0 : decode cX9_readKind 0 = .ok (.aload_n 0, 1) := by decide +kernel
theorem dX9_readKind_1 : decode cX9_readKind 1 = .ok (.iconst 0, 1) := by decide +kernel
theorem dX9_readKind_2 : decode cX9_readKind 2 = .ok (.iconst 2, 1) := by decide +kernel
theorem dX9_readKind_3 : decode cX9_readKind 3 = .ok (.invokevirtual 77, 3) := by decide +kernel
theorem dX9_readKind_6 : decode cX9_readKind 6 = .ok (.istore_n 1, 1) := by decide +kernel
theorem dX9_readKind_7 : decode cX9_readKind 7 = .ok (.iload_n 1, 1) := by decide +kernel
theorem dX9_readKind_8 : decode cX9_readKind 8 = .ok (.ifCond .ge 5, 3) := by decide +kernel
theorem dX9_readKind_11 : decode cX9_readKind 11 = .ok (.iconst 0, 1) := by decide +kernel
theorem dX9_readKind_12 : decode cX9_readKind 12 = .ok (.ireturn, 1) := by decide +kernel
theorem dX9_readKind_13 : decode cX9_readKind 13 = .ok (.aload_n 0, 1) := by decide +kernel
theorem dX9_readKind_14 : decode cX9_readKind 14 = .ok (.getfield 22, 3) := by decide +kernel
theorem dX9_readKind_17 : decode cX9_readKind 17 = .ok (.iload_n 1, 1) := by decide +kernel
theorem dX9_readKind_18 : decode cX9_readKind 18 = .ok (.aload_n 0, 1) := by decide +kernel
theorem dX9_readKind_19 : decode cX9_readKind 19 = .ok (.iconst 0, 1) := by decide +kernel
theorem dX9_readKind_20 : decode cX9_readKind 20 = .ok (.bipush 9, 2) := by decide +kernel
theorem dX9_readKind_22 : decode cX9_readKind 22 = .ok (.invokevirtual 77, 3) := by decide +kernel
theorem dX9_readKind_25 : decode cX9_readKind 25 = .ok (.iastore, 1) := by decide +kernel
theorem dX9_readKind_26 : decode cX9_readKind 26 = .ok (.aload_n 0, 1) := by decide +kernel
theorem dX9_readKind_27 : decode cX9_readKind 27 = .ok (.getfield 22, 3) := by decide +kernel
theorem dX9_readKind_30 : decode cX9_readKind 30 = .ok (.iload_n 1, 1) := by decide +kernel
theorem dX9_readKind_31 : decode cX9_readKind 31 = .ok (.iaload, 1) := by decide +kernel
theorem dX9_readKind_32 : decode cX9_readKind 32 = .ok (.ifCond .ge 5, 3) := by decide +kernel
theorem dX9_readKind_35 : decode cX9_readKind 35 = .ok (.iconst 0, 1) := by decide +kernel
theorem dX9_readKind_36 : decode cX9_readKind 36 = .ok (.ireturn, 1) := by decide +kernel
theorem dX9_readKind_37 : decode cX9_readKind 37 = .ok (.aload_n 0, 1) := by decide +kernel
theorem dX9_readKind_38 : decode cX9_readKind 38 = .ok (.getfield 25, 3) := by decide +kernel
theorem dX9_readKind_41 : decode cX9_readKind 41 = .ok (.iload_n 1, 1) := by decide +kernel
theorem dX9_readKind_42 : decode cX9_readKind 42 = .ok (.aload_n 0, 1) := by decide +kernel
theorem dX9_readKind_43 : decode cX9_readKind 43 = .ok (.invokevirtual 68, 3) := by decide +kernel
theorem dX9_readKind_46 : decode cX9_readKind 46 = .ok (.iastore, 1) := by decide +kernel
theorem dX9_readKind_47 : decode cX9_readKind 47 = .ok (.aload_n 0, 1) := by decide +kernel
theorem dX9_readKind_48 : decode cX9_readKind 48 = .ok (.getfield 25, 3) := by decide +kernel
theorem dX9_readKind_51 : decode cX9_readKind 51 = .ok (.iload_n 1, 1) := by decide +kernel
theorem dX9_readKind_52 : decode cX9_readKind 52 = .ok (.iaload, 1) := by decide +kernel
theorem dX9_readKind_53 : decode cX9_readKind 53 = .ok (.ifCond .lt 7, 3) := by decide +kernel
theorem dX9_readKind_56 : decode cX9_readKind 56 = .ok (.iconst 1, 1) := by decide +kernel
theorem dX9_readKind_57 : decode cX9_readKind 57 = .ok (.goto 4, 3) := by decide +kernel
theorem dX9_readKind_60 : decode cX9_readKind 60 = .ok (.iconst 0, 1) := by decide +kernel
theorem dX9_readKind_61 : decode cX9_readKind 61 = .ok (.ireturn, 1) := by decide +kernel
theorem dX9_endPick_0 : decode cX9_endPick 0 = .ok (.aload_n 0, 1) := by decide +kernel
theorem dX9_endPick_1 : decode cX9_endPick 1 = .ok (.getfield 123, 3) := by decide +kernel
theorem dX9_endPick_4 : decode cX9_endPick 4 = .ok (.aload_n 0, 1) := by decide +kernel
theorem dX9_endPick_5 : decode cX9_endPick 5 = .ok (.getfield 28, 3) := by decide +kernel
theorem dX9_endPick_8 : decode cX9_endPick 8 = .ok (.arraylength, 1) := by decide +kernel
theorem dX9_endPick_9 : decode cX9_endPick 9 = .ok (.if_icmp .lt 5, 3) := by decide +kernel
theorem dX9_endPick_12 : decode cX9_endPick 12 = .ok (.iconst 0, 1) := by decide +kernel
theorem dX9_endPick_13 : decode cX9_endPick 13 = .ok (.ireturn, 1) := by decide +kernel
theorem dX9_endPick_14 : decode cX9_endPick 14 = .ok (.aload_n 0, 1) := by decide +kernel
theorem dX9_endPick_15 : decode cX9_endPick 15 = .ok (.getfield 28, 3) := by decide +kernel
theorem dX9_endPick_18 : decode cX9_endPick 18 = .ok (.aload_n 0, 1) := by decide +kernel
theorem dX9_endPick_19 : decode cX9_endPick 19 = .ok (.getfield 123, 3) := by decide +kernel
theorem dX9_endPick_22 : decode cX9_endPick 22 = .ok (.aload_n 0, 1) := by decide +kernel
theorem dX9_endPick_23 : decode cX9_endPick 23 = .ok (.getfield 126, 3) := by decide +kernel
theorem dX9_endPick_26 : decode cX9_endPick 26 = .ok (.iastore, 1) := by decide +kernel
theorem dX9_endPick_27 : decode cX9_endPick 27 = .ok (.aload_n 0, 1) := by decide +kernel
theorem dX9_endPick_28 : decode cX9_endPick 28 = .ok (.dup, 1) := by decide +kernel
theorem dX9_endPick_29 : decode cX9_endPick 29 = .ok (.getfield 123, 3) := by decide +kernel
theorem dX9_endPick_32 : decode cX9_endPick 32 = .ok (.iconst 1, 1) := by decide +kernel
theorem dX9_endPick_33 : decode cX9_endPick 33 = .ok (.iadd, 1) := by decide +kernel
theorem dX9_endPick_34 : decode cX9_endPick 34 = .ok (.putfield 123, 3) := by decide +kernel
theorem dX9_endPick_37 : decode cX9_endPick 37 = .ok (.iconst 1, 1) := by decide +kernel
theorem dX9_endPick_38 : decode cX9_endPick 38 = .ok (.ireturn, 1) := by decide +kernel
theorem dX9_readAny_0 : decode cX9_readAny 0 = .ok (.aload_n 0, 1) := by decide +kernel
theorem dX9_readAny_1 : decode cX9_readAny 1 = .ok (.iload_n 1, 1) := by decide +kernel
theorem dX9_readAny_2 : decode cX9_readAny 2 = .ok (.invokevirtual 129, 3) := by decide +kernel
theorem dX9_readAny_5 : decode cX9_readAny 5 = .ok (.ifCond .ne 5, 3) := by decide +kernel
theorem dX9_readAny_8 : decode cX9_readAny 8 = .ok (.iconst 0, 1) := by decide +kernel
theorem dX9_readAny_9 : decode cX9_readAny 9 = .ok (.ireturn, 1) := by decide +kernel
theorem dX9_readAny_10 : decode cX9_readAny 10 = .ok (.iconst 0, 1) := by decide +kernel
theorem dX9_readAny_11 : decode cX9_readAny 11 = .ok (.istore_n 2, 1) := by decide +kernel
theorem dX9_readAny_12 : decode cX9_readAny 12 = .ok (.iload_n 2, 1) := by decide +kernel
theorem dX9_readAny_13 : decode cX9_readAny 13 = .ok (.bipush 120, 2) := by decide +kernel
theorem dX9_readAny_15 : decode cX9_readAny 15 = .ok (.if_icmp .ge 34, 3) := by decide +kernel
theorem dX9_readAny_18 : decode cX9_readAny 18 = .ok (.aload_n 0, 1) := by decide +kernel
theorem dX9_readAny_19 : decode cX9_readAny 19 = .ok (.bipush 124, 2) := by decide +kernel
theorem dX9_readAny_21 : decode cX9_readAny 21 = .ok (.invokevirtual 56, 3) := by decide +kernel
theorem dX9_readAny_24 : decode cX9_readAny 24 = .ok (.ifCond .eq 25, 3) := by decide +kernel
theorem dX9_readAny_27 : decode cX9_readAny 27 = .ok (.aload_n 0, 1) := by decide +kernel
theorem dX9_readAny_28 : decode cX9_readAny 28 = .ok (.iload_n 1, 1) := by decide +kernel
theorem dX9_readAny_29 : decode cX9_readAny 29 = .ok (.invokevirtual 129, 3) := by decide +kernel
theorem dX9_readAny_32 : decode cX9_readAny 32 = .ok (.ifCond .ne 5, 3) := by decide +kernel
theorem dX9_readAny_35 : decode cX9_readAny 35 = .ok (.iconst 0, 1) := by decide +kernel
theorem dX9_readAny_36 : decode cX9_readAny 36 = .ok (.ireturn, 1) := by decide +kernel
theorem dX9_readAny_37 : decode cX9_readAny 37 = .ok (.aload_n 0, 1) := by decide +kernel
theorem dX9_readAny_38 : decode cX9_readAny 38 = .ok (.iconst 2, 1) := by decide +kernel
theorem dX9_readAny_39 : decode cX9_readAny 39 = .ok (.iconst 0, 1) := by decide +kernel
theorem dX9_readAny_40 : decode cX9_readAny 40 = .ok (.invokevirtual 132, 3) := by decide +kernel
theorem dX9_readAny_43 : decode cX9_readAny 43 = .ok (.iinc 2 1, 3) := by decide +kernel
theorem dX9_readAny_46 : decode cX9_readAny 46 = .ok (.goto (-34), 3) := by decide +kernel
theorem dX9_readAny_49 : decode cX9_readAny 49 = .ok (.iconst 1, 1) := by decide +kernel
theorem dX9_readAny_50 : decode cX9_readAny 50 = .ok (.ireturn, 1) := by decide +kernel
theorem dX9_readAll_0 : decode cX9_readAll 0 = .ok (.aload_n 0, 1) := by decide +kernel
theorem dX9_readAll_1 : decode cX9_readAll 1 = .ok (.iload_n 1, 1) := by decide +kernel
theorem dX9_readAll_2 : decode cX9_readAll 2 = .ok (.invokevirtual 136, 3) := by decide +kernel
theorem dX9_readAll_5 : decode cX9_readAll 5 = .ok (.ifCond .ne 5, 3) := by decide +kernel
theorem dX9_readAll_8 : decode cX9_readAll 8 = .ok (.iconst 0, 1) := by decide +kernel
theorem dX9_readAll_9 : decode cX9_readAll 9 = .ok (.ireturn, 1) := by decide +kernel
theorem dX9_readAll_10 : decode cX9_readAll 10 = .ok (.iconst 0, 1) := by decide +kernel
theorem dX9_readAll_11 : decode cX9_readAll 11 = .ok (.istore_n 2, 1) := by decide +kernel
theorem dX9_readAll_12 : decode cX9_readAll 12 = .ok (.iload_n 2, 1) := by decide +kernel
theorem dX9_readAll_13 : decode cX9_readAll 13 = .ok (.bipush 120, 2) := by decide +kernel
theorem dX9_readAll_15 : decode cX9_readAll 15 = .ok (.if_icmp .ge 34, 3) := by decide +kernel
theorem dX9_readAll_18 : decode cX9_readAll 18 = .ok (.aload_n 0, 1) := by decide +kernel
theorem dX9_readAll_19 : decode cX9_readAll 19 = .ok (.bipush 38, 2) := by decide +kernel
theorem dX9_readAll_21 : decode cX9_readAll 21 = .ok (.invokevirtual 56, 3) := by decide +kernel
theorem dX9_readAll_24 : decode cX9_readAll 24 = .ok (.ifCond .eq 25, 3) := by decide +kernel
theorem dX9_readAll_27 : decode cX9_readAll 27 = .ok (.aload_n 0, 1) := by decide +kernel
theorem dX9_readAll_28 : decode cX9_readAll 28 = .ok (.iload_n 1, 1) := by decide +kernel
theorem dX9_readAll_29 : decode cX9_readAll 29 = .ok (.invokevirtual 136, 3) := by decide +kernel
theorem dX9_readAll_32 : decode cX9_readAll 32 = .ok (.ifCond .ne 5, 3) := by decide +kernel
theorem dX9_readAll_35 : decode cX9_readAll 35 = .ok (.iconst 0, 1) := by decide +kernel
theorem dX9_readAll_36 : decode cX9_readAll 36 = .ok (.ireturn, 1) := by decide +kernel
theorem dX9_readAll_37 : decode cX9_readAll 37 = .ok (.aload_n 0, 1) := by decide +kernel
theorem dX9_readAll_38 : decode cX9_readAll 38 = .ok (.iconst 1, 1) := by decide +kernel
theorem dX9_readAll_39 : decode cX9_readAll 39 = .ok (.iconst 0, 1) := by decide +kernel
theorem dX9_readAll_40 : decode cX9_readAll 40 = .ok (.invokevirtual 132, 3) := by decide +kernel
theorem dX9_readAll_43 : decode cX9_readAll 43 = .ok (.iinc 2 1, 3) := by decide +kernel
theorem dX9_readAll_46 : decode cX9_readAll 46 = .ok (.goto (-34), 3) := by decide +kernel
theorem dX9_readAll_49 : decode cX9_readAll 49 = .ok (.iconst 1, 1) := by decide +kernel
theorem dX9_readAll_50 : decode cX9_readAll 50 = .ok (.ireturn, 1) := by decide +kernel
theorem dX9_readOne_0 : decode cX9_readOne 0 = .ok (.iload_n 1, 1) := by decide +kernel
theorem dX9_readOne_1 : decode cX9_readOne 1 = .ok (.iconst 4, 1) := by decide +kernel
theorem dX9_readOne_2 : decode cX9_readOne 2 = .ok (.if_icmp .ge 7, 3) := by decide +kernel
theorem dX9_readOne_5 : decode cX9_readOne 5 = .ok (.iconst 1, 1) := by decide +kernel
theorem dX9_readOne_6 : decode cX9_readOne 6 = .ok (.goto 4, 3) := by decide +kernel
theorem dX9_readOne_9 : decode cX9_readOne 9 = .ok (.iconst 0, 1) := by decide +kernel
theorem dX9_readOne_10 : decode cX9_readOne 10 = .ok (.istore_n 2, 1) := by decide +kernel
theorem dX9_readOne_11 : decode cX9_readOne 11 = .ok (.iload_n 2, 1) := by decide +kernel
theorem dX9_readOne_12 : decode cX9_readOne 12 = .ok (.ifCond .eq 32, 3) := by decide +kernel
theorem dX9_readOne_15 : decode cX9_readOne 15 = .ok (.aload_n 0, 1) := by decide +kernel
theorem dX9_readOne_16 : decode cX9_readOne 16 = .ok (.bipush 33, 2) := by decide +kernel
theorem dX9_readOne_18 : decode cX9_readOne 18 = .ok (.invokevirtual 56, 3) := by decide +kernel
theorem dX9_readOne_21 : decode cX9_readOne 21 = .ok (.ifCond .eq 23, 3) := by decide +kernel
theorem dX9_readOne_24 : decode cX9_readOne 24 = .ok (.aload_n 0, 1) := by decide +kernel
theorem dX9_readOne_25 : decode cX9_readOne 25 = .ok (.iload_n 1, 1) := by decide +kernel
theorem dX9_readOne_26 : decode cX9_readOne 26 = .ok (.iconst 1, 1) := by decide +kernel
theorem dX9_readOne_27 : decode cX9_readOne 27 = .ok (.iadd, 1) := by decide +kernel
theorem dX9_readOne_28 : decode cX9_readOne 28 = .ok (.invokevirtual 136, 3) := by decide +kernel
theorem dX9_readOne_31 : decode cX9_readOne 31 = .ok (.ifCond .ne 5, 3) := by decide +kernel
theorem dX9_readOne_34 : decode cX9_readOne 34 = .ok (.iconst 0, 1) := by decide +kernel
theorem dX9_readOne_35 : decode cX9_readOne 35 = .ok (.ireturn, 1) := by decide +kernel
theorem dX9_readOne_36 : decode cX9_readOne 36 = .ok (.aload_n 0, 1) := by decide +kernel
theorem dX9_readOne_37 : decode cX9_readOne 37 = .ok (.iconst 0, 1) := by decide +kernel
theorem dX9_readOne_38 : decode cX9_readOne 38 = .ok (.iconst 0, 1) := by decide +kernel
theorem dX9_readOne_39 : decode cX9_readOne 39 = .ok (.invokevirtual 132, 3) := by decide +kernel
theorem dX9_readOne_42 : decode cX9_readOne 42 = .ok (.iconst 1, 1) := by decide +kernel
theorem dX9_readOne_43 : decode cX9_readOne 43 = .ok (.ireturn, 1) := by decide +kernel
theorem dX9_readOne_44 : decode cX9_readOne 44 = .ok (.iload_n 2, 1) := by decide +kernel
theorem dX9_readOne_45 : decode cX9_readOne 45 = .ok (.ifCond .eq 37, 3) := by decide +kernel
theorem dX9_readOne_48 : decode cX9_readOne 48 = .ok (.aload_n 0, 1) := by decide +kernel
theorem dX9_readOne_49 : decode cX9_readOne 49 = .ok (.bipush 40, 2) := by decide +kernel
theorem dX9_readOne_51 : decode cX9_readOne 51 = .ok (.invokevirtual 56, 3) := by decide +kernel
theorem dX9_readOne_54 : decode cX9_readOne 54 = .ok (.ifCond .eq 28, 3) := by decide +kernel
theorem dX9_readOne_57 : decode cX9_readOne 57 = .ok (.aload_n 0, 1) := by decide +kernel
theorem dX9_readOne_58 : decode cX9_readOne 58 = .ok (.iload_n 1, 1) := by decide +kernel
theorem dX9_readOne_59 : decode cX9_readOne 59 = .ok (.iconst 1, 1) := by decide +kernel
theorem dX9_readOne_60 : decode cX9_readOne 60 = .ok (.iadd, 1) := by decide +kernel
theorem dX9_readOne_61 : decode cX9_readOne 61 = .ok (.invokevirtual 84, 3) := by decide +kernel
theorem dX9_readOne_64 : decode cX9_readOne 64 = .ok (.ifCond .eq 16, 3) := by decide +kernel
theorem dX9_readOne_67 : decode cX9_readOne 67 = .ok (.aload_n 0, 1) := by decide +kernel
theorem dX9_readOne_68 : decode cX9_readOne 68 = .ok (.bipush 41, 2) := by decide +kernel
theorem dX9_readOne_70 : decode cX9_readOne 70 = .ok (.invokevirtual 56, 3) := by decide +kernel
theorem dX9_readOne_73 : decode cX9_readOne 73 = .ok (.ifCond .eq 7, 3) := by decide +kernel
theorem dX9_readOne_76 : decode cX9_readOne 76 = .ok (.iconst 1, 1) := by decide +kernel
theorem dX9_readOne_77 : decode cX9_readOne 77 = .ok (.goto 4, 3) := by decide +kernel
theorem dX9_readOne_80 : decode cX9_readOne 80 = .ok (.iconst 0, 1) := by decide +kernel
theorem dX9_readOne_81 : decode cX9_readOne 81 = .ok (.ireturn, 1) := by decide +kernel
theorem dX9_readOne_82 : decode cX9_readOne 82 = .ok (.aload_n 0, 1) := by decide +kernel
theorem dX9_readOne_83 : decode cX9_readOne 83 = .ok (.bipush 112, 2) := by decide +kernel
theorem dX9_readOne_85 : decode cX9_readOne 85 = .ok (.invokevirtual 56, 3) := by decide +kernel
theorem dX9_readOne_88 : decode cX9_readOne 88 = .ok (.ifCond .eq 8, 3) := by decide +kernel
theorem dX9_readOne_91 : decode cX9_readOne 91 = .ok (.aload_n 0, 1) := by decide +kernel
theorem dX9_readOne_92 : decode cX9_readOne 92 = .ok (.invokevirtual 139, 3) := by decide +kernel
theorem dX9_readOne_95 : decode cX9_readOne 95 = .ok (.ireturn, 1) := by decide +kernel
theorem dX9_readOne_96 : decode cX9_readOne 96 = .ok (.aload_n 0, 1) := by decide +kernel
theorem dX9_readOne_97 : decode cX9_readOne 97 = .ok (.bipush 109, 2) := by decide +kernel
theorem dX9_readOne_99 : decode cX9_readOne 99 = .ok (.invokevirtual 56, 3) := by decide +kernel
theorem dX9_readOne_102 : decode cX9_readOne 102 = .ok (.ifCond .eq 9, 3) := by decide +kernel
theorem dX9_readOne_105 : decode cX9_readOne 105 = .ok (.aload_n 0, 1) := by decide +kernel
theorem dX9_readOne_106 : decode cX9_readOne 106 = .ok (.iconst 3, 1) := by decide +kernel
theorem dX9_readOne_107 : decode cX9_readOne 107 = .ok (.invokevirtual 142, 3) := by decide +kernel
theorem dX9_readOne_110 : decode cX9_readOne 110 = .ok (.ireturn, 1) := by decide +kernel
theorem dX9_readOne_111 : decode cX9_readOne 111 = .ok (.aload_n 0, 1) := by decide +kernel
theorem dX9_readOne_112 : decode cX9_readOne 112 = .ok (.bipush 116, 2) := by decide +kernel
theorem dX9_readOne_114 : decode cX9_readOne 114 = .ok (.invokevirtual 56, 3) := by decide +kernel
theorem dX9_readOne_117 : decode cX9_readOne 117 = .ok (.ifCond .eq 9, 3) := by decide +kernel
theorem dX9_readOne_120 : decode cX9_readOne 120 = .ok (.aload_n 0, 1) := by decide +kernel
theorem dX9_readOne_121 : decode cX9_readOne 121 = .ok (.iconst 4, 1) := by decide +kernel
theorem dX9_readOne_122 : decode cX9_readOne 122 = .ok (.invokevirtual 142, 3) := by decide +kernel
theorem dX9_readOne_125 : decode cX9_readOne 125 = .ok (.ireturn, 1) := by decide +kernel
theorem dX9_readOne_126 : decode cX9_readOne 126 = .ok (.aload_n 0, 1) := by decide +kernel
theorem dX9_readOne_127 : decode cX9_readOne 127 = .ok (.bipush 110, 2) := by decide +kernel
theorem dX9_readOne_129 : decode cX9_readOne 129 = .ok (.invokevirtual 56, 3) := by decide +kernel
theorem dX9_readOne_132 : decode cX9_readOne 132 = .ok (.ifCond .eq 15, 3) := by decide +kernel
theorem dX9_readOne_135 : decode cX9_readOne 135 = .ok (.aload_n 0, 1) := by decide +kernel
theorem dX9_readOne_136 : decode cX9_readOne 136 = .ok (.iconst 5, 1) := by decide +kernel
theorem dX9_readOne_137 : decode cX9_readOne 137 = .ok (.invokevirtual 142, 3) := by decide +kernel
theorem dX9_readOne_140 : decode cX9_readOne 140 = .ok (.ifCond .eq 7, 3) := by decide +kernel
theorem dX9_readOne_143 : decode cX9_readOne 143 = .ok (.iconst 1, 1) := by decide +kernel
theorem dX9_readOne_144 : decode cX9_readOne 144 = .ok (.goto 4, 3) := by decide +kernel
theorem dX9_readOne_147 : decode cX9_readOne 147 = .ok (.iconst 0, 1) := by decide +kernel
theorem dX9_readOne_148 : decode cX9_readOne 148 = .ok (.ireturn, 1) := by decide +kernel
theorem dX9_readFigureTest_0 : decode cX9_readFigureTest 0 = .ok (.aload_n 0, 1) := by decide +kernel
theorem dX9_readFigureTest_1 : decode cX9_readFigureTest 1 = .ok (.bipush 61, 2) := by decide +kernel
theorem dX9_readFigureTest_3 : decode cX9_readFigureTest 3 = .ok (.invokevirtual 56, 3) := by decide +kernel
theorem dX9_readFigureTest_6 : decode cX9_readFigureTest 6 = .ok (.ifCond .ne 5, 3) := by decide +kernel
theorem dX9_readFigureTest_9 : decode cX9_readFigureTest 9 = .ok (.iconst 0, 1) := by decide +kernel
theorem dX9_readFigureTest_10 : decode cX9_readFigureTest 10 = .ok (.ireturn, 1) := by decide +kernel
theorem dX9_readFigureTest_11 : decode cX9_readFigureTest 11 = .ok (.aload_n 0, 1) := by decide +kernel
theorem dX9_readFigureTest_12 : decode cX9_readFigureTest 12 = .ok (.iconst 0, 1) := by decide +kernel
theorem dX9_readFigureTest_13 : decode cX9_readFigureTest 13 = .ok (.bipush 9, 2) := by decide +kernel
theorem dX9_readFigureTest_15 : decode cX9_readFigureTest 15 = .ok (.invokevirtual 145, 3) := by decide +kernel
theorem dX9_readFigureTest_18 : decode cX9_readFigureTest 18 = .ok (.istore_n 2, 1) := by decide +kernel
theorem dX9_readFigureTest_19 : decode cX9_readFigureTest 19 = .ok (.aload_n 0, 1) := by decide +kernel
theorem dX9_readFigureTest_20 : decode cX9_readFigureTest 20 = .ok (.iload_n 1, 1) := by decide +kernel
theorem dX9_readFigureTest_21 : decode cX9_readFigureTest 21 = .ok (.iload_n 2, 1) := by decide +kernel
theorem dX9_readFigureTest_22 : decode cX9_readFigureTest 22 = .ok (.invokevirtual 132, 3) := by decide +kernel
theorem dX9_readFigureTest_25 : decode cX9_readFigureTest 25 = .ok (.iload_n 2, 1) := by decide +kernel
theorem dX9_readFigureTest_26 : decode cX9_readFigureTest 26 = .ok (.ifCond .lt 7, 3) := by decide +kernel
theorem dX9_readFigureTest_29 : decode cX9_readFigureTest 29 = .ok (.iconst 1, 1) := by decide +kernel
theorem dX9_readFigureTest_30 : decode cX9_readFigureTest 30 = .ok (.goto 4, 3) := by decide +kernel
theorem dX9_readFigureTest_33 : decode cX9_readFigureTest 33 = .ok (.iconst 0, 1) := by decide +kernel
theorem dX9_readFigureTest_34 : decode cX9_readFigureTest 34 = .ok (.ireturn, 1) := by decide +kernel
theorem dX9_readPriceTest_0 : decode cX9_readPriceTest 0 = .ok (.bipush 6, 2) := by decide +kernel
theorem dX9_readPriceTest_2 : decode cX9_readPriceTest 2 = .ok (.istore_n 1, 1) := by decide +kernel
theorem dX9_readPriceTest_3 : decode cX9_readPriceTest 3 = .ok (.aload_n 0, 1) := by decide +kernel
theorem dX9_readPriceTest_4 : decode cX9_readPriceTest 4 = .ok (.bipush 61, 2) := by decide +kernel
theorem dX9_readPriceTest_6 : decode cX9_readPriceTest 6 = .ok (.invokevirtual 56, 3) := by decide +kernel
theorem dX9_readPriceTest_9 : decode cX9_readPriceTest 9 = .ok (.ifCond .eq 9, 3) := by decide +kernel
theorem dX9_readPriceTest_12 : decode cX9_readPriceTest 12 = .ok (.bipush 7, 2) := by decide +kernel
theorem dX9_readPriceTest_14 : decode cX9_readPriceTest 14 = .ok (.istore_n 1, 1) := by decide +kernel
theorem dX9_readPriceTest_15 : decode cX9_readPriceTest 15 = .ok (.goto 29, 3) := by decide +kernel
theorem dX9_readPriceTest_18 : decode cX9_readPriceTest 18 = .ok (.aload_n 0, 1) := by decide +kernel
theorem dX9_readPriceTest_19 : decode cX9_readPriceTest 19 = .ok (.bipush 62, 2) := by decide +kernel
theorem dX9_readPriceTest_21 : decode cX9_readPriceTest 21 = .ok (.invokevirtual 56, 3) := by decide +kernel
theorem dX9_readPriceTest_24 : decode cX9_readPriceTest 24 = .ok (.ifCond .eq 9, 3) := by decide +kernel
theorem dX9_readPriceTest_27 : decode cX9_readPriceTest 27 = .ok (.bipush 8, 2) := by decide +kernel
theorem dX9_readPriceTest_29 : decode cX9_readPriceTest 29 = .ok (.istore_n 1, 1) := by decide +kernel
theorem dX9_readPriceTest_30 : decode cX9_readPriceTest 30 = .ok (.goto 14, 3) := by decide +kernel
theorem dX9_readPriceTest_33 : decode cX9_readPriceTest 33 = .ok (.aload_n 0, 1) := by decide +kernel
theorem dX9_readPriceTest_34 : decode cX9_readPriceTest 34 = .ok (.bipush 60, 2) := by decide +kernel
theorem dX9_readPriceTest_36 : decode cX9_readPriceTest 36 = .ok (.invokevirtual 56, 3) := by decide +kernel
theorem dX9_readPriceTest_39 : decode cX9_readPriceTest 39 = .ok (.ifCond .ne 5, 3) := by decide +kernel
theorem dX9_readPriceTest_42 : decode cX9_readPriceTest 42 = .ok (.iconst 0, 1) := by decide +kernel
theorem dX9_readPriceTest_43 : decode cX9_readPriceTest 43 = .ok (.ireturn, 1) := by decide +kernel
theorem dX9_readPriceTest_44 : decode cX9_readPriceTest 44 = .ok (.aload_n 0, 1) := by decide +kernel
theorem dX9_readPriceTest_45 : decode cX9_readPriceTest 45 = .ok (.invokevirtual 148, 3) := by decide +kernel
theorem dX9_readPriceTest_48 : decode cX9_readPriceTest 48 = .ok (.istore_n 2, 1) := by decide +kernel
theorem dX9_readPriceTest_49 : decode cX9_readPriceTest 49 = .ok (.aload_n 0, 1) := by decide +kernel
theorem dX9_readPriceTest_50 : decode cX9_readPriceTest 50 = .ok (.iload_n 1, 1) := by decide +kernel
theorem dX9_readPriceTest_51 : decode cX9_readPriceTest 51 = .ok (.iload_n 2, 1) := by decide +kernel
theorem dX9_readPriceTest_52 : decode cX9_readPriceTest 52 = .ok (.invokevirtual 132, 3) := by decide +kernel
theorem dX9_readPriceTest_55 : decode cX9_readPriceTest 55 = .ok (.iload_n 2, 1) := by decide +kernel
theorem dX9_readPriceTest_56 : decode cX9_readPriceTest 56 = .ok (.ifCond .lt 7, 3) := by decide +kernel
theorem dX9_readPriceTest_59 : decode cX9_readPriceTest 59 = .ok (.iconst 1, 1) := by decide +kernel
theorem dX9_readPriceTest_60 : decode cX9_readPriceTest 60 = .ok (.goto 4, 3) := by decide +kernel
theorem dX9_readPriceTest_63 : decode cX9_readPriceTest 63 = .ok (.iconst 0, 1) := by decide +kernel
theorem dX9_readPriceTest_64 : decode cX9_readPriceTest 64 = .ok (.ireturn, 1) := by decide +kernel
theorem dX9_take_0 : decode cX9_take 0 = .ok (.aload_n 0, 1) := by decide +kernel
theorem dX9_take_1 : decode cX9_take 1 = .ok (.getfield 53, 3) := by decide +kernel
theorem dX9_take_4 : decode cX9_take 4 = .ok (.aload_n 0, 1) := by decide +kernel
theorem dX9_take_5 : decode cX9_take 5 = .ok (.getfield 40, 3) := by decide +kernel
theorem dX9_take_8 : decode cX9_take 8 = .ok (.if_icmp .ge 16, 3) := by decide +kernel
theorem dX9_take_11 : decode cX9_take 11 = .ok (.aload_n 0, 1) := by decide +kernel
theorem dX9_take_12 : decode cX9_take 12 = .ok (.getfield 37, 3) := by decide +kernel
theorem dX9_take_15 : decode cX9_take 15 = .ok (.aload_n 0, 1) := by decide +kernel
theorem dX9_take_16 : decode cX9_take 16 = .ok (.getfield 53, 3) := by decide +kernel
theorem dX9_take_19 : decode cX9_take 19 = .ok (.iaload, 1) := by decide +kernel
theorem dX9_take_20 : decode cX9_take 20 = .ok (.iload_n 1, 1) := by decide +kernel
theorem dX9_take_21 : decode cX9_take 21 = .ok (.if_icmp .eq 5, 3) := by decide +kernel
theorem dX9_take_24 : decode cX9_take 24 = .ok (.iconst 0, 1) := by decide +kernel
theorem dX9_take_25 : decode cX9_take 25 = .ok (.ireturn, 1) := by decide +kernel
theorem dX9_take_26 : decode cX9_take 26 = .ok (.aload_n 0, 1) := by decide +kernel
theorem dX9_take_27 : decode cX9_take 27 = .ok (.dup, 1) := by decide +kernel
theorem dX9_take_28 : decode cX9_take 28 = .ok (.getfield 53, 3) := by decide +kernel
theorem dX9_take_31 : decode cX9_take 31 = .ok (.iconst 1, 1) := by decide +kernel
theorem dX9_take_32 : decode cX9_take 32 = .ok (.iadd, 1) := by decide +kernel
theorem dX9_take_33 : decode cX9_take 33 = .ok (.putfield 53, 3) := by decide +kernel
theorem dX9_take_36 : decode cX9_take 36 = .ok (.iconst 1, 1) := by decide +kernel
theorem dX9_take_37 : decode cX9_take 37 = .ok (.ireturn, 1) := by decide +kernel
theorem dX9_readPart_0 : decode cX9_readPart 0 = .ok (.aload_n 0, 1) := by decide +kernel
theorem dX9_readPart_1 : decode cX9_readPart 1 = .ok (.bipush 32, 2) := by decide +kernel
theorem dX9_readPart_3 : decode cX9_readPart 3 = .ok (.invokevirtual 56, 3) := by decide +kernel
theorem dX9_readPart_6 : decode cX9_readPart 6 = .ok (.ifCond .eq 10, 3) := by decide +kernel
theorem dX9_readPart_9 : decode cX9_readPart 9 = .ok (.aload_n 0, 1) := by decide +kernel
theorem dX9_readPart_10 : decode cX9_readPart 10 = .ok (.invokevirtual 148, 3) := by decide +kernel
theorem dX9_readPart_13 : decode cX9_readPart 13 = .ok (.goto 4, 3) := by decide +kernel
theorem dX9_readPart_16 : decode cX9_readPart 16 = .ok (.iconst (-1), 1) := by decide +kernel
theorem dX9_readPart_17 : decode cX9_readPart 17 = .ok (.ireturn, 1) := by decide +kernel
theorem dX9_readFigurePart_0 : decode cX9_readFigurePart 0 = .ok (.aload_n 0, 1) := by decide +kernel
theorem dX9_readFigurePart_1 : decode cX9_readFigurePart 1 = .ok (.bipush 32, 2) := by decide +kernel
theorem dX9_readFigurePart_3 : decode cX9_readFigurePart 3 = .ok (.invokevirtual 56, 3) := by decide +kernel
theorem dX9_readFigurePart_6 : decode cX9_readFigurePart 6 = .ok (.ifCond .eq 12, 3) := by decide +kernel
theorem dX9_readFigurePart_9 : decode cX9_readFigurePart 9 = .ok (.aload_n 0, 1) := by decide +kernel
theorem dX9_readFigurePart_10 : decode cX9_readFigurePart 10 = .ok (.iload_n 1, 1) := by decide +kernel
theorem dX9_readFigurePart_11 : decode cX9_readFigurePart 11 = .ok (.iload_n 2, 1) := by decide +kernel
theorem dX9_readFigurePart_12 : decode cX9_readFigurePart 12 = .ok (.invokevirtual 145, 3) := by decide +kernel
theorem dX9_readFigurePart_15 : decode cX9_readFigurePart 15 = .ok (.goto 4, 3) := by decide +kernel
theorem dX9_readFigurePart_18 : decode cX9_readFigurePart 18 = .ok (.iconst (-1), 1) := by decide +kernel
theorem dX9_readFigurePart_19 : decode cX9_readFigurePart 19 = .ok (.ireturn, 1) := by decide +kernel
theorem dX9_readNumber_0 : decode cX9_readNumber 0 = .ok (.iconst (-1), 1) := by decide +kernel
theorem dX9_readNumber_1 : decode cX9_readNumber 1 = .ok (.istore_n 1, 1) := by decide +kernel
theorem dX9_readNumber_2 : decode cX9_readNumber 2 = .ok (.iconst 0, 1) := by decide +kernel
theorem dX9_readNumber_3 : decode cX9_readNumber 3 = .ok (.istore_n 2, 1) := by decide +kernel
theorem dX9_readNumber_4 : decode cX9_readNumber 4 = .ok (.iload_n 2, 1) := by decide +kernel
theorem dX9_readNumber_5 : decode cX9_readNumber 5 = .ok (.iconst 3, 1) := by decide +kernel
theorem dX9_readNumber_6 : decode cX9_readNumber 6 = .ok (.if_icmp .ge 71, 3) := by decide +kernel
theorem dX9_readNumber_9 : decode cX9_readNumber 9 = .ok (.aload_n 0, 1) := by decide +kernel
theorem dX9_readNumber_10 : decode cX9_readNumber 10 = .ok (.getfield 53, 3) := by decide +kernel
theorem dX9_readNumber_13 : decode cX9_readNumber 13 = .ok (.aload_n 0, 1) := by decide +kernel
theorem dX9_readNumber_14 : decode cX9_readNumber 14 = .ok (.getfield 40, 3) := by decide +kernel
theorem dX9_readNumber_17 : decode cX9_readNumber 17 = .ok (.if_icmp .ge 60, 3) := by decide +kernel
theorem dX9_readNumber_20 : decode cX9_readNumber 20 = .ok (.aload_n 0, 1) := by decide +kernel
theorem dX9_readNumber_21 : decode cX9_readNumber 21 = .ok (.getfield 37, 3) := by decide +kernel
theorem dX9_readNumber_24 : decode cX9_readNumber 24 = .ok (.aload_n 0, 1) := by decide +kernel
theorem dX9_readNumber_25 : decode cX9_readNumber 25 = .ok (.getfield 53, 3) := by decide +kernel
theorem dX9_readNumber_28 : decode cX9_readNumber 28 = .ok (.iaload, 1) := by decide +kernel
theorem dX9_readNumber_29 : decode cX9_readNumber 29 = .ok (.bipush 48, 2) := by decide +kernel
theorem dX9_readNumber_31 : decode cX9_readNumber 31 = .ok (.isub, 1) := by decide +kernel
theorem dX9_readNumber_32 : decode cX9_readNumber 32 = .ok (.istore_n 3, 1) := by decide +kernel
theorem dX9_readNumber_33 : decode cX9_readNumber 33 = .ok (.iload_n 3, 1) := by decide +kernel
theorem dX9_readNumber_34 : decode cX9_readNumber 34 = .ok (.ifCond .lt 43, 3) := by decide +kernel
theorem dX9_readNumber_37 : decode cX9_readNumber 37 = .ok (.iload_n 3, 1) := by decide +kernel
theorem dX9_readNumber_38 : decode cX9_readNumber 38 = .ok (.bipush 9, 2) := by decide +kernel
theorem dX9_readNumber_40 : decode cX9_readNumber 40 = .ok (.if_icmp .le 6, 3) := by decide +kernel
theorem dX9_readNumber_43 : decode cX9_readNumber 43 = .ok (.goto 34, 3) := by decide +kernel
theorem dX9_readNumber_46 : decode cX9_readNumber 46 = .ok (.iload_n 1, 1) := by decide +kernel
theorem dX9_readNumber_47 : decode cX9_readNumber 47 = .ok (.ifCond .ge 7, 3) := by decide +kernel
theorem dX9_readNumber_50 : decode cX9_readNumber 50 = .ok (.iconst 0, 1) := by decide +kernel
theorem dX9_readNumber_51 : decode cX9_readNumber 51 = .ok (.goto 7, 3) := by decide +kernel
theorem dX9_readNumber_54 : decode cX9_readNumber 54 = .ok (.bipush 10, 2) := by decide +kernel
theorem dX9_readNumber_56 : decode cX9_readNumber 56 = .ok (.iload_n 1, 1) := by decide +kernel
theorem dX9_readNumber_57 : decode cX9_readNumber 57 = .ok (.imul, 1) := by decide +kernel
theorem dX9_readNumber_58 : decode cX9_readNumber 58 = .ok (.iload_n 3, 1) := by decide +kernel
theorem dX9_readNumber_59 : decode cX9_readNumber 59 = .ok (.iadd, 1) := by decide +kernel
theorem dX9_readNumber_60 : decode cX9_readNumber 60 = .ok (.istore_n 1, 1) := by decide +kernel
theorem dX9_readNumber_61 : decode cX9_readNumber 61 = .ok (.aload_n 0, 1) := by decide +kernel
theorem dX9_readNumber_62 : decode cX9_readNumber 62 = .ok (.dup, 1) := by decide +kernel
theorem dX9_readNumber_63 : decode cX9_readNumber 63 = .ok (.getfield 53, 3) := by decide +kernel
theorem dX9_readNumber_66 : decode cX9_readNumber 66 = .ok (.iconst 1, 1) := by decide +kernel
theorem dX9_readNumber_67 : decode cX9_readNumber 67 = .ok (.iadd, 1) := by decide +kernel
theorem dX9_readNumber_68 : decode cX9_readNumber 68 = .ok (.putfield 53, 3) := by decide +kernel
theorem dX9_readNumber_71 : decode cX9_readNumber 71 = .ok (.iinc 2 1, 3) := by decide +kernel
theorem dX9_readNumber_74 : decode cX9_readNumber 74 = .ok (.goto (-70), 3) := by decide +kernel
theorem dX9_readNumber_77 : decode cX9_readNumber 77 = .ok (.iload_n 1, 1) := by decide +kernel
theorem dX9_readNumber_78 : decode cX9_readNumber 78 = .ok (.ireturn, 1) := by decide +kernel
theorem dX9_readFigure_0 : decode cX9_readFigure 0 = .ok (.aload_n 0, 1) := by decide +kernel
theorem dX9_readFigure_1 : decode cX9_readFigure 1 = .ok (.getfield 53, 3) := by decide +kernel
theorem dX9_readFigure_4 : decode cX9_readFigure 4 = .ok (.aload_n 0, 1) := by decide +kernel
theorem dX9_readFigure_5 : decode cX9_readFigure 5 = .ok (.getfield 40, 3) := by decide +kernel
theorem dX9_readFigure_8 : decode cX9_readFigure 8 = .ok (.if_icmp .lt 5, 3) := by decide +kernel
theorem dX9_readFigure_11 : decode cX9_readFigure 11 = .ok (.iconst (-1), 1) := by decide +kernel
theorem dX9_readFigure_12 : decode cX9_readFigure 12 = .ok (.ireturn, 1) := by decide +kernel
theorem dX9_readFigure_13 : decode cX9_readFigure 13 = .ok (.aload_n 0, 1) := by decide +kernel
theorem dX9_readFigure_14 : decode cX9_readFigure 14 = .ok (.getfield 37, 3) := by decide +kernel
theorem dX9_readFigure_17 : decode cX9_readFigure 17 = .ok (.aload_n 0, 1) := by decide +kernel
theorem dX9_readFigure_18 : decode cX9_readFigure 18 = .ok (.getfield 53, 3) := by decide +kernel
theorem dX9_readFigure_21 : decode cX9_readFigure 21 = .ok (.iaload, 1) := by decide +kernel
theorem dX9_readFigure_22 : decode cX9_readFigure 22 = .ok (.bipush 48, 2) := by decide +kernel
theorem dX9_readFigure_24 : decode cX9_readFigure 24 = .ok (.isub, 1) := by decide +kernel
theorem dX9_readFigure_25 : decode cX9_readFigure 25 = .ok (.istore_n 3, 1) := by decide +kernel
theorem dX9_readFigure_26 : decode cX9_readFigure 26 = .ok (.iload_n 3, 1) := by decide +kernel
theorem dX9_readFigure_27 : decode cX9_readFigure 27 = .ok (.iload_n 1, 1) := by decide +kernel
theorem dX9_readFigure_28 : decode cX9_readFigure 28 = .ok (.if_icmp .lt 8, 3) := by decide +kernel
theorem dX9_readFigure_31 : decode cX9_readFigure 31 = .ok (.iload_n 3, 1) := by decide +kernel
theorem dX9_readFigure_32 : decode cX9_readFigure 32 = .ok (.iload_n 2, 1) := by decide +kernel
theorem dX9_readFigure_33 : decode cX9_readFigure 33 = .ok (.if_icmp .le 5, 3) := by decide +kernel
theorem dX9_readFigure_36 : decode cX9_readFigure 36 = .ok (.iconst (-1), 1) := by decide +kernel
theorem dX9_readFigure_37 : decode cX9_readFigure 37 = .ok (.ireturn, 1) := by decide +kernel
theorem dX9_readFigure_38 : decode cX9_readFigure 38 = .ok (.aload_n 0, 1) := by decide +kernel
theorem dX9_readFigure_39 : decode cX9_readFigure 39 = .ok (.dup, 1) := by decide +kernel
theorem dX9_readFigure_40 : decode cX9_readFigure 40 = .ok (.getfield 53, 3) := by decide +kernel
theorem dX9_readFigure_43 : decode cX9_readFigure 43 = .ok (.iconst 1, 1) := by decide +kernel
theorem dX9_readFigure_44 : decode cX9_readFigure 44 = .ok (.iadd, 1) := by decide +kernel
theorem dX9_readFigure_45 : decode cX9_readFigure 45 = .ok (.putfield 53, 3) := by decide +kernel
theorem dX9_readFigure_48 : decode cX9_readFigure 48 = .ok (.iload_n 3, 1) := by decide +kernel
theorem dX9_readFigure_49 : decode cX9_readFigure 49 = .ok (.ireturn, 1) := by decide +kernel
theorem dX9_emit_0 : decode cX9_emit 0 = .ok (.aload_n 0, 1) := by decide +kernel
theorem dX9_emit_1 : decode cX9_emit 1 = .ok (.getfield 126, 3) := by decide +kernel
theorem dX9_emit_4 : decode cX9_emit 4 = .ok (.aload_n 0, 1) := by decide +kernel
theorem dX9_emit_5 : decode cX9_emit 5 = .ok (.getfield 43, 3) := by decide +kernel
theorem dX9_emit_8 : decode cX9_emit 8 = .ok (.arraylength, 1) := by decide +kernel
theorem dX9_emit_9 : decode cX9_emit 9 = .ok (.if_icmp .ge 27, 3) := by decide +kernel
theorem dX9_emit_12 : decode cX9_emit 12 = .ok (.aload_n 0, 1) := by decide +kernel
theorem dX9_emit_13 : decode cX9_emit 13 = .ok (.getfield 43, 3) := by decide +kernel
theorem dX9_emit_16 : decode cX9_emit 16 = .ok (.aload_n 0, 1) := by decide +kernel
theorem dX9_emit_17 : decode cX9_emit 17 = .ok (.getfield 126, 3) := by decide +kernel
theorem dX9_emit_20 : decode cX9_emit 20 = .ok (.iload_n 2, 1) := by decide +kernel
theorem dX9_emit_21 : decode cX9_emit 21 = .ok (.iconst 4, 1) := by decide +kernel
theorem dX9_emit_22 : decode cX9_emit 22 = .ok (.ishl, 1) := by decide +kernel
theorem dX9_emit_23 : decode cX9_emit 23 = .ok (.iload_n 1, 1) := by decide +kernel
theorem dX9_emit_24 : decode cX9_emit 24 = .ok (.ior, 1) := by decide +kernel
theorem dX9_emit_25 : decode cX9_emit 25 = .ok (.iastore, 1) := by decide +kernel
theorem dX9_emit_26 : decode cX9_emit 26 = .ok (.aload_n 0, 1) := by decide +kernel
theorem dX9_emit_27 : decode cX9_emit 27 = .ok (.dup, 1) := by decide +kernel
theorem dX9_emit_28 : decode cX9_emit 28 = .ok (.getfield 126, 3) := by decide +kernel
theorem dX9_emit_31 : decode cX9_emit 31 = .ok (.iconst 1, 1) := by decide +kernel
theorem dX9_emit_32 : decode cX9_emit 32 = .ok (.iadd, 1) := by decide +kernel
theorem dX9_emit_33 : decode cX9_emit 33 = .ok (.putfield 126, 3) := by decide +kernel
theorem dX9_emit_36 : decode cX9_emit 36 = .ok (.return_, 1) := by decide +kernel
theorem dX9_runPicks_0 : decode cX9_runPicks 0 = .ok (.iconst 0, 1) := by decide +kernel
theorem dX9_runPicks_1 : decode cX9_runPicks 1 = .ok (.istore_n 2, 1) := by decide +kernel
theorem dX9_runPicks_2 : decode cX9_runPicks 2 = .ok (.iconst 0, 1) := by decide +kernel
theorem dX9_runPicks_3 : decode cX9_runPicks 3 = .ok (.istore_n 3, 1) := by decide +kernel
theorem dX9_runPicks_4 : decode cX9_runPicks 4 = .ok (.iload_n 3, 1) := by decide +kernel
theorem dX9_runPicks_5 : decode cX9_runPicks 5 = .ok (.aload_n 0, 1) := by decide +kernel
theorem dX9_runPicks_6 : decode cX9_runPicks 6 = .ok (.getfield 123, 3) := by decide +kernel
theorem dX9_runPicks_9 : decode cX9_runPicks 9 = .ok (.if_icmp .ge 34, 3) := by decide +kernel
theorem dX9_runPicks_12 : decode cX9_runPicks 12 = .ok (.aload_n 0, 1) := by decide +kernel
theorem dX9_runPicks_13 : decode cX9_runPicks 13 = .ok (.getfield 31, 3) := by decide +kernel
theorem dX9_runPicks_16 : decode cX9_runPicks 16 = .ok (.iload_n 3, 1) := by decide +kernel
theorem dX9_runPicks_17 : decode cX9_runPicks 17 = .ok (.aload_n 0, 1) := by decide +kernel
theorem dX9_runPicks_18 : decode cX9_runPicks 18 = .ok (.aload_n 1, 1) := by decide +kernel
theorem dX9_runPicks_19 : decode cX9_runPicks 19 = .ok (.iload_n 2, 1) := by decide +kernel
theorem dX9_runPicks_20 : decode cX9_runPicks 20 = .ok (.aload_n 0, 1) := by decide +kernel
theorem dX9_runPicks_21 : decode cX9_runPicks 21 = .ok (.getfield 28, 3) := by decide +kernel
theorem dX9_runPicks_24 : decode cX9_runPicks 24 = .ok (.iload_n 3, 1) := by decide +kernel
theorem dX9_runPicks_25 : decode cX9_runPicks 25 = .ok (.iaload, 1) := by decide +kernel
theorem dX9_runPicks_26 : decode cX9_runPicks 26 = .ok (.invokevirtual 151, 3) := by decide +kernel
theorem dX9_runPicks_29 : decode cX9_runPicks 29 = .ok (.iastore, 1) := by decide +kernel
theorem dX9_runPicks_30 : decode cX9_runPicks 30 = .ok (.aload_n 0, 1) := by decide +kernel
theorem dX9_runPicks_31 : decode cX9_runPicks 31 = .ok (.getfield 28, 3) := by decide +kernel
theorem dX9_runPicks_34 : decode cX9_runPicks 34 = .ok (.iload_n 3, 1) := by decide +kernel
theorem dX9_runPicks_35 : decode cX9_runPicks 35 = .ok (.iaload, 1) := by decide +kernel
theorem dX9_runPicks_36 : decode cX9_runPicks 36 = .ok (.istore_n 2, 1) := by decide +kernel
theorem dX9_runPicks_37 : decode cX9_runPicks 37 = .ok (.iinc 3 1, 3) := by decide +kernel
theorem dX9_runPicks_40 : decode cX9_runPicks 40 = .ok (.goto (-36), 3) := by decide +kernel
theorem dX9_runPicks_43 : decode cX9_runPicks 43 = .ok (.return_, 1) := by decide +kernel
theorem dX9_pickFrom_0 : decode cX9_pickFrom 0 = .ok (.iconst 0, 1) := by decide +kernel
theorem dX9_pickFrom_1 : decode cX9_pickFrom 1 = .ok (.istore_n 3, 1) := by decide +kernel
theorem dX9_pickFrom_2 : decode cX9_pickFrom 2 = .ok (.iload_n 3, 1) := by decide +kernel
theorem dX9_pickFrom_3 : decode cX9_pickFrom 3 = .ok (.aload_n 0, 1) := by decide +kernel
theorem dX9_pickFrom_4 : decode cX9_pickFrom 4 = .ok (.getfield 123, 3) := by decide +kernel
theorem dX9_pickFrom_7 : decode cX9_pickFrom 7 = .ok (.if_icmp .ge 33, 3) := by decide +kernel
theorem dX9_pickFrom_10 : decode cX9_pickFrom 10 = .ok (.aload_n 0, 1) := by decide +kernel
theorem dX9_pickFrom_11 : decode cX9_pickFrom 11 = .ok (.getfield 31, 3) := by decide +kernel
theorem dX9_pickFrom_14 : decode cX9_pickFrom 14 = .ok (.iload_n 3, 1) := by decide +kernel
theorem dX9_pickFrom_15 : decode cX9_pickFrom 15 = .ok (.iaload, 1) := by decide +kernel
theorem dX9_pickFrom_16 : decode cX9_pickFrom 16 = .ok (.iload_n 2, 1) := by decide +kernel
theorem dX9_pickFrom_17 : decode cX9_pickFrom 17 = .ok (.iand, 1) := by decide +kernel
theorem dX9_pickFrom_18 : decode cX9_pickFrom 18 = .ok (.ifCond .eq 16, 3) := by decide +kernel
theorem dX9_pickFrom_21 : decode cX9_pickFrom 21 = .ok (.aload_n 1, 1) := by decide +kernel
theorem dX9_pickFrom_22 : decode cX9_pickFrom 22 = .ok (.aload_n 0, 1) := by decide +kernel
theorem dX9_pickFrom_23 : decode cX9_pickFrom 23 = .ok (.getfield 31, 3) := by decide +kernel
theorem dX9_pickFrom_26 : decode cX9_pickFrom 26 = .ok (.iload_n 3, 1) := by decide +kernel
theorem dX9_pickFrom_27 : decode cX9_pickFrom 27 = .ok (.iaload, 1) := by decide +kernel
theorem dX9_pickFrom_28 : decode cX9_pickFrom 28 = .ok (.iload_n 2, 1) := by decide +kernel
theorem dX9_pickFrom_29 : decode cX9_pickFrom 29 = .ok (.iand, 1) := by decide +kernel
theorem dX9_pickFrom_30 : decode cX9_pickFrom 30 = .ok (.invokevirtual 155, 3) := by decide +kernel
theorem dX9_pickFrom_33 : decode cX9_pickFrom 33 = .ok (.ireturn, 1) := by decide +kernel
theorem dX9_pickFrom_34 : decode cX9_pickFrom 34 = .ok (.iinc 3 1, 3) := by decide +kernel
theorem dX9_pickFrom_37 : decode cX9_pickFrom 37 = .ok (.goto (-35), 3) := by decide +kernel
theorem dX9_pickFrom_40 : decode cX9_pickFrom 40 = .ok (.bipush 7, 2) := by decide +kernel
theorem dX9_pickFrom_42 : decode cX9_pickFrom 42 = .ok (.ireturn, 1) := by decide +kernel
theorem dX9_holdingFor_0 : decode cX9_holdingFor 0 = .ok (.iconst 0, 1) := by decide +kernel
theorem dX9_holdingFor_1 : decode cX9_holdingFor 1 = .ok (.istore 4, 2) := by decide +kernel
theorem dX9_holdingFor_3 : decode cX9_holdingFor 3 = .ok (.iload_n 2, 1) := by decide +kernel
theorem dX9_holdingFor_4 : decode cX9_holdingFor 4 = .ok (.istore 5, 2) := by decide +kernel
theorem dX9_holdingFor_6 : decode cX9_holdingFor 6 = .ok (.iload 5, 2) := by decide +kernel
theorem dX9_holdingFor_8 : decode cX9_holdingFor 8 = .ok (.iload_n 3, 1) := by decide +kernel
theorem dX9_holdingFor_9 : decode cX9_holdingFor 9 = .ok (.if_icmp .ge 179, 3) := by decide +kernel
theorem dX9_holdingFor_12 : decode cX9_holdingFor 12 = .ok (.iload 5, 2) := by decide +kernel
theorem dX9_holdingFor_14 : decode cX9_holdingFor 14 = .ok (.aload_n 0, 1) := by decide +kernel
theorem dX9_holdingFor_15 : decode cX9_holdingFor 15 = .ok (.getfield 43, 3) := by decide +kernel
theorem dX9_holdingFor_18 : decode cX9_holdingFor 18 = .ok (.arraylength, 1) := by decide +kernel
theorem dX9_holdingFor_19 : decode cX9_holdingFor 19 = .ok (.if_icmp .ge 169, 3) := by decide +kernel
theorem dX9_holdingFor_22 : decode cX9_holdingFor 22 = .ok (.aload_n 0, 1) := by decide +kernel
theorem dX9_holdingFor_23 : decode cX9_holdingFor 23 = .ok (.getfield 43, 3) := by decide +kernel
theorem dX9_holdingFor_26 : decode cX9_holdingFor 26 = .ok (.iload 5, 2) := by decide +kernel
theorem dX9_holdingFor_28 : decode cX9_holdingFor 28 = .ok (.iaload, 1) := by decide +kernel
theorem dX9_holdingFor_29 : decode cX9_holdingFor 29 = .ok (.bipush 15, 2) := by decide +kernel
theorem dX9_holdingFor_31 : decode cX9_holdingFor 31 = .ok (.iand, 1) := by decide +kernel
theorem dX9_holdingFor_32 : decode cX9_holdingFor 32 = .ok (.istore 6, 2) := by decide +kernel
theorem dX9_holdingFor_34 : decode cX9_holdingFor 34 = .ok (.iload 6, 2) := by decide +kernel
theorem dX9_holdingFor_36 : decode cX9_holdingFor 36 = .ok (.ifCond .ne 31, 3) := by decide +kernel
theorem dX9_holdingFor_39 : decode cX9_holdingFor 39 = .ok (.iload 4, 2) := by decide +kernel
theorem dX9_holdingFor_41 : decode cX9_holdingFor 41 = .ok (.ifCond .le 26, 3) := by decide +kernel
theorem dX9_holdingFor_44 : decode cX9_holdingFor 44 = .ok (.aload_n 0, 1) := by decide +kernel
theorem dX9_holdingFor_45 : decode cX9_holdingFor 45 = .ok (.getfield 34, 3) := by decide +kernel
theorem dX9_holdingFor_48 : decode cX9_holdingFor 48 = .ok (.iload 4, 2) := by decide +kernel
theorem dX9_holdingFor_50 : decode cX9_holdingFor 50 = .ok (.iconst 1, 1) := by decide +kernel
theorem dX9_holdingFor_51 : decode cX9_holdingFor 51 = .ok (.isub, 1) := by decide +kernel
theorem dX9_holdingFor_52 : decode cX9_holdingFor 52 = .ok (.aload_n 0, 1) := by decide +kernel
theorem dX9_holdingFor_53 : decode cX9_holdingFor 53 = .ok (.getfield 34, 3) := by decide +kernel
theorem dX9_holdingFor_56 : decode cX9_holdingFor 56 = .ok (.iload 4, 2) := by decide +kernel
theorem dX9_holdingFor_58 : decode cX9_holdingFor 58 = .ok (.iconst 1, 1) := by decide +kernel
theorem dX9_holdingFor_59 : decode cX9_holdingFor 59 = .ok (.isub, 1) := by decide +kernel
theorem dX9_holdingFor_60 : decode cX9_holdingFor 60 = .ok (.iaload, 1) := by decide +kernel
theorem dX9_holdingFor_61 : decode cX9_holdingFor 61 = .ok (.iconst (-1), 1) := by decide +kernel
theorem dX9_holdingFor_62 : decode cX9_holdingFor 62 = .ok (.ixor, 1) := by decide +kernel
theorem dX9_holdingFor_63 : decode cX9_holdingFor 63 = .ok (.iastore, 1) := by decide +kernel
theorem dX9_holdingFor_64 : decode cX9_holdingFor 64 = .ok (.goto 118, 3) := by decide +kernel
theorem dX9_holdingFor_67 : decode cX9_holdingFor 67 = .ok (.iload 6, 2) := by decide +kernel
theorem dX9_holdingFor_69 : decode cX9_holdingFor 69 = .ok (.iconst 1, 1) := by decide +kernel
theorem dX9_holdingFor_70 : decode cX9_holdingFor 70 = .ok (.if_icmp .ne 34, 3) := by decide +kernel
theorem dX9_holdingFor_73 : decode cX9_holdingFor 73 = .ok (.iload 4, 2) := by decide +kernel
theorem dX9_holdingFor_75 : decode cX9_holdingFor 75 = .ok (.iconst 1, 1) := by decide +kernel
theorem dX9_holdingFor_76 : decode cX9_holdingFor 76 = .ok (.if_icmp .le 28, 3) := by decide +kernel
theorem dX9_holdingFor_79 : decode cX9_holdingFor 79 = .ok (.iinc 4 (-1), 3) := by decide +kernel
theorem dX9_holdingFor_82 : decode cX9_holdingFor 82 = .ok (.aload_n 0, 1) := by decide +kernel
theorem dX9_holdingFor_83 : decode cX9_holdingFor 83 = .ok (.getfield 34, 3) := by decide +kernel
theorem dX9_holdingFor_86 : decode cX9_holdingFor 86 = .ok (.iload 4, 2) := by decide +kernel
theorem dX9_holdingFor_88 : decode cX9_holdingFor 88 = .ok (.iconst 1, 1) := by decide +kernel
theorem dX9_holdingFor_89 : decode cX9_holdingFor 89 = .ok (.isub, 1) := by decide +kernel
theorem dX9_holdingFor_90 : decode cX9_holdingFor 90 = .ok (.dup2, 1) := by decide +kernel
theorem dX9_holdingFor_91 : decode cX9_holdingFor 91 = .ok (.iaload, 1) := by decide +kernel
theorem dX9_holdingFor_92 : decode cX9_holdingFor 92 = .ok (.aload_n 0, 1) := by decide +kernel
theorem dX9_holdingFor_93 : decode cX9_holdingFor 93 = .ok (.getfield 34, 3) := by decide +kernel
theorem dX9_holdingFor_96 : decode cX9_holdingFor 96 = .ok (.iload 4, 2) := by decide +kernel
theorem dX9_holdingFor_98 : decode cX9_holdingFor 98 = .ok (.iaload, 1) := by decide +kernel
theorem dX9_holdingFor_99 : decode cX9_holdingFor 99 = .ok (.iand, 1) := by decide +kernel
theorem dX9_holdingFor_100 : decode cX9_holdingFor 100 = .ok (.iastore, 1) := by decide +kernel
theorem dX9_holdingFor_101 : decode cX9_holdingFor 101 = .ok (.goto 81, 3) := by decide +kernel
theorem dX9_holdingFor_104 : decode cX9_holdingFor 104 = .ok (.iload 6, 2) := by decide +kernel
theorem dX9_holdingFor_106 : decode cX9_holdingFor 106 = .ok (.iconst 2, 1) := by decide +kernel
theorem dX9_holdingFor_107 : decode cX9_holdingFor 107 = .ok (.if_icmp .ne 34, 3) := by decide +kernel
theorem dX9_holdingFor_110 : decode cX9_holdingFor 110 = .ok (.iload 4, 2) := by decide +kernel
theorem dX9_holdingFor_112 : decode cX9_holdingFor 112 = .ok (.iconst 1, 1) := by decide +kernel
theorem dX9_holdingFor_113 : decode cX9_holdingFor 113 = .ok (.if_icmp .le 28, 3) := by decide +kernel
theorem dX9_holdingFor_116 : decode cX9_holdingFor 116 = .ok (.iinc 4 (-1), 3) := by decide +kernel
theorem dX9_holdingFor_119 : decode cX9_holdingFor 119 = .ok (.aload_n 0, 1) := by decide +kernel
theorem dX9_holdingFor_120 : decode cX9_holdingFor 120 = .ok (.getfield 34, 3) := by decide +kernel
theorem dX9_holdingFor_123 : decode cX9_holdingFor 123 = .ok (.iload 4, 2) := by decide +kernel
theorem dX9_holdingFor_125 : decode cX9_holdingFor 125 = .ok (.iconst 1, 1) := by decide +kernel
theorem dX9_holdingFor_126 : decode cX9_holdingFor 126 = .ok (.isub, 1) := by decide +kernel
theorem dX9_holdingFor_127 : decode cX9_holdingFor 127 = .ok (.dup2, 1) := by decide +kernel
theorem dX9_holdingFor_128 : decode cX9_holdingFor 128 = .ok (.iaload, 1) := by decide +kernel
theorem dX9_holdingFor_129 : decode cX9_holdingFor 129 = .ok (.aload_n 0, 1) := by decide +kernel
theorem dX9_holdingFor_130 : decode cX9_holdingFor 130 = .ok (.getfield 34, 3) := by decide +kernel
theorem dX9_holdingFor_133 : decode cX9_holdingFor 133 = .ok (.iload 4, 2) := by decide +kernel
theorem dX9_holdingFor_135 : decode cX9_holdingFor 135 = .ok (.iaload, 1) := by decide +kernel
theorem dX9_holdingFor_136 : decode cX9_holdingFor 136 = .ok (.ior, 1) := by decide +kernel
theorem dX9_holdingFor_137 : decode cX9_holdingFor 137 = .ok (.iastore, 1) := by decide +kernel
theorem dX9_holdingFor_138 : decode cX9_holdingFor 138 = .ok (.goto 44, 3) := by decide +kernel
theorem dX9_holdingFor_141 : decode cX9_holdingFor 141 = .ok (.iload 6, 2) := by decide +kernel
theorem dX9_holdingFor_143 : decode cX9_holdingFor 143 = .ok (.iconst 2, 1) := by decide +kernel
theorem dX9_holdingFor_144 : decode cX9_holdingFor 144 = .ok (.if_icmp .le 38, 3) := by decide +kernel
theorem dX9_holdingFor_147 : decode cX9_holdingFor 147 = .ok (.iload 4, 2) := by decide +kernel
theorem dX9_holdingFor_149 : decode cX9_holdingFor 149 = .ok (.aload_n 0, 1) := by decide +kernel
theorem dX9_holdingFor_150 : decode cX9_holdingFor 150 = .ok (.getfield 34, 3) := by decide +kernel
theorem dX9_holdingFor_153 : decode cX9_holdingFor 153 = .ok (.arraylength, 1) := by decide +kernel
theorem dX9_holdingFor_154 : decode cX9_holdingFor 154 = .ok (.if_icmp .ge 28, 3) := by decide +kernel
theorem dX9_holdingFor_157 : decode cX9_holdingFor 157 = .ok (.aload_n 0, 1) := by decide +kernel
theorem dX9_holdingFor_158 : decode cX9_holdingFor 158 = .ok (.getfield 34, 3) := by decide +kernel
theorem dX9_holdingFor_161 : decode cX9_holdingFor 161 = .ok (.iload 4, 2) := by decide +kernel
theorem dX9_holdingFor_163 : decode cX9_holdingFor 163 = .ok (.aload_n 1, 1) := by decide +kernel
theorem dX9_holdingFor_164 : decode cX9_holdingFor 164 = .ok (.iload 6, 2) := by decide +kernel
theorem dX9_holdingFor_166 : decode cX9_holdingFor 166 = .ok (.aload_n 0, 1) := by decide +kernel
theorem dX9_holdingFor_167 : decode cX9_holdingFor 167 = .ok (.getfield 43, 3) := by decide +kernel
theorem dX9_holdingFor_170 : decode cX9_holdingFor 170 = .ok (.iload 5, 2) := by decide +kernel
theorem dX9_holdingFor_172 : decode cX9_holdingFor 172 = .ok (.iaload, 1) := by decide +kernel
theorem dX9_holdingFor_173 : decode cX9_holdingFor 173 = .ok (.iconst 4, 1) := by decide +kernel
theorem dX9_holdingFor_174 : decode cX9_holdingFor 174 = .ok (.ishr, 1) := by decide +kernel
theorem dX9_holdingFor_175 : decode cX9_holdingFor 175 = .ok (.invokevirtual 161, 3) := by decide +kernel
theorem dX9_holdingFor_178 : decode cX9_holdingFor 178 = .ok (.iastore, 1) := by decide +kernel
theorem dX9_holdingFor_179 : decode cX9_holdingFor 179 = .ok (.iinc 4 1, 3) := by decide +kernel
theorem dX9_holdingFor_182 : decode cX9_holdingFor 182 = .ok (.iinc 5 1, 3) := by decide +kernel
theorem dX9_holdingFor_185 : decode cX9_holdingFor 185 = .ok (.goto (-179), 3) := by decide +kernel
theorem dX9_holdingFor_188 : decode cX9_holdingFor 188 = .ok (.iload 4, 2) := by decide +kernel
theorem dX9_holdingFor_190 : decode cX9_holdingFor 190 = .ok (.ifCond .le 12, 3) := by decide +kernel
theorem dX9_holdingFor_193 : decode cX9_holdingFor 193 = .ok (.aload_n 0, 1) := by decide +kernel
theorem dX9_holdingFor_194 : decode cX9_holdingFor 194 = .ok (.getfield 34, 3) := by decide +kernel
theorem dX9_holdingFor_197 : decode cX9_holdingFor 197 = .ok (.iconst 0, 1) := by decide +kernel
theorem dX9_holdingFor_198 : decode cX9_holdingFor 198 = .ok (.iaload, 1) := by decide +kernel
theorem dX9_holdingFor_199 : decode cX9_holdingFor 199 = .ok (.goto 4, 3) := by decide +kernel
theorem dX9_holdingFor_202 : decode cX9_holdingFor 202 = .ok (.iconst 0, 1) := by decide +kernel
theorem dX9_holdingFor_203 : decode cX9_holdingFor 203 = .ok (.ireturn, 1) := by decide +kernel
theorem dX10_init_0 : decode cX10_init 0 = .ok (.aload_n 0, 1) := by decide +kernel
theorem dX10_init_1 : decode cX10_init 1 = .ok (.invokespecial 1, 3) := by decide +kernel
theorem dX10_init_4 : decode cX10_init 4 = .ok (.aload_n 0, 1) := by decide +kernel
theorem dX10_init_5 : decode cX10_init 5 = .ok (.bipush 20, 2) := by decide +kernel
theorem dX10_init_7 : decode cX10_init 7 = .ok (.newarray .int, 2) := by decide +kernel
theorem dX10_init_9 : decode cX10_init 9 = .ok (.putfield 9, 3) := by decide +kernel
theorem dX10_init_12 : decode cX10_init 12 = .ok (.return_, 1) := by decide +kernel
theorem dX10_clear_0 : decode cX10_clear 0 = .ok (.aload_n 0, 1) := by decide +kernel
theorem dX10_clear_1 : decode cX10_clear 1 = .ok (.iconst 0, 1) := by decide +kernel
theorem dX10_clear_2 : decode cX10_clear 2 = .ok (.putfield 13, 3) := by decide +kernel
theorem dX10_clear_5 : decode cX10_clear 5 = .ok (.return_, 1) := by decide +kernel
theorem dX10_note_0 : decode cX10_note 0 = .ok (.aload_n 0, 1) := by decide +kernel
theorem dX10_note_1 : decode cX10_note 1 = .ok (.getfield 13, 3) := by decide +kernel
theorem dX10_note_4 : decode cX10_note 4 = .ok (.bipush 20, 2) := by decide +kernel
theorem dX10_note_6 : decode cX10_note 6 = .ok (.if_icmp .ge 13, 3) := by decide +kernel
theorem dX10_note_9 : decode cX10_note 9 = .ok (.aload_n 0, 1) := by decide +kernel
theorem dX10_note_10 : decode cX10_note 10 = .ok (.getfield 9, 3) := by decide +kernel
theorem dX10_note_13 : decode cX10_note 13 = .ok (.aload_n 0, 1) := by decide +kernel
theorem dX10_note_14 : decode cX10_note 14 = .ok (.getfield 13, 3) := by decide +kernel
theorem dX10_note_17 : decode cX10_note 17 = .ok (.iload_n 1, 1) := by decide +kernel
theorem dX10_note_18 : decode cX10_note 18 = .ok (.iastore, 1) := by decide +kernel
theorem dX10_note_19 : decode cX10_note 19 = .ok (.aload_n 0, 1) := by decide +kernel
theorem dX10_note_20 : decode cX10_note 20 = .ok (.dup, 1) := by decide +kernel
theorem dX10_note_21 : decode cX10_note 21 = .ok (.getfield 13, 3) := by decide +kernel
theorem dX10_note_24 : decode cX10_note 24 = .ok (.iconst 1, 1) := by decide +kernel
theorem dX10_note_25 : decode cX10_note 25 = .ok (.iadd, 1) := by decide +kernel
theorem dX10_note_26 : decode cX10_note 26 = .ok (.putfield 13, 3) := by decide +kernel
theorem dX10_note_29 : decode cX10_note 29 = .ok (.return_, 1) := by decide +kernel
theorem dX10_kept_0 : decode cX10_kept 0 = .ok (.aload_n 0, 1) := by decide +kernel
theorem dX10_kept_1 : decode cX10_kept 1 = .ok (.getfield 13, 3) := by decide +kernel
theorem dX10_kept_4 : decode cX10_kept 4 = .ok (.bipush 20, 2) := by decide +kernel
theorem dX10_kept_6 : decode cX10_kept 6 = .ok (.invokestatic 17, 3) := by decide +kernel
theorem dX10_kept_9 : decode cX10_kept 9 = .ok (.ireturn, 1) := by decide +kernel
theorem dX11_init_0 : decode cX11_init 0 = .ok (.aload_n 0, 1) := by decide +kernel
theorem dX11_init_1 : decode cX11_init 1 = .ok (.invokespecial 3, 3) := by decide +kernel
theorem dX11_init_4 : decode cX11_init 4 = .ok (.aload_n 0, 1) := by decide +kernel
theorem dX11_init_5 : decode cX11_init 5 = .ok (.new 9, 3) := by decide +kernel
theorem dX11_init_8 : decode cX11_init 8 = .ok (.dup, 1) := by decide +kernel
theorem dX11_init_9 : decode cX11_init 9 = .ok (.invokespecial 11, 3) := by decide +kernel
theorem dX11_init_12 : decode cX11_init 12 = .ok (.putfield 12, 3) := by decide +kernel
theorem dX11_init_15 : decode cX11_init 15 = .ok (.aload_n 0, 1) := by decide +kernel
theorem dX11_init_16 : decode cX11_init 16 = .ok (.bipush 16, 2) := by decide +kernel
theorem dX11_init_18 : decode cX11_init 18 = .ok (.newarray .int, 2) := by decide +kernel
theorem dX11_init_20 : decode cX11_init 20 = .ok (.putfield 18, 3) := by decide +kernel
theorem dX11_init_23 : decode cX11_init 23 = .ok (.aload_n 0, 1) := by decide +kernel
theorem dX11_init_24 : decode cX11_init 24 = .ok (.iconst 3, 1) := by decide +kernel
theorem dX11_init_25 : decode cX11_init 25 = .ok (.newarray .int, 2) := by decide +kernel
theorem dX11_init_27 : decode cX11_init 27 = .ok (.putfield 22, 3) := by decide +kernel
theorem dX11_init_30 : decode cX11_init 30 = .ok (.aload_n 0, 1) := by decide +kernel
theorem dX11_init_31 : decode cX11_init 31 = .ok (.new 25, 3) := by decide +kernel
theorem dX11_init_34 : decode cX11_init 34 = .ok (.dup, 1) := by decide +kernel
theorem dX11_init_35 : decode cX11_init 35 = .ok (.invokespecial 27, 3) := by decide +kernel
theorem dX11_init_38 : decode cX11_init 38 = .ok (.putfield 28, 3) := by decide +kernel
theorem dX11_init_41 : decode cX11_init 41 = .ok (.aload_n 0, 1) := by decide +kernel
theorem dX11_init_42 : decode cX11_init 42 = .ok (.bipush 120, 2) := by decide +kernel
theorem dX11_init_44 : decode cX11_init 44 = .ok (.newarray .int, 2) := by decide +kernel
theorem dX11_init_46 : decode cX11_init 46 = .ok (.putfield 32, 3) := by decide +kernel
theorem dX11_init_49 : decode cX11_init 49 = .ok (.aload_n 0, 1) := by decide +kernel
theorem dX11_init_50 : decode cX11_init 50 = .ok (.bipush 10, 2) := by decide +kernel
theorem dX11_init_52 : decode cX11_init 52 = .ok (.anewarray 35, 3) := by decide +kernel
theorem dX11_init_55 : decode cX11_init 55 = .ok (.putfield 37, 3) := by decide +kernel
theorem dX11_init_58 : decode cX11_init 58 = .ok (.aload_n 0, 1) := by decide +kernel
theorem dX11_init_59 : decode cX11_init 59 = .ok (.new 41, 3) := by decide +kernel
theorem dX11_init_62 : decode cX11_init 62 = .ok (.dup, 1) := by decide +kernel
theorem dX11_init_63 : decode cX11_init 63 = .ok (.invokespecial 43, 3) := by decide +kernel
theorem dX11_init_66 : decode cX11_init 66 = .ok (.putfield 44, 3) := by decide +kernel
theorem dX11_init_69 : decode cX11_init 69 = .ok (.aload_n 0, 1) := by decide +kernel
theorem dX11_init_70 : decode cX11_init 70 = .ok (.bipush 10, 2) := by decide +kernel
theorem dX11_init_72 : decode cX11_init 72 = .ok (.newarray .int, 2) := by decide +kernel
theorem dX11_init_74 : decode cX11_init 74 = .ok (.putfield 48, 3) := by decide +kernel
theorem dX11_init_77 : decode cX11_init 77 = .ok (.aload_n 0, 1) := by decide +kernel
theorem dX11_init_78 : decode cX11_init 78 = .ok (.new 51, 3) := by decide +kernel
theorem dX11_init_81 : decode cX11_init 81 = .ok (.dup, 1) := by decide +kernel
theorem dX11_init_82 : decode cX11_init 82 = .ok (.invokespecial 53, 3) := by decide +kernel
theorem dX11_init_85 : decode cX11_init 85 = .ok (.putfield 54, 3) := by decide +kernel
theorem dX11_init_88 : decode cX11_init 88 = .ok (.aload_n 0, 1) := by decide +kernel
theorem dX11_init_89 : decode cX11_init 89 = .ok (.bipush 6, 2) := by decide +kernel
theorem dX11_init_91 : decode cX11_init 91 = .ok (.newarray .int, 2) := by decide +kernel
theorem dX11_init_93 : decode cX11_init 93 = .ok (.putfield 58, 3) := by decide +kernel
theorem dX11_init_96 : decode cX11_init 96 = .ok (.aload_n 0, 1) := by decide +kernel
theorem dX11_init_97 : decode cX11_init 97 = .ok (.bipush 6, 2) := by decide +kernel
theorem dX11_init_99 : decode cX11_init 99 = .ok (.newarray .int, 2) := by decide +kernel
theorem dX11_init_101 : decode cX11_init 101 = .ok (.putfield 61, 3) := by decide +kernel
theorem dX11_init_104 : decode cX11_init 104 = .ok (.aload_n 0, 1) := by decide +kernel
theorem dX11_init_105 : decode cX11_init 105 = .ok (.bipush 6, 2) := by decide +kernel
theorem dX11_init_107 : decode cX11_init 107 = .ok (.bipush 60, 2) := by decide +kernel
theorem dX11_init_109 : decode cX11_init 109 = .ok (.multianewarray 64 2, 4) := by decide +kernel
theorem dX11_init_113 : decode cX11_init 113 = .ok (.putfield 66, 3) := by decide +kernel
theorem dX11_init_116 : decode cX11_init 116 = .ok (.iconst 0, 1) := by decide +kernel
theorem dX11_init_117 : decode cX11_init 117 = .ok (.istore_n 1, 1) := by decide +kernel
theorem dX11_init_118 : decode cX11_init 118 = .ok (.iload_n 1, 1) := by decide +kernel
theorem dX11_init_119 : decode cX11_init 119 = .ok (.bipush 6, 2) := by decide +kernel
theorem dX11_init_121 : decode cX11_init 121 = .ok (.if_icmp .ge 16, 3) := by decide +kernel
theorem dX11_init_124 : decode cX11_init 124 = .ok (.aload_n 0, 1) := by decide +kernel
theorem dX11_init_125 : decode cX11_init 125 = .ok (.getfield 58, 3) := by decide +kernel
theorem dX11_init_128 : decode cX11_init 128 = .ok (.iload_n 1, 1) := by decide +kernel
theorem dX11_init_129 : decode cX11_init 129 = .ok (.iconst (-1), 1) := by decide +kernel
theorem dX11_init_130 : decode cX11_init 130 = .ok (.iastore, 1) := by decide +kernel
theorem dX11_init_131 : decode cX11_init 131 = .ok (.iinc 1 1, 3) := by decide +kernel
theorem dX11_init_134 : decode cX11_init 134 = .ok (.goto (-16), 3) := by decide +kernel
theorem dX11_init_137 : decode cX11_init 137 = .ok (.return_, 1) := by decide +kernel
theorem dX11_thing_0 : decode cX11_thing 0 = .ok (.iload_n 1, 1) := by decide +kernel
theorem dX11_thing_1 : decode cX11_thing 1 = .ok (.sipush 256, 3) := by decide +kernel
theorem dX11_thing_4 : decode cX11_thing 4 = .ok (.invokestatic 69, 3) := by decide +kernel
theorem dX11_thing_7 : decode cX11_thing 7 = .ok (.ifCond .eq 20, 3) := by decide +kernel
theorem dX11_thing_10 : decode cX11_thing 10 = .ok (.iload_n 2, 1) := by decide +kernel
theorem dX11_thing_11 : decode cX11_thing 11 = .ok (.bipush 100, 2) := by decide +kernel
theorem dX11_thing_13 : decode cX11_thing 13 = .ok (.invokestatic 69, 3) := by decide +kernel
theorem dX11_thing_16 : decode cX11_thing 16 = .ok (.ifCond .eq 11, 3) := by decide +kernel
theorem dX11_thing_19 : decode cX11_thing 19 = .ok (.iload_n 3, 1) := by decide +kernel
theorem dX11_thing_20 : decode cX11_thing 20 = .ok (.iconst 4, 1) := by decide +kernel
theorem dX11_thing_21 : decode cX11_thing 21 = .ok (.invokestatic 69, 3) := by decide +kernel
theorem dX11_thing_24 : decode cX11_thing 24 = .ok (.ifCond .ne 6, 3) := by decide +kernel
theorem dX11_thing_27 : decode cX11_thing 27 = .ok (.bipush (-2), 2) := by decide +kernel
theorem dX11_thing_29 : decode cX11_thing 29 = .ok (.ireturn, 1) := by decide +kernel
theorem dX11_thing_30 : decode cX11_thing 30 = .ok (.aload_n 0, 1) := by decide +kernel
theorem dX11_thing_31 : decode cX11_thing 31 = .ok (.getfield 28, 3) := by decide +kernel
theorem dX11_thing_34 : decode cX11_thing 34 = .ok (.getfield 73, 3) := by decide +kernel
theorem dX11_thing_37 : decode cX11_thing 37 = .ok (.ifCond .gt 10, 3) := by decide +kernel
theorem dX11_thing_40 : decode cX11_thing 40 = .ok (.aload_n 0, 1) := by decide +kernel
theorem dX11_thing_41 : decode cX11_thing 41 = .ok (.getfield 77, 3) := by decide +kernel
theorem dX11_thing_44 : decode cX11_thing 44 = .ok (.ifCond .le 6, 3) := by decide +kernel
theorem dX11_thing_47 : decode cX11_thing 47 = .ok (.bipush (-3), 2) := by decide +kernel
theorem dX11_thing_49 : decode cX11_thing 49 = .ok (.ireturn, 1) := by decide +kernel
theorem dX11_thing_50 : decode cX11_thing 50 = .ok (.aload_n 0, 1) := by decide +kernel
theorem dX11_thing_51 : decode cX11_thing 51 = .ok (.getfield 12, 3) := by decide +kernel
theorem dX11_thing_54 : decode cX11_thing 54 = .ok (.iload_n 1, 1) := by decide +kernel
theorem dX11_thing_55 : decode cX11_thing 55 = .ok (.iload_n 2, 1) := by decide +kernel
theorem dX11_thing_56 : decode cX11_thing 56 = .ok (.iload_n 3, 1) := by decide +kernel
theorem dX11_thing_57 : decode cX11_thing 57 = .ok (.invokevirtual 80, 3) := by decide +kernel
theorem dX11_thing_60 : decode cX11_thing 60 = .ok (.ireturn, 1) := by decide +kernel
theorem dX11_price_0 : decode cX11_price 0 = .ok (.aload_n 0, 1) := by decide +kernel
theorem dX11_price_1 : decode cX11_price 1 = .ok (.getfield 12, 3) := by decide +kernel
theorem dX11_price_4 : decode cX11_price 4 = .ok (.iload_n 1, 1) := by decide +kernel
theorem dX11_price_5 : decode cX11_price 5 = .ok (.invokevirtual 84, 3) := by decide +kernel
theorem dX11_price_8 : decode cX11_price 8 = .ok (.ifCond .ne 5, 3) := by decide +kernel
theorem dX11_price_11 : decode cX11_price 11 = .ok (.iconst (-1), 1) := by decide +kernel
theorem dX11_price_12 : decode cX11_price 12 = .ok (.ireturn, 1) := by decide +kernel
theorem dX11_price_13 : decode cX11_price 13 = .ok (.iload_n 2, 1) := by decide +kernel
theorem dX11_price_14 : decode cX11_price 14 = .ok (.bipush 100, 2) := by decide +kernel
theorem dX11_price_16 : decode cX11_price 16 = .ok (.invokestatic 69, 3) := by decide +kernel
theorem dX11_price_19 : decode cX11_price 19 = .ok (.ifCond .ne 6, 3) := by decide +kernel
theorem dX11_price_22 : decode cX11_price 22 = .ok (.bipush (-2), 2) := by decide +kernel
theorem dX11_price_24 : decode cX11_price 24 = .ok (.ireturn, 1) := by decide +kernel
theorem dX11_price_25 : decode cX11_price 25 = .ok (.aload_n 0, 1) := by decide +kernel
theorem dX11_price_26 : decode cX11_price 26 = .ok (.getfield 12, 3) := by decide +kernel
theorem dX11_price_29 : decode cX11_price 29 = .ok (.getfield 88, 3) := by decide +kernel
theorem dX11_price_32 : decode cX11_price 32 = .ok (.iload_n 1, 1) := by decide +kernel
theorem dX11_price_33 : decode cX11_price 33 = .ok (.iaload, 1) := by decide +kernel
theorem dX11_price_34 : decode cX11_price 34 = .ok (.istore_n 3, 1) := by decide +kernel
theorem dX11_price_35 : decode cX11_price 35 = .ok (.aload_n 0, 1) := by decide +kernel
theorem dX11_price_36 : decode cX11_price 36 = .ok (.getfield 12, 3) := by decide +kernel
theorem dX11_price_39 : decode cX11_price 39 = .ok (.getfield 88, 3) := by decide +kernel
theorem dX11_price_42 : decode cX11_price 42 = .ok (.iload_n 1, 1) := by decide +kernel
theorem dX11_price_43 : decode cX11_price 43 = .ok (.iload_n 2, 1) := by decide +kernel
theorem dX11_price_44 : decode cX11_price 44 = .ok (.iastore, 1) := by decide +kernel
theorem dX11_price_45 : decode cX11_price 45 = .ok (.iload_n 3, 1) := by decide +kernel
theorem dX11_price_46 : decode cX11_price 46 = .ok (.ireturn, 1) := by decide +kernel
theorem dX11_taker_0 : decode cX11_taker 0 = .ok (.iload_n 1, 1) := by decide +kernel
theorem dX11_taker_1 : decode cX11_taker 1 = .ok (.iconst 3, 1) := by decide +kernel
theorem dX11_taker_2 : decode cX11_taker 2 = .ok (.invokestatic 69, 3) := by decide +kernel
theorem dX11_taker_5 : decode cX11_taker 5 = .ok (.ifCond .ne 6, 3) := by decide +kernel
theorem dX11_taker_8 : decode cX11_taker 8 = .ok (.bipush (-2), 2) := by decide +kernel
theorem dX11_taker_10 : decode cX11_taker 10 = .ok (.ireturn, 1) := by decide +kernel
theorem dX11_taker_11 : decode cX11_taker 11 = .ok (.aload_n 0, 1) := by decide +kernel
theorem dX11_taker_12 : decode cX11_taker 12 = .ok (.getfield 91, 3) := by decide +kernel
theorem dX11_taker_15 : decode cX11_taker 15 = .ok (.bipush 16, 2) := by decide +kernel
theorem dX11_taker_17 : decode cX11_taker 17 = .ok (.if_icmp .lt 6, 3) := by decide +kernel
theorem dX11_taker_20 : decode cX11_taker 20 = .ok (.bipush (-4), 2) := by decide +kernel
theorem dX11_taker_22 : decode cX11_taker 22 = .ok (.ireturn, 1) := by decide +kernel
theorem dX11_taker_23 : decode cX11_taker 23 = .ok (.aload_n 0, 1) := by decide +kernel
theorem dX11_taker_24 : decode cX11_taker 24 = .ok (.getfield 18, 3) := by decide +kernel
theorem dX11_taker_27 : decode cX11_taker 27 = .ok (.aload_n 0, 1) := by decide +kernel
theorem dX11_taker_28 : decode cX11_taker 28 = .ok (.getfield 91, 3) := by decide +kernel
theorem dX11_taker_31 : decode cX11_taker 31 = .ok (.iload_n 1, 1) := by decide +kernel
theorem dX11_taker_32 : decode cX11_taker 32 = .ok (.iastore, 1) := by decide +kernel
theorem dX11_taker_33 : decode cX11_taker 33 = .ok (.aload_n 0, 1) := by decide +kernel
theorem dX11_taker_34 : decode cX11_taker 34 = .ok (.getfield 22, 3) := by decide +kernel
theorem dX11_taker_37 : decode cX11_taker 37 = .ok (.iload_n 1, 1) := by decide +kernel
theorem dX11_taker_38 : decode cX11_taker 38 = .ok (.dup2, 1) := by decide +kernel
theorem dX11_taker_39 : decode cX11_taker 39 = .ok (.iaload, 1) := by decide +kernel
theorem dX11_taker_40 : decode cX11_taker 40 = .ok (.iconst 1, 1) := by decide +kernel
theorem dX11_taker_41 : decode cX11_taker 41 = .ok (.iadd, 1) := by decide +kernel
theorem dX11_taker_42 : decode cX11_taker 42 = .ok (.iastore, 1) := by decide +kernel
theorem dX11_taker_43 : decode cX11_taker 43 = .ok (.aload_n 0, 1) := by decide +kernel
theorem dX11_taker_44 : decode cX11_taker 44 = .ok (.dup, 1) := by decide +kernel
theorem dX11_taker_45 : decode cX11_taker 45 = .ok (.getfield 91, 3) := by decide +kernel
theorem dX11_taker_48 : decode cX11_taker 48 = .ok (.dup_x1, 1) := by decide +kernel
theorem dX11_taker_49 : decode cX11_taker 49 = .ok (.iconst 1, 1) := by decide +kernel
theorem dX11_taker_50 : decode cX11_taker 50 = .ok (.iadd, 1) := by decide +kernel
theorem dX11_taker_51 : decode cX11_taker 51 = .ok (.putfield 91, 3) := by decide +kernel
theorem dX11_taker_54 : decode cX11_taker 54 = .ok (.ireturn, 1) := by decide +kernel
theorem dX11_choice_0 : decode cX11_choice 0 = .ok (.iload_n 1, 1) := by decide +kernel
theorem dX11_choice_1 : decode cX11_choice 1 = .ok (.aload_n 0, 1) := by decide +kernel
theorem dX11_choice_2 : decode cX11_choice 2 = .ok (.getfield 91, 3) := by decide +kernel
theorem dX11_choice_5 : decode cX11_choice 5 = .ok (.invokestatic 69, 3) := by decide +kernel
theorem dX11_choice_8 : decode cX11_choice 8 = .ok (.ifCond .ne 5, 3) := by decide +kernel
theorem dX11_choice_11 : decode cX11_choice 11 = .ok (.iconst (-1), 1) := by decide +kernel
theorem dX11_choice_12 : decode cX11_choice 12 = .ok (.ireturn, 1) := by decide +kernel
theorem dX11_choice_13 : decode cX11_choice 13 = .ok (.aload_n 0, 1) := by decide +kernel
theorem dX11_choice_14 : decode cX11_choice 14 = .ok (.iload_n 1, 1) := by decide +kernel
theorem dX11_choice_15 : decode cX11_choice 15 = .ok (.iload_n 2, 1) := by decide +kernel
theorem dX11_choice_16 : decode cX11_choice 16 = .ok (.iload_n 3, 1) := by decide +kernel
theorem dX11_choice_17 : decode cX11_choice 17 = .ok (.invokevirtual 94, 3) := by decide +kernel
theorem dX11_choice_20 : decode cX11_choice 20 = .ok (.ireturn, 1) := by decide +kernel
theorem dX11_put_0 : decode cX11_put 0 = .ok (.iload_n 1, 1) := by decide +kernel
theorem dX11_put_1 : decode cX11_put 1 = .ok (.aload_n 0, 1) := by decide +kernel
theorem dX11_put_2 : decode cX11_put 2 = .ok (.getfield 28, 3) := by decide +kernel
theorem dX11_put_5 : decode cX11_put 5 = .ok (.getfield 73, 3) := by decide +kernel
theorem dX11_put_8 : decode cX11_put 8 = .ok (.invokestatic 69, 3) := by decide +kernel
theorem dX11_put_11 : decode cX11_put 11 = .ok (.ifCond .ne 5, 3) := by decide +kernel
theorem dX11_put_14 : decode cX11_put 14 = .ok (.iconst (-1), 1) := by decide +kernel
theorem dX11_put_15 : decode cX11_put 15 = .ok (.ireturn, 1) := by decide +kernel
theorem dX11_put_16 : decode cX11_put 16 = .ok (.iload_n 2, 1) := by decide +kernel
theorem dX11_put_17 : decode cX11_put 17 = .ok (.ifCond .lt 8, 3) := by decide +kernel
theorem dX11_put_20 : decode cX11_put 20 = .ok (.iload_n 2, 1) := by decide +kernel
theorem dX11_put_21 : decode cX11_put 21 = .ok (.iconst 2, 1) := by decide +kernel
theorem dX11_put_22 : decode cX11_put 22 = .ok (.if_icmp .le 6, 3) := by decide +kernel
theorem dX11_put_25 : decode cX11_put 25 = .ok (.bipush (-2), 2) := by decide +kernel
theorem dX11_put_27 : decode cX11_put 27 = .ok (.ireturn, 1) := by decide +kernel
theorem dX11_put_28 : decode cX11_put 28 = .ok (.aload_n 0, 1) := by decide +kernel
theorem dX11_put_29 : decode cX11_put 29 = .ok (.getfield 28, 3) := by decide +kernel
theorem dX11_put_32 : decode cX11_put 32 = .ok (.getfield 97, 3) := by decide +kernel
theorem dX11_put_35 : decode cX11_put 35 = .ok (.iload_n 1, 1) := by decide +kernel
theorem dX11_put_36 : decode cX11_put 36 = .ok (.iaload, 1) := by decide +kernel
theorem dX11_put_37 : decode cX11_put 37 = .ok (.istore_n 3, 1) := by decide +kernel
theorem dX11_put_38 : decode cX11_put 38 = .ok (.aload_n 0, 1) := by decide +kernel
theorem dX11_put_39 : decode cX11_put 39 = .ok (.getfield 28, 3) := by decide +kernel
theorem dX11_put_42 : decode cX11_put 42 = .ok (.getfield 97, 3) := by decide +kernel
theorem dX11_put_45 : decode cX11_put 45 = .ok (.iload_n 1, 1) := by decide +kernel
theorem dX11_put_46 : decode cX11_put 46 = .ok (.iload_n 2, 1) := by decide +kernel
theorem dX11_put_47 : decode cX11_put 47 = .ok (.iastore, 1) := by decide +kernel
theorem dX11_put_48 : decode cX11_put 48 = .ok (.iload_n 3, 1) := by decide +kernel
theorem dX11_put_49 : decode cX11_put 49 = .ok (.ireturn, 1) := by decide +kernel
theorem dX11_of_0 : decode cX11_of 0 = .ok (.iload_n 1, 1) := by decide +kernel
theorem dX11_of_1 : decode cX11_of 1 = .ok (.aload_n 0, 1) := by decide +kernel
theorem dX11_of_2 : decode cX11_of 2 = .ok (.getfield 28, 3) := by decide +kernel
theorem dX11_of_5 : decode cX11_of 5 = .ok (.getfield 73, 3) := by decide +kernel
theorem dX11_of_8 : decode cX11_of 8 = .ok (.invokestatic 69, 3) := by decide +kernel
theorem dX11_of_11 : decode cX11_of 11 = .ok (.ifCond .ne 5, 3) := by decide +kernel
theorem dX11_of_14 : decode cX11_of 14 = .ok (.iconst (-1), 1) := by decide +kernel
theorem dX11_of_15 : decode cX11_of 15 = .ok (.ireturn, 1) := by decide +kernel
theorem dX11_of_16 : decode cX11_of 16 = .ok (.iload_n 2, 1) := by decide +kernel
theorem dX11_of_17 : decode cX11_of 17 = .ok (.tableswitch 90 0 3 #[31, 41, 51, 80], 31) := by decide +kernel
theorem dX11_of_48 : decode cX11_of 48 = .ok (.aload_n 0, 1) := by decide +kernel
theorem dX11_of_49 : decode cX11_of 49 = .ok (.getfield 28, 3) := by decide +kernel
theorem dX11_of_52 : decode cX11_of 52 = .ok (.getfield 100, 3) := by decide +kernel
theorem dX11_of_55 : decode cX11_of 55 = .ok (.iload_n 1, 1) := by decide +kernel
theorem dX11_of_56 : decode cX11_of 56 = .ok (.iaload, 1) := by decide +kernel
theorem dX11_of_57 : decode cX11_of 57 = .ok (.ireturn, 1) := by decide +kernel
theorem dX11_of_58 : decode cX11_of 58 = .ok (.aload_n 0, 1) := by decide +kernel
theorem dX11_of_59 : decode cX11_of 59 = .ok (.getfield 28, 3) := by decide +kernel
theorem dX11_of_62 : decode cX11_of 62 = .ok (.getfield 102, 3) := by decide +kernel
theorem dX11_of_65 : decode cX11_of 65 = .ok (.iload_n 1, 1) := by decide +kernel
theorem dX11_of_66 : decode cX11_of 66 = .ok (.iaload, 1) := by decide +kernel
theorem dX11_of_67 : decode cX11_of 67 = .ok (.ireturn, 1) := by decide +kernel
theorem dX11_of_68 : decode cX11_of 68 = .ok (.aload_n 0, 1) := by decide +kernel
theorem dX11_of_69 : decode cX11_of 69 = .ok (.getfield 28, 3) := by decide +kernel
theorem dX11_of_72 : decode cX11_of 72 = .ok (.getfield 105, 3) := by decide +kernel
theorem dX11_of_75 : decode cX11_of 75 = .ok (.iload_n 1, 1) := by decide +kernel
theorem dX11_of_76 : decode cX11_of 76 = .ok (.iaload, 1) := by decide +kernel
theorem dX11_of_77 : decode cX11_of 77 = .ok (.bipush 7, 2) := by decide +kernel
theorem dX11_of_79 : decode cX11_of 79 = .ok (.if_icmp .ne 8, 3) := by decide +kernel
theorem dX11_of_82 : decode cX11_of 82 = .ok (.bipush (-5), 2) := by decide +kernel
theorem dX11_of_84 : decode cX11_of 84 = .ok (.goto 12, 3) := by decide +kernel
theorem dX11_of_87 : decode cX11_of 87 = .ok (.aload_n 0, 1) := by decide +kernel
theorem dX11_of_88 : decode cX11_of 88 = .ok (.getfield 28, 3) := by decide +kernel
theorem dX11_of_91 : decode cX11_of 91 = .ok (.getfield 105, 3) := by decide +kernel
theorem dX11_of_94 : decode cX11_of 94 = .ok (.iload_n 1, 1) := by decide +kernel
theorem dX11_of_95 : decode cX11_of 95 = .ok (.iaload, 1) := by decide +kernel
theorem dX11_of_96 : decode cX11_of 96 = .ok (.ireturn, 1) := by decide +kernel
theorem dX11_of_97 : decode cX11_of 97 = .ok (.aload_n 0, 1) := by decide +kernel
theorem dX11_of_98 : decode cX11_of 98 = .ok (.getfield 28, 3) := by decide +kernel
theorem dX11_of_101 : decode cX11_of 101 = .ok (.getfield 97, 3) := by decide +kernel
theorem dX11_of_104 : decode cX11_of 104 = .ok (.iload_n 1, 1) := by decide +kernel
theorem dX11_of_105 : decode cX11_of 105 = .ok (.iaload, 1) := by decide +kernel
theorem dX11_of_106 : decode cX11_of 106 = .ok (.ireturn, 1) := by decide +kernel
theorem dX11_of_107 : decode cX11_of 107 = .ok (.iconst (-1), 1) := by decide +kernel
theorem dX11_of_108 : decode cX11_of 108 = .ok (.ireturn, 1) := by decide +kernel
theorem dX11_feed_0 : decode cX11_feed 0 = .ok (.iload_n 2, 1) := by decide +kernel
theorem dX11_feed_1 : decode cX11_feed 1 = .ok (.ifCond .lt 8, 3) := by decide +kernel
theorem dX11_feed_4 : decode cX11_feed 4 = .ok (.iload_n 2, 1) := by decide +kernel
theorem dX11_feed_5 : decode cX11_feed 5 = .ok (.iconst 4, 1) := by decide +kernel
theorem dX11_feed_6 : decode cX11_feed 6 = .ok (.if_icmp .le 6, 3) := by decide +kernel
theorem dX11_feed_9 : decode cX11_feed 9 = .ok (.bipush (-2), 2) := by decide +kernel
theorem dX11_feed_11 : decode cX11_feed 11 = .ok (.ireturn, 1) := by decide +kernel
theorem dX11_feed_12 : decode cX11_feed 12 = .ok (.iload_n 2, 1) := by decide +kernel
theorem dX11_feed_13 : decode cX11_feed 13 = .ok (.bipush 120, 2) := by decide +kernel
theorem dX11_feed_15 : decode cX11_feed 15 = .ok (.aload_n 0, 1) := by decide +kernel
theorem dX11_feed_16 : decode cX11_feed 16 = .ok (.getfield 108, 3) := by decide +kernel
theorem dX11_feed_19 : decode cX11_feed 19 = .ok (.isub, 1) := by decide +kernel
theorem dX11_feed_20 : decode cX11_feed 20 = .ok (.if_icmp .le 6, 3) := by decide +kernel
theorem dX11_feed_23 : decode cX11_feed 23 = .ok (.bipush (-4), 2) := by decide +kernel
theorem dX11_feed_25 : decode cX11_feed 25 = .ok (.ireturn, 1) := by decide +kernel
theorem dX11_feed_26 : decode cX11_feed 26 = .ok (.iload_n 2, 1) := by decide +kernel
theorem dX11_feed_27 : decode cX11_feed 27 = .ok (.iconst 1, 1) := by decide +kernel
theorem dX11_feed_28 : decode cX11_feed 28 = .ok (.isub, 1) := by decide +kernel
theorem dX11_feed_29 : decode cX11_feed 29 = .ok (.istore_n 3, 1) := by decide +kernel
theorem dX11_feed_30 : decode cX11_feed 30 = .ok (.iload_n 3, 1) := by decide +kernel
theorem dX11_feed_31 : decode cX11_feed 31 = .ok (.ifCond .lt 38, 3) := by decide +kernel
theorem dX11_feed_34 : decode cX11_feed 34 = .ok (.aload_n 0, 1) := by decide +kernel
theorem dX11_feed_35 : decode cX11_feed 35 = .ok (.getfield 32, 3) := by decide +kernel
theorem dX11_feed_38 : decode cX11_feed 38 = .ok (.aload_n 0, 1) := by decide +kernel
theorem dX11_feed_39 : decode cX11_feed 39 = .ok (.getfield 108, 3) := by decide +kernel
theorem dX11_feed_42 : decode cX11_feed 42 = .ok (.iload_n 1, 1) := by decide +kernel
theorem dX11_feed_43 : decode cX11_feed 43 = .ok (.bipush 8, 2) := by decide +kernel
theorem dX11_feed_45 : decode cX11_feed 45 = .ok (.iload_n 3, 1) := by decide +kernel
theorem dX11_feed_46 : decode cX11_feed 46 = .ok (.imul, 1) := by decide +kernel
theorem dX11_feed_47 : decode cX11_feed 47 = .ok (.iushr, 1) := by decide +kernel
theorem dX11_feed_48 : decode cX11_feed 48 = .ok (.sipush 255, 3) := by decide +kernel
theorem dX11_feed_51 : decode cX11_feed 51 = .ok (.iand, 1) := by decide +kernel
theorem dX11_feed_52 : decode cX11_feed 52 = .ok (.iastore, 1) := by decide +kernel
theorem dX11_feed_53 : decode cX11_feed 53 = .ok (.aload_n 0, 1) := by decide +kernel
theorem dX11_feed_54 : decode cX11_feed 54 = .ok (.dup, 1) := by decide +kernel
theorem dX11_feed_55 : decode cX11_feed 55 = .ok (.getfield 108, 3) := by decide +kernel
theorem dX11_feed_58 : decode cX11_feed 58 = .ok (.iconst 1, 1) := by decide +kernel
theorem dX11_feed_59 : decode cX11_feed 59 = .ok (.iadd, 1) := by decide +kernel
theorem dX11_feed_60 : decode cX11_feed 60 = .ok (.putfield 108, 3) := by decide +kernel
theorem dX11_feed_63 : decode cX11_feed 63 = .ok (.iinc 3 (-1), 3) := by decide +kernel
theorem dX11_feed_66 : decode cX11_feed 66 = .ok (.goto (-36), 3) := by decide +kernel
theorem dX11_feed_69 : decode cX11_feed 69 = .ok (.aload_n 0, 1) := by decide +kernel
theorem dX11_feed_70 : decode cX11_feed 70 = .ok (.getfield 108, 3) := by decide +kernel
theorem dX11_feed_73 : decode cX11_feed 73 = .ok (.ireturn, 1) := by decide +kernel
theorem dX11_model_0 : decode cX11_model 0 = .ok (.iload_n 1, 1) := by decide +kernel
theorem dX11_model_1 : decode cX11_model 1 = .ok (.bipush 6, 2) := by decide +kernel
theorem dX11_model_3 : decode cX11_model 3 = .ok (.invokestatic 69, 3) := by decide +kernel
theorem dX11_model_6 : decode cX11_model 6 = .ok (.ifCond .ne 5, 3) := by decide +kernel
theorem dX11_model_9 : decode cX11_model 9 = .ok (.iconst (-1), 1) := by decide +kernel
theorem dX11_model_10 : decode cX11_model 10 = .ok (.ireturn, 1) := by decide +kernel
theorem dX11_model_11 : decode cX11_model 11 = .ok (.aload_n 0, 1) := by decide +kernel
theorem dX11_model_12 : decode cX11_model 12 = .ok (.getfield 111, 3) := by decide +kernel
theorem dX11_model_15 : decode cX11_model 15 = .ok (.bipush 10, 2) := by decide +kernel
theorem dX11_model_17 : decode cX11_model 17 = .ok (.if_icmp .lt 6, 3) := by decide +kernel
theorem dX11_model_20 : decode cX11_model 20 = .ok (.bipush (-4), 2) := by decide +kernel
theorem dX11_model_22 : decode cX11_model 22 = .ok (.ireturn, 1) := by decide +kernel
theorem dX11_model_23 : decode cX11_model 23 = .ok (.new 114, 3) := by decide +kernel
theorem dX11_model_26 : decode cX11_model 26 = .ok (.dup, 1) := by decide +kernel
theorem dX11_model_27 : decode cX11_model 27 = .ok (.aload_n 0, 1) := by decide +kernel
theorem dX11_model_28 : decode cX11_model 28 = .ok (.getfield 32, 3) := by decide +kernel
theorem dX11_model_31 : decode cX11_model 31 = .ok (.aload_n 0, 1) := by decide +kernel
theorem dX11_model_32 : decode cX11_model 32 = .ok (.getfield 108, 3) := by decide +kernel
theorem dX11_model_35 : decode cX11_model 35 = .ok (.invokespecial 116, 3) := by decide +kernel
theorem dX11_model_38 : decode cX11_model 38 = .ok (.astore_n 2, 1) := by decide +kernel
theorem dX11_model_39 : decode cX11_model 39 = .ok (.aload_n 0, 1) := by decide +kernel
theorem dX11_model_40 : decode cX11_model 40 = .ok (.iconst 0, 1) := by decide +kernel
theorem dX11_model_41 : decode cX11_model 41 = .ok (.putfield 108, 3) := by decide +kernel
theorem dX11_model_44 : decode cX11_model 44 = .ok (.aload_n 2, 1) := by decide +kernel
theorem dX11_model_45 : decode cX11_model 45 = .ok (.invokevirtual 119, 3) := by decide +kernel
theorem dX11_model_48 : decode cX11_model 48 = .ok (.ifCond .ne 11, 3) := by decide +kernel
theorem dX11_model_51 : decode cX11_model 51 = .ok (.bipush (-10), 2) := by decide +kernel
theorem dX11_model_53 : decode cX11_model 53 = .ok (.aload_n 2, 1) := by decide +kernel
theorem dX11_model_54 : decode cX11_model 54 = .ok (.getfield 123, 3) := by decide +kernel
theorem dX11_model_57 : decode cX11_model 57 = .ok (.isub, 1) := by decide +kernel
theorem dX11_model_58 : decode cX11_model 58 = .ok (.ireturn, 1) := by decide +kernel
theorem dX11_model_59 : decode cX11_model 59 = .ok (.aload_n 0, 1) := by decide +kernel
theorem dX11_model_60 : decode cX11_model 60 = .ok (.getfield 37, 3) := by decide +kernel
theorem dX11_model_63 : decode cX11_model 63 = .ok (.aload_n 0, 1) := by decide +kernel
theorem dX11_model_64 : decode cX11_model 64 = .ok (.getfield 111, 3) := by decide +kernel
theorem dX11_model_67 : decode cX11_model 67 = .ok (.iload_n 1, 1) := by decide +kernel
theorem dX11_model_68 : decode cX11_model 68 = .ok (.aload_n 0, 1) := by decide +kernel
theorem dX11_model_69 : decode cX11_model 69 = .ok (.getfield 111, 3) := by decide +kernel
theorem dX11_model_72 : decode cX11_model 72 = .ok (.aload_n 2, 1) := by decide +kernel
theorem dX11_model_73 : decode cX11_model 73 = .ok (.invokestatic 126, 3) := by decide +kernel
theorem dX11_model_76 : decode cX11_model 76 = .ok (.aastore, 1) := by decide +kernel
theorem dX11_model_77 : decode cX11_model 77 = .ok (.aload_n 0, 1) := by decide +kernel
theorem dX11_model_78 : decode cX11_model 78 = .ok (.dup, 1) := by decide +kernel
theorem dX11_model_79 : decode cX11_model 79 = .ok (.getfield 111, 3) := by decide +kernel
theorem dX11_model_82 : decode cX11_model 82 = .ok (.dup_x1, 1) := by decide +kernel
theorem dX11_model_83 : decode cX11_model 83 = .ok (.iconst 1, 1) := by decide +kernel
theorem dX11_model_84 : decode cX11_model 84 = .ok (.iadd, 1) := by decide +kernel
theorem dX11_model_85 : decode cX11_model 85 = .ok (.putfield 111, 3) := by decide +kernel
theorem dX11_model_88 : decode cX11_model 88 = .ok (.ireturn, 1) := by decide +kernel
theorem dX11_weight_0 : decode cX11_weight 0 = .ok (.aload_n 0, 1) := by decide +kernel
theorem dX11_weight_1 : decode cX11_weight 1 = .ok (.iload_n 1, 1) := by decide +kernel
theorem dX11_weight_2 : decode cX11_weight 2 = .ok (.invokevirtual 130, 3) := by decide +kernel
theorem dX11_weight_5 : decode cX11_weight 5 = .ok (.astore 4, 2) := by decide +kernel
theorem dX11_weight_7 : decode cX11_weight 7 = .ok (.aload 4, 2) := by decide +kernel
theorem dX11_weight_9 : decode cX11_weight 9 = .ok (.ifnull 19, 3) := by decide +kernel
theorem dX11_weight_12 : decode cX11_weight 12 = .ok (.aload_n 0, 1) := by decide +kernel
theorem dX11_weight_13 : decode cX11_weight 13 = .ok (.iload_n 2, 1) := by decide +kernel
theorem dX11_weight_14 : decode cX11_weight 14 = .ok (.invokevirtual 134, 3) := by decide +kernel
theorem dX11_weight_17 : decode cX11_weight 17 = .ok (.ifCond .eq 11, 3) := by decide +kernel
theorem dX11_weight_20 : decode cX11_weight 20 = .ok (.iload_n 3, 1) := by decide +kernel
theorem dX11_weight_21 : decode cX11_weight 21 = .ok (.iconst 3, 1) := by decide +kernel
theorem dX11_weight_22 : decode cX11_weight 22 = .ok (.invokestatic 69, 3) := by decide +kernel
theorem dX11_weight_25 : decode cX11_weight 25 = .ok (.ifCond .ne 5, 3) := by decide +kernel
theorem dX11_weight_28 : decode cX11_weight 28 = .ok (.iconst (-1), 1) := by decide +kernel
theorem dX11_weight_29 : decode cX11_weight 29 = .ok (.ireturn, 1) := by decide +kernel
theorem dX11_weight_30 : decode cX11_weight 30 = .ok (.aload 4, 2) := by decide +kernel
theorem dX11_weight_32 : decode cX11_weight 32 = .ok (.aload_n 0, 1) := by decide +kernel
theorem dX11_weight_33 : decode cX11_weight 33 = .ok (.getfield 12, 3) := by decide +kernel
theorem dX11_weight_36 : decode cX11_weight 36 = .ok (.iload_n 2, 1) := by decide +kernel
theorem dX11_weight_37 : decode cX11_weight 37 = .ok (.iload_n 3, 1) := by decide +kernel
theorem dX11_weight_38 : decode cX11_weight 38 = .ok (.invokevirtual 137, 3) := by decide +kernel
theorem dX11_weight_41 : decode cX11_weight 41 = .ok (.ireturn, 1) := by decide +kernel
theorem dX11_odds_0 : decode cX11_odds 0 = .ok (.aload_n 0, 1) := by decide +kernel
theorem dX11_odds_1 : decode cX11_odds 1 = .ok (.iload_n 1, 1) := by decide +kernel
theorem dX11_odds_2 : decode cX11_odds 2 = .ok (.invokevirtual 130, 3) := by decide +kernel
theorem dX11_odds_5 : decode cX11_odds 5 = .ok (.astore 6, 2) := by decide +kernel
theorem dX11_odds_7 : decode cX11_odds 7 = .ok (.aload 6, 2) := by decide +kernel
theorem dX11_odds_9 : decode cX11_odds 9 = .ok (.ifnull 29, 3) := by decide +kernel
theorem dX11_odds_12 : decode cX11_odds 12 = .ok (.aload_n 0, 1) := by decide +kernel
theorem dX11_odds_13 : decode cX11_odds 13 = .ok (.iload_n 2, 1) := by decide +kernel
theorem dX11_odds_14 : decode cX11_odds 14 = .ok (.invokevirtual 134, 3) := by decide +kernel
theorem dX11_odds_17 : decode cX11_odds 17 = .ok (.ifCond .eq 21, 3) := by decide +kernel
theorem dX11_odds_20 : decode cX11_odds 20 = .ok (.iload 4, 2) := by decide +kernel
theorem dX11_odds_22 : decode cX11_odds 22 = .ok (.iconst 3, 1) := by decide +kernel
theorem dX11_odds_23 : decode cX11_odds 23 = .ok (.invokestatic 69, 3) := by decide +kernel
theorem dX11_odds_26 : decode cX11_odds 26 = .ok (.ifCond .eq 12, 3) := by decide +kernel
theorem dX11_odds_29 : decode cX11_odds 29 = .ok (.iload 5, 2) := by decide +kernel
theorem dX11_odds_31 : decode cX11_odds 31 = .ok (.iconst 2, 1) := by decide +kernel
theorem dX11_odds_32 : decode cX11_odds 32 = .ok (.invokestatic 69, 3) := by decide +kernel
theorem dX11_odds_35 : decode cX11_odds 35 = .ok (.ifCond .ne 7, 3) := by decide +kernel
theorem dX11_odds_38 : decode cX11_odds 38 = .ok (.ldc2_w 141, 3) := by decide +kernel
theorem dX11_odds_41 : decode cX11_odds 41 = .ok (.lreturn, 1) := by decide +kernel
theorem dX11_odds_42 : decode cX11_odds 42 = .ok (.aload_n 0, 1) := by decide +kernel
theorem dX11_odds_43 : decode cX11_odds 43 = .ok (.getfield 12, 3) := by decide +kernel
theorem dX11_odds_46 : decode cX11_odds 46 = .ok (.iload_n 3, 1) := by decide +kernel
theorem dX11_odds_47 : decode cX11_odds 47 = .ok (.invokevirtual 143, 3) := by decide +kernel
theorem dX11_odds_50 : decode cX11_odds 50 = .ok (.ifCond .ne 7, 3) := by decide +kernel
theorem dX11_odds_53 : decode cX11_odds 53 = .ok (.ldc2_w 141, 3) := by decide +kernel
theorem dX11_odds_56 : decode cX11_odds 56 = .ok (.lreturn, 1) := by decide +kernel
theorem dX11_odds_57 : decode cX11_odds 57 = .ok (.aload 6, 2) := by decide +kernel
theorem dX11_odds_59 : decode cX11_odds 59 = .ok (.aload_n 0, 1) := by decide +kernel
theorem dX11_odds_60 : decode cX11_odds 60 = .ok (.getfield 12, 3) := by decide +kernel
theorem dX11_odds_63 : decode cX11_odds 63 = .ok (.invokevirtual 146, 3) := by decide +kernel
theorem dX11_odds_66 : decode cX11_odds 66 = .ok (.aload 6, 2) := by decide +kernel
theorem dX11_odds_68 : decode cX11_odds 68 = .ok (.aload_n 0, 1) := by decide +kernel
theorem dX11_odds_69 : decode cX11_odds 69 = .ok (.getfield 12, 3) := by decide +kernel
theorem dX11_odds_72 : decode cX11_odds 72 = .ok (.iload_n 3, 1) := by decide +kernel
theorem dX11_odds_73 : decode cX11_odds 73 = .ok (.iload 4, 2) := by decide +kernel
theorem dX11_odds_75 : decode cX11_odds 75 = .ok (.invokevirtual 150, 3) := by decide +kernel
theorem dX11_odds_78 : decode cX11_odds 78 = .ok (.aload 6, 2) := by decide +kernel
theorem dX11_odds_80 : decode cX11_odds 80 = .ok (.getfield 154, 3) := by decide +kernel
theorem dX11_odds_83 : decode cX11_odds 83 = .ok (.iload_n 2, 1) := by decide +kernel
theorem dX11_odds_84 : decode cX11_odds 84 = .ok (.laload, 1) := by decide +kernel
theorem dX11_odds_85 : decode cX11_odds 85 = .ok (.aload 6, 2) := by decide +kernel
theorem dX11_odds_87 : decode cX11_odds 87 = .ok (.getfield 158, 3) := by decide +kernel
theorem dX11_odds_90 : decode cX11_odds 90 = .ok (.iload_n 2, 1) := by decide +kernel
theorem dX11_odds_91 : decode cX11_odds 91 = .ok (.laload, 1) := by decide +kernel
theorem dX11_odds_92 : decode cX11_odds 92 = .ok (.invokestatic 161, 3) := by decide +kernel
theorem dX11_odds_95 : decode cX11_odds 95 = .ok (.lstore 7, 2) := by decide +kernel
theorem dX11_odds_97 : decode cX11_odds 97 = .ok (.iload 5, 2) := by decide +kernel
theorem dX11_odds_99 : decode cX11_odds 99 = .ok (.ifCond .ne 13, 3) := by decide +kernel
theorem dX11_odds_102 : decode cX11_odds 102 = .ok (.aload 6, 2) := by decide +kernel
theorem dX11_odds_104 : decode cX11_odds 104 = .ok (.getfield 154, 3) := by decide +kernel
theorem dX11_odds_107 : decode cX11_odds 107 = .ok (.iload_n 2, 1) := by decide +kernel
theorem dX11_odds_108 : decode cX11_odds 108 = .ok (.laload, 1) := by decide +kernel
theorem dX11_odds_109 : decode cX11_odds 109 = .ok (.goto 10, 3) := by decide +kernel
theorem dX11_odds_112 : decode cX11_odds 112 = .ok (.aload 6, 2) := by decide +kernel
theorem dX11_odds_114 : decode cX11_odds 114 = .ok (.getfield 158, 3) := by decide +kernel
theorem dX11_odds_117 : decode cX11_odds 117 = .ok (.iload_n 2, 1) := by decide +kernel
theorem dX11_odds_118 : decode cX11_odds 118 = .ok (.laload, 1) := by decide +kernel
theorem dX11_odds_119 : decode cX11_odds 119 = .ok (.lload 7, 2) := by decide +kernel
theorem dX11_odds_121 : decode cX11_odds 121 = .ok (.ldiv, 1) := by decide +kernel
theorem dX11_odds_122 : decode cX11_odds 122 = .ok (.lreturn, 1) := by decide +kernel
theorem dX11_score_0 : decode cX11_score 0 = .ok (.aload_n 0, 1) := by decide +kernel
theorem dX11_score_1 : decode cX11_score 1 = .ok (.iload_n 1, 1) := by decide +kernel
theorem dX11_score_2 : decode cX11_score 2 = .ok (.invokevirtual 130, 3) := by decide +kernel
theorem dX11_score_5 : decode cX11_score 5 = .ok (.astore_n 3, 1) := by decide +kernel
theorem dX11_score_6 : decode cX11_score 6 = .ok (.aload_n 3, 1) := by decide +kernel
theorem dX11_score_7 : decode cX11_score 7 = .ok (.ifnull 10, 3) := by decide +kernel
theorem dX11_score_10 : decode cX11_score 10 = .ok (.iload_n 2, 1) := by decide +kernel
theorem dX11_score_11 : decode cX11_score 11 = .ok (.invokestatic 165, 3) := by decide +kernel
theorem dX11_score_14 : decode cX11_score 14 = .ok (.ifCond .ne 7, 3) := by decide +kernel
theorem dX11_score_17 : decode cX11_score 17 = .ok (.iconst (-1), 1) := by decide +kernel
theorem dX11_score_18 : decode cX11_score 18 = .ok (.goto 9, 3) := by decide +kernel
theorem dX11_score_21 : decode cX11_score 21 = .ok (.aload_n 0, 1) := by decide +kernel
theorem dX11_score_22 : decode cX11_score 22 = .ok (.aload_n 3, 1) := by decide +kernel
theorem dX11_score_23 : decode cX11_score 23 = .ok (.iload_n 2, 1) := by decide +kernel
theorem dX11_score_24 : decode cX11_score 24 = .ok (.invokevirtual 168, 3) := by decide +kernel
theorem dX11_score_27 : decode cX11_score 27 = .ok (.ireturn, 1) := by decide +kernel
theorem dX11_misses_0 : decode cX11_misses 0 = .ok (.aload_n 0, 1) := by decide +kernel
theorem dX11_misses_1 : decode cX11_misses 1 = .ok (.iload_n 1, 1) := by decide +kernel
theorem dX11_misses_2 : decode cX11_misses 2 = .ok (.invokevirtual 130, 3) := by decide +kernel
theorem dX11_misses_5 : decode cX11_misses 5 = .ok (.astore_n 3, 1) := by decide +kernel
theorem dX11_misses_6 : decode cX11_misses 6 = .ok (.aload_n 3, 1) := by decide +kernel
theorem dX11_misses_7 : decode cX11_misses 7 = .ok (.ifnull 10, 3) := by decide +kernel
theorem dX11_misses_10 : decode cX11_misses 10 = .ok (.iload_n 2, 1) := by decide +kernel
theorem dX11_misses_11 : decode cX11_misses 11 = .ok (.invokestatic 165, 3) := by decide +kernel
theorem dX11_misses_14 : decode cX11_misses 14 = .ok (.ifCond .ne 7, 3) := by decide +kernel
theorem dX11_misses_17 : decode cX11_misses 17 = .ok (.iconst (-1), 1) := by decide +kernel
theorem dX11_misses_18 : decode cX11_misses 18 = .ok (.goto 9, 3) := by decide +kernel
theorem dX11_misses_21 : decode cX11_misses 21 = .ok (.aload_n 0, 1) := by decide +kernel
theorem dX11_misses_22 : decode cX11_misses 22 = .ok (.aload_n 3, 1) := by decide +kernel
theorem dX11_misses_23 : decode cX11_misses 23 = .ok (.iload_n 2, 1) := by decide +kernel
theorem dX11_misses_24 : decode cX11_misses 24 = .ok (.invokevirtual 172, 3) := by decide +kernel
theorem dX11_misses_27 : decode cX11_misses 27 = .ok (.ireturn, 1) := by decide +kernel
theorem dX11_grid_0 : decode cX11_grid 0 = .ok (.aload_n 0, 1) := by decide +kernel
theorem dX11_grid_1 : decode cX11_grid 1 = .ok (.iload_n 1, 1) := by decide +kernel
theorem dX11_grid_2 : decode cX11_grid 2 = .ok (.invokevirtual 130, 3) := by decide +kernel
theorem dX11_grid_5 : decode cX11_grid 5 = .ok (.astore_n 3, 1) := by decide +kernel
theorem dX11_grid_6 : decode cX11_grid 6 = .ok (.aload_n 3, 1) := by decide +kernel
theorem dX11_grid_7 : decode cX11_grid 7 = .ok (.ifnull 14, 3) := by decide +kernel
theorem dX11_grid_10 : decode cX11_grid 10 = .ok (.aload_n 0, 1) := by decide +kernel
theorem dX11_grid_11 : decode cX11_grid 11 = .ok (.getfield 12, 3) := by decide +kernel
theorem dX11_grid_14 : decode cX11_grid 14 = .ok (.iload_n 2, 1) := by decide +kernel
theorem dX11_grid_15 : decode cX11_grid 15 = .ok (.invokevirtual 84, 3) := by decide +kernel
theorem dX11_grid_18 : decode cX11_grid 18 = .ok (.ifCond .ne 5, 3) := by decide +kernel
theorem dX11_grid_21 : decode cX11_grid 21 = .ok (.iconst (-1), 1) := by decide +kernel
theorem dX11_grid_22 : decode cX11_grid 22 = .ok (.ireturn, 1) := by decide +kernel
theorem dX11_grid_23 : decode cX11_grid 23 = .ok (.aload_n 3, 1) := by decide +kernel
theorem dX11_grid_24 : decode cX11_grid 24 = .ok (.getfield 175, 3) := by decide +kernel
theorem dX11_grid_27 : decode cX11_grid 27 = .ok (.getfield 178, 3) := by decide +kernel
theorem dX11_grid_30 : decode cX11_grid 30 = .ok (.iload_n 2, 1) := by decide +kernel
theorem dX11_grid_31 : decode cX11_grid 31 = .ok (.iaload, 1) := by decide +kernel
theorem dX11_grid_32 : decode cX11_grid 32 = .ok (.istore 4, 2) := by decide +kernel
theorem dX11_grid_34 : decode cX11_grid 34 = .ok (.iconst 0, 1) := by decide +kernel
theorem dX11_grid_35 : decode cX11_grid 35 = .ok (.istore 5, 2) := by decide +kernel
theorem dX11_grid_37 : decode cX11_grid 37 = .ok (.iconst (-1), 1) := by decide +kernel
theorem dX11_grid_38 : decode cX11_grid 38 = .ok (.istore 6, 2) := by decide +kernel
theorem dX11_grid_40 : decode cX11_grid 40 = .ok (.iconst 1, 1) := by decide +kernel
theorem dX11_grid_41 : decode cX11_grid 41 = .ok (.istore 7, 2) := by decide +kernel
theorem dX11_grid_43 : decode cX11_grid 43 = .ok (.iload 7, 2) := by decide +kernel
theorem dX11_grid_45 : decode cX11_grid 45 = .ok (.bipush 30, 2) := by decide +kernel
theorem dX11_grid_47 : decode cX11_grid 47 = .ok (.if_icmp .gt 43, 3) := by decide +kernel
theorem dX11_grid_50 : decode cX11_grid 50 = .ok (.aload_n 3, 1) := by decide +kernel
theorem dX11_grid_51 : decode cX11_grid 51 = .ok (.getfield 175, 3) := by decide +kernel
theorem dX11_grid_54 : decode cX11_grid 54 = .ok (.getfield 178, 3) := by decide +kernel
theorem dX11_grid_57 : decode cX11_grid 57 = .ok (.iload_n 2, 1) := by decide +kernel
theorem dX11_grid_58 : decode cX11_grid 58 = .ok (.iload 7, 2) := by decide +kernel
theorem dX11_grid_60 : decode cX11_grid 60 = .ok (.iastore, 1) := by decide +kernel
theorem dX11_grid_61 : decode cX11_grid 61 = .ok (.aload_n 0, 1) := by decide +kernel
theorem dX11_grid_62 : decode cX11_grid 62 = .ok (.aload_n 3, 1) := by decide +kernel
theorem dX11_grid_63 : decode cX11_grid 63 = .ok (.iconst 0, 1) := by decide +kernel
theorem dX11_grid_64 : decode cX11_grid 64 = .ok (.invokevirtual 168, 3) := by decide +kernel
theorem dX11_grid_67 : decode cX11_grid 67 = .ok (.istore 8, 2) := by decide +kernel
theorem dX11_grid_69 : decode cX11_grid 69 = .ok (.iload 8, 2) := by decide +kernel
theorem dX11_grid_71 : decode cX11_grid 71 = .ok (.iload 6, 2) := by decide +kernel
theorem dX11_grid_73 : decode cX11_grid 73 = .ok (.if_icmp .le 11, 3) := by decide +kernel
theorem dX11_grid_76 : decode cX11_grid 76 = .ok (.iload 8, 2) := by decide +kernel
theorem dX11_grid_78 : decode cX11_grid 78 = .ok (.istore 6, 2) := by decide +kernel
theorem dX11_grid_80 : decode cX11_grid 80 = .ok (.iload 7, 2) := by decide +kernel
theorem dX11_grid_82 : decode cX11_grid 82 = .ok (.istore 5, 2) := by decide +kernel
theorem dX11_grid_84 : decode cX11_grid 84 = .ok (.iinc 7 1, 3) := by decide +kernel
theorem dX11_grid_87 : decode cX11_grid 87 = .ok (.goto (-44), 3) := by decide +kernel
theorem dX11_grid_90 : decode cX11_grid 90 = .ok (.aload_n 3, 1) := by decide +kernel
theorem dX11_grid_91 : decode cX11_grid 91 = .ok (.getfield 175, 3) := by decide +kernel
theorem dX11_grid_94 : decode cX11_grid 94 = .ok (.getfield 178, 3) := by decide +kernel
theorem dX11_grid_97 : decode cX11_grid 97 = .ok (.iload_n 2, 1) := by decide +kernel
theorem dX11_grid_98 : decode cX11_grid 98 = .ok (.iload 4, 2) := by decide +kernel
theorem dX11_grid_100 : decode cX11_grid 100 = .ok (.iastore, 1) := by decide +kernel
theorem dX11_grid_101 : decode cX11_grid 101 = .ok (.iload 5, 2) := by decide +kernel
theorem dX11_grid_103 : decode cX11_grid 103 = .ok (.ireturn, 1) := by decide +kernel
theorem dX11_which_0 : decode cX11_which 0 = .ok (.aload_n 0, 1) := by decide +kernel
theorem dX11_which_1 : decode cX11_which 1 = .ok (.iload_n 1, 1) := by decide +kernel
theorem dX11_which_2 : decode cX11_which 2 = .ok (.invokevirtual 130, 3) := by decide +kernel
theorem dX11_which_5 : decode cX11_which 5 = .ok (.ifnull 16, 3) := by decide +kernel
theorem dX11_which_8 : decode cX11_which 8 = .ok (.aload_n 0, 1) := by decide +kernel
theorem dX11_which_9 : decode cX11_which 9 = .ok (.iload_n 2, 1) := by decide +kernel
theorem dX11_which_10 : decode cX11_which 10 = .ok (.invokevirtual 130, 3) := by decide +kernel
theorem dX11_which_13 : decode cX11_which 13 = .ok (.ifnull 8, 3) := by decide +kernel
theorem dX11_which_16 : decode cX11_which 16 = .ok (.iload_n 1, 1) := by decide +kernel
theorem dX11_which_17 : decode cX11_which 17 = .ok (.iload_n 2, 1) := by decide +kernel
theorem dX11_which_18 : decode cX11_which 18 = .ok (.if_icmp .le 5, 3) := by decide +kernel
theorem dX11_which_21 : decode cX11_which 21 = .ok (.iconst (-1), 1) := by decide +kernel
theorem dX11_which_22 : decode cX11_which 22 = .ok (.ireturn, 1) := by decide +kernel
theorem dX11_which_23 : decode cX11_which 23 = .ok (.iload_n 1, 1) := by decide +kernel
theorem dX11_which_24 : decode cX11_which 24 = .ok (.istore_n 3, 1) := by decide +kernel
theorem dX11_which_25 : decode cX11_which 25 = .ok (.iconst (-1), 1) := by decide +kernel
theorem dX11_which_26 : decode cX11_which 26 = .ok (.istore 4, 2) := by decide +kernel
theorem dX11_which_28 : decode cX11_which 28 = .ok (.iconst 0, 1) := by decide +kernel
theorem dX11_which_29 : decode cX11_which 29 = .ok (.istore 5, 2) := by decide +kernel
theorem dX11_which_31 : decode cX11_which 31 = .ok (.iload_n 1, 1) := by decide +kernel
theorem dX11_which_32 : decode cX11_which 32 = .ok (.istore 6, 2) := by decide +kernel
theorem dX11_which_34 : decode cX11_which 34 = .ok (.iload 6, 2) := by decide +kernel
theorem dX11_which_36 : decode cX11_which 36 = .ok (.iload_n 2, 1) := by decide +kernel
theorem dX11_which_37 : decode cX11_which 37 = .ok (.if_icmp .gt 75, 3) := by decide +kernel
theorem dX11_which_40 : decode cX11_which 40 = .ok (.aload_n 0, 1) := by decide +kernel
theorem dX11_which_41 : decode cX11_which 41 = .ok (.iload 6, 2) := by decide +kernel
theorem dX11_which_43 : decode cX11_which 43 = .ok (.invokevirtual 130, 3) := by decide +kernel
theorem dX11_which_46 : decode cX11_which 46 = .ok (.astore 7, 2) := by decide +kernel
theorem dX11_which_48 : decode cX11_which 48 = .ok (.aload 7, 2) := by decide +kernel
theorem dX11_which_50 : decode cX11_which 50 = .ok (.ifnonnull 6, 3) := by decide +kernel
theorem dX11_which_53 : decode cX11_which 53 = .ok (.goto 53, 3) := by decide +kernel
theorem dX11_which_56 : decode cX11_which 56 = .ok (.aload_n 0, 1) := by decide +kernel
theorem dX11_which_57 : decode cX11_which 57 = .ok (.aload 7, 2) := by decide +kernel
theorem dX11_which_59 : decode cX11_which 59 = .ok (.iconst 1, 1) := by decide +kernel
theorem dX11_which_60 : decode cX11_which 60 = .ok (.invokevirtual 168, 3) := by decide +kernel
theorem dX11_which_63 : decode cX11_which 63 = .ok (.istore 8, 2) := by decide +kernel
theorem dX11_which_65 : decode cX11_which 65 = .ok (.aload_n 0, 1) := by decide +kernel
theorem dX11_which_66 : decode cX11_which 66 = .ok (.aload 7, 2) := by decide +kernel
theorem dX11_which_68 : decode cX11_which 68 = .ok (.iconst 1, 1) := by decide +kernel
theorem dX11_which_69 : decode cX11_which 69 = .ok (.invokevirtual 172, 3) := by decide +kernel
theorem dX11_which_72 : decode cX11_which 72 = .ok (.istore 9, 2) := by decide +kernel
theorem dX11_which_74 : decode cX11_which 74 = .ok (.iload 8, 2) := by decide +kernel
theorem dX11_which_76 : decode cX11_which 76 = .ok (.iload 4, 2) := by decide +kernel
theorem dX11_which_78 : decode cX11_which 78 = .ok (.if_icmp .gt 17, 3) := by decide +kernel
theorem dX11_which_81 : decode cX11_which 81 = .ok (.iload 8, 2) := by decide +kernel
theorem dX11_which_83 : decode cX11_which 83 = .ok (.iload 4, 2) := by decide +kernel
theorem dX11_which_85 : decode cX11_which 85 = .ok (.if_icmp .ne 21, 3) := by decide +kernel
theorem dX11_which_88 : decode cX11_which 88 = .ok (.iload 9, 2) := by decide +kernel
theorem dX11_which_90 : decode cX11_which 90 = .ok (.iload 5, 2) := by decide +kernel
theorem dX11_which_92 : decode cX11_which 92 = .ok (.if_icmp .ge 14, 3) := by decide +kernel
theorem dX11_which_95 : decode cX11_which 95 = .ok (.iload 6, 2) := by decide +kernel
theorem dX11_which_97 : decode cX11_which 97 = .ok (.istore_n 3, 1) := by decide +kernel
theorem dX11_which_98 : decode cX11_which 98 = .ok (.iload 8, 2) := by decide +kernel
theorem dX11_which_100 : decode cX11_which 100 = .ok (.istore 4, 2) := by decide +kernel
theorem dX11_which_102 : decode cX11_which 102 = .ok (.iload 9, 2) := by decide +kernel
theorem dX11_which_104 : decode cX11_which 104 = .ok (.istore 5, 2) := by decide +kernel
theorem dX11_which_106 : decode cX11_which 106 = .ok (.iinc 6 1, 3) := by decide +kernel
theorem dX11_which_109 : decode cX11_which 109 = .ok (.goto (-75), 3) := by decide +kernel
theorem dX11_which_112 : decode cX11_which 112 = .ok (.iload_n 3, 1) := by decide +kernel
theorem dX11_which_113 : decode cX11_which 113 = .ok (.ireturn, 1) := by decide +kernel
theorem dX11_agree_0 : decode cX11_agree 0 = .ok (.iload_n 1, 1) := by decide +kernel
theorem dX11_agree_1 : decode cX11_agree 1 = .ok (.aload_n 0, 1) := by decide +kernel
theorem dX11_agree_2 : decode cX11_agree 2 = .ok (.getfield 91, 3) := by decide +kernel
theorem dX11_agree_5 : decode cX11_agree 5 = .ok (.invokestatic 69, 3) := by decide +kernel
theorem dX11_agree_8 : decode cX11_agree 8 = .ok (.ifCond .ne 5, 3) := by decide +kernel
theorem dX11_agree_11 : decode cX11_agree 11 = .ok (.iconst (-1), 1) := by decide +kernel
theorem dX11_agree_12 : decode cX11_agree 12 = .ok (.ireturn, 1) := by decide +kernel
theorem dX11_agree_13 : decode cX11_agree 13 = .ok (.aload_n 0, 1) := by decide +kernel
theorem dX11_agree_14 : decode cX11_agree 14 = .ok (.iload_n 1, 1) := by decide +kernel
theorem dX11_agree_15 : decode cX11_agree 15 = .ok (.invokevirtual 181, 3) := by decide +kernel
theorem dX11_agree_18 : decode cX11_agree 18 = .ok (.aload_n 0, 1) := by decide +kernel
theorem dX11_agree_19 : decode cX11_agree 19 = .ok (.getfield 44, 3) := by decide +kernel
theorem dX11_agree_22 : decode cX11_agree 22 = .ok (.invokevirtual 185, 3) := by decide +kernel
theorem dX11_agree_25 : decode cX11_agree 25 = .ok (.ireturn, 1) := by decide +kernel
theorem dX11_letgo_0 : decode cX11_letgo 0 = .ok (.iload_n 1, 1) := by decide +kernel
theorem dX11_letgo_1 : decode cX11_letgo 1 = .ok (.aload_n 0, 1) := by decide +kernel
theorem dX11_letgo_2 : decode cX11_letgo 2 = .ok (.getfield 91, 3) := by decide +kernel
theorem dX11_letgo_5 : decode cX11_letgo 5 = .ok (.invokestatic 69, 3) := by decide +kernel
theorem dX11_letgo_8 : decode cX11_letgo 8 = .ok (.ifCond .ne 5, 3) := by decide +kernel
theorem dX11_letgo_11 : decode cX11_letgo 11 = .ok (.iconst (-1), 1) := by decide +kernel
theorem dX11_letgo_12 : decode cX11_letgo 12 = .ok (.ireturn, 1) := by decide +kernel
theorem dX11_letgo_13 : decode cX11_letgo 13 = .ok (.aload_n 0, 1) := by decide +kernel
theorem dX11_letgo_14 : decode cX11_letgo 14 = .ok (.iload_n 1, 1) := by decide +kernel
theorem dX11_letgo_15 : decode cX11_letgo 15 = .ok (.invokevirtual 181, 3) := by decide +kernel
theorem dX11_letgo_18 : decode cX11_letgo 18 = .ok (.aload_n 0, 1) := by decide +kernel
theorem dX11_letgo_19 : decode cX11_letgo 19 = .ok (.getfield 44, 3) := by decide +kernel
theorem dX11_letgo_22 : decode cX11_letgo 22 = .ok (.invokevirtual 189, 3) := by decide +kernel
theorem dX11_letgo_25 : decode cX11_letgo 25 = .ok (.ireturn, 1) := by decide +kernel
theorem dX11_like_0 : decode cX11_like 0 = .ok (.iload_n 1, 1) := by decide +kernel
theorem dX11_like_1 : decode cX11_like 1 = .ok (.aload_n 0, 1) := by decide +kernel
theorem dX11_like_2 : decode cX11_like 2 = .ok (.getfield 91, 3) := by decide +kernel
theorem dX11_like_5 : decode cX11_like 5 = .ok (.invokestatic 69, 3) := by decide +kernel
theorem dX11_like_8 : decode cX11_like 8 = .ok (.ifCond .eq 14, 3) := by decide +kernel
theorem dX11_like_11 : decode cX11_like 11 = .ok (.iload_n 2, 1) := by decide +kernel
theorem dX11_like_12 : decode cX11_like 12 = .ok (.aload_n 0, 1) := by decide +kernel
theorem dX11_like_13 : decode cX11_like 13 = .ok (.getfield 91, 3) := by decide +kernel
theorem dX11_like_16 : decode cX11_like 16 = .ok (.invokestatic 69, 3) := by decide +kernel
theorem dX11_like_19 : decode cX11_like 19 = .ok (.ifCond .ne 5, 3) := by decide +kernel
theorem dX11_like_22 : decode cX11_like 22 = .ok (.iconst (-1), 1) := by decide +kernel
theorem dX11_like_23 : decode cX11_like 23 = .ok (.ireturn, 1) := by decide +kernel
theorem dX11_like_24 : decode cX11_like 24 = .ok (.iload_n 1, 1) := by decide +kernel
theorem dX11_like_25 : decode cX11_like 25 = .ok (.iload_n 2, 1) := by decide +kernel
theorem dX11_like_26 : decode cX11_like 26 = .ok (.if_icmp .ne 6, 3) := by decide +kernel
theorem dX11_like_29 : decode cX11_like 29 = .ok (.bipush (-2), 2) := by decide +kernel
theorem dX11_like_31 : decode cX11_like 31 = .ok (.ireturn, 1) := by decide +kernel
theorem dX11_like_32 : decode cX11_like 32 = .ok (.aload_n 0, 1) := by decide +kernel
theorem dX11_like_33 : decode cX11_like 33 = .ok (.iload_n 1, 1) := by decide +kernel
theorem dX11_like_34 : decode cX11_like 34 = .ok (.invokevirtual 181, 3) := by decide +kernel
theorem dX11_like_37 : decode cX11_like 37 = .ok (.aload_n 0, 1) := by decide +kernel
theorem dX11_like_38 : decode cX11_like 38 = .ok (.iload_n 2, 1) := by decide +kernel
theorem dX11_like_39 : decode cX11_like 39 = .ok (.invokevirtual 192, 3) := by decide +kernel
theorem dX11_like_42 : decode cX11_like 42 = .ok (.aload_n 0, 1) := by decide +kernel
theorem dX11_like_43 : decode cX11_like 43 = .ok (.getfield 44, 3) := by decide +kernel
theorem dX11_like_46 : decode cX11_like 46 = .ok (.invokevirtual 185, 3) := by decide +kernel
theorem dX11_like_49 : decode cX11_like 49 = .ok (.ifCond .le 7, 3) := by decide +kernel
theorem dX11_like_52 : decode cX11_like 52 = .ok (.iconst 1, 1) := by decide +kernel
theorem dX11_like_53 : decode cX11_like 53 = .ok (.goto 4, 3) := by decide +kernel
theorem dX11_like_56 : decode cX11_like 56 = .ok (.iconst 0, 1) := by decide +kernel
theorem dX11_like_57 : decode cX11_like 57 = .ok (.ireturn, 1) := by decide +kernel
theorem dX11_would_0 : decode cX11_would 0 = .ok (.iload_n 1, 1) := by decide +kernel
theorem dX11_would_1 : decode cX11_would 1 = .ok (.aload_n 0, 1) := by decide +kernel
theorem dX11_would_2 : decode cX11_would 2 = .ok (.getfield 91, 3) := by decide +kernel
theorem dX11_would_5 : decode cX11_would 5 = .ok (.invokestatic 69, 3) := by decide +kernel
theorem dX11_would_8 : decode cX11_would 8 = .ok (.ifCond .ne 5, 3) := by decide +kernel
theorem dX11_would_11 : decode cX11_would 11 = .ok (.iconst (-1), 1) := by decide +kernel
theorem dX11_would_12 : decode cX11_would 12 = .ok (.ireturn, 1) := by decide +kernel
theorem dX11_would_13 : decode cX11_would 13 = .ok (.aload_n 0, 1) := by decide +kernel
theorem dX11_would_14 : decode cX11_would 14 = .ok (.getfield 12, 3) := by decide +kernel
theorem dX11_would_17 : decode cX11_would 17 = .ok (.iload_n 2, 1) := by decide +kernel
theorem dX11_would_18 : decode cX11_would 18 = .ok (.invokevirtual 143, 3) := by decide +kernel
theorem dX11_would_21 : decode cX11_would 21 = .ok (.ifCond .eq 12, 3) := by decide +kernel
theorem dX11_would_24 : decode cX11_would 24 = .ok (.aload_n 0, 1) := by decide +kernel
theorem dX11_would_25 : decode cX11_would 25 = .ok (.iload_n 1, 1) := by decide +kernel
theorem dX11_would_26 : decode cX11_would 26 = .ok (.iload_n 2, 1) := by decide +kernel
theorem dX11_would_27 : decode cX11_would 27 = .ok (.invokevirtual 195, 3) := by decide +kernel
theorem dX11_would_30 : decode cX11_would 30 = .ok (.goto 5, 3) := by decide +kernel
theorem dX11_would_33 : decode cX11_would 33 = .ok (.bipush (-2), 2) := by decide +kernel
theorem dX11_would_35 : decode cX11_would 35 = .ok (.ireturn, 1) := by decide +kernel
theorem dX11_must_0 : decode cX11_must 0 = .ok (.aload_n 0, 1) := by decide +kernel
theorem dX11_must_1 : decode cX11_must 1 = .ok (.getfield 12, 3) := by decide +kernel
theorem dX11_must_4 : decode cX11_must 4 = .ok (.iload_n 1, 1) := by decide +kernel
theorem dX11_must_5 : decode cX11_must 5 = .ok (.invokevirtual 84, 3) := by decide +kernel
theorem dX11_must_8 : decode cX11_must 8 = .ok (.ifCond .eq 11, 3) := by decide +kernel
theorem dX11_must_11 : decode cX11_must 11 = .ok (.iload_n 3, 1) := by decide +kernel
theorem dX11_must_12 : decode cX11_must 12 = .ok (.iconst 2, 1) := by decide +kernel
theorem dX11_must_13 : decode cX11_must 13 = .ok (.invokestatic 69, 3) := by decide +kernel
theorem dX11_must_16 : decode cX11_must 16 = .ok (.ifCond .ne 5, 3) := by decide +kernel
theorem dX11_must_19 : decode cX11_must 19 = .ok (.iconst (-1), 1) := by decide +kernel
theorem dX11_must_20 : decode cX11_must 20 = .ok (.ireturn, 1) := by decide +kernel
theorem dX11_must_21 : decode cX11_must 21 = .ok (.aload_n 0, 1) := by decide +kernel
theorem dX11_must_22 : decode cX11_must 22 = .ok (.getfield 12, 3) := by decide +kernel
theorem dX11_must_25 : decode cX11_must 25 = .ok (.iload_n 2, 1) := by decide +kernel
theorem dX11_must_26 : decode cX11_must 26 = .ok (.invokevirtual 143, 3) := by decide +kernel
theorem dX11_must_29 : decode cX11_must 29 = .ok (.ifCond .eq 11, 3) := by decide +kernel
theorem dX11_must_32 : decode cX11_must 32 = .ok (.iload_n 1, 1) := by decide +kernel
theorem dX11_must_33 : decode cX11_must 33 = .ok (.iload_n 2, 1) := by decide +kernel
theorem dX11_must_34 : decode cX11_must 34 = .ok (.invokestatic 199, 3) := by decide +kernel
theorem dX11_must_37 : decode cX11_must 37 = .ok (.ifCond .ne 6, 3) := by decide +kernel
theorem dX11_must_40 : decode cX11_must 40 = .ok (.bipush (-2), 2) := by decide +kernel
theorem dX11_must_42 : decode cX11_must 42 = .ok (.ireturn, 1) := by decide +kernel
theorem dX11_must_43 : decode cX11_must 43 = .ok (.iconst 0, 1) := by decide +kernel
theorem dX11_must_44 : decode cX11_must 44 = .ok (.istore 4, 2) := by decide +kernel
theorem dX11_must_46 : decode cX11_must 46 = .ok (.iconst 0, 1) := by decide +kernel
theorem dX11_must_47 : decode cX11_must 47 = .ok (.istore 5, 2) := by decide +kernel
theorem dX11_must_49 : decode cX11_must 49 = .ok (.iload 5, 2) := by decide +kernel
theorem dX11_must_51 : decode cX11_must 51 = .ok (.aload_n 0, 1) := by decide +kernel
theorem dX11_must_52 : decode cX11_must 52 = .ok (.getfield 91, 3) := by decide +kernel
theorem dX11_must_55 : decode cX11_must 55 = .ok (.if_icmp .ge 45, 3) := by decide +kernel
theorem dX11_must_58 : decode cX11_must 58 = .ok (.aload_n 0, 1) := by decide +kernel
theorem dX11_must_59 : decode cX11_must 59 = .ok (.iload 5, 2) := by decide +kernel
theorem dX11_must_61 : decode cX11_must 61 = .ok (.iload_n 2, 1) := by decide +kernel
theorem dX11_must_62 : decode cX11_must 62 = .ok (.invokevirtual 195, 3) := by decide +kernel
theorem dX11_must_65 : decode cX11_must 65 = .ok (.istore 6, 2) := by decide +kernel
theorem dX11_must_67 : decode cX11_must 67 = .ok (.iload_n 3, 1) := by decide +kernel
theorem dX11_must_68 : decode cX11_must 68 = .ok (.ifCond .ne 14, 3) := by decide +kernel
theorem dX11_must_71 : decode cX11_must 71 = .ok (.iload 6, 2) := by decide +kernel
theorem dX11_must_73 : decode cX11_must 73 = .ok (.iconst 1, 1) := by decide +kernel
theorem dX11_must_74 : decode cX11_must 74 = .ok (.iload_n 1, 1) := by decide +kernel
theorem dX11_must_75 : decode cX11_must 75 = .ok (.ishl, 1) := by decide +kernel
theorem dX11_must_76 : decode cX11_must 76 = .ok (.if_icmp .ne 18, 3) := by decide +kernel
theorem dX11_must_79 : decode cX11_must 79 = .ok (.goto 12, 3) := by decide +kernel
theorem dX11_must_82 : decode cX11_must 82 = .ok (.iload_n 1, 1) := by decide +kernel
theorem dX11_must_83 : decode cX11_must 83 = .ok (.iload 6, 2) := by decide +kernel
theorem dX11_must_85 : decode cX11_must 85 = .ok (.invokestatic 199, 3) := by decide +kernel
theorem dX11_must_88 : decode cX11_must 88 = .ok (.ifCond .eq 6, 3) := by decide +kernel
theorem dX11_must_91 : decode cX11_must 91 = .ok (.iinc 4 1, 3) := by decide +kernel
theorem dX11_must_94 : decode cX11_must 94 = .ok (.iinc 5 1, 3) := by decide +kernel
theorem dX11_must_97 : decode cX11_must 97 = .ok (.goto (-48), 3) := by decide +kernel
theorem dX11_must_100 : decode cX11_must 100 = .ok (.iload 4, 2) := by decide +kernel
theorem dX11_must_102 : decode cX11_must 102 = .ok (.ireturn, 1) := by decide +kernel
theorem dX11_ask_0 : decode cX11_ask 0 = .ok (.aload_n 0, 1) := by decide +kernel
theorem dX11_ask_1 : decode cX11_ask 1 = .ok (.getfield 12, 3) := by decide +kernel
theorem dX11_ask_4 : decode cX11_ask 4 = .ok (.iload_n 1, 1) := by decide +kernel
theorem dX11_ask_5 : decode cX11_ask 5 = .ok (.invokevirtual 143, 3) := by decide +kernel
theorem dX11_ask_8 : decode cX11_ask 8 = .ok (.ifCond .ne 6, 3) := by decide +kernel
theorem dX11_ask_11 : decode cX11_ask 11 = .ok (.bipush (-2), 2) := by decide +kernel
theorem dX11_ask_13 : decode cX11_ask 13 = .ok (.ireturn, 1) := by decide +kernel
theorem dX11_ask_14 : decode cX11_ask 14 = .ok (.aload_n 0, 1) := by decide +kernel
theorem dX11_ask_15 : decode cX11_ask 15 = .ok (.getfield 77, 3) := by decide +kernel
theorem dX11_ask_18 : decode cX11_ask 18 = .ok (.bipush 10, 2) := by decide +kernel
theorem dX11_ask_20 : decode cX11_ask 20 = .ok (.if_icmp .lt 6, 3) := by decide +kernel
theorem dX11_ask_23 : decode cX11_ask 23 = .ok (.bipush (-4), 2) := by decide +kernel
theorem dX11_ask_25 : decode cX11_ask 25 = .ok (.ireturn, 1) := by decide +kernel
theorem dX11_ask_26 : decode cX11_ask 26 = .ok (.aload_n 0, 1) := by decide +kernel
theorem dX11_ask_27 : decode cX11_ask 27 = .ok (.getfield 48, 3) := by decide +kernel
theorem dX11_ask_30 : decode cX11_ask 30 = .ok (.aload_n 0, 1) := by decide +kernel
theorem dX11_ask_31 : decode cX11_ask 31 = .ok (.getfield 77, 3) := by decide +kernel
theorem dX11_ask_34 : decode cX11_ask 34 = .ok (.iload_n 1, 1) := by decide +kernel
theorem dX11_ask_35 : decode cX11_ask 35 = .ok (.iastore, 1) := by decide +kernel
theorem dX11_ask_36 : decode cX11_ask 36 = .ok (.aload_n 0, 1) := by decide +kernel
theorem dX11_ask_37 : decode cX11_ask 37 = .ok (.dup, 1) := by decide +kernel
theorem dX11_ask_38 : decode cX11_ask 38 = .ok (.getfield 77, 3) := by decide +kernel
theorem dX11_ask_41 : decode cX11_ask 41 = .ok (.dup_x1, 1) := by decide +kernel
theorem dX11_ask_42 : decode cX11_ask 42 = .ok (.iconst 1, 1) := by decide +kernel
theorem dX11_ask_43 : decode cX11_ask 43 = .ok (.iadd, 1) := by decide +kernel
theorem dX11_ask_44 : decode cX11_ask 44 = .ok (.putfield 77, 3) := by decide +kernel
theorem dX11_ask_47 : decode cX11_ask 47 = .ok (.ireturn, 1) := by decide +kernel
theorem dX11_next_0 : decode cX11_next 0 = .ok (.iload_n 1, 1) := by decide +kernel
theorem dX11_next_1 : decode cX11_next 1 = .ok (.aload_n 0, 1) := by decide +kernel
theorem dX11_next_2 : decode cX11_next 2 = .ok (.getfield 91, 3) := by decide +kernel
theorem dX11_next_5 : decode cX11_next 5 = .ok (.invokestatic 69, 3) := by decide +kernel
theorem dX11_next_8 : decode cX11_next 8 = .ok (.ifCond .ne 5, 3) := by decide +kernel
theorem dX11_next_11 : decode cX11_next 11 = .ok (.iconst (-1), 1) := by decide +kernel
theorem dX11_next_12 : decode cX11_next 12 = .ok (.ireturn, 1) := by decide +kernel
theorem dX11_next_13 : decode cX11_next 13 = .ok (.aload_n 0, 1) := by decide +kernel
theorem dX11_next_14 : decode cX11_next 14 = .ok (.iload_n 1, 1) := by decide +kernel
theorem dX11_next_15 : decode cX11_next 15 = .ok (.invokevirtual 181, 3) := by decide +kernel
theorem dX11_next_18 : decode cX11_next 18 = .ok (.aload_n 0, 1) := by decide +kernel
theorem dX11_next_19 : decode cX11_next 19 = .ok (.getfield 44, 3) := by decide +kernel
theorem dX11_next_22 : decode cX11_next 22 = .ok (.invokevirtual 185, 3) := by decide +kernel
theorem dX11_next_25 : decode cX11_next 25 = .ok (.ifCond .ne 6, 3) := by decide +kernel
theorem dX11_next_28 : decode cX11_next 28 = .ok (.bipush (-5), 2) := by decide +kernel
theorem dX11_next_30 : decode cX11_next 30 = .ok (.ireturn, 1) := by decide +kernel
theorem dX11_next_31 : decode cX11_next 31 = .ok (.bipush (-5), 2) := by decide +kernel
theorem dX11_next_33 : decode cX11_next 33 = .ok (.istore_n 2, 1) := by decide +kernel
theorem dX11_next_34 : decode cX11_next 34 = .ok (.iconst 0, 1) := by decide +kernel
theorem dX11_next_35 : decode cX11_next 35 = .ok (.istore_n 3, 1) := by decide +kernel
theorem dX11_next_36 : decode cX11_next 36 = .ok (.iconst 0, 1) := by decide +kernel
theorem dX11_next_37 : decode cX11_next 37 = .ok (.istore 4, 2) := by decide +kernel
theorem dX11_next_39 : decode cX11_next 39 = .ok (.iload 4, 2) := by decide +kernel
theorem dX11_next_41 : decode cX11_next 41 = .ok (.aload_n 0, 1) := by decide +kernel
theorem dX11_next_42 : decode cX11_next 42 = .ok (.getfield 77, 3) := by decide +kernel
theorem dX11_next_45 : decode cX11_next 45 = .ok (.if_icmp .ge 50, 3) := by decide +kernel
theorem dX11_next_48 : decode cX11_next 48 = .ok (.aload_n 0, 1) := by decide +kernel
theorem dX11_next_49 : decode cX11_next 49 = .ok (.getfield 44, 3) := by decide +kernel
theorem dX11_next_52 : decode cX11_next 52 = .ok (.aload_n 0, 1) := by decide +kernel
theorem dX11_next_53 : decode cX11_next 53 = .ok (.getfield 48, 3) := by decide +kernel
theorem dX11_next_56 : decode cX11_next 56 = .ok (.iload 4, 2) := by decide +kernel
theorem dX11_next_58 : decode cX11_next 58 = .ok (.iaload, 1) := by decide +kernel
theorem dX11_next_59 : decode cX11_next 59 = .ok (.invokevirtual 202, 3) := by decide +kernel
theorem dX11_next_62 : decode cX11_next 62 = .ok (.aload_n 0, 1) := by decide +kernel
theorem dX11_next_63 : decode cX11_next 63 = .ok (.getfield 44, 3) := by decide +kernel
theorem dX11_next_66 : decode cX11_next 66 = .ok (.invokevirtual 205, 3) := by decide +kernel
theorem dX11_next_69 : decode cX11_next 69 = .ok (.istore 5, 2) := by decide +kernel
theorem dX11_next_71 : decode cX11_next 71 = .ok (.iload_n 2, 1) := by decide +kernel
theorem dX11_next_72 : decode cX11_next 72 = .ok (.bipush (-5), 2) := by decide +kernel
theorem dX11_next_74 : decode cX11_next 74 = .ok (.if_icmp .eq 9, 3) := by decide +kernel
theorem dX11_next_77 : decode cX11_next 77 = .ok (.iload 5, 2) := by decide +kernel
theorem dX11_next_79 : decode cX11_next 79 = .ok (.iload_n 3, 1) := by decide +kernel
theorem dX11_next_80 : decode cX11_next 80 = .ok (.if_icmp .ge 9, 3) := by decide +kernel
theorem dX11_next_83 : decode cX11_next 83 = .ok (.iload 4, 2) := by decide +kernel
theorem dX11_next_85 : decode cX11_next 85 = .ok (.istore_n 2, 1) := by decide +kernel
theorem dX11_next_86 : decode cX11_next 86 = .ok (.iload 5, 2) := by decide +kernel
theorem dX11_next_88 : decode cX11_next 88 = .ok (.istore_n 3, 1) := by decide +kernel
theorem dX11_next_89 : decode cX11_next 89 = .ok (.iinc 4 1, 3) := by decide +kernel
theorem dX11_next_92 : decode cX11_next 92 = .ok (.goto (-53), 3) := by decide +kernel
theorem dX11_next_95 : decode cX11_next 95 = .ok (.iload_n 2, 1) := by decide +kernel
theorem dX11_next_96 : decode cX11_next 96 = .ok (.ireturn, 1) := by decide +kernel
theorem dX11_silly_0 : decode cX11_silly 0 = .ok (.aload_n 0, 1) := by decide +kernel
theorem dX11_silly_1 : decode cX11_silly 1 = .ok (.getfield 12, 3) := by decide +kernel
theorem dX11_silly_4 : decode cX11_silly 4 = .ok (.iload_n 1, 1) := by decide +kernel
theorem dX11_silly_5 : decode cX11_silly 5 = .ok (.invokevirtual 208, 3) := by decide +kernel
theorem dX11_silly_8 : decode cX11_silly 8 = .ok (.ifCond .ne 6, 3) := by decide +kernel
theorem dX11_silly_11 : decode cX11_silly 11 = .ok (.bipush (-2), 2) := by decide +kernel
theorem dX11_silly_13 : decode cX11_silly 13 = .ok (.ireturn, 1) := by decide +kernel
theorem dX11_silly_14 : decode cX11_silly 14 = .ok (.aload_n 0, 1) := by decide +kernel
theorem dX11_silly_15 : decode cX11_silly 15 = .ok (.getfield 12, 3) := by decide +kernel
theorem dX11_silly_18 : decode cX11_silly 18 = .ok (.iload_n 1, 1) := by decide +kernel
theorem dX11_silly_19 : decode cX11_silly 19 = .ok (.invokevirtual 211, 3) := by decide +kernel
theorem dX11_silly_22 : decode cX11_silly 22 = .ok (.ifCond .eq 7, 3) := by decide +kernel
theorem dX11_silly_25 : decode cX11_silly 25 = .ok (.iconst 1, 1) := by decide +kernel
theorem dX11_silly_26 : decode cX11_silly 26 = .ok (.goto 4, 3) := by decide +kernel
theorem dX11_silly_29 : decode cX11_silly 29 = .ok (.iconst 0, 1) := by decide +kernel
theorem dX11_silly_30 : decode cX11_silly 30 = .ok (.ireturn, 1) := by decide +kernel
theorem dX11_could_0 : decode cX11_could 0 = .ok (.iload_n 1, 1) := by decide +kernel
theorem dX11_could_1 : decode cX11_could 1 = .ok (.aload_n 0, 1) := by decide +kernel
theorem dX11_could_2 : decode cX11_could 2 = .ok (.getfield 28, 3) := by decide +kernel
theorem dX11_could_5 : decode cX11_could 5 = .ok (.getfield 73, 3) := by decide +kernel
theorem dX11_could_8 : decode cX11_could 8 = .ok (.invokestatic 69, 3) := by decide +kernel
theorem dX11_could_11 : decode cX11_could 11 = .ok (.ifCond .ne 5, 3) := by decide +kernel
theorem dX11_could_14 : decode cX11_could 14 = .ok (.iconst (-1), 1) := by decide +kernel
theorem dX11_could_15 : decode cX11_could 15 = .ok (.ireturn, 1) := by decide +kernel
theorem dX11_could_16 : decode cX11_could 16 = .ok (.aload_n 0, 1) := by decide +kernel
theorem dX11_could_17 : decode cX11_could 17 = .ok (.getfield 28, 3) := by decide +kernel
theorem dX11_could_20 : decode cX11_could 20 = .ok (.getfield 102, 3) := by decide +kernel
theorem dX11_could_23 : decode cX11_could 23 = .ok (.iload_n 1, 1) := by decide +kernel
theorem dX11_could_24 : decode cX11_could 24 = .ok (.iaload, 1) := by decide +kernel
theorem dX11_could_25 : decode cX11_could 25 = .ok (.istore_n 2, 1) := by decide +kernel
theorem dX11_could_26 : decode cX11_could 26 = .ok (.iconst 0, 1) := by decide +kernel
theorem dX11_could_27 : decode cX11_could 27 = .ok (.istore_n 3, 1) := by decide +kernel
theorem dX11_could_28 : decode cX11_could 28 = .ok (.iconst 0, 1) := by decide +kernel
theorem dX11_could_29 : decode cX11_could 29 = .ok (.istore 4, 2) := by decide +kernel
theorem dX11_could_31 : decode cX11_could 31 = .ok (.iload 4, 2) := by decide +kernel
theorem dX11_could_33 : decode cX11_could 33 = .ok (.aload_n 0, 1) := by decide +kernel
theorem dX11_could_34 : decode cX11_could 34 = .ok (.getfield 77, 3) := by decide +kernel
theorem dX11_could_37 : decode cX11_could 37 = .ok (.if_icmp .ge 25, 3) := by decide +kernel
theorem dX11_could_40 : decode cX11_could 40 = .ok (.aload_n 0, 1) := by decide +kernel
theorem dX11_could_41 : decode cX11_could 41 = .ok (.getfield 48, 3) := by decide +kernel
theorem dX11_could_44 : decode cX11_could 44 = .ok (.iload 4, 2) := by decide +kernel
theorem dX11_could_46 : decode cX11_could 46 = .ok (.iaload, 1) := by decide +kernel
theorem dX11_could_47 : decode cX11_could 47 = .ok (.iload_n 2, 1) := by decide +kernel
theorem dX11_could_48 : decode cX11_could 48 = .ok (.iand, 1) := by decide +kernel
theorem dX11_could_49 : decode cX11_could 49 = .ok (.iload_n 2, 1) := by decide +kernel
theorem dX11_could_50 : decode cX11_could 50 = .ok (.if_icmp .ne 6, 3) := by decide +kernel
theorem dX11_could_53 : decode cX11_could 53 = .ok (.iinc 3 1, 3) := by decide +kernel
theorem dX11_could_56 : decode cX11_could 56 = .ok (.iinc 4 1, 3) := by decide +kernel
theorem dX11_could_59 : decode cX11_could 59 = .ok (.goto (-28), 3) := by decide +kernel
theorem dX11_could_62 : decode cX11_could 62 = .ok (.iload_n 3, 1) := by decide +kernel
theorem dX11_could_63 : decode cX11_could 63 = .ok (.ireturn, 1) := by decide +kernel
theorem dX11_away_0 : decode cX11_away 0 = .ok (.aload_n 0, 1) := by decide +kernel
theorem dX11_away_1 : decode cX11_away 1 = .ok (.getfield 12, 3) := by decide +kernel
theorem dX11_away_4 : decode cX11_away 4 = .ok (.iload_n 1, 1) := by decide +kernel
theorem dX11_away_5 : decode cX11_away 5 = .ok (.invokevirtual 84, 3) := by decide +kernel
theorem dX11_away_8 : decode cX11_away 8 = .ok (.ifCond .eq 22, 3) := by decide +kernel
theorem dX11_away_11 : decode cX11_away 11 = .ok (.aload_n 0, 1) := by decide +kernel
theorem dX11_away_12 : decode cX11_away 12 = .ok (.getfield 12, 3) := by decide +kernel
theorem dX11_away_15 : decode cX11_away 15 = .ok (.iload_n 2, 1) := by decide +kernel
theorem dX11_away_16 : decode cX11_away 16 = .ok (.invokevirtual 84, 3) := by decide +kernel
theorem dX11_away_19 : decode cX11_away 19 = .ok (.ifCond .eq 11, 3) := by decide +kernel
theorem dX11_away_22 : decode cX11_away 22 = .ok (.iload_n 3, 1) := by decide +kernel
theorem dX11_away_23 : decode cX11_away 23 = .ok (.iconst 5, 1) := by decide +kernel
theorem dX11_away_24 : decode cX11_away 24 = .ok (.invokestatic 69, 3) := by decide +kernel
theorem dX11_away_27 : decode cX11_away 27 = .ok (.ifCond .ne 5, 3) := by decide +kernel
theorem dX11_away_30 : decode cX11_away 30 = .ok (.iconst (-1), 1) := by decide +kernel
theorem dX11_away_31 : decode cX11_away 31 = .ok (.ireturn, 1) := by decide +kernel
theorem dX11_away_32 : decode cX11_away 32 = .ok (.iload_n 1, 1) := by decide +kernel
theorem dX11_away_33 : decode cX11_away 33 = .ok (.iload_n 2, 1) := by decide +kernel
theorem dX11_away_34 : decode cX11_away 34 = .ok (.if_icmp .ne 6, 3) := by decide +kernel
theorem dX11_away_37 : decode cX11_away 37 = .ok (.bipush (-2), 2) := by decide +kernel
theorem dX11_away_39 : decode cX11_away 39 = .ok (.ireturn, 1) := by decide +kernel
theorem dX11_away_40 : decode cX11_away 40 = .ok (.iload_n 3, 1) := by decide +kernel
theorem dX11_away_41 : decode cX11_away 41 = .ok (.iconst 2, 1) := by decide +kernel
theorem dX11_away_42 : decode cX11_away 42 = .ok (.if_icmp .ge 23, 3) := by decide +kernel
theorem dX11_away_45 : decode cX11_away 45 = .ok (.aload_n 0, 1) := by decide +kernel
theorem dX11_away_46 : decode cX11_away 46 = .ok (.getfield 28, 3) := by decide +kernel
theorem dX11_away_49 : decode cX11_away 49 = .ok (.iload_n 1, 1) := by decide +kernel
theorem dX11_away_50 : decode cX11_away 50 = .ok (.iload_n 2, 1) := by decide +kernel
theorem dX11_away_51 : decode cX11_away 51 = .ok (.iconst 1, 1) := by decide +kernel
theorem dX11_away_52 : decode cX11_away 52 = .ok (.iload_n 3, 1) := by decide +kernel
theorem dX11_away_53 : decode cX11_away 53 = .ok (.ifCond .ne 7, 3) := by decide +kernel
theorem dX11_away_56 : decode cX11_away 56 = .ok (.iconst 1, 1) := by decide +kernel
theorem dX11_away_57 : decode cX11_away 57 = .ok (.goto 4, 3) := by decide +kernel
theorem dX11_away_60 : decode cX11_away 60 = .ok (.iconst 0, 1) := by decide +kernel
theorem dX11_away_61 : decode cX11_away 61 = .ok (.invokevirtual 214, 3) := by decide +kernel
theorem dX11_away_64 : decode cX11_away 64 = .ok (.ireturn, 1) := by decide +kernel
theorem dX11_away_65 : decode cX11_away 65 = .ok (.iload_n 3, 1) := by decide +kernel
theorem dX11_away_66 : decode cX11_away 66 = .ok (.iconst 4, 1) := by decide +kernel
theorem dX11_away_67 : decode cX11_away 67 = .ok (.if_icmp .ge 26, 3) := by decide +kernel
theorem dX11_away_70 : decode cX11_away 70 = .ok (.aload_n 0, 1) := by decide +kernel
theorem dX11_away_71 : decode cX11_away 71 = .ok (.getfield 28, 3) := by decide +kernel
theorem dX11_away_74 : decode cX11_away 74 = .ok (.iload_n 1, 1) := by decide +kernel
theorem dX11_away_75 : decode cX11_away 75 = .ok (.iload_n 2, 1) := by decide +kernel
theorem dX11_away_76 : decode cX11_away 76 = .ok (.iconst 0, 1) := by decide +kernel
theorem dX11_away_77 : decode cX11_away 77 = .ok (.iload_n 3, 1) := by decide +kernel
theorem dX11_away_78 : decode cX11_away 78 = .ok (.iconst 2, 1) := by decide +kernel
theorem dX11_away_79 : decode cX11_away 79 = .ok (.if_icmp .ne 7, 3) := by decide +kernel
theorem dX11_away_82 : decode cX11_away 82 = .ok (.iconst 1, 1) := by decide +kernel
theorem dX11_away_83 : decode cX11_away 83 = .ok (.goto 4, 3) := by decide +kernel
theorem dX11_away_86 : decode cX11_away 86 = .ok (.iconst 0, 1) := by decide +kernel
theorem dX11_away_87 : decode cX11_away 87 = .ok (.invokevirtual 214, 3) := by decide +kernel
theorem dX11_away_90 : decode cX11_away 90 = .ok (.goto 9, 3) := by decide +kernel
theorem dX11_away_93 : decode cX11_away 93 = .ok (.aload_n 0, 1) := by decide +kernel
theorem dX11_away_94 : decode cX11_away 94 = .ok (.iload_n 1, 1) := by decide +kernel
theorem dX11_away_95 : decode cX11_away 95 = .ok (.iload_n 2, 1) := by decide +kernel
theorem dX11_away_96 : decode cX11_away 96 = .ok (.invokevirtual 218, 3) := by decide +kernel
theorem dX11_away_99 : decode cX11_away 99 = .ok (.ireturn, 1) := by decide +kernel
theorem dX11_coin_0 : decode cX11_coin 0 = .ok (.aload_n 0, 1) := by decide +kernel
theorem dX11_coin_1 : decode cX11_coin 1 = .ok (.iload_n 1, 1) := by decide +kernel
theorem dX11_coin_2 : decode cX11_coin 2 = .ok (.invokevirtual 130, 3) := by decide +kernel
theorem dX11_coin_5 : decode cX11_coin 5 = .ok (.astore_n 3, 1) := by decide +kernel
theorem dX11_coin_6 : decode cX11_coin 6 = .ok (.aload_n 3, 1) := by decide +kernel
theorem dX11_coin_7 : decode cX11_coin 7 = .ok (.ifnull 14, 3) := by decide +kernel
theorem dX11_coin_10 : decode cX11_coin 10 = .ok (.aload_n 0, 1) := by decide +kernel
theorem dX11_coin_11 : decode cX11_coin 11 = .ok (.getfield 12, 3) := by decide +kernel
theorem dX11_coin_14 : decode cX11_coin 14 = .ok (.iload_n 2, 1) := by decide +kernel
theorem dX11_coin_15 : decode cX11_coin 15 = .ok (.invokevirtual 208, 3) := by decide +kernel
theorem dX11_coin_18 : decode cX11_coin 18 = .ok (.ifCond .ne 7, 3) := by decide +kernel
theorem dX11_coin_21 : decode cX11_coin 21 = .ok (.ldc2_w 141, 3) := by decide +kernel
theorem dX11_coin_24 : decode cX11_coin 24 = .ok (.lreturn, 1) := by decide +kernel
theorem dX11_coin_25 : decode cX11_coin 25 = .ok (.aload_n 3, 1) := by decide +kernel
theorem dX11_coin_26 : decode cX11_coin 26 = .ok (.aload_n 0, 1) := by decide +kernel
theorem dX11_coin_27 : decode cX11_coin 27 = .ok (.getfield 12, 3) := by decide +kernel
theorem dX11_coin_30 : decode cX11_coin 30 = .ok (.invokevirtual 146, 3) := by decide +kernel
theorem dX11_coin_33 : decode cX11_coin 33 = .ok (.aload_n 0, 1) := by decide +kernel
theorem dX11_coin_34 : decode cX11_coin 34 = .ok (.aload_n 3, 1) := by decide +kernel
theorem dX11_coin_35 : decode cX11_coin 35 = .ok (.iload_n 2, 1) := by decide +kernel
theorem dX11_coin_36 : decode cX11_coin 36 = .ok (.invokevirtual 221, 3) := by decide +kernel
theorem dX11_coin_39 : decode cX11_coin 39 = .ok (.i2l, 1) := by decide +kernel
theorem dX11_coin_40 : decode cX11_coin 40 = .ok (.lreturn, 1) := by decide +kernel
theorem dX11_lay_0 : decode cX11_lay 0 = .ok (.aload_n 0, 1) := by decide +kernel
theorem dX11_lay_1 : decode cX11_lay 1 = .ok (.iload_n 1, 1) := by decide +kernel
theorem dX11_lay_2 : decode cX11_lay 2 = .ok (.invokevirtual 130, 3) := by decide +kernel
theorem dX11_lay_5 : decode cX11_lay 5 = .ok (.astore_n 3, 1) := by decide +kernel
theorem dX11_lay_6 : decode cX11_lay 6 = .ok (.aload_n 3, 1) := by decide +kernel
theorem dX11_lay_7 : decode cX11_lay 7 = .ok (.ifnonnull 5, 3) := by decide +kernel
theorem dX11_lay_10 : decode cX11_lay 10 = .ok (.iconst (-1), 1) := by decide +kernel
theorem dX11_lay_11 : decode cX11_lay 11 = .ok (.ireturn, 1) := by decide +kernel
theorem dX11_lay_12 : decode cX11_lay 12 = .ok (.iload_n 2, 1) := by decide +kernel
theorem dX11_lay_13 : decode cX11_lay 13 = .ok (.ifCond .lt 9, 3) := by decide +kernel
theorem dX11_lay_16 : decode cX11_lay 16 = .ok (.iload_n 2, 1) := by decide +kernel
theorem dX11_lay_17 : decode cX11_lay 17 = .ok (.bipush 6, 2) := by decide +kernel
theorem dX11_lay_19 : decode cX11_lay 19 = .ok (.if_icmp .le 6, 3) := by decide +kernel
theorem dX11_lay_22 : decode cX11_lay 22 = .ok (.bipush (-2), 2) := by decide +kernel
theorem dX11_lay_24 : decode cX11_lay 24 = .ok (.ireturn, 1) := by decide +kernel
theorem dX11_lay_25 : decode cX11_lay 25 = .ok (.aload_n 3, 1) := by decide +kernel
theorem dX11_lay_26 : decode cX11_lay 26 = .ok (.aload_n 0, 1) := by decide +kernel
theorem dX11_lay_27 : decode cX11_lay 27 = .ok (.getfield 12, 3) := by decide +kernel
theorem dX11_lay_30 : decode cX11_lay 30 = .ok (.invokevirtual 146, 3) := by decide +kernel
theorem dX11_lay_33 : decode cX11_lay 33 = .ok (.iconst 0, 1) := by decide +kernel
theorem dX11_lay_34 : decode cX11_lay 34 = .ok (.istore 4, 2) := by decide +kernel
theorem dX11_lay_36 : decode cX11_lay 36 = .ok (.iconst 0, 1) := by decide +kernel
theorem dX11_lay_37 : decode cX11_lay 37 = .ok (.istore 5, 2) := by decide +kernel
theorem dX11_lay_39 : decode cX11_lay 39 = .ok (.iconst 1, 1) := by decide +kernel
theorem dX11_lay_40 : decode cX11_lay 40 = .ok (.istore 6, 2) := by decide +kernel
theorem dX11_lay_42 : decode cX11_lay 42 = .ok (.iload 6, 2) := by decide +kernel
theorem dX11_lay_44 : decode cX11_lay 44 = .ok (.iconst 1, 1) := by decide +kernel
theorem dX11_lay_45 : decode cX11_lay 45 = .ok (.aload_n 0, 1) := by decide +kernel
theorem dX11_lay_46 : decode cX11_lay 46 = .ok (.getfield 12, 3) := by decide +kernel
theorem dX11_lay_49 : decode cX11_lay 49 = .ok (.getfield 224, 3) := by decide +kernel
theorem dX11_lay_52 : decode cX11_lay 52 = .ok (.ishl, 1) := by decide +kernel
theorem dX11_lay_53 : decode cX11_lay 53 = .ok (.if_icmp .ge 66, 3) := by decide +kernel
theorem dX11_lay_56 : decode cX11_lay 56 = .ok (.iload 6, 2) := by decide +kernel
theorem dX11_lay_58 : decode cX11_lay 58 = .ok (.invokestatic 225, 3) := by decide +kernel
theorem dX11_lay_61 : decode cX11_lay 61 = .ok (.istore 7, 2) := by decide +kernel
theorem dX11_lay_63 : decode cX11_lay 63 = .ok (.iload 7, 2) := by decide +kernel
theorem dX11_lay_65 : decode cX11_lay 65 = .ok (.iload_n 2, 1) := by decide +kernel
theorem dX11_lay_66 : decode cX11_lay 66 = .ok (.if_icmp .le 6, 3) := by decide +kernel
theorem dX11_lay_69 : decode cX11_lay 69 = .ok (.goto 44, 3) := by decide +kernel
theorem dX11_lay_72 : decode cX11_lay 72 = .ok (.aload_n 0, 1) := by decide +kernel
theorem dX11_lay_73 : decode cX11_lay 73 = .ok (.aload_n 3, 1) := by decide +kernel
theorem dX11_lay_74 : decode cX11_lay 74 = .ok (.iload 6, 2) := by decide +kernel
theorem dX11_lay_76 : decode cX11_lay 76 = .ok (.invokevirtual 221, 3) := by decide +kernel
theorem dX11_lay_79 : decode cX11_lay 79 = .ok (.istore 8, 2) := by decide +kernel
theorem dX11_lay_81 : decode cX11_lay 81 = .ok (.iload 8, 2) := by decide +kernel
theorem dX11_lay_83 : decode cX11_lay 83 = .ok (.iload 5, 2) := by decide +kernel
theorem dX11_lay_85 : decode cX11_lay 85 = .ok (.if_icmp .gt 20, 3) := by decide +kernel
theorem dX11_lay_88 : decode cX11_lay 88 = .ok (.iload 8, 2) := by decide +kernel
theorem dX11_lay_90 : decode cX11_lay 90 = .ok (.iload 5, 2) := by decide +kernel
theorem dX11_lay_92 : decode cX11_lay 92 = .ok (.if_icmp .ne 21, 3) := by decide +kernel
theorem dX11_lay_95 : decode cX11_lay 95 = .ok (.iload 7, 2) := by decide +kernel
theorem dX11_lay_97 : decode cX11_lay 97 = .ok (.iload 4, 2) := by decide +kernel
theorem dX11_lay_99 : decode cX11_lay 99 = .ok (.invokestatic 225, 3) := by decide +kernel
theorem dX11_lay_102 : decode cX11_lay 102 = .ok (.if_icmp .ge 11, 3) := by decide +kernel
theorem dX11_lay_105 : decode cX11_lay 105 = .ok (.iload 8, 2) := by decide +kernel
theorem dX11_lay_107 : decode cX11_lay 107 = .ok (.istore 5, 2) := by decide +kernel
theorem dX11_lay_109 : decode cX11_lay 109 = .ok (.iload 6, 2) := by decide +kernel
theorem dX11_lay_111 : decode cX11_lay 111 = .ok (.istore 4, 2) := by decide +kernel
theorem dX11_lay_113 : decode cX11_lay 113 = .ok (.iinc 6 1, 3) := by decide +kernel
theorem dX11_lay_116 : decode cX11_lay 116 = .ok (.goto (-74), 3) := by decide +kernel
theorem dX11_lay_119 : decode cX11_lay 119 = .ok (.iload 4, 2) := by decide +kernel
theorem dX11_lay_121 : decode cX11_lay 121 = .ok (.ireturn, 1) := by decide +kernel
theorem dX11_best_0 : decode cX11_best 0 = .ok (.aload_n 0, 1) := by decide +kernel
theorem dX11_best_1 : decode cX11_best 1 = .ok (.iload_n 1, 1) := by decide +kernel
theorem dX11_best_2 : decode cX11_best 2 = .ok (.invokevirtual 130, 3) := by decide +kernel
theorem dX11_best_5 : decode cX11_best 5 = .ok (.astore 4, 2) := by decide +kernel
theorem dX11_best_7 : decode cX11_best 7 = .ok (.aload 4, 2) := by decide +kernel
theorem dX11_best_9 : decode cX11_best 9 = .ok (.ifnull 14, 3) := by decide +kernel
theorem dX11_best_12 : decode cX11_best 12 = .ok (.aload_n 0, 1) := by decide +kernel
theorem dX11_best_13 : decode cX11_best 13 = .ok (.getfield 12, 3) := by decide +kernel
theorem dX11_best_16 : decode cX11_best 16 = .ok (.iload_n 2, 1) := by decide +kernel
theorem dX11_best_17 : decode cX11_best 17 = .ok (.invokevirtual 84, 3) := by decide +kernel
theorem dX11_best_20 : decode cX11_best 20 = .ok (.ifCond .ne 5, 3) := by decide +kernel
theorem dX11_best_23 : decode cX11_best 23 = .ok (.iconst (-1), 1) := by decide +kernel
theorem dX11_best_24 : decode cX11_best 24 = .ok (.ireturn, 1) := by decide +kernel
theorem dX11_best_25 : decode cX11_best 25 = .ok (.aload_n 0, 1) := by decide +kernel
theorem dX11_best_26 : decode cX11_best 26 = .ok (.getfield 12, 3) := by decide +kernel
theorem dX11_best_29 : decode cX11_best 29 = .ok (.iload_n 3, 1) := by decide +kernel
theorem dX11_best_30 : decode cX11_best 30 = .ok (.invokevirtual 143, 3) := by decide +kernel
theorem dX11_best_33 : decode cX11_best 33 = .ok (.ifCond .eq 11, 3) := by decide +kernel
theorem dX11_best_36 : decode cX11_best 36 = .ok (.iload_n 2, 1) := by decide +kernel
theorem dX11_best_37 : decode cX11_best 37 = .ok (.iload_n 3, 1) := by decide +kernel
theorem dX11_best_38 : decode cX11_best 38 = .ok (.invokestatic 199, 3) := by decide +kernel
theorem dX11_best_41 : decode cX11_best 41 = .ok (.ifCond .ne 6, 3) := by decide +kernel
theorem dX11_best_44 : decode cX11_best 44 = .ok (.bipush (-2), 2) := by decide +kernel
theorem dX11_best_46 : decode cX11_best 46 = .ok (.ireturn, 1) := by decide +kernel
theorem dX11_best_47 : decode cX11_best 47 = .ok (.aload_n 0, 1) := by decide +kernel
theorem dX11_best_48 : decode cX11_best 48 = .ok (.getfield 12, 3) := by decide +kernel
theorem dX11_best_51 : decode cX11_best 51 = .ok (.getfield 88, 3) := by decide +kernel
theorem dX11_best_54 : decode cX11_best 54 = .ok (.iload_n 2, 1) := by decide +kernel
theorem dX11_best_55 : decode cX11_best 55 = .ok (.iaload, 1) := by decide +kernel
theorem dX11_best_56 : decode cX11_best 56 = .ok (.istore 5, 2) := by decide +kernel
theorem dX11_best_58 : decode cX11_best 58 = .ok (.iconst 0, 1) := by decide +kernel
theorem dX11_best_59 : decode cX11_best 59 = .ok (.istore 6, 2) := by decide +kernel
theorem dX11_best_61 : decode cX11_best 61 = .ok (.iconst (-1), 1) := by decide +kernel
theorem dX11_best_62 : decode cX11_best 62 = .ok (.istore 7, 2) := by decide +kernel
theorem dX11_best_64 : decode cX11_best 64 = .ok (.iconst 0, 1) := by decide +kernel
theorem dX11_best_65 : decode cX11_best 65 = .ok (.istore 8, 2) := by decide +kernel
theorem dX11_best_67 : decode cX11_best 67 = .ok (.iload 8, 2) := by decide +kernel
theorem dX11_best_69 : decode cX11_best 69 = .ok (.bipush 100, 2) := by decide +kernel
theorem dX11_best_71 : decode cX11_best 71 = .ok (.if_icmp .ge 53, 3) := by decide +kernel
theorem dX11_best_74 : decode cX11_best 74 = .ok (.aload_n 0, 1) := by decide +kernel
theorem dX11_best_75 : decode cX11_best 75 = .ok (.getfield 12, 3) := by decide +kernel
theorem dX11_best_78 : decode cX11_best 78 = .ok (.getfield 88, 3) := by decide +kernel
theorem dX11_best_81 : decode cX11_best 81 = .ok (.iload_n 2, 1) := by decide +kernel
theorem dX11_best_82 : decode cX11_best 82 = .ok (.iload 8, 2) := by decide +kernel
theorem dX11_best_84 : decode cX11_best 84 = .ok (.iastore, 1) := by decide +kernel
theorem dX11_best_85 : decode cX11_best 85 = .ok (.aload 4, 2) := by decide +kernel
theorem dX11_best_87 : decode cX11_best 87 = .ok (.aload_n 0, 1) := by decide +kernel
theorem dX11_best_88 : decode cX11_best 88 = .ok (.getfield 12, 3) := by decide +kernel
theorem dX11_best_91 : decode cX11_best 91 = .ok (.invokevirtual 146, 3) := by decide +kernel
theorem dX11_best_94 : decode cX11_best 94 = .ok (.aload_n 0, 1) := by decide +kernel
theorem dX11_best_95 : decode cX11_best 95 = .ok (.aload 4, 2) := by decide +kernel
theorem dX11_best_97 : decode cX11_best 97 = .ok (.iload_n 3, 1) := by decide +kernel
theorem dX11_best_98 : decode cX11_best 98 = .ok (.invokevirtual 221, 3) := by decide +kernel
theorem dX11_best_101 : decode cX11_best 101 = .ok (.istore 9, 2) := by decide +kernel
theorem dX11_best_103 : decode cX11_best 103 = .ok (.iload 9, 2) := by decide +kernel
theorem dX11_best_105 : decode cX11_best 105 = .ok (.iload 7, 2) := by decide +kernel
theorem dX11_best_107 : decode cX11_best 107 = .ok (.if_icmp .le 11, 3) := by decide +kernel
theorem dX11_best_110 : decode cX11_best 110 = .ok (.iload 9, 2) := by decide +kernel
theorem dX11_best_112 : decode cX11_best 112 = .ok (.istore 7, 2) := by decide +kernel
theorem dX11_best_114 : decode cX11_best 114 = .ok (.iload 8, 2) := by decide +kernel
theorem dX11_best_116 : decode cX11_best 116 = .ok (.istore 6, 2) := by decide +kernel
theorem dX11_best_118 : decode cX11_best 118 = .ok (.iinc 8 1, 3) := by decide +kernel
theorem dX11_best_121 : decode cX11_best 121 = .ok (.goto (-54), 3) := by decide +kernel
theorem dX11_best_124 : decode cX11_best 124 = .ok (.aload_n 0, 1) := by decide +kernel
theorem dX11_best_125 : decode cX11_best 125 = .ok (.getfield 12, 3) := by decide +kernel
theorem dX11_best_128 : decode cX11_best 128 = .ok (.getfield 88, 3) := by decide +kernel
theorem dX11_best_131 : decode cX11_best 131 = .ok (.iload_n 2, 1) := by decide +kernel
theorem dX11_best_132 : decode cX11_best 132 = .ok (.iload 5, 2) := by decide +kernel
theorem dX11_best_134 : decode cX11_best 134 = .ok (.iastore, 1) := by decide +kernel
theorem dX11_best_135 : decode cX11_best 135 = .ok (.iload 6, 2) := by decide +kernel
theorem dX11_best_137 : decode cX11_best 137 = .ok (.ireturn, 1) := by decide +kernel
theorem dX11_worse_0 : decode cX11_worse 0 = .ok (.aload_n 0, 1) := by decide +kernel
theorem dX11_worse_1 : decode cX11_worse 1 = .ok (.iload_n 1, 1) := by decide +kernel
theorem dX11_worse_2 : decode cX11_worse 2 = .ok (.invokevirtual 130, 3) := by decide +kernel
theorem dX11_worse_5 : decode cX11_worse 5 = .ok (.astore 4, 2) := by decide +kernel
theorem dX11_worse_7 : decode cX11_worse 7 = .ok (.aload 4, 2) := by decide +kernel
theorem dX11_worse_9 : decode cX11_worse 9 = .ok (.ifnonnull 5, 3) := by decide +kernel
theorem dX11_worse_12 : decode cX11_worse 12 = .ok (.iconst (-1), 1) := by decide +kernel
theorem dX11_worse_13 : decode cX11_worse 13 = .ok (.ireturn, 1) := by decide +kernel
theorem dX11_worse_14 : decode cX11_worse 14 = .ok (.aload_n 0, 1) := by decide +kernel
theorem dX11_worse_15 : decode cX11_worse 15 = .ok (.getfield 12, 3) := by decide +kernel
theorem dX11_worse_18 : decode cX11_worse 18 = .ok (.iload_n 2, 1) := by decide +kernel
theorem dX11_worse_19 : decode cX11_worse 19 = .ok (.invokevirtual 208, 3) := by decide +kernel
theorem dX11_worse_22 : decode cX11_worse 22 = .ok (.ifCond .eq 14, 3) := by decide +kernel
theorem dX11_worse_25 : decode cX11_worse 25 = .ok (.aload_n 0, 1) := by decide +kernel
theorem dX11_worse_26 : decode cX11_worse 26 = .ok (.getfield 12, 3) := by decide +kernel
theorem dX11_worse_29 : decode cX11_worse 29 = .ok (.iload_n 3, 1) := by decide +kernel
theorem dX11_worse_30 : decode cX11_worse 30 = .ok (.invokevirtual 208, 3) := by decide +kernel
theorem dX11_worse_33 : decode cX11_worse 33 = .ok (.ifCond .ne 6, 3) := by decide +kernel
theorem dX11_worse_36 : decode cX11_worse 36 = .ok (.bipush (-2), 2) := by decide +kernel
theorem dX11_worse_38 : decode cX11_worse 38 = .ok (.ireturn, 1) := by decide +kernel
theorem dX11_worse_39 : decode cX11_worse 39 = .ok (.aload 4, 2) := by decide +kernel
theorem dX11_worse_41 : decode cX11_worse 41 = .ok (.aload_n 0, 1) := by decide +kernel
theorem dX11_worse_42 : decode cX11_worse 42 = .ok (.getfield 12, 3) := by decide +kernel
theorem dX11_worse_45 : decode cX11_worse 45 = .ok (.invokevirtual 146, 3) := by decide +kernel
theorem dX11_worse_48 : decode cX11_worse 48 = .ok (.iconst 0, 1) := by decide +kernel
theorem dX11_worse_49 : decode cX11_worse 49 = .ok (.istore 5, 2) := by decide +kernel
theorem dX11_worse_51 : decode cX11_worse 51 = .ok (.iconst 0, 1) := by decide +kernel
theorem dX11_worse_52 : decode cX11_worse 52 = .ok (.istore 6, 2) := by decide +kernel
theorem dX11_worse_54 : decode cX11_worse 54 = .ok (.iload 6, 2) := by decide +kernel
theorem dX11_worse_56 : decode cX11_worse 56 = .ok (.iconst 3, 1) := by decide +kernel
theorem dX11_worse_57 : decode cX11_worse 57 = .ok (.if_icmp .ge 48, 3) := by decide +kernel
theorem dX11_worse_60 : decode cX11_worse 60 = .ok (.aload 4, 2) := by decide +kernel
theorem dX11_worse_62 : decode cX11_worse 62 = .ok (.aload_n 0, 1) := by decide +kernel
theorem dX11_worse_63 : decode cX11_worse 63 = .ok (.getfield 12, 3) := by decide +kernel
theorem dX11_worse_66 : decode cX11_worse 66 = .ok (.iload_n 2, 1) := by decide +kernel
theorem dX11_worse_67 : decode cX11_worse 67 = .ok (.iload 6, 2) := by decide +kernel
theorem dX11_worse_69 : decode cX11_worse 69 = .ok (.invokevirtual 231, 3) := by decide +kernel
theorem dX11_worse_72 : decode cX11_worse 72 = .ok (.aload 4, 2) := by decide +kernel
theorem dX11_worse_74 : decode cX11_worse 74 = .ok (.aload_n 0, 1) := by decide +kernel
theorem dX11_worse_75 : decode cX11_worse 75 = .ok (.getfield 12, 3) := by decide +kernel
theorem dX11_worse_78 : decode cX11_worse 78 = .ok (.iload_n 3, 1) := by decide +kernel
theorem dX11_worse_79 : decode cX11_worse 79 = .ok (.iload 6, 2) := by decide +kernel
theorem dX11_worse_81 : decode cX11_worse 81 = .ok (.invokevirtual 231, 3) := by decide +kernel
theorem dX11_worse_84 : decode cX11_worse 84 = .ok (.if_icmp .ge 15, 3) := by decide +kernel
theorem dX11_worse_87 : decode cX11_worse 87 = .ok (.iload 5, 2) := by decide +kernel
theorem dX11_worse_89 : decode cX11_worse 89 = .ok (.aload_n 0, 1) := by decide +kernel
theorem dX11_worse_90 : decode cX11_worse 90 = .ok (.getfield 22, 3) := by decide +kernel
theorem dX11_worse_93 : decode cX11_worse 93 = .ok (.iload 6, 2) := by decide +kernel
theorem dX11_worse_95 : decode cX11_worse 95 = .ok (.iaload, 1) := by decide +kernel
theorem dX11_worse_96 : decode cX11_worse 96 = .ok (.iadd, 1) := by decide +kernel
theorem dX11_worse_97 : decode cX11_worse 97 = .ok (.istore 5, 2) := by decide +kernel
theorem dX11_worse_99 : decode cX11_worse 99 = .ok (.iinc 6 1, 3) := by decide +kernel
theorem dX11_worse_102 : decode cX11_worse 102 = .ok (.goto (-48), 3) := by decide +kernel
theorem dX11_worse_105 : decode cX11_worse 105 = .ok (.iload 5, 2) := by decide +kernel
theorem dX11_worse_107 : decode cX11_worse 107 = .ok (.ireturn, 1) := by decide +kernel
theorem dX11_act_0 : decode cX11_act 0 = .ok (.aload_n 0, 1) := by decide +kernel
theorem dX11_act_1 : decode cX11_act 1 = .ok (.getfield 54, 3) := by decide +kernel
theorem dX11_act_4 : decode cX11_act 4 = .ok (.invokevirtual 234, 3) := by decide +kernel
theorem dX11_act_7 : decode cX11_act 7 = .ok (.aload_n 0, 1) := by decide +kernel
theorem dX11_act_8 : decode cX11_act 8 = .ok (.iload_n 1, 1) := by decide +kernel
theorem dX11_act_9 : decode cX11_act 9 = .ok (.invokevirtual 130, 3) := by decide +kernel
theorem dX11_act_12 : decode cX11_act 12 = .ok (.astore 4, 2) := by decide +kernel
theorem dX11_act_14 : decode cX11_act 14 = .ok (.aload 4, 2) := by decide +kernel
theorem dX11_act_16 : decode cX11_act 16 = .ok (.ifnull 11, 3) := by decide +kernel
theorem dX11_act_19 : decode cX11_act 19 = .ok (.iload_n 2, 1) := by decide +kernel
theorem dX11_act_20 : decode cX11_act 20 = .ok (.iconst 3, 1) := by decide +kernel
theorem dX11_act_21 : decode cX11_act 21 = .ok (.invokestatic 69, 3) := by decide +kernel
theorem dX11_act_24 : decode cX11_act 24 = .ok (.ifCond .ne 5, 3) := by decide +kernel
theorem dX11_act_27 : decode cX11_act 27 = .ok (.iconst 0, 1) := by decide +kernel
theorem dX11_act_28 : decode cX11_act 28 = .ok (.ireturn, 1) := by decide +kernel
theorem dX11_act_29 : decode cX11_act 29 = .ok (.iload_n 2, 1) := by decide +kernel
theorem dX11_act_30 : decode cX11_act 30 = .ok (.ifCond .ne 14, 3) := by decide +kernel
theorem dX11_act_33 : decode cX11_act 33 = .ok (.aload 4, 2) := by decide +kernel
theorem dX11_act_35 : decode cX11_act 35 = .ok (.iload_n 3, 1) := by decide +kernel
theorem dX11_act_36 : decode cX11_act 36 = .ok (.aload_n 0, 1) := by decide +kernel
theorem dX11_act_37 : decode cX11_act 37 = .ok (.getfield 54, 3) := by decide +kernel
theorem dX11_act_40 : decode cX11_act 40 = .ok (.invokevirtual 237, 3) := by decide +kernel
theorem dX11_act_43 : decode cX11_act 43 = .ok (.ireturn, 1) := by decide +kernel
theorem dX11_act_44 : decode cX11_act 44 = .ok (.iload_n 2, 1) := by decide +kernel
theorem dX11_act_45 : decode cX11_act 45 = .ok (.iconst 1, 1) := by decide +kernel
theorem dX11_act_46 : decode cX11_act 46 = .ok (.if_icmp .ne 16, 3) := by decide +kernel
theorem dX11_act_49 : decode cX11_act 49 = .ok (.aload 4, 2) := by decide +kernel
theorem dX11_act_51 : decode cX11_act 51 = .ok (.iload_n 3, 1) := by decide +kernel
theorem dX11_act_52 : decode cX11_act 52 = .ok (.aload_n 0, 1) := by decide +kernel
theorem dX11_act_53 : decode cX11_act 53 = .ok (.getfield 54, 3) := by decide +kernel
theorem dX11_act_56 : decode cX11_act 56 = .ok (.invokevirtual 241, 3) := by decide +kernel
theorem dX11_act_59 : decode cX11_act 59 = .ok (.goto 13, 3) := by decide +kernel
theorem dX11_act_62 : decode cX11_act 62 = .ok (.aload 4, 2) := by decide +kernel
theorem dX11_act_64 : decode cX11_act 64 = .ok (.iload_n 3, 1) := by decide +kernel
theorem dX11_act_65 : decode cX11_act 65 = .ok (.aload_n 0, 1) := by decide +kernel
theorem dX11_act_66 : decode cX11_act 66 = .ok (.getfield 54, 3) := by decide +kernel
theorem dX11_act_69 : decode cX11_act 69 = .ok (.invokevirtual 244, 3) := by decide +kernel
theorem dX11_act_72 : decode cX11_act 72 = .ok (.ireturn, 1) := by decide +kernel
theorem dX11_trace_0 : decode cX11_trace 0 = .ok (.iload_n 1, 1) := by decide +kernel
theorem dX11_trace_1 : decode cX11_trace 1 = .ok (.aload_n 0, 1) := by decide +kernel
theorem dX11_trace_2 : decode cX11_trace 2 = .ok (.getfield 54, 3) := by decide +kernel
theorem dX11_trace_5 : decode cX11_trace 5 = .ok (.invokevirtual 247, 3) := by decide +kernel
theorem dX11_trace_8 : decode cX11_trace 8 = .ok (.invokestatic 69, 3) := by decide +kernel
theorem dX11_trace_11 : decode cX11_trace 11 = .ok (.ifCond .eq 15, 3) := by decide +kernel
theorem dX11_trace_14 : decode cX11_trace 14 = .ok (.aload_n 0, 1) := by decide +kernel
theorem dX11_trace_15 : decode cX11_trace 15 = .ok (.getfield 54, 3) := by decide +kernel
theorem dX11_trace_18 : decode cX11_trace 18 = .ok (.getfield 250, 3) := by decide +kernel
theorem dX11_trace_21 : decode cX11_trace 21 = .ok (.iload_n 1, 1) := by decide +kernel
theorem dX11_trace_22 : decode cX11_trace 22 = .ok (.iaload, 1) := by decide +kernel
theorem dX11_trace_23 : decode cX11_trace 23 = .ok (.goto 4, 3) := by decide +kernel
theorem dX11_trace_26 : decode cX11_trace 26 = .ok (.iconst (-1), 1) := by decide +kernel
theorem dX11_trace_27 : decode cX11_trace 27 = .ok (.ireturn, 1) := by decide +kernel
theorem dX11_taken_0 : decode cX11_taken 0 = .ok (.iload_n 2, 1) := by decide +kernel
theorem dX11_taken_1 : decode cX11_taken 1 = .ok (.bipush 6, 2) := by decide +kernel
theorem dX11_taken_3 : decode cX11_taken 3 = .ok (.invokestatic 69, 3) := by decide +kernel
theorem dX11_taken_6 : decode cX11_taken 6 = .ok (.ifCond .ne 6, 3) := by decide +kernel
theorem dX11_taken_9 : decode cX11_taken 9 = .ok (.bipush (-2), 2) := by decide +kernel
theorem dX11_taken_11 : decode cX11_taken 11 = .ok (.ireturn, 1) := by decide +kernel
theorem dX11_taken_12 : decode cX11_taken 12 = .ok (.aload_n 0, 1) := by decide +kernel
theorem dX11_taken_13 : decode cX11_taken 13 = .ok (.iload_n 1, 1) := by decide +kernel
theorem dX11_taken_14 : decode cX11_taken 14 = .ok (.invokevirtual 130, 3) := by decide +kernel
theorem dX11_taken_17 : decode cX11_taken 17 = .ok (.astore_n 3, 1) := by decide +kernel
theorem dX11_taken_18 : decode cX11_taken 18 = .ok (.aload_n 3, 1) := by decide +kernel
theorem dX11_taken_19 : decode cX11_taken 19 = .ok (.ifnonnull 6, 3) := by decide +kernel
theorem dX11_taken_22 : decode cX11_taken 22 = .ok (.bipush (-11), 2) := by decide +kernel
theorem dX11_taken_24 : decode cX11_taken 24 = .ok (.ireturn, 1) := by decide +kernel
theorem dX11_taken_25 : decode cX11_taken 25 = .ok (.aload_n 3, 1) := by decide +kernel
theorem dX11_taken_26 : decode cX11_taken 26 = .ok (.iload_n 2, 1) := by decide +kernel
theorem dX11_taken_27 : decode cX11_taken 27 = .ok (.invokestatic 253, 3) := by decide +kernel
theorem dX11_taken_30 : decode cX11_taken 30 = .ok (.ifCond .eq 10, 3) := by decide +kernel
theorem dX11_taken_33 : decode cX11_taken 33 = .ok (.aload_n 3, 1) := by decide +kernel
theorem dX11_taken_34 : decode cX11_taken 34 = .ok (.getfield 257, 3) := by decide +kernel
theorem dX11_taken_37 : decode cX11_taken 37 = .ok (.goto 5, 3) := by decide +kernel
theorem dX11_taken_40 : decode cX11_taken 40 = .ok (.bipush (-12), 2) := by decide +kernel
theorem dX11_taken_42 : decode cX11_taken 42 = .ok (.ireturn, 1) := by decide +kernel
theorem dX11_sheet_0 : decode cX11_sheet 0 = .ok (.iload_n 1, 1) := by decide +kernel
theorem dX11_sheet_1 : decode cX11_sheet 1 = .ok (.bipush 6, 2) := by decide +kernel
theorem dX11_sheet_3 : decode cX11_sheet 3 = .ok (.invokestatic 69, 3) := by decide +kernel
theorem dX11_sheet_6 : decode cX11_sheet 6 = .ok (.ifCond .eq 15, 3) := by decide +kernel
theorem dX11_sheet_9 : decode cX11_sheet 9 = .ok (.iload 4, 2) := by decide +kernel
theorem dX11_sheet_11 : decode cX11_sheet 11 = .ok (.aload_n 0, 1) := by decide +kernel
theorem dX11_sheet_12 : decode cX11_sheet 12 = .ok (.getfield 91, 3) := by decide +kernel
theorem dX11_sheet_15 : decode cX11_sheet 15 = .ok (.invokestatic 69, 3) := by decide +kernel
theorem dX11_sheet_18 : decode cX11_sheet 18 = .ok (.ifCond .ne 5, 3) := by decide +kernel
theorem dX11_sheet_21 : decode cX11_sheet 21 = .ok (.iconst (-1), 1) := by decide +kernel
theorem dX11_sheet_22 : decode cX11_sheet 22 = .ok (.ireturn, 1) := by decide +kernel
theorem dX11_sheet_23 : decode cX11_sheet 23 = .ok (.iload_n 3, 1) := by decide +kernel
theorem dX11_sheet_24 : decode cX11_sheet 24 = .ok (.iconst 1, 1) := by decide +kernel
theorem dX11_sheet_25 : decode cX11_sheet 25 = .ok (.if_icmp .lt 9, 3) := by decide +kernel
theorem dX11_sheet_28 : decode cX11_sheet 28 = .ok (.iload_n 3, 1) := by decide +kernel
theorem dX11_sheet_29 : decode cX11_sheet 29 = .ok (.bipush 20, 2) := by decide +kernel
theorem dX11_sheet_31 : decode cX11_sheet 31 = .ok (.if_icmp .le 6, 3) := by decide +kernel
theorem dX11_sheet_34 : decode cX11_sheet 34 = .ok (.bipush (-2), 2) := by decide +kernel
theorem dX11_sheet_36 : decode cX11_sheet 36 = .ok (.ireturn, 1) := by decide +kernel
theorem dX11_sheet_37 : decode cX11_sheet 37 = .ok (.aload_n 0, 1) := by decide +kernel
theorem dX11_sheet_38 : decode cX11_sheet 38 = .ok (.getfield 58, 3) := by decide +kernel
theorem dX11_sheet_41 : decode cX11_sheet 41 = .ok (.iload_n 1, 1) := by decide +kernel
theorem dX11_sheet_42 : decode cX11_sheet 42 = .ok (.iaload, 1) := by decide +kernel
theorem dX11_sheet_43 : decode cX11_sheet 43 = .ok (.ifCond .lt 16, 3) := by decide +kernel
theorem dX11_sheet_46 : decode cX11_sheet 46 = .ok (.aload_n 0, 1) := by decide +kernel
theorem dX11_sheet_47 : decode cX11_sheet 47 = .ok (.getfield 58, 3) := by decide +kernel
theorem dX11_sheet_50 : decode cX11_sheet 50 = .ok (.iload_n 1, 1) := by decide +kernel
theorem dX11_sheet_51 : decode cX11_sheet 51 = .ok (.iaload, 1) := by decide +kernel
theorem dX11_sheet_52 : decode cX11_sheet 52 = .ok (.iconst 3, 1) := by decide +kernel
theorem dX11_sheet_53 : decode cX11_sheet 53 = .ok (.if_icmp .eq 6, 3) := by decide +kernel
theorem dX11_sheet_56 : decode cX11_sheet 56 = .ok (.bipush (-12), 2) := by decide +kernel
theorem dX11_sheet_58 : decode cX11_sheet 58 = .ok (.ireturn, 1) := by decide +kernel
theorem dX11_sheet_59 : decode cX11_sheet 59 = .ok (.iconst 0, 1) := by decide +kernel
theorem dX11_sheet_60 : decode cX11_sheet 60 = .ok (.istore 5, 2) := by decide +kernel
theorem dX11_sheet_62 : decode cX11_sheet 62 = .ok (.iconst 0, 1) := by decide +kernel
theorem dX11_sheet_63 : decode cX11_sheet 63 = .ok (.istore 6, 2) := by decide +kernel
theorem dX11_sheet_65 : decode cX11_sheet 65 = .ok (.iload 6, 2) := by decide +kernel
theorem dX11_sheet_67 : decode cX11_sheet 67 = .ok (.iload_n 3, 1) := by decide +kernel
theorem dX11_sheet_68 : decode cX11_sheet 68 = .ok (.if_icmp .ge 49, 3) := by decide +kernel
theorem dX11_sheet_71 : decode cX11_sheet 71 = .ok (.iload_n 2, 1) := by decide +kernel
theorem dX11_sheet_72 : decode cX11_sheet 72 = .ok (.ifCond .lt 45, 3) := by decide +kernel
theorem dX11_sheet_75 : decode cX11_sheet 75 = .ok (.iload 6, 2) := by decide +kernel
theorem dX11_sheet_77 : decode cX11_sheet 77 = .ok (.aload_n 0, 1) := by decide +kernel
theorem dX11_sheet_78 : decode cX11_sheet 78 = .ok (.getfield 61, 3) := by decide +kernel
theorem dX11_sheet_81 : decode cX11_sheet 81 = .ok (.iload_n 1, 1) := by decide +kernel
theorem dX11_sheet_82 : decode cX11_sheet 82 = .ok (.iaload, 1) := by decide +kernel
theorem dX11_sheet_83 : decode cX11_sheet 83 = .ok (.iload_n 2, 1) := by decide +kernel
theorem dX11_sheet_84 : decode cX11_sheet 84 = .ok (.isub, 1) := by decide +kernel
theorem dX11_sheet_85 : decode cX11_sheet 85 = .ok (.if_icmp .ge 32, 3) := by decide +kernel
theorem dX11_sheet_88 : decode cX11_sheet 88 = .ok (.aload_n 0, 1) := by decide +kernel
theorem dX11_sheet_89 : decode cX11_sheet 89 = .ok (.iload 4, 2) := by decide +kernel
theorem dX11_sheet_91 : decode cX11_sheet 91 = .ok (.aload_n 0, 1) := by decide +kernel
theorem dX11_sheet_92 : decode cX11_sheet 92 = .ok (.getfield 66, 3) := by decide +kernel
theorem dX11_sheet_95 : decode cX11_sheet 95 = .ok (.iload_n 1, 1) := by decide +kernel
theorem dX11_sheet_96 : decode cX11_sheet 96 = .ok (.aaload, 1) := by decide +kernel
theorem dX11_sheet_97 : decode cX11_sheet 97 = .ok (.iload_n 2, 1) := by decide +kernel
theorem dX11_sheet_98 : decode cX11_sheet 98 = .ok (.iload 6, 2) := by decide +kernel
theorem dX11_sheet_100 : decode cX11_sheet 100 = .ok (.iadd, 1) := by decide +kernel
theorem dX11_sheet_101 : decode cX11_sheet 101 = .ok (.laload, 1) := by decide +kernel
theorem dX11_sheet_102 : decode cX11_sheet 102 = .ok (.invokevirtual 260, 3) := by decide +kernel
theorem dX11_sheet_105 : decode cX11_sheet 105 = .ok (.ifCond .lt 6, 3) := by decide +kernel
theorem dX11_sheet_108 : decode cX11_sheet 108 = .ok (.iinc 5 1, 3) := by decide +kernel
theorem dX11_sheet_111 : decode cX11_sheet 111 = .ok (.iinc 6 1, 3) := by decide +kernel
theorem dX11_sheet_114 : decode cX11_sheet 114 = .ok (.goto (-49), 3) := by decide +kernel
theorem dX11_sheet_117 : decode cX11_sheet 117 = .ok (.bipush 100, 2) := by decide +kernel
theorem dX11_sheet_119 : decode cX11_sheet 119 = .ok (.iload 5, 2) := by decide +kernel
theorem dX11_sheet_121 : decode cX11_sheet 121 = .ok (.imul, 1) := by decide +kernel
theorem dX11_sheet_122 : decode cX11_sheet 122 = .ok (.iload_n 3, 1) := by decide +kernel
theorem dX11_sheet_123 : decode cX11_sheet 123 = .ok (.iload 5, 2) := by decide +kernel
theorem dX11_sheet_125 : decode cX11_sheet 125 = .ok (.isub, 1) := by decide +kernel
theorem dX11_sheet_126 : decode cX11_sheet 126 = .ok (.iadd, 1) := by decide +kernel
theorem dX11_sheet_127 : decode cX11_sheet 127 = .ok (.ireturn, 1) := by decide +kernel
theorem dX11_count_0 : decode cX11_count 0 = .ok (.iload_n 1, 1) := by decide +kernel
theorem dX11_count_1 : decode cX11_count 1 = .ok (.tableswitch 96 0 7 #[47, 55, 60, 68, 73, 78, 83, 88], 47) := by decide +kernel
theorem dX11_count_48 : decode cX11_count 48 = .ok (.aload_n 0, 1) := by decide +kernel
theorem dX11_count_49 : decode cX11_count 49 = .ok (.getfield 12, 3) := by decide +kernel
theorem dX11_count_52 : decode cX11_count 52 = .ok (.getfield 224, 3) := by decide +kernel
theorem dX11_count_55 : decode cX11_count 55 = .ok (.ireturn, 1) := by decide +kernel
theorem dX11_count_56 : decode cX11_count 56 = .ok (.aload_n 0, 1) := by decide +kernel
theorem dX11_count_57 : decode cX11_count 57 = .ok (.getfield 91, 3) := by decide +kernel
theorem dX11_count_60 : decode cX11_count 60 = .ok (.ireturn, 1) := by decide +kernel
theorem dX11_count_61 : decode cX11_count 61 = .ok (.aload_n 0, 1) := by decide +kernel
theorem dX11_count_62 : decode cX11_count 62 = .ok (.getfield 28, 3) := by decide +kernel
theorem dX11_count_65 : decode cX11_count 65 = .ok (.getfield 73, 3) := by decide +kernel
theorem dX11_count_68 : decode cX11_count 68 = .ok (.ireturn, 1) := by decide +kernel
theorem dX11_count_69 : decode cX11_count 69 = .ok (.aload_n 0, 1) := by decide +kernel
theorem dX11_count_70 : decode cX11_count 70 = .ok (.getfield 111, 3) := by decide +kernel
theorem dX11_count_73 : decode cX11_count 73 = .ok (.ireturn, 1) := by decide +kernel
theorem dX11_count_74 : decode cX11_count 74 = .ok (.aload_n 0, 1) := by decide +kernel
theorem dX11_count_75 : decode cX11_count 75 = .ok (.getfield 108, 3) := by decide +kernel
theorem dX11_count_78 : decode cX11_count 78 = .ok (.ireturn, 1) := by decide +kernel
theorem dX11_count_79 : decode cX11_count 79 = .ok (.aload_n 0, 1) := by decide +kernel
theorem dX11_count_80 : decode cX11_count 80 = .ok (.getfield 77, 3) := by decide +kernel
theorem dX11_count_83 : decode cX11_count 83 = .ok (.ireturn, 1) := by decide +kernel
theorem dX11_count_84 : decode cX11_count 84 = .ok (.aload_n 0, 1) := by decide +kernel
theorem dX11_count_85 : decode cX11_count 85 = .ok (.invokevirtual 264, 3) := by decide +kernel
theorem dX11_count_88 : decode cX11_count 88 = .ok (.ireturn, 1) := by decide +kernel
theorem dX11_count_89 : decode cX11_count 89 = .ok (.aload_n 0, 1) := by decide +kernel
theorem dX11_count_90 : decode cX11_count 90 = .ok (.getfield 54, 3) := by decide +kernel
theorem dX11_count_93 : decode cX11_count 93 = .ok (.getfield 267, 3) := by decide +kernel
theorem dX11_count_96 : decode cX11_count 96 = .ok (.ireturn, 1) := by decide +kernel
theorem dX11_count_97 : decode cX11_count 97 = .ok (.bipush (-2), 2) := by decide +kernel
theorem dX11_count_99 : decode cX11_count 99 = .ok (.ireturn, 1) := by decide +kernel
theorem dX11_tape_0 : decode cX11_tape 0 = .ok (.iload_n 1, 1) := by decide +kernel
theorem dX11_tape_1 : decode cX11_tape 1 = .ok (.bipush 6, 2) := by decide +kernel
theorem dX11_tape_3 : decode cX11_tape 3 = .ok (.invokestatic 69, 3) := by decide +kernel
theorem dX11_tape_6 : decode cX11_tape 6 = .ok (.ifCond .ne 5, 3) := by decide +kernel
theorem dX11_tape_9 : decode cX11_tape 9 = .ok (.iconst (-1), 1) := by decide +kernel
theorem dX11_tape_10 : decode cX11_tape 10 = .ok (.ireturn, 1) := by decide +kernel
theorem dX11_tape_11 : decode cX11_tape 11 = .ok (.iload_n 2, 1) := by decide +kernel
theorem dX11_tape_12 : decode cX11_tape 12 = .ok (.iconst (-1), 1) := by decide +kernel
theorem dX11_tape_13 : decode cX11_tape 13 = .ok (.if_icmp .lt 8, 3) := by decide +kernel
theorem dX11_tape_16 : decode cX11_tape 16 = .ok (.iload_n 2, 1) := by decide +kernel
theorem dX11_tape_17 : decode cX11_tape 17 = .ok (.iconst 5, 1) := by decide +kernel
theorem dX11_tape_18 : decode cX11_tape 18 = .ok (.if_icmp .lt 6, 3) := by decide +kernel
theorem dX11_tape_21 : decode cX11_tape 21 = .ok (.bipush (-2), 2) := by decide +kernel
theorem dX11_tape_23 : decode cX11_tape 23 = .ok (.ireturn, 1) := by decide +kernel
theorem dX11_tape_24 : decode cX11_tape 24 = .ok (.iload_n 2, 1) := by decide +kernel
theorem dX11_tape_25 : decode cX11_tape 25 = .ok (.ifCond .ge 7, 3) := by decide +kernel
theorem dX11_tape_28 : decode cX11_tape 28 = .ok (.iconst 0, 1) := by decide +kernel
theorem dX11_tape_29 : decode cX11_tape 29 = .ok (.goto 4, 3) := by decide +kernel
theorem dX11_tape_32 : decode cX11_tape 32 = .ok (.iload_n 3, 1) := by decide +kernel
theorem dX11_tape_33 : decode cX11_tape 33 = .ok (.istore 4, 2) := by decide +kernel
theorem dX11_tape_35 : decode cX11_tape 35 = .ok (.iload 4, 2) := by decide +kernel
theorem dX11_tape_37 : decode cX11_tape 37 = .ok (.bipush 60, 2) := by decide +kernel
theorem dX11_tape_39 : decode cX11_tape 39 = .ok (.if_icmp .le 6, 3) := by decide +kernel
theorem dX11_tape_42 : decode cX11_tape 42 = .ok (.bipush (-2), 2) := by decide +kernel
theorem dX11_tape_44 : decode cX11_tape 44 = .ok (.ireturn, 1) := by decide +kernel
theorem dX11_tape_45 : decode cX11_tape 45 = .ok (.iload 4, 2) := by decide +kernel
theorem dX11_tape_47 : decode cX11_tape 47 = .ok (.ifCond .ge 6, 3) := by decide +kernel
theorem dX11_tape_50 : decode cX11_tape 50 = .ok (.bipush (-14), 2) := by decide +kernel
theorem dX11_tape_52 : decode cX11_tape 52 = .ok (.ireturn, 1) := by decide +kernel
theorem dX11_tape_53 : decode cX11_tape 53 = .ok (.aload_n 0, 1) := by decide +kernel
theorem dX11_tape_54 : decode cX11_tape 54 = .ok (.getfield 58, 3) := by decide +kernel
theorem dX11_tape_57 : decode cX11_tape 57 = .ok (.iload_n 1, 1) := by decide +kernel
theorem dX11_tape_58 : decode cX11_tape 58 = .ok (.iload_n 2, 1) := by decide +kernel
theorem dX11_tape_59 : decode cX11_tape 59 = .ok (.iastore, 1) := by decide +kernel
theorem dX11_tape_60 : decode cX11_tape 60 = .ok (.aload_n 0, 1) := by decide +kernel
theorem dX11_tape_61 : decode cX11_tape 61 = .ok (.getfield 61, 3) := by decide +kernel
theorem dX11_tape_64 : decode cX11_tape 64 = .ok (.iload_n 1, 1) := by decide +kernel
theorem dX11_tape_65 : decode cX11_tape 65 = .ok (.iload 4, 2) := by decide +kernel
theorem dX11_tape_67 : decode cX11_tape 67 = .ok (.iastore, 1) := by decide +kernel
theorem dX11_tape_68 : decode cX11_tape 68 = .ok (.iconst 0, 1) := by decide +kernel
theorem dX11_tape_69 : decode cX11_tape 69 = .ok (.istore 5, 2) := by decide +kernel
theorem dX11_tape_71 : decode cX11_tape 71 = .ok (.iload 5, 2) := by decide +kernel
theorem dX11_tape_73 : decode cX11_tape 73 = .ok (.iload 4, 2) := by decide +kernel
theorem dX11_tape_75 : decode cX11_tape 75 = .ok (.if_icmp .ge 19, 3) := by decide +kernel
theorem dX11_tape_78 : decode cX11_tape 78 = .ok (.aload_n 0, 1) := by decide +kernel
theorem dX11_tape_79 : decode cX11_tape 79 = .ok (.getfield 66, 3) := by decide +kernel
theorem dX11_tape_82 : decode cX11_tape 82 = .ok (.iload_n 1, 1) := by decide +kernel
theorem dX11_tape_83 : decode cX11_tape 83 = .ok (.aaload, 1) := by decide +kernel
theorem dX11_tape_84 : decode cX11_tape 84 = .ok (.iload 5, 2) := by decide +kernel
theorem dX11_tape_86 : decode cX11_tape 86 = .ok (.lconst 0, 1) := by decide +kernel
theorem dX11_tape_87 : decode cX11_tape 87 = .ok (.lastore, 1) := by decide +kernel
theorem dX11_tape_88 : decode cX11_tape 88 = .ok (.iinc 5 1, 3) := by decide +kernel
theorem dX11_tape_91 : decode cX11_tape 91 = .ok (.goto (-20), 3) := by decide +kernel
theorem dX11_tape_94 : decode cX11_tape 94 = .ok (.iconst 1, 1) := by decide +kernel
theorem dX11_tape_95 : decode cX11_tape 95 = .ok (.ireturn, 1) := by decide +kernel
theorem dX11_item_0 : decode cX11_item 0 = .ok (.iload_n 1, 1) := by decide +kernel
theorem dX11_item_1 : decode cX11_item 1 = .ok (.bipush 6, 2) := by decide +kernel
theorem dX11_item_3 : decode cX11_item 3 = .ok (.invokestatic 69, 3) := by decide +kernel
theorem dX11_item_6 : decode cX11_item 6 = .ok (.ifCond .ne 5, 3) := by decide +kernel
theorem dX11_item_9 : decode cX11_item 9 = .ok (.iconst (-1), 1) := by decide +kernel
theorem dX11_item_10 : decode cX11_item 10 = .ok (.ireturn, 1) := by decide +kernel
theorem dX11_item_11 : decode cX11_item 11 = .ok (.aload_n 0, 1) := by decide +kernel
theorem dX11_item_12 : decode cX11_item 12 = .ok (.getfield 58, 3) := by decide +kernel
theorem dX11_item_15 : decode cX11_item 15 = .ok (.iload_n 1, 1) := by decide +kernel
theorem dX11_item_16 : decode cX11_item 16 = .ok (.iaload, 1) := by decide +kernel
theorem dX11_item_17 : decode cX11_item 17 = .ok (.ifCond .ge 6, 3) := by decide +kernel
theorem dX11_item_20 : decode cX11_item 20 = .ok (.bipush (-11), 2) := by decide +kernel
theorem dX11_item_22 : decode cX11_item 22 = .ok (.ireturn, 1) := by decide +kernel
theorem dX11_item_23 : decode cX11_item 23 = .ok (.iload_n 2, 1) := by decide +kernel
theorem dX11_item_24 : decode cX11_item 24 = .ok (.aload_n 0, 1) := by decide +kernel
theorem dX11_item_25 : decode cX11_item 25 = .ok (.getfield 61, 3) := by decide +kernel
theorem dX11_item_28 : decode cX11_item 28 = .ok (.iload_n 1, 1) := by decide +kernel
theorem dX11_item_29 : decode cX11_item 29 = .ok (.iaload, 1) := by decide +kernel
theorem dX11_item_30 : decode cX11_item 30 = .ok (.invokestatic 69, 3) := by decide +kernel
theorem dX11_item_33 : decode cX11_item 33 = .ok (.ifCond .ne 6, 3) := by decide +kernel
theorem dX11_item_36 : decode cX11_item 36 = .ok (.bipush (-13), 2) := by decide +kernel
theorem dX11_item_38 : decode cX11_item 38 = .ok (.ireturn, 1) := by decide +kernel
theorem dX11_item_39 : decode cX11_item 39 = .ok (.aload_n 0, 1) := by decide +kernel
theorem dX11_item_40 : decode cX11_item 40 = .ok (.getfield 66, 3) := by decide +kernel
theorem dX11_item_43 : decode cX11_item 43 = .ok (.iload_n 1, 1) := by decide +kernel
theorem dX11_item_44 : decode cX11_item 44 = .ok (.aaload, 1) := by decide +kernel
theorem dX11_item_45 : decode cX11_item 45 = .ok (.iload_n 2, 1) := by decide +kernel
theorem dX11_item_46 : decode cX11_item 46 = .ok (.aload_n 0, 1) := by decide +kernel
theorem dX11_item_47 : decode cX11_item 47 = .ok (.getfield 58, 3) := by decide +kernel
theorem dX11_item_50 : decode cX11_item 50 = .ok (.iload_n 1, 1) := by decide +kernel
theorem dX11_item_51 : decode cX11_item 51 = .ok (.iaload, 1) := by decide +kernel
theorem dX11_item_52 : decode cX11_item 52 = .ok (.lload_n 3, 1) := by decide +kernel
theorem dX11_item_53 : decode cX11_item 53 = .ok (.invokestatic 270, 3) := by decide +kernel
theorem dX11_item_56 : decode cX11_item 56 = .ok (.lastore, 1) := by decide +kernel
theorem dX11_item_57 : decode cX11_item 57 = .ok (.iconst 1, 1) := by decide +kernel
theorem dX11_item_58 : decode cX11_item 58 = .ok (.ireturn, 1) := by decide +kernel
theorem dX11_read_0 : decode cX11_read 0 = .ok (.iload_n 1, 1) := by decide +kernel
theorem dX11_read_1 : decode cX11_read 1 = .ok (.bipush 6, 2) := by decide +kernel
theorem dX11_read_3 : decode cX11_read 3 = .ok (.invokestatic 69, 3) := by decide +kernel
theorem dX11_read_6 : decode cX11_read 6 = .ok (.ifCond .eq 16, 3) := by decide +kernel
theorem dX11_read_9 : decode cX11_read 9 = .ok (.iload_n 2, 1) := by decide +kernel
theorem dX11_read_10 : decode cX11_read 10 = .ok (.aload_n 0, 1) := by decide +kernel
theorem dX11_read_11 : decode cX11_read 11 = .ok (.getfield 61, 3) := by decide +kernel
theorem dX11_read_14 : decode cX11_read 14 = .ok (.iload_n 1, 1) := by decide +kernel
theorem dX11_read_15 : decode cX11_read 15 = .ok (.iaload, 1) := by decide +kernel
theorem dX11_read_16 : decode cX11_read 16 = .ok (.invokestatic 69, 3) := by decide +kernel
theorem dX11_read_19 : decode cX11_read 19 = .ok (.ifCond .ne 7, 3) := by decide +kernel
theorem dX11_read_22 : decode cX11_read 22 = .ok (.ldc2_w 141, 3) := by decide +kernel
theorem dX11_read_25 : decode cX11_read 25 = .ok (.lreturn, 1) := by decide +kernel
theorem dX11_read_26 : decode cX11_read 26 = .ok (.aload_n 0, 1) := by decide +kernel
theorem dX11_read_27 : decode cX11_read 27 = .ok (.getfield 66, 3) := by decide +kernel
theorem dX11_read_30 : decode cX11_read 30 = .ok (.iload_n 1, 1) := by decide +kernel
theorem dX11_read_31 : decode cX11_read 31 = .ok (.aaload, 1) := by decide +kernel
theorem dX11_read_32 : decode cX11_read 32 = .ok (.iload_n 2, 1) := by decide +kernel
theorem dX11_read_33 : decode cX11_read 33 = .ok (.laload, 1) := by decide +kernel
theorem dX11_read_34 : decode cX11_read 34 = .ok (.lreturn, 1) := by decide +kernel
theorem dX11_shift_0 : decode cX11_shift 0 = .ok (.iload_n 1, 1) := by decide +kernel
theorem dX11_shift_1 : decode cX11_shift 1 = .ok (.bipush 6, 2) := by decide +kernel
theorem dX11_shift_3 : decode cX11_shift 3 = .ok (.invokestatic 69, 3) := by decide +kernel
theorem dX11_shift_6 : decode cX11_shift 6 = .ok (.ifCond .eq 12, 3) := by decide +kernel
theorem dX11_shift_9 : decode cX11_shift 9 = .ok (.iload_n 3, 1) := by decide +kernel
theorem dX11_shift_10 : decode cX11_shift 10 = .ok (.bipush 6, 2) := by decide +kernel
theorem dX11_shift_12 : decode cX11_shift 12 = .ok (.invokestatic 69, 3) := by decide +kernel
theorem dX11_shift_15 : decode cX11_shift 15 = .ok (.ifCond .ne 5, 3) := by decide +kernel
theorem dX11_shift_18 : decode cX11_shift 18 = .ok (.iconst (-1), 1) := by decide +kernel
theorem dX11_shift_19 : decode cX11_shift 19 = .ok (.ireturn, 1) := by decide +kernel
theorem dX11_shift_20 : decode cX11_shift 20 = .ok (.aload_n 0, 1) := by decide +kernel
theorem dX11_shift_21 : decode cX11_shift 21 = .ok (.getfield 58, 3) := by decide +kernel
theorem dX11_shift_24 : decode cX11_shift 24 = .ok (.iload_n 1, 1) := by decide +kernel
theorem dX11_shift_25 : decode cX11_shift 25 = .ok (.iaload, 1) := by decide +kernel
theorem dX11_shift_26 : decode cX11_shift 26 = .ok (.ifCond .lt 12, 3) := by decide +kernel
theorem dX11_shift_29 : decode cX11_shift 29 = .ok (.aload_n 0, 1) := by decide +kernel
theorem dX11_shift_30 : decode cX11_shift 30 = .ok (.getfield 58, 3) := by decide +kernel
theorem dX11_shift_33 : decode cX11_shift 33 = .ok (.iload_n 3, 1) := by decide +kernel
theorem dX11_shift_34 : decode cX11_shift 34 = .ok (.iaload, 1) := by decide +kernel
theorem dX11_shift_35 : decode cX11_shift 35 = .ok (.ifCond .ge 6, 3) := by decide +kernel
theorem dX11_shift_38 : decode cX11_shift 38 = .ok (.bipush (-11), 2) := by decide +kernel
theorem dX11_shift_40 : decode cX11_shift 40 = .ok (.ireturn, 1) := by decide +kernel
theorem dX11_shift_41 : decode cX11_shift 41 = .ok (.aload_n 0, 1) := by decide +kernel
theorem dX11_shift_42 : decode cX11_shift 42 = .ok (.getfield 58, 3) := by decide +kernel
theorem dX11_shift_45 : decode cX11_shift 45 = .ok (.iload_n 1, 1) := by decide +kernel
theorem dX11_shift_46 : decode cX11_shift 46 = .ok (.iaload, 1) := by decide +kernel
theorem dX11_shift_47 : decode cX11_shift 47 = .ok (.aload_n 0, 1) := by decide +kernel
theorem dX11_shift_48 : decode cX11_shift 48 = .ok (.getfield 58, 3) := by decide +kernel
theorem dX11_shift_51 : decode cX11_shift 51 = .ok (.iload_n 3, 1) := by decide +kernel
theorem dX11_shift_52 : decode cX11_shift 52 = .ok (.iaload, 1) := by decide +kernel
theorem dX11_shift_53 : decode cX11_shift 53 = .ok (.if_icmp .eq 6, 3) := by decide +kernel
theorem dX11_shift_56 : decode cX11_shift 56 = .ok (.bipush (-12), 2) := by decide +kernel
theorem dX11_shift_58 : decode cX11_shift 58 = .ok (.ireturn, 1) := by decide +kernel
theorem dX11_shift_59 : decode cX11_shift 59 = .ok (.iload_n 2, 1) := by decide +kernel
theorem dX11_shift_60 : decode cX11_shift 60 = .ok (.iload 5, 2) := by decide +kernel
theorem dX11_shift_62 : decode cX11_shift 62 = .ok (.aload_n 0, 1) := by decide +kernel
theorem dX11_shift_63 : decode cX11_shift 63 = .ok (.getfield 61, 3) := by decide +kernel
theorem dX11_shift_66 : decode cX11_shift 66 = .ok (.iload_n 1, 1) := by decide +kernel
theorem dX11_shift_67 : decode cX11_shift 67 = .ok (.iaload, 1) := by decide +kernel
theorem dX11_shift_68 : decode cX11_shift 68 = .ok (.invokestatic 274, 3) := by decide +kernel
theorem dX11_shift_71 : decode cX11_shift 71 = .ok (.ifCond .eq 19, 3) := by decide +kernel
theorem dX11_shift_74 : decode cX11_shift 74 = .ok (.iload 4, 2) := by decide +kernel
theorem dX11_shift_76 : decode cX11_shift 76 = .ok (.iload 5, 2) := by decide +kernel
theorem dX11_shift_78 : decode cX11_shift 78 = .ok (.aload_n 0, 1) := by decide +kernel
theorem dX11_shift_79 : decode cX11_shift 79 = .ok (.getfield 61, 3) := by decide +kernel
theorem dX11_shift_82 : decode cX11_shift 82 = .ok (.iload_n 3, 1) := by decide +kernel
theorem dX11_shift_83 : decode cX11_shift 83 = .ok (.iaload, 1) := by decide +kernel
theorem dX11_shift_84 : decode cX11_shift 84 = .ok (.invokestatic 274, 3) := by decide +kernel
theorem dX11_shift_87 : decode cX11_shift 87 = .ok (.ifCond .ne 6, 3) := by decide +kernel
theorem dX11_shift_90 : decode cX11_shift 90 = .ok (.bipush (-13), 2) := by decide +kernel
theorem dX11_shift_92 : decode cX11_shift 92 = .ok (.ireturn, 1) := by decide +kernel
theorem dX11_shift_93 : decode cX11_shift 93 = .ok (.aload_n 0, 1) := by decide +kernel
theorem dX11_shift_94 : decode cX11_shift 94 = .ok (.getfield 66, 3) := by decide +kernel
theorem dX11_shift_97 : decode cX11_shift 97 = .ok (.iload_n 1, 1) := by decide +kernel
theorem dX11_shift_98 : decode cX11_shift 98 = .ok (.aaload, 1) := by decide +kernel
theorem dX11_shift_99 : decode cX11_shift 99 = .ok (.iload_n 2, 1) := by decide +kernel
theorem dX11_shift_100 : decode cX11_shift 100 = .ok (.aload_n 0, 1) := by decide +kernel
theorem dX11_shift_101 : decode cX11_shift 101 = .ok (.getfield 66, 3) := by decide +kernel
theorem dX11_shift_104 : decode cX11_shift 104 = .ok (.iload_n 3, 1) := by decide +kernel
theorem dX11_shift_105 : decode cX11_shift 105 = .ok (.aaload, 1) := by decide +kernel
theorem dX11_shift_106 : decode cX11_shift 106 = .ok (.iload 4, 2) := by decide +kernel
theorem dX11_shift_108 : decode cX11_shift 108 = .ok (.iload 5, 2) := by decide +kernel
theorem dX11_shift_110 : decode cX11_shift 110 = .ok (.invokestatic 278, 3) := by decide +kernel
theorem dX11_shift_113 : decode cX11_shift 113 = .ok (.iload 5, 2) := by decide +kernel
theorem dX11_shift_115 : decode cX11_shift 115 = .ok (.ireturn, 1) := by decide +kernel
theorem dX11_within_0 : decode cX11_within 0 = .ok (.iload_n 0, 1) := by decide +kernel
theorem dX11_within_1 : decode cX11_within 1 = .ok (.ifCond .lt 12, 3) := by decide +kernel
theorem dX11_within_4 : decode cX11_within 4 = .ok (.iload_n 0, 1) := by decide +kernel
theorem dX11_within_5 : decode cX11_within 5 = .ok (.iload_n 1, 1) := by decide +kernel
theorem dX11_within_6 : decode cX11_within 6 = .ok (.if_icmp .ge 7, 3) := by decide +kernel
theorem dX11_within_9 : decode cX11_within 9 = .ok (.iconst 1, 1) := by decide +kernel
theorem dX11_within_10 : decode cX11_within 10 = .ok (.goto 4, 3) := by decide +kernel
theorem dX11_within_13 : decode cX11_within 13 = .ok (.iconst 0, 1) := by decide +kernel
theorem dX11_within_14 : decode cX11_within 14 = .ok (.ireturn, 1) := by decide +kernel
theorem dX11_isIn_0 : decode cX11_isIn 0 = .ok (.iload_n 1, 1) := by decide +kernel
theorem dX11_isIn_1 : decode cX11_isIn 1 = .ok (.iload_n 0, 1) := by decide +kernel
theorem dX11_isIn_2 : decode cX11_isIn 2 = .ok (.ishr, 1) := by decide +kernel
theorem dX11_isIn_3 : decode cX11_isIn 3 = .ok (.iconst 1, 1) := by decide +kernel
theorem dX11_isIn_4 : decode cX11_isIn 4 = .ok (.iand, 1) := by decide +kernel
theorem dX11_isIn_5 : decode cX11_isIn 5 = .ok (.ifCond .eq 7, 3) := by decide +kernel
theorem dX11_isIn_8 : decode cX11_isIn 8 = .ok (.iconst 1, 1) := by decide +kernel
theorem dX11_isIn_9 : decode cX11_isIn 9 = .ok (.goto 4, 3) := by decide +kernel
theorem dX11_isIn_12 : decode cX11_isIn 12 = .ok (.iconst 0, 1) := by decide +kernel
theorem dX11_isIn_13 : decode cX11_isIn 13 = .ok (.ireturn, 1) := by decide +kernel
theorem dX11_isScored_0 : decode cX11_isScored 0 = .ok (.iload_n 0, 1) := by decide +kernel
theorem dX11_isScored_1 : decode cX11_isScored 1 = .ok (.ifCond .eq 8, 3) := by decide +kernel
theorem dX11_isScored_4 : decode cX11_isScored 4 = .ok (.iload_n 0, 1) := by decide +kernel
theorem dX11_isScored_5 : decode cX11_isScored 5 = .ok (.iconst 1, 1) := by decide +kernel
theorem dX11_isScored_6 : decode cX11_isScored 6 = .ok (.if_icmp .ne 7, 3) := by decide +kernel
theorem dX11_isScored_9 : decode cX11_isScored 9 = .ok (.iconst 1, 1) := by decide +kernel
theorem dX11_isScored_10 : decode cX11_isScored 10 = .ok (.goto 4, 3) := by decide +kernel
theorem dX11_isScored_13 : decode cX11_isScored 13 = .ok (.iconst 0, 1) := by decide +kernel
theorem dX11_isScored_14 : decode cX11_isScored 14 = .ok (.ireturn, 1) := by decide +kernel
theorem dX11_fits_0 : decode cX11_fits 0 = .ok (.iload_n 1, 1) := by decide +kernel
theorem dX11_fits_1 : decode cX11_fits 1 = .ok (.ifCond .lt 23, 3) := by decide +kernel
theorem dX11_fits_4 : decode cX11_fits 4 = .ok (.iload_n 0, 1) := by decide +kernel
theorem dX11_fits_5 : decode cX11_fits 5 = .ok (.ifCond .lt 19, 3) := by decide +kernel
theorem dX11_fits_8 : decode cX11_fits 8 = .ok (.iload_n 1, 1) := by decide +kernel
theorem dX11_fits_9 : decode cX11_fits 9 = .ok (.iload_n 2, 1) := by decide +kernel
theorem dX11_fits_10 : decode cX11_fits 10 = .ok (.if_icmp .gt 14, 3) := by decide +kernel
theorem dX11_fits_13 : decode cX11_fits 13 = .ok (.iload_n 0, 1) := by decide +kernel
theorem dX11_fits_14 : decode cX11_fits 14 = .ok (.iload_n 2, 1) := by decide +kernel
theorem dX11_fits_15 : decode cX11_fits 15 = .ok (.iload_n 1, 1) := by decide +kernel
theorem dX11_fits_16 : decode cX11_fits 16 = .ok (.isub, 1) := by decide +kernel
theorem dX11_fits_17 : decode cX11_fits 17 = .ok (.if_icmp .gt 7, 3) := by decide +kernel
theorem dX11_fits_20 : decode cX11_fits 20 = .ok (.iconst 1, 1) := by decide +kernel
theorem dX11_fits_21 : decode cX11_fits 21 = .ok (.goto 4, 3) := by decide +kernel
theorem dX11_fits_24 : decode cX11_fits 24 = .ok (.iconst 0, 1) := by decide +kernel
theorem dX11_fits_25 : decode cX11_fits 25 = .ok (.ireturn, 1) := by decide +kernel
theorem dX11_greatestCommon_0 : decode cX11_greatestCommon 0 = .ok (.iconst 0, 1) := by decide +kernel
theorem dX11_greatestCommon_1 : decode cX11_greatestCommon 1 = .ok (.istore 4, 2) := by decide +kernel
theorem dX11_greatestCommon_3 : decode cX11_greatestCommon 3 = .ok (.iload 4, 2) := by decide +kernel
theorem dX11_greatestCommon_5 : decode cX11_greatestCommon 5 = .ok (.bipush 100, 2) := by decide +kernel
theorem dX11_greatestCommon_7 : decode cX11_greatestCommon 7 = .ok (.if_icmp .ge 25, 3) := by decide +kernel
theorem dX11_greatestCommon_10 : decode cX11_greatestCommon 10 = .ok (.lload_n 2, 1) := by decide +kernel
theorem dX11_greatestCommon_11 : decode cX11_greatestCommon 11 = .ok (.lconst 0, 1) := by decide +kernel
theorem dX11_greatestCommon_12 : decode cX11_greatestCommon 12 = .ok (.lcmp, 1) := by decide +kernel
theorem dX11_greatestCommon_13 : decode cX11_greatestCommon 13 = .ok (.ifCond .eq 19, 3) := by decide +kernel
theorem dX11_greatestCommon_16 : decode cX11_greatestCommon 16 = .ok (.lload_n 0, 1) := by decide +kernel
theorem dX11_greatestCommon_17 : decode cX11_greatestCommon 17 = .ok (.lload_n 2, 1) := by decide +kernel
theorem dX11_greatestCommon_18 : decode cX11_greatestCommon 18 = .ok (.lrem, 1) := by decide +kernel
theorem dX11_greatestCommon_19 : decode cX11_greatestCommon 19 = .ok (.lstore 5, 2) := by decide +kernel
theorem dX11_greatestCommon_21 : decode cX11_greatestCommon 21 = .ok (.lload_n 2, 1) := by decide +kernel
theorem dX11_greatestCommon_22 : decode cX11_greatestCommon 22 = .ok (.lstore_n 0, 1) := by decide +kernel
theorem dX11_greatestCommon_23 : decode cX11_greatestCommon 23 = .ok (.lload 5, 2) := by decide +kernel
theorem dX11_greatestCommon_25 : decode cX11_greatestCommon 25 = .ok (.lstore_n 2, 1) := by decide +kernel
theorem dX11_greatestCommon_26 : decode cX11_greatestCommon 26 = .ok (.iinc 4 1, 3) := by decide +kernel
theorem dX11_greatestCommon_29 : decode cX11_greatestCommon 29 = .ok (.goto (-26), 3) := by decide +kernel
theorem dX11_greatestCommon_32 : decode cX11_greatestCommon 32 = .ok (.lload_n 0, 1) := by decide +kernel
theorem dX11_greatestCommon_33 : decode cX11_greatestCommon 33 = .ok (.lconst 0, 1) := by decide +kernel
theorem dX11_greatestCommon_34 : decode cX11_greatestCommon 34 = .ok (.lcmp, 1) := by decide +kernel
theorem dX11_greatestCommon_35 : decode cX11_greatestCommon 35 = .ok (.ifCond .ne 7, 3) := by decide +kernel
theorem dX11_greatestCommon_38 : decode cX11_greatestCommon 38 = .ok (.lconst 1, 1) := by decide +kernel
theorem dX11_greatestCommon_39 : decode cX11_greatestCommon 39 = .ok (.goto 4, 3) := by decide +kernel
theorem dX11_greatestCommon_42 : decode cX11_greatestCommon 42 = .ok (.lload_n 0, 1) := by decide +kernel
theorem dX11_greatestCommon_43 : decode cX11_greatestCommon 43 = .ok (.lreturn, 1) := by decide +kernel
theorem dX11_asItem_0 : decode cX11_asItem 0 = .ok (.iload_n 0, 1) := by decide +kernel
theorem dX11_asItem_1 : decode cX11_asItem 1 = .ok (.tableswitch 47 0 3 #[31, 36, 41, 45], 31) := by decide +kernel
theorem dX11_asItem_32 : decode cX11_asItem 32 = .ok (.lload_n 1, 1) := by decide +kernel
theorem dX11_asItem_33 : decode cX11_asItem 33 = .ok (.l2i, 1) := by decide +kernel
theorem dX11_asItem_34 : decode cX11_asItem 34 = .ok (.i2b, 1) := by decide +kernel
theorem dX11_asItem_35 : decode cX11_asItem 35 = .ok (.i2l, 1) := by decide +kernel
theorem dX11_asItem_36 : decode cX11_asItem 36 = .ok (.lreturn, 1) := by decide +kernel
theorem dX11_asItem_37 : decode cX11_asItem 37 = .ok (.lload_n 1, 1) := by decide +kernel
theorem dX11_asItem_38 : decode cX11_asItem 38 = .ok (.l2i, 1) := by decide +kernel
theorem dX11_asItem_39 : decode cX11_asItem 39 = .ok (.i2s, 1) := by decide +kernel
theorem dX11_asItem_40 : decode cX11_asItem 40 = .ok (.i2l, 1) := by decide +kernel
theorem dX11_asItem_41 : decode cX11_asItem 41 = .ok (.lreturn, 1) := by decide +kernel
theorem dX11_asItem_42 : decode cX11_asItem 42 = .ok (.lload_n 1, 1) := by decide +kernel
theorem dX11_asItem_43 : decode cX11_asItem 43 = .ok (.l2i, 1) := by decide +kernel
theorem dX11_asItem_44 : decode cX11_asItem 44 = .ok (.i2l, 1) := by decide +kernel
theorem dX11_asItem_45 : decode cX11_asItem 45 = .ok (.lreturn, 1) := by decide +kernel
theorem dX11_asItem_46 : decode cX11_asItem 46 = .ok (.lload_n 1, 1) := by decide +kernel
theorem dX11_asItem_47 : decode cX11_asItem 47 = .ok (.lreturn, 1) := by decide +kernel
theorem dX11_asItem_48 : decode cX11_asItem 48 = .ok (.lload_n 1, 1) := by decide +kernel
theorem dX11_asItem_49 : decode cX11_asItem 49 = .ok (.lconst 0, 1) := by decide +kernel
theorem dX11_asItem_50 : decode cX11_asItem 50 = .ok (.lcmp, 1) := by decide +kernel
theorem dX11_asItem_51 : decode cX11_asItem 51 = .ok (.ifCond .eq 7, 3) := by decide +kernel
theorem dX11_asItem_54 : decode cX11_asItem 54 = .ok (.lconst 1, 1) := by decide +kernel
theorem dX11_asItem_55 : decode cX11_asItem 55 = .ok (.goto 4, 3) := by decide +kernel
theorem dX11_asItem_58 : decode cX11_asItem 58 = .ok (.lconst 0, 1) := by decide +kernel
theorem dX11_asItem_59 : decode cX11_asItem 59 = .ok (.lreturn, 1) := by decide +kernel
theorem dX11_newModel_0 : decode cX11_newModel 0 = .ok (.iload_n 0, 1) := by decide +kernel
theorem dX11_newModel_1 : decode cX11_newModel 1 = .ok (.tableswitch 90 1 5 #[35, 46, 57, 68, 79], 35) := by decide +kernel
theorem dX11_newModel_36 : decode cX11_newModel 36 = .ok (.new 284, 3) := by decide +kernel
theorem dX11_newModel_39 : decode cX11_newModel 39 = .ok (.dup, 1) := by decide +kernel
theorem dX11_newModel_40 : decode cX11_newModel 40 = .ok (.iload_n 0, 1) := by decide +kernel
theorem dX11_newModel_41 : decode cX11_newModel 41 = .ok (.iload_n 1, 1) := by decide +kernel
theorem dX11_newModel_42 : decode cX11_newModel 42 = .ok (.aload_n 2, 1) := by decide +kernel
theorem dX11_newModel_43 : decode cX11_newModel 43 = .ok (.invokespecial 286, 3) := by decide +kernel
theorem dX11_newModel_46 : decode cX11_newModel 46 = .ok (.areturn, 1) := by decide +kernel
theorem dX11_newModel_47 : decode cX11_newModel 47 = .ok (.new 289, 3) := by decide +kernel
theorem dX11_newModel_50 : decode cX11_newModel 50 = .ok (.dup, 1) := by decide +kernel
theorem dX11_newModel_51 : decode cX11_newModel 51 = .ok (.iload_n 0, 1) := by decide +kernel
theorem dX11_newModel_52 : decode cX11_newModel 52 = .ok (.iload_n 1, 1) := by decide +kernel
theorem dX11_newModel_53 : decode cX11_newModel 53 = .ok (.aload_n 2, 1) := by decide +kernel
theorem dX11_newModel_54 : decode cX11_newModel 54 = .ok (.invokespecial 291, 3) := by decide +kernel
theorem dX11_newModel_57 : decode cX11_newModel 57 = .ok (.areturn, 1) := by decide +kernel
theorem dX11_newModel_58 : decode cX11_newModel 58 = .ok (.new 292, 3) := by decide +kernel
theorem dX11_newModel_61 : decode cX11_newModel 61 = .ok (.dup, 1) := by decide +kernel
theorem dX11_newModel_62 : decode cX11_newModel 62 = .ok (.iload_n 0, 1) := by decide +kernel
theorem dX11_newModel_63 : decode cX11_newModel 63 = .ok (.iload_n 1, 1) := by decide +kernel
theorem dX11_newModel_64 : decode cX11_newModel 64 = .ok (.aload_n 2, 1) := by decide +kernel
theorem dX11_newModel_65 : decode cX11_newModel 65 = .ok (.invokespecial 294, 3) := by decide +kernel
theorem dX11_newModel_68 : decode cX11_newModel 68 = .ok (.areturn, 1) := by decide +kernel
theorem dX11_newModel_69 : decode cX11_newModel 69 = .ok (.new 295, 3) := by decide +kernel
theorem dX11_newModel_72 : decode cX11_newModel 72 = .ok (.dup, 1) := by decide +kernel
theorem dX11_newModel_73 : decode cX11_newModel 73 = .ok (.iload_n 0, 1) := by decide +kernel
theorem dX11_newModel_74 : decode cX11_newModel 74 = .ok (.iload_n 1, 1) := by decide +kernel
theorem dX11_newModel_75 : decode cX11_newModel 75 = .ok (.aload_n 2, 1) := by decide +kernel
theorem dX11_newModel_76 : decode cX11_newModel 76 = .ok (.invokespecial 297, 3) := by decide +kernel
theorem dX11_newModel_79 : decode cX11_newModel 79 = .ok (.areturn, 1) := by decide +kernel
theorem dX11_newModel_80 : decode cX11_newModel 80 = .ok (.new 298, 3) := by decide +kernel
theorem dX11_newModel_83 : decode cX11_newModel 83 = .ok (.dup, 1) := by decide +kernel
theorem dX11_newModel_84 : decode cX11_newModel 84 = .ok (.iload_n 0, 1) := by decide +kernel
theorem dX11_newModel_85 : decode cX11_newModel 85 = .ok (.iload_n 1, 1) := by decide +kernel
theorem dX11_newModel_86 : decode cX11_newModel 86 = .ok (.aload_n 2, 1) := by decide +kernel
theorem dX11_newModel_87 : decode cX11_newModel 87 = .ok (.invokespecial 300, 3) := by decide +kernel
theorem dX11_newModel_90 : decode cX11_newModel 90 = .ok (.areturn, 1) := by decide +kernel
theorem dX11_newModel_91 : decode cX11_newModel 91 = .ok (.new 35, 3) := by decide +kernel
theorem dX11_newModel_94 : decode cX11_newModel 94 = .ok (.dup, 1) := by decide +kernel
theorem dX11_newModel_95 : decode cX11_newModel 95 = .ok (.iload_n 0, 1) := by decide +kernel
theorem dX11_newModel_96 : decode cX11_newModel 96 = .ok (.iload_n 1, 1) := by decide +kernel
theorem dX11_newModel_97 : decode cX11_newModel 97 = .ok (.aload_n 2, 1) := by decide +kernel
theorem dX11_newModel_98 : decode cX11_newModel 98 = .ok (.invokespecial 301, 3) := by decide +kernel
theorem dX11_newModel_101 : decode cX11_newModel 101 = .ok (.areturn, 1) := by decide +kernel
theorem dX11_isOfKind_0 : decode cX11_isOfKind 0 = .ok (.iload_n 1, 1) := by decide +kernel
theorem dX11_isOfKind_1 : decode cX11_isOfKind 1 = .ok (.tableswitch 60 1 5 #[35, 40, 45, 50, 55], 35) := by decide +kernel
theorem dX11_isOfKind_36 : decode cX11_isOfKind 36 = .ok (.aload_n 0, 1) := by decide +kernel
theorem dX11_isOfKind_37 : decode cX11_isOfKind 37 = .ok (.instanceof 284, 3) := by decide +kernel
theorem dX11_isOfKind_40 : decode cX11_isOfKind 40 = .ok (.ireturn, 1) := by decide +kernel
theorem dX11_isOfKind_41 : decode cX11_isOfKind 41 = .ok (.aload_n 0, 1) := by decide +kernel
theorem dX11_isOfKind_42 : decode cX11_isOfKind 42 = .ok (.instanceof 289, 3) := by decide +kernel
theorem dX11_isOfKind_45 : decode cX11_isOfKind 45 = .ok (.ireturn, 1) := by decide +kernel
theorem dX11_isOfKind_46 : decode cX11_isOfKind 46 = .ok (.aload_n 0, 1) := by decide +kernel
theorem dX11_isOfKind_47 : decode cX11_isOfKind 47 = .ok (.instanceof 292, 3) := by decide +kernel
theorem dX11_isOfKind_50 : decode cX11_isOfKind 50 = .ok (.ireturn, 1) := by decide +kernel
theorem dX11_isOfKind_51 : decode cX11_isOfKind 51 = .ok (.aload_n 0, 1) := by decide +kernel
theorem dX11_isOfKind_52 : decode cX11_isOfKind 52 = .ok (.instanceof 295, 3) := by decide +kernel
theorem dX11_isOfKind_55 : decode cX11_isOfKind 55 = .ok (.ireturn, 1) := by decide +kernel
theorem dX11_isOfKind_56 : decode cX11_isOfKind 56 = .ok (.aload_n 0, 1) := by decide +kernel
theorem dX11_isOfKind_57 : decode cX11_isOfKind 57 = .ok (.instanceof 298, 3) := by decide +kernel
theorem dX11_isOfKind_60 : decode cX11_isOfKind 60 = .ok (.ireturn, 1) := by decide +kernel
theorem dX11_isOfKind_61 : decode cX11_isOfKind 61 = .ok (.iconst 1, 1) := by decide +kernel
theorem dX11_isOfKind_62 : decode cX11_isOfKind 62 = .ok (.ireturn, 1) := by decide +kernel
theorem dX11_isOption_0 : decode cX11_isOption 0 = .ok (.iload_n 1, 1) := by decide +kernel
theorem dX11_isOption_1 : decode cX11_isOption 1 = .ok (.bipush 7, 2) := by decide +kernel
theorem dX11_isOption_3 : decode cX11_isOption 3 = .ok (.if_icmp .eq 14, 3) := by decide +kernel
theorem dX11_isOption_6 : decode cX11_isOption 6 = .ok (.aload_n 0, 1) := by decide +kernel
theorem dX11_isOption_7 : decode cX11_isOption 7 = .ok (.getfield 12, 3) := by decide +kernel
theorem dX11_isOption_10 : decode cX11_isOption 10 = .ok (.iload_n 1, 1) := by decide +kernel
theorem dX11_isOption_11 : decode cX11_isOption 11 = .ok (.invokevirtual 84, 3) := by decide +kernel
theorem dX11_isOption_14 : decode cX11_isOption 14 = .ok (.ifCond .eq 7, 3) := by decide +kernel
theorem dX11_isOption_17 : decode cX11_isOption 17 = .ok (.iconst 1, 1) := by decide +kernel
theorem dX11_isOption_18 : decode cX11_isOption 18 = .ok (.goto 4, 3) := by decide +kernel
theorem dX11_isOption_21 : decode cX11_isOption 21 = .ok (.iconst 0, 1) := by decide +kernel
theorem dX11_isOption_22 : decode cX11_isOption 22 = .ok (.ireturn, 1) := by decide +kernel
theorem dX11_modelAt_0 : decode cX11_modelAt 0 = .ok (.iload_n 1, 1) := by decide +kernel
theorem dX11_modelAt_1 : decode cX11_modelAt 1 = .ok (.aload_n 0, 1) := by decide +kernel
theorem dX11_modelAt_2 : decode cX11_modelAt 2 = .ok (.getfield 111, 3) := by decide +kernel
theorem dX11_modelAt_5 : decode cX11_modelAt 5 = .ok (.invokestatic 69, 3) := by decide +kernel
theorem dX11_modelAt_8 : decode cX11_modelAt 8 = .ok (.ifCond .eq 12, 3) := by decide +kernel
theorem dX11_modelAt_11 : decode cX11_modelAt 11 = .ok (.aload_n 0, 1) := by decide +kernel
theorem dX11_modelAt_12 : decode cX11_modelAt 12 = .ok (.getfield 37, 3) := by decide +kernel
theorem dX11_modelAt_15 : decode cX11_modelAt 15 = .ok (.iload_n 1, 1) := by decide +kernel
theorem dX11_modelAt_16 : decode cX11_modelAt 16 = .ok (.aaload, 1) := by decide +kernel
theorem dX11_modelAt_17 : decode cX11_modelAt 17 = .ok (.goto 4, 3) := by decide +kernel
theorem dX11_modelAt_20 : decode cX11_modelAt 20 = .ok (.aconst_null, 1) := by decide +kernel
theorem dX11_modelAt_21 : decode cX11_modelAt 21 = .ok (.areturn, 1) := by decide +kernel
theorem dX11_tellChoice_0 : decode cX11_tellChoice 0 = .ok (.aload_n 0, 1) := by decide +kernel
theorem dX11_tellChoice_1 : decode cX11_tellChoice 1 = .ok (.getfield 12, 3) := by decide +kernel
theorem dX11_tellChoice_4 : decode cX11_tellChoice 4 = .ok (.iload_n 2, 1) := by decide +kernel
theorem dX11_tellChoice_5 : decode cX11_tellChoice 5 = .ok (.invokevirtual 143, 3) := by decide +kernel
theorem dX11_tellChoice_8 : decode cX11_tellChoice 8 = .ok (.ifCond .eq 8, 3) := by decide +kernel
theorem dX11_tellChoice_11 : decode cX11_tellChoice 11 = .ok (.iload_n 3, 1) := by decide +kernel
theorem dX11_tellChoice_12 : decode cX11_tellChoice 12 = .ok (.iconst (-1), 1) := by decide +kernel
theorem dX11_tellChoice_13 : decode cX11_tellChoice 13 = .ok (.if_icmp .ge 6, 3) := by decide +kernel
theorem dX11_tellChoice_16 : decode cX11_tellChoice 16 = .ok (.bipush (-2), 2) := by decide +kernel
theorem dX11_tellChoice_18 : decode cX11_tellChoice 18 = .ok (.ireturn, 1) := by decide +kernel
theorem dX11_tellChoice_19 : decode cX11_tellChoice 19 = .ok (.iload_n 3, 1) := by decide +kernel
theorem dX11_tellChoice_20 : decode cX11_tellChoice 20 = .ok (.ifCond .lt 25, 3) := by decide +kernel
theorem dX11_tellChoice_23 : decode cX11_tellChoice 23 = .ok (.aload_n 0, 1) := by decide +kernel
theorem dX11_tellChoice_24 : decode cX11_tellChoice 24 = .ok (.getfield 12, 3) := by decide +kernel
theorem dX11_tellChoice_27 : decode cX11_tellChoice 27 = .ok (.iload_n 3, 1) := by decide +kernel
theorem dX11_tellChoice_28 : decode cX11_tellChoice 28 = .ok (.invokevirtual 84, 3) := by decide +kernel
theorem dX11_tellChoice_31 : decode cX11_tellChoice 31 = .ok (.ifCond .eq 11, 3) := by decide +kernel
theorem dX11_tellChoice_34 : decode cX11_tellChoice 34 = .ok (.iload_n 3, 1) := by decide +kernel
theorem dX11_tellChoice_35 : decode cX11_tellChoice 35 = .ok (.iload_n 2, 1) := by decide +kernel
theorem dX11_tellChoice_36 : decode cX11_tellChoice 36 = .ok (.invokestatic 199, 3) := by decide +kernel
theorem dX11_tellChoice_39 : decode cX11_tellChoice 39 = .ok (.ifCond .ne 6, 3) := by decide +kernel
theorem dX11_tellChoice_42 : decode cX11_tellChoice 42 = .ok (.bipush (-2), 2) := by decide +kernel
theorem dX11_tellChoice_44 : decode cX11_tellChoice 44 = .ok (.ireturn, 1) := by decide +kernel
theorem dX11_tellChoice_45 : decode cX11_tellChoice 45 = .ok (.aload_n 0, 1) := by decide +kernel
theorem dX11_tellChoice_46 : decode cX11_tellChoice 46 = .ok (.getfield 28, 3) := by decide +kernel
theorem dX11_tellChoice_49 : decode cX11_tellChoice 49 = .ok (.iload_n 1, 1) := by decide +kernel
theorem dX11_tellChoice_50 : decode cX11_tellChoice 50 = .ok (.iload_n 2, 1) := by decide +kernel
theorem dX11_tellChoice_51 : decode cX11_tellChoice 51 = .ok (.iload_n 3, 1) := by decide +kernel
theorem dX11_tellChoice_52 : decode cX11_tellChoice 52 = .ok (.ifCond .ge 8, 3) := by decide +kernel
theorem dX11_tellChoice_55 : decode cX11_tellChoice 55 = .ok (.bipush 7, 2) := by decide +kernel
theorem dX11_tellChoice_57 : decode cX11_tellChoice 57 = .ok (.goto 4, 3) := by decide +kernel
theorem dX11_tellChoice_60 : decode cX11_tellChoice 60 = .ok (.iload_n 3, 1) := by decide +kernel
theorem dX11_tellChoice_61 : decode cX11_tellChoice 61 = .ok (.invokevirtual 302, 3) := by decide +kernel
theorem dX11_tellChoice_64 : decode cX11_tellChoice 64 = .ok (.ireturn, 1) := by decide +kernel
theorem dX11_tellLine_0 : decode cX11_tellLine 0 = .ok (.lload_n 2, 1) := by decide +kernel
theorem dX11_tellLine_1 : decode cX11_tellLine 1 = .ok (.ldc2_w 303, 3) := by decide +kernel
theorem dX11_tellLine_4 : decode cX11_tellLine 4 = .ok (.ldiv, 1) := by decide +kernel
theorem dX11_tellLine_5 : decode cX11_tellLine 5 = .ok (.lstore 4, 2) := by decide +kernel
theorem dX11_tellLine_7 : decode cX11_tellLine 7 = .ok (.lload_n 2, 1) := by decide +kernel
theorem dX11_tellLine_8 : decode cX11_tellLine 8 = .ok (.lconst 0, 1) := by decide +kernel
theorem dX11_tellLine_9 : decode cX11_tellLine 9 = .ok (.lcmp, 1) := by decide +kernel
theorem dX11_tellLine_10 : decode cX11_tellLine 10 = .ok (.ifCond .lt 12, 3) := by decide +kernel
theorem dX11_tellLine_13 : decode cX11_tellLine 13 = .ok (.lload 4, 2) := by decide +kernel
theorem dX11_tellLine_15 : decode cX11_tellLine 15 = .ok (.ldc2_w 305, 3) := by decide +kernel
theorem dX11_tellLine_18 : decode cX11_tellLine 18 = .ok (.lcmp, 1) := by decide +kernel
theorem dX11_tellLine_19 : decode cX11_tellLine 19 = .ok (.ifCond .lt 6, 3) := by decide +kernel
theorem dX11_tellLine_22 : decode cX11_tellLine 22 = .ok (.bipush (-2), 2) := by decide +kernel
theorem dX11_tellLine_24 : decode cX11_tellLine 24 = .ok (.ireturn, 1) := by decide +kernel
theorem dX11_tellLine_25 : decode cX11_tellLine 25 = .ok (.aload_n 0, 1) := by decide +kernel
theorem dX11_tellLine_26 : decode cX11_tellLine 26 = .ok (.iload_n 1, 1) := by decide +kernel
theorem dX11_tellLine_27 : decode cX11_tellLine 27 = .ok (.lload 4, 2) := by decide +kernel
theorem dX11_tellLine_29 : decode cX11_tellLine 29 = .ok (.l2i, 1) := by decide +kernel
theorem dX11_tellLine_30 : decode cX11_tellLine 30 = .ok (.lload_n 2, 1) := by decide +kernel
theorem dX11_tellLine_31 : decode cX11_tellLine 31 = .ok (.ldc2_w 303, 3) := by decide +kernel
theorem dX11_tellLine_34 : decode cX11_tellLine 34 = .ok (.lrem, 1) := by decide +kernel
theorem dX11_tellLine_35 : decode cX11_tellLine 35 = .ok (.l2i, 1) := by decide +kernel
theorem dX11_tellLine_36 : decode cX11_tellLine 36 = .ok (.iconst 1, 1) := by decide +kernel
theorem dX11_tellLine_37 : decode cX11_tellLine 37 = .ok (.isub, 1) := by decide +kernel
theorem dX11_tellLine_38 : decode cX11_tellLine 38 = .ok (.invokevirtual 94, 3) := by decide +kernel
theorem dX11_tellLine_41 : decode cX11_tellLine 41 = .ok (.ireturn, 1) := by decide +kernel
theorem dX11_scoreOf_0 : decode cX11_scoreOf 0 = .ok (.aload_n 1, 1) := by decide +kernel
theorem dX11_scoreOf_1 : decode cX11_scoreOf 1 = .ok (.aload_n 0, 1) := by decide +kernel
theorem dX11_scoreOf_2 : decode cX11_scoreOf 2 = .ok (.getfield 12, 3) := by decide +kernel
theorem dX11_scoreOf_5 : decode cX11_scoreOf 5 = .ok (.invokevirtual 146, 3) := by decide +kernel
theorem dX11_scoreOf_8 : decode cX11_scoreOf 8 = .ok (.iconst 0, 1) := by decide +kernel
theorem dX11_scoreOf_9 : decode cX11_scoreOf 9 = .ok (.istore_n 3, 1) := by decide +kernel
theorem dX11_scoreOf_10 : decode cX11_scoreOf 10 = .ok (.iconst 0, 1) := by decide +kernel
theorem dX11_scoreOf_11 : decode cX11_scoreOf 11 = .ok (.istore 4, 2) := by decide +kernel
theorem dX11_scoreOf_13 : decode cX11_scoreOf 13 = .ok (.iload 4, 2) := by decide +kernel
theorem dX11_scoreOf_15 : decode cX11_scoreOf 15 = .ok (.aload_n 0, 1) := by decide +kernel
theorem dX11_scoreOf_16 : decode cX11_scoreOf 16 = .ok (.getfield 28, 3) := by decide +kernel
theorem dX11_scoreOf_19 : decode cX11_scoreOf 19 = .ok (.getfield 73, 3) := by decide +kernel
theorem dX11_scoreOf_22 : decode cX11_scoreOf 22 = .ok (.if_icmp .ge 73, 3) := by decide +kernel
theorem dX11_scoreOf_25 : decode cX11_scoreOf 25 = .ok (.aload_n 0, 1) := by decide +kernel
theorem dX11_scoreOf_26 : decode cX11_scoreOf 26 = .ok (.getfield 28, 3) := by decide +kernel
theorem dX11_scoreOf_29 : decode cX11_scoreOf 29 = .ok (.getfield 97, 3) := by decide +kernel
theorem dX11_scoreOf_32 : decode cX11_scoreOf 32 = .ok (.iload 4, 2) := by decide +kernel
theorem dX11_scoreOf_34 : decode cX11_scoreOf 34 = .ok (.iaload, 1) := by decide +kernel
theorem dX11_scoreOf_35 : decode cX11_scoreOf 35 = .ok (.iload_n 2, 1) := by decide +kernel
theorem dX11_scoreOf_36 : decode cX11_scoreOf 36 = .ok (.if_icmp .ne 53, 3) := by decide +kernel
theorem dX11_scoreOf_39 : decode cX11_scoreOf 39 = .ok (.aload_n 1, 1) := by decide +kernel
theorem dX11_scoreOf_40 : decode cX11_scoreOf 40 = .ok (.aload_n 0, 1) := by decide +kernel
theorem dX11_scoreOf_41 : decode cX11_scoreOf 41 = .ok (.getfield 12, 3) := by decide +kernel
theorem dX11_scoreOf_44 : decode cX11_scoreOf 44 = .ok (.aload_n 0, 1) := by decide +kernel
theorem dX11_scoreOf_45 : decode cX11_scoreOf 45 = .ok (.getfield 28, 3) := by decide +kernel
theorem dX11_scoreOf_48 : decode cX11_scoreOf 48 = .ok (.getfield 102, 3) := by decide +kernel
theorem dX11_scoreOf_51 : decode cX11_scoreOf 51 = .ok (.iload 4, 2) := by decide +kernel
theorem dX11_scoreOf_53 : decode cX11_scoreOf 53 = .ok (.iaload, 1) := by decide +kernel
theorem dX11_scoreOf_54 : decode cX11_scoreOf 54 = .ok (.aload_n 0, 1) := by decide +kernel
theorem dX11_scoreOf_55 : decode cX11_scoreOf 55 = .ok (.getfield 18, 3) := by decide +kernel
theorem dX11_scoreOf_58 : decode cX11_scoreOf 58 = .ok (.aload_n 0, 1) := by decide +kernel
theorem dX11_scoreOf_59 : decode cX11_scoreOf 59 = .ok (.getfield 28, 3) := by decide +kernel
theorem dX11_scoreOf_62 : decode cX11_scoreOf 62 = .ok (.getfield 100, 3) := by decide +kernel
theorem dX11_scoreOf_65 : decode cX11_scoreOf 65 = .ok (.iload 4, 2) := by decide +kernel
theorem dX11_scoreOf_67 : decode cX11_scoreOf 67 = .ok (.iaload, 1) := by decide +kernel
theorem dX11_scoreOf_68 : decode cX11_scoreOf 68 = .ok (.iaload, 1) := by decide +kernel
theorem dX11_scoreOf_69 : decode cX11_scoreOf 69 = .ok (.invokevirtual 150, 3) := by decide +kernel
theorem dX11_scoreOf_72 : decode cX11_scoreOf 72 = .ok (.iload_n 3, 1) := by decide +kernel
theorem dX11_scoreOf_73 : decode cX11_scoreOf 73 = .ok (.aload_n 1, 1) := by decide +kernel
theorem dX11_scoreOf_74 : decode cX11_scoreOf 74 = .ok (.aload_n 0, 1) := by decide +kernel
theorem dX11_scoreOf_75 : decode cX11_scoreOf 75 = .ok (.getfield 28, 3) := by decide +kernel
theorem dX11_scoreOf_78 : decode cX11_scoreOf 78 = .ok (.getfield 105, 3) := by decide +kernel
theorem dX11_scoreOf_81 : decode cX11_scoreOf 81 = .ok (.iload 4, 2) := by decide +kernel
theorem dX11_scoreOf_83 : decode cX11_scoreOf 83 = .ok (.iaload, 1) := by decide +kernel
theorem dX11_scoreOf_84 : decode cX11_scoreOf 84 = .ok (.invokevirtual 307, 3) := by decide +kernel
theorem dX11_scoreOf_87 : decode cX11_scoreOf 87 = .ok (.iadd, 1) := by decide +kernel
theorem dX11_scoreOf_88 : decode cX11_scoreOf 88 = .ok (.istore_n 3, 1) := by decide +kernel
theorem dX11_scoreOf_89 : decode cX11_scoreOf 89 = .ok (.iinc 4 1, 3) := by decide +kernel
theorem dX11_scoreOf_92 : decode cX11_scoreOf 92 = .ok (.goto (-79), 3) := by decide +kernel
theorem dX11_scoreOf_95 : decode cX11_scoreOf 95 = .ok (.iload_n 3, 1) := by decide +kernel
theorem dX11_scoreOf_96 : decode cX11_scoreOf 96 = .ok (.ireturn, 1) := by decide +kernel
theorem dX11_missesOf_0 : decode cX11_missesOf 0 = .ok (.aload_n 1, 1) := by decide +kernel
theorem dX11_missesOf_1 : decode cX11_missesOf 1 = .ok (.aload_n 0, 1) := by decide +kernel
theorem dX11_missesOf_2 : decode cX11_missesOf 2 = .ok (.getfield 12, 3) := by decide +kernel
theorem dX11_missesOf_5 : decode cX11_missesOf 5 = .ok (.invokevirtual 146, 3) := by decide +kernel
theorem dX11_missesOf_8 : decode cX11_missesOf 8 = .ok (.iconst 0, 1) := by decide +kernel
theorem dX11_missesOf_9 : decode cX11_missesOf 9 = .ok (.istore_n 3, 1) := by decide +kernel
theorem dX11_missesOf_10 : decode cX11_missesOf 10 = .ok (.iconst 0, 1) := by decide +kernel
theorem dX11_missesOf_11 : decode cX11_missesOf 11 = .ok (.istore 4, 2) := by decide +kernel
theorem dX11_missesOf_13 : decode cX11_missesOf 13 = .ok (.iload 4, 2) := by decide +kernel
theorem dX11_missesOf_15 : decode cX11_missesOf 15 = .ok (.aload_n 0, 1) := by decide +kernel
theorem dX11_missesOf_16 : decode cX11_missesOf 16 = .ok (.getfield 28, 3) := by decide +kernel
theorem dX11_missesOf_19 : decode cX11_missesOf 19 = .ok (.getfield 73, 3) := by decide +kernel
theorem dX11_missesOf_22 : decode cX11_missesOf 22 = .ok (.if_icmp .ge 81, 3) := by decide +kernel
theorem dX11_missesOf_25 : decode cX11_missesOf 25 = .ok (.aload_n 0, 1) := by decide +kernel
theorem dX11_missesOf_26 : decode cX11_missesOf 26 = .ok (.getfield 28, 3) := by decide +kernel
theorem dX11_missesOf_29 : decode cX11_missesOf 29 = .ok (.getfield 97, 3) := by decide +kernel
theorem dX11_missesOf_32 : decode cX11_missesOf 32 = .ok (.iload 4, 2) := by decide +kernel
theorem dX11_missesOf_34 : decode cX11_missesOf 34 = .ok (.iaload, 1) := by decide +kernel
theorem dX11_missesOf_35 : decode cX11_missesOf 35 = .ok (.iload_n 2, 1) := by decide +kernel
theorem dX11_missesOf_36 : decode cX11_missesOf 36 = .ok (.if_icmp .ne 61, 3) := by decide +kernel
theorem dX11_missesOf_39 : decode cX11_missesOf 39 = .ok (.aload_n 1, 1) := by decide +kernel
theorem dX11_missesOf_40 : decode cX11_missesOf 40 = .ok (.aload_n 0, 1) := by decide +kernel
theorem dX11_missesOf_41 : decode cX11_missesOf 41 = .ok (.getfield 12, 3) := by decide +kernel
theorem dX11_missesOf_44 : decode cX11_missesOf 44 = .ok (.aload_n 0, 1) := by decide +kernel
theorem dX11_missesOf_45 : decode cX11_missesOf 45 = .ok (.getfield 28, 3) := by decide +kernel
theorem dX11_missesOf_48 : decode cX11_missesOf 48 = .ok (.getfield 102, 3) := by decide +kernel
theorem dX11_missesOf_51 : decode cX11_missesOf 51 = .ok (.iload 4, 2) := by decide +kernel
theorem dX11_missesOf_53 : decode cX11_missesOf 53 = .ok (.iaload, 1) := by decide +kernel
theorem dX11_missesOf_54 : decode cX11_missesOf 54 = .ok (.aload_n 0, 1) := by decide +kernel
theorem dX11_missesOf_55 : decode cX11_missesOf 55 = .ok (.getfield 18, 3) := by decide +kernel
theorem dX11_missesOf_58 : decode cX11_missesOf 58 = .ok (.aload_n 0, 1) := by decide +kernel
theorem dX11_missesOf_59 : decode cX11_missesOf 59 = .ok (.getfield 28, 3) := by decide +kernel
theorem dX11_missesOf_62 : decode cX11_missesOf 62 = .ok (.getfield 100, 3) := by decide +kernel
theorem dX11_missesOf_65 : decode cX11_missesOf 65 = .ok (.iload 4, 2) := by decide +kernel
theorem dX11_missesOf_67 : decode cX11_missesOf 67 = .ok (.iaload, 1) := by decide +kernel
theorem dX11_missesOf_68 : decode cX11_missesOf 68 = .ok (.iaload, 1) := by decide +kernel
theorem dX11_missesOf_69 : decode cX11_missesOf 69 = .ok (.invokevirtual 150, 3) := by decide +kernel
theorem dX11_missesOf_72 : decode cX11_missesOf 72 = .ok (.iload_n 3, 1) := by decide +kernel
theorem dX11_missesOf_73 : decode cX11_missesOf 73 = .ok (.aload_n 1, 1) := by decide +kernel
theorem dX11_missesOf_74 : decode cX11_missesOf 74 = .ok (.aload_n 0, 1) := by decide +kernel
theorem dX11_missesOf_75 : decode cX11_missesOf 75 = .ok (.getfield 28, 3) := by decide +kernel
theorem dX11_missesOf_78 : decode cX11_missesOf 78 = .ok (.getfield 105, 3) := by decide +kernel
theorem dX11_missesOf_81 : decode cX11_missesOf 81 = .ok (.iload 4, 2) := by decide +kernel
theorem dX11_missesOf_83 : decode cX11_missesOf 83 = .ok (.iaload, 1) := by decide +kernel
theorem dX11_missesOf_84 : decode cX11_missesOf 84 = .ok (.invokevirtual 310, 3) := by decide +kernel
theorem dX11_missesOf_87 : decode cX11_missesOf 87 = .ok (.ifCond .eq 7, 3) := by decide +kernel
theorem dX11_missesOf_90 : decode cX11_missesOf 90 = .ok (.iconst 1, 1) := by decide +kernel
theorem dX11_missesOf_91 : decode cX11_missesOf 91 = .ok (.goto 4, 3) := by decide +kernel
theorem dX11_missesOf_94 : decode cX11_missesOf 94 = .ok (.iconst 0, 1) := by decide +kernel
theorem dX11_missesOf_95 : decode cX11_missesOf 95 = .ok (.iadd, 1) := by decide +kernel
theorem dX11_missesOf_96 : decode cX11_missesOf 96 = .ok (.istore_n 3, 1) := by decide +kernel
theorem dX11_missesOf_97 : decode cX11_missesOf 97 = .ok (.iinc 4 1, 3) := by decide +kernel
theorem dX11_missesOf_100 : decode cX11_missesOf 100 = .ok (.goto (-87), 3) := by decide +kernel
theorem dX11_missesOf_103 : decode cX11_missesOf 103 = .ok (.iload_n 3, 1) := by decide +kernel
theorem dX11_missesOf_104 : decode cX11_missesOf 104 = .ok (.ireturn, 1) := by decide +kernel
theorem dX11_ordersThereAre_0 : decode cX11_ordersThereAre 0 = .ok (.iconst 1, 1) := by decide +kernel
theorem dX11_ordersThereAre_1 : decode cX11_ordersThereAre 1 = .ok (.istore_n 1, 1) := by decide +kernel
theorem dX11_ordersThereAre_2 : decode cX11_ordersThereAre 2 = .ok (.iconst 2, 1) := by decide +kernel
theorem dX11_ordersThereAre_3 : decode cX11_ordersThereAre 3 = .ok (.istore_n 2, 1) := by decide +kernel
theorem dX11_ordersThereAre_4 : decode cX11_ordersThereAre 4 = .ok (.iload_n 2, 1) := by decide +kernel
theorem dX11_ordersThereAre_5 : decode cX11_ordersThereAre 5 = .ok (.aload_n 0, 1) := by decide +kernel
theorem dX11_ordersThereAre_6 : decode cX11_ordersThereAre 6 = .ok (.getfield 12, 3) := by decide +kernel
theorem dX11_ordersThereAre_9 : decode cX11_ordersThereAre 9 = .ok (.getfield 224, 3) := by decide +kernel
theorem dX11_ordersThereAre_12 : decode cX11_ordersThereAre 12 = .ok (.iconst 1, 1) := by decide +kernel
theorem dX11_ordersThereAre_13 : decode cX11_ordersThereAre 13 = .ok (.iadd, 1) := by decide +kernel
theorem dX11_ordersThereAre_14 : decode cX11_ordersThereAre 14 = .ok (.if_icmp .gt 13, 3) := by decide +kernel
theorem dX11_ordersThereAre_17 : decode cX11_ordersThereAre 17 = .ok (.iload_n 1, 1) := by decide +kernel
theorem dX11_ordersThereAre_18 : decode cX11_ordersThereAre 18 = .ok (.iload_n 2, 1) := by decide +kernel
theorem dX11_ordersThereAre_19 : decode cX11_ordersThereAre 19 = .ok (.imul, 1) := by decide +kernel
theorem dX11_ordersThereAre_20 : decode cX11_ordersThereAre 20 = .ok (.istore_n 1, 1) := by decide +kernel
theorem dX11_ordersThereAre_21 : decode cX11_ordersThereAre 21 = .ok (.iinc 2 1, 3) := by decide +kernel
theorem dX11_ordersThereAre_24 : decode cX11_ordersThereAre 24 = .ok (.goto (-20), 3) := by decide +kernel
theorem dX11_ordersThereAre_27 : decode cX11_ordersThereAre 27 = .ok (.iload_n 1, 1) := by decide +kernel
theorem dX11_ordersThereAre_28 : decode cX11_ordersThereAre 28 = .ok (.ireturn, 1) := by decide +kernel
theorem dX11_gatherOne_0 : decode cX11_gatherOne 0 = .ok (.aload_n 0, 1) := by decide +kernel
theorem dX11_gatherOne_1 : decode cX11_gatherOne 1 = .ok (.getfield 44, 3) := by decide +kernel
theorem dX11_gatherOne_4 : decode cX11_gatherOne 4 = .ok (.aload_n 0, 1) := by decide +kernel
theorem dX11_gatherOne_5 : decode cX11_gatherOne 5 = .ok (.getfield 12, 3) := by decide +kernel
theorem dX11_gatherOne_8 : decode cX11_gatherOne 8 = .ok (.getfield 224, 3) := by decide +kernel
theorem dX11_gatherOne_11 : decode cX11_gatherOne 11 = .ok (.invokevirtual 313, 3) := by decide +kernel
theorem dX11_gatherOne_14 : decode cX11_gatherOne 14 = .ok (.aload_n 0, 1) := by decide +kernel
theorem dX11_gatherOne_15 : decode cX11_gatherOne 15 = .ok (.iload_n 1, 1) := by decide +kernel
theorem dX11_gatherOne_16 : decode cX11_gatherOne 16 = .ok (.invokevirtual 192, 3) := by decide +kernel
theorem dX11_gatherOne_19 : decode cX11_gatherOne 19 = .ok (.return_, 1) := by decide +kernel
theorem dX11_gatherMore_0 : decode cX11_gatherMore 0 = .ok (.iconst 0, 1) := by decide +kernel
theorem dX11_gatherMore_1 : decode cX11_gatherMore 1 = .ok (.istore_n 2, 1) := by decide +kernel
theorem dX11_gatherMore_2 : decode cX11_gatherMore 2 = .ok (.iload_n 2, 1) := by decide +kernel
theorem dX11_gatherMore_3 : decode cX11_gatherMore 3 = .ok (.aload_n 0, 1) := by decide +kernel
theorem dX11_gatherMore_4 : decode cX11_gatherMore 4 = .ok (.getfield 28, 3) := by decide +kernel
theorem dX11_gatherMore_7 : decode cX11_gatherMore 7 = .ok (.getfield 73, 3) := by decide +kernel
theorem dX11_gatherMore_10 : decode cX11_gatherMore 10 = .ok (.if_icmp .ge 59, 3) := by decide +kernel
theorem dX11_gatherMore_13 : decode cX11_gatherMore 13 = .ok (.aload_n 0, 1) := by decide +kernel
theorem dX11_gatherMore_14 : decode cX11_gatherMore 14 = .ok (.getfield 28, 3) := by decide +kernel
theorem dX11_gatherMore_17 : decode cX11_gatherMore 17 = .ok (.getfield 100, 3) := by decide +kernel
theorem dX11_gatherMore_20 : decode cX11_gatherMore 20 = .ok (.iload_n 2, 1) := by decide +kernel
theorem dX11_gatherMore_21 : decode cX11_gatherMore 21 = .ok (.iaload, 1) := by decide +kernel
theorem dX11_gatherMore_22 : decode cX11_gatherMore 22 = .ok (.iload_n 1, 1) := by decide +kernel
theorem dX11_gatherMore_23 : decode cX11_gatherMore 23 = .ok (.if_icmp .ne 40, 3) := by decide +kernel
theorem dX11_gatherMore_26 : decode cX11_gatherMore 26 = .ok (.aload_n 0, 1) := by decide +kernel
theorem dX11_gatherMore_27 : decode cX11_gatherMore 27 = .ok (.getfield 28, 3) := by decide +kernel
theorem dX11_gatherMore_30 : decode cX11_gatherMore 30 = .ok (.getfield 97, 3) := by decide +kernel
theorem dX11_gatherMore_33 : decode cX11_gatherMore 33 = .ok (.iload_n 2, 1) := by decide +kernel
theorem dX11_gatherMore_34 : decode cX11_gatherMore 34 = .ok (.iaload, 1) := by decide +kernel
theorem dX11_gatherMore_35 : decode cX11_gatherMore 35 = .ok (.ifCond .ne 28, 3) := by decide +kernel
theorem dX11_gatherMore_38 : decode cX11_gatherMore 38 = .ok (.aload_n 0, 1) := by decide +kernel
theorem dX11_gatherMore_39 : decode cX11_gatherMore 39 = .ok (.getfield 44, 3) := by decide +kernel
theorem dX11_gatherMore_42 : decode cX11_gatherMore 42 = .ok (.aload_n 0, 1) := by decide +kernel
theorem dX11_gatherMore_43 : decode cX11_gatherMore 43 = .ok (.getfield 28, 3) := by decide +kernel
theorem dX11_gatherMore_46 : decode cX11_gatherMore 46 = .ok (.getfield 102, 3) := by decide +kernel
theorem dX11_gatherMore_49 : decode cX11_gatherMore 49 = .ok (.iload_n 2, 1) := by decide +kernel
theorem dX11_gatherMore_50 : decode cX11_gatherMore 50 = .ok (.iaload, 1) := by decide +kernel
theorem dX11_gatherMore_51 : decode cX11_gatherMore 51 = .ok (.aload_n 0, 1) := by decide +kernel
theorem dX11_gatherMore_52 : decode cX11_gatherMore 52 = .ok (.getfield 28, 3) := by decide +kernel
theorem dX11_gatherMore_55 : decode cX11_gatherMore 55 = .ok (.getfield 105, 3) := by decide +kernel
theorem dX11_gatherMore_58 : decode cX11_gatherMore 58 = .ok (.iload_n 2, 1) := by decide +kernel
theorem dX11_gatherMore_59 : decode cX11_gatherMore 59 = .ok (.iaload, 1) := by decide +kernel
theorem dX11_gatherMore_60 : decode cX11_gatherMore 60 = .ok (.invokevirtual 315, 3) := by decide +kernel
theorem dX11_gatherMore_63 : decode cX11_gatherMore 63 = .ok (.iinc 2 1, 3) := by decide +kernel
theorem dX11_gatherMore_66 : decode cX11_gatherMore 66 = .ok (.goto (-64), 3) := by decide +kernel
theorem dX11_gatherMore_69 : decode cX11_gatherMore 69 = .ok (.return_, 1) := by decide +kernel
theorem dX11_couldTake_0 : decode cX11_couldTake 0 = .ok (.aload_n 0, 1) := by decide +kernel
theorem dX11_couldTake_1 : decode cX11_couldTake 1 = .ok (.iload_n 1, 1) := by decide +kernel
theorem dX11_couldTake_2 : decode cX11_couldTake 2 = .ok (.invokevirtual 181, 3) := by decide +kernel
theorem dX11_couldTake_5 : decode cX11_couldTake 5 = .ok (.aload_n 0, 1) := by decide +kernel
theorem dX11_couldTake_6 : decode cX11_couldTake 6 = .ok (.getfield 44, 3) := by decide +kernel
theorem dX11_couldTake_9 : decode cX11_couldTake 9 = .ok (.invokevirtual 185, 3) := by decide +kernel
theorem dX11_couldTake_12 : decode cX11_couldTake 12 = .ok (.ifCond .ne 5, 3) := by decide +kernel
theorem dX11_couldTake_15 : decode cX11_couldTake 15 = .ok (.iconst 0, 1) := by decide +kernel
theorem dX11_couldTake_16 : decode cX11_couldTake 16 = .ok (.ireturn, 1) := by decide +kernel
theorem dX11_couldTake_17 : decode cX11_couldTake 17 = .ok (.aload_n 0, 1) := by decide +kernel
theorem dX11_couldTake_18 : decode cX11_couldTake 18 = .ok (.getfield 44, 3) := by decide +kernel
theorem dX11_couldTake_21 : decode cX11_couldTake 21 = .ok (.iload_n 2, 1) := by decide +kernel
theorem dX11_couldTake_22 : decode cX11_couldTake 22 = .ok (.invokevirtual 202, 3) := by decide +kernel
theorem dX11_couldTake_25 : decode cX11_couldTake 25 = .ok (.aload_n 0, 1) := by decide +kernel
theorem dX11_couldTake_26 : decode cX11_couldTake 26 = .ok (.getfield 44, 3) := by decide +kernel
theorem dX11_couldTake_29 : decode cX11_couldTake 29 = .ok (.invokevirtual 319, 3) := by decide +kernel
theorem dX11_couldTake_32 : decode cX11_couldTake 32 = .ok (.ireturn, 1) := by decide +kernel
theorem dX11_compareAway_0 : decode cX11_compareAway 0 = .ok (.aload_n 0, 1) := by decide +kernel
theorem dX11_compareAway_1 : decode cX11_compareAway 1 = .ok (.getfield 28, 3) := by decide +kernel
theorem dX11_compareAway_4 : decode cX11_compareAway 4 = .ok (.iload_n 1, 1) := by decide +kernel
theorem dX11_compareAway_5 : decode cX11_compareAway 5 = .ok (.iload_n 2, 1) := by decide +kernel
theorem dX11_compareAway_6 : decode cX11_compareAway 6 = .ok (.iconst 1, 1) := by decide +kernel
theorem dX11_compareAway_7 : decode cX11_compareAway 7 = .ok (.iconst 1, 1) := by decide +kernel
theorem dX11_compareAway_8 : decode cX11_compareAway 8 = .ok (.invokevirtual 214, 3) := by decide +kernel
theorem dX11_compareAway_11 : decode cX11_compareAway 11 = .ok (.istore_n 3, 1) := by decide +kernel
theorem dX11_compareAway_12 : decode cX11_compareAway 12 = .ok (.aload_n 0, 1) := by decide +kernel
theorem dX11_compareAway_13 : decode cX11_compareAway 13 = .ok (.getfield 28, 3) := by decide +kernel
theorem dX11_compareAway_16 : decode cX11_compareAway 16 = .ok (.iload_n 1, 1) := by decide +kernel
theorem dX11_compareAway_17 : decode cX11_compareAway 17 = .ok (.iload_n 2, 1) := by decide +kernel
theorem dX11_compareAway_18 : decode cX11_compareAway 18 = .ok (.iconst 1, 1) := by decide +kernel
theorem dX11_compareAway_19 : decode cX11_compareAway 19 = .ok (.iconst 0, 1) := by decide +kernel
theorem dX11_compareAway_20 : decode cX11_compareAway 20 = .ok (.invokevirtual 214, 3) := by decide +kernel
theorem dX11_compareAway_23 : decode cX11_compareAway 23 = .ok (.istore 4, 2) := by decide +kernel
theorem dX11_compareAway_25 : decode cX11_compareAway 25 = .ok (.aload_n 0, 1) := by decide +kernel
theorem dX11_compareAway_26 : decode cX11_compareAway 26 = .ok (.getfield 28, 3) := by decide +kernel
theorem dX11_compareAway_29 : decode cX11_compareAway 29 = .ok (.iload_n 1, 1) := by decide +kernel
theorem dX11_compareAway_30 : decode cX11_compareAway 30 = .ok (.iload_n 2, 1) := by decide +kernel
theorem dX11_compareAway_31 : decode cX11_compareAway 31 = .ok (.iconst 0, 1) := by decide +kernel
theorem dX11_compareAway_32 : decode cX11_compareAway 32 = .ok (.iconst 1, 1) := by decide +kernel
theorem dX11_compareAway_33 : decode cX11_compareAway 33 = .ok (.invokevirtual 214, 3) := by decide +kernel
theorem dX11_compareAway_36 : decode cX11_compareAway 36 = .ok (.istore 5, 2) := by decide +kernel
theorem dX11_compareAway_38 : decode cX11_compareAway 38 = .ok (.aload_n 0, 1) := by decide +kernel
theorem dX11_compareAway_39 : decode cX11_compareAway 39 = .ok (.getfield 28, 3) := by decide +kernel
theorem dX11_compareAway_42 : decode cX11_compareAway 42 = .ok (.iload_n 1, 1) := by decide +kernel
theorem dX11_compareAway_43 : decode cX11_compareAway 43 = .ok (.iload_n 2, 1) := by decide +kernel
theorem dX11_compareAway_44 : decode cX11_compareAway 44 = .ok (.iconst 0, 1) := by decide +kernel
theorem dX11_compareAway_45 : decode cX11_compareAway 45 = .ok (.iconst 0, 1) := by decide +kernel
theorem dX11_compareAway_46 : decode cX11_compareAway 46 = .ok (.invokevirtual 214, 3) := by decide +kernel
theorem dX11_compareAway_49 : decode cX11_compareAway 49 = .ok (.istore 6, 2) := by decide +kernel
theorem dX11_compareAway_51 : decode cX11_compareAway 51 = .ok (.iload 4, 2) := by decide +kernel
theorem dX11_compareAway_53 : decode cX11_compareAway 53 = .ok (.ifCond .eq 8, 3) := by decide +kernel
theorem dX11_compareAway_56 : decode cX11_compareAway 56 = .ok (.iload 6, 2) := by decide +kernel
theorem dX11_compareAway_58 : decode cX11_compareAway 58 = .ok (.ifCond .ne 6, 3) := by decide +kernel
theorem dX11_compareAway_61 : decode cX11_compareAway 61 = .ok (.bipush (-6), 2) := by decide +kernel
theorem dX11_compareAway_63 : decode cX11_compareAway 63 = .ok (.ireturn, 1) := by decide +kernel
theorem dX11_compareAway_64 : decode cX11_compareAway 64 = .ok (.iload 5, 2) := by decide +kernel
theorem dX11_compareAway_66 : decode cX11_compareAway 66 = .ok (.iload 4, 2) := by decide +kernel
theorem dX11_compareAway_68 : decode cX11_compareAway 68 = .ok (.imul, 1) := by decide +kernel
theorem dX11_compareAway_69 : decode cX11_compareAway 69 = .ok (.istore 7, 2) := by decide +kernel
theorem dX11_compareAway_71 : decode cX11_compareAway 71 = .ok (.iload_n 3, 1) := by decide +kernel
theorem dX11_compareAway_72 : decode cX11_compareAway 72 = .ok (.iload 6, 2) := by decide +kernel
theorem dX11_compareAway_74 : decode cX11_compareAway 74 = .ok (.imul, 1) := by decide +kernel
theorem dX11_compareAway_75 : decode cX11_compareAway 75 = .ok (.istore 8, 2) := by decide +kernel
theorem dX11_compareAway_77 : decode cX11_compareAway 77 = .ok (.iload 7, 2) := by decide +kernel
theorem dX11_compareAway_79 : decode cX11_compareAway 79 = .ok (.iload 8, 2) := by decide +kernel
theorem dX11_compareAway_81 : decode cX11_compareAway 81 = .ok (.if_icmp .ne 5, 3) := by decide +kernel
theorem dX11_compareAway_84 : decode cX11_compareAway 84 = .ok (.iconst 0, 1) := by decide +kernel
theorem dX11_compareAway_85 : decode cX11_compareAway 85 = .ok (.ireturn, 1) := by decide +kernel
theorem dX11_compareAway_86 : decode cX11_compareAway 86 = .ok (.iload 7, 2) := by decide +kernel
theorem dX11_compareAway_88 : decode cX11_compareAway 88 = .ok (.iload 8, 2) := by decide +kernel
theorem dX11_compareAway_90 : decode cX11_compareAway 90 = .ok (.if_icmp .le 7, 3) := by decide +kernel
theorem dX11_compareAway_93 : decode cX11_compareAway 93 = .ok (.iconst 1, 1) := by decide +kernel
theorem dX11_compareAway_94 : decode cX11_compareAway 94 = .ok (.goto 5, 3) := by decide +kernel
theorem dX11_compareAway_97 : decode cX11_compareAway 97 = .ok (.bipush (-5), 2) := by decide +kernel
theorem dX11_compareAway_99 : decode cX11_compareAway 99 = .ok (.ireturn, 1) := by decide +kernel
theorem dX11_coinOf_0 : decode cX11_coinOf 0 = .ok (.iconst 0, 1) := by decide +kernel
theorem dX11_coinOf_1 : decode cX11_coinOf 1 = .ok (.istore_n 3, 1) := by decide +kernel
theorem dX11_coinOf_2 : decode cX11_coinOf 2 = .ok (.iconst 0, 1) := by decide +kernel
theorem dX11_coinOf_3 : decode cX11_coinOf 3 = .ok (.istore 4, 2) := by decide +kernel
theorem dX11_coinOf_5 : decode cX11_coinOf 5 = .ok (.iload 4, 2) := by decide +kernel
theorem dX11_coinOf_7 : decode cX11_coinOf 7 = .ok (.iconst 3, 1) := by decide +kernel
theorem dX11_coinOf_8 : decode cX11_coinOf 8 = .ok (.if_icmp .ge 51, 3) := by decide +kernel
theorem dX11_coinOf_11 : decode cX11_coinOf 11 = .ok (.iload_n 2, 1) := by decide +kernel
theorem dX11_coinOf_12 : decode cX11_coinOf 12 = .ok (.ifCond .eq 47, 3) := by decide +kernel
theorem dX11_coinOf_15 : decode cX11_coinOf 15 = .ok (.aload_n 0, 1) := by decide +kernel
theorem dX11_coinOf_16 : decode cX11_coinOf 16 = .ok (.getfield 22, 3) := by decide +kernel
theorem dX11_coinOf_19 : decode cX11_coinOf 19 = .ok (.iload 4, 2) := by decide +kernel
theorem dX11_coinOf_21 : decode cX11_coinOf 21 = .ok (.iaload, 1) := by decide +kernel
theorem dX11_coinOf_22 : decode cX11_coinOf 22 = .ok (.ifCond .le 31, 3) := by decide +kernel
theorem dX11_coinOf_25 : decode cX11_coinOf 25 = .ok (.aload_n 1, 1) := by decide +kernel
theorem dX11_coinOf_26 : decode cX11_coinOf 26 = .ok (.aload_n 0, 1) := by decide +kernel
theorem dX11_coinOf_27 : decode cX11_coinOf 27 = .ok (.getfield 12, 3) := by decide +kernel
theorem dX11_coinOf_30 : decode cX11_coinOf 30 = .ok (.iload_n 2, 1) := by decide +kernel
theorem dX11_coinOf_31 : decode cX11_coinOf 31 = .ok (.iload 4, 2) := by decide +kernel
theorem dX11_coinOf_33 : decode cX11_coinOf 33 = .ok (.invokevirtual 150, 3) := by decide +kernel
theorem dX11_coinOf_36 : decode cX11_coinOf 36 = .ok (.iload_n 3, 1) := by decide +kernel
theorem dX11_coinOf_37 : decode cX11_coinOf 37 = .ok (.aload_n 0, 1) := by decide +kernel
theorem dX11_coinOf_38 : decode cX11_coinOf 38 = .ok (.getfield 22, 3) := by decide +kernel
theorem dX11_coinOf_41 : decode cX11_coinOf 41 = .ok (.iload 4, 2) := by decide +kernel
theorem dX11_coinOf_43 : decode cX11_coinOf 43 = .ok (.iaload, 1) := by decide +kernel
theorem dX11_coinOf_44 : decode cX11_coinOf 44 = .ok (.aload_n 0, 1) := by decide +kernel
theorem dX11_coinOf_45 : decode cX11_coinOf 45 = .ok (.aload_n 1, 1) := by decide +kernel
theorem dX11_coinOf_46 : decode cX11_coinOf 46 = .ok (.iload_n 2, 1) := by decide +kernel
theorem dX11_coinOf_47 : decode cX11_coinOf 47 = .ok (.invokevirtual 322, 3) := by decide +kernel
theorem dX11_coinOf_50 : decode cX11_coinOf 50 = .ok (.imul, 1) := by decide +kernel
theorem dX11_coinOf_51 : decode cX11_coinOf 51 = .ok (.iadd, 1) := by decide +kernel
theorem dX11_coinOf_52 : decode cX11_coinOf 52 = .ok (.istore_n 3, 1) := by decide +kernel
theorem dX11_coinOf_53 : decode cX11_coinOf 53 = .ok (.iinc 4 1, 3) := by decide +kernel
theorem dX11_coinOf_56 : decode cX11_coinOf 56 = .ok (.goto (-51), 3) := by decide +kernel
theorem dX11_coinOf_59 : decode cX11_coinOf 59 = .ok (.iload_n 3, 1) := by decide +kernel
theorem dX11_coinOf_60 : decode cX11_coinOf 60 = .ok (.ireturn, 1) := by decide +kernel
theorem dX11_coinOfShares_0 : decode cX11_coinOfShares 0 = .ok (.iconst 0, 1) := by decide +kernel
theorem dX11_coinOfShares_1 : decode cX11_coinOfShares 1 = .ok (.istore_n 3, 1) := by decide +kernel
theorem dX11_coinOfShares_2 : decode cX11_coinOfShares 2 = .ok (.iconst 0, 1) := by decide +kernel
theorem dX11_coinOfShares_3 : decode cX11_coinOfShares 3 = .ok (.istore 4, 2) := by decide +kernel
theorem dX11_coinOfShares_5 : decode cX11_coinOfShares 5 = .ok (.iload 4, 2) := by decide +kernel
theorem dX11_coinOfShares_7 : decode cX11_coinOfShares 7 = .ok (.aload_n 0, 1) := by decide +kernel
theorem dX11_coinOfShares_8 : decode cX11_coinOfShares 8 = .ok (.getfield 12, 3) := by decide +kernel
theorem dX11_coinOfShares_11 : decode cX11_coinOfShares 11 = .ok (.getfield 224, 3) := by decide +kernel
theorem dX11_coinOfShares_14 : decode cX11_coinOfShares 14 = .ok (.if_icmp .ge 38, 3) := by decide +kernel
theorem dX11_coinOfShares_17 : decode cX11_coinOfShares 17 = .ok (.iload 4, 2) := by decide +kernel
theorem dX11_coinOfShares_19 : decode cX11_coinOfShares 19 = .ok (.iload_n 2, 1) := by decide +kernel
theorem dX11_coinOfShares_20 : decode cX11_coinOfShares 20 = .ok (.invokestatic 199, 3) := by decide +kernel
theorem dX11_coinOfShares_23 : decode cX11_coinOfShares 23 = .ok (.ifCond .eq 23, 3) := by decide +kernel
theorem dX11_coinOfShares_26 : decode cX11_coinOfShares 26 = .ok (.iload_n 3, 1) := by decide +kernel
theorem dX11_coinOfShares_27 : decode cX11_coinOfShares 27 = .ok (.aload_n 0, 1) := by decide +kernel
theorem dX11_coinOfShares_28 : decode cX11_coinOfShares 28 = .ok (.getfield 12, 3) := by decide +kernel
theorem dX11_coinOfShares_31 : decode cX11_coinOfShares 31 = .ok (.getfield 88, 3) := by decide +kernel
theorem dX11_coinOfShares_34 : decode cX11_coinOfShares 34 = .ok (.iload 4, 2) := by decide +kernel
theorem dX11_coinOfShares_36 : decode cX11_coinOfShares 36 = .ok (.iaload, 1) := by decide +kernel
theorem dX11_coinOfShares_37 : decode cX11_coinOfShares 37 = .ok (.aload_n 1, 1) := by decide +kernel
theorem dX11_coinOfShares_38 : decode cX11_coinOfShares 38 = .ok (.iload 4, 2) := by decide +kernel
theorem dX11_coinOfShares_40 : decode cX11_coinOfShares 40 = .ok (.invokevirtual 307, 3) := by decide +kernel
theorem dX11_coinOfShares_43 : decode cX11_coinOfShares 43 = .ok (.imul, 1) := by decide +kernel
theorem dX11_coinOfShares_44 : decode cX11_coinOfShares 44 = .ok (.iadd, 1) := by decide +kernel
theorem dX11_coinOfShares_45 : decode cX11_coinOfShares 45 = .ok (.istore_n 3, 1) := by decide +kernel
theorem dX11_coinOfShares_46 : decode cX11_coinOfShares 46 = .ok (.iinc 4 1, 3) := by decide +kernel
theorem dX11_coinOfShares_49 : decode cX11_coinOfShares 49 = .ok (.goto (-44), 3) := by decide +kernel
theorem dX11_coinOfShares_52 : decode cX11_coinOfShares 52 = .ok (.iload_n 3, 1) := by decide +kernel
theorem dX11_coinOfShares_53 : decode cX11_coinOfShares 53 = .ok (.ireturn, 1) := by decide +kernel
theorem dX12_init_0 : decode cX12_init 0 = .ok (.aload_n 0, 1) := by decide +kernel
theorem dX12_init_1 : decode cX12_init 1 = .ok (.invokespecial 1, 3) := by decide +kernel
theorem dX12_init_4 : decode cX12_init 4 = .ok (.aload_n 0, 1) := by decide +kernel
theorem dX12_init_5 : decode cX12_init 5 = .ok (.iconst 0, 1) := by decide +kernel
theorem dX12_init_6 : decode cX12_init 6 = .ok (.putfield 7, 3) := by decide +kernel
theorem dX12_init_9 : decode cX12_init 9 = .ok (.aload_n 0, 1) := by decide +kernel
theorem dX12_init_10 : decode cX12_init 10 = .ok (.iconst 0, 1) := by decide +kernel
theorem dX12_init_11 : decode cX12_init 11 = .ok (.putfield 13, 3) := by decide +kernel
theorem dX12_init_14 : decode cX12_init 14 = .ok (.aload_n 0, 1) := by decide +kernel
theorem dX12_init_15 : decode cX12_init 15 = .ok (.iconst 0, 1) := by decide +kernel
theorem dX12_init_16 : decode cX12_init 16 = .ok (.putfield 16, 3) := by decide +kernel
theorem dX12_init_19 : decode cX12_init 19 = .ok (.aload_n 0, 1) := by decide +kernel
theorem dX12_init_20 : decode cX12_init 20 = .ok (.iconst 0, 1) := by decide +kernel
theorem dX12_init_21 : decode cX12_init 21 = .ok (.putfield 19, 3) := by decide +kernel
theorem dX12_init_24 : decode cX12_init 24 = .ok (.aload_n 0, 1) := by decide +kernel
theorem dX12_init_25 : decode cX12_init 25 = .ok (.bipush 6, 2) := by decide +kernel
theorem dX12_init_27 : decode cX12_init 27 = .ok (.newarray .int, 2) := by decide +kernel
theorem dX12_init_29 : decode cX12_init 29 = .ok (.putfield 22, 3) := by decide +kernel
theorem dX12_init_32 : decode cX12_init 32 = .ok (.aload_n 0, 1) := by decide +kernel
theorem dX12_init_33 : decode cX12_init 33 = .ok (.bipush 6, 2) := by decide +kernel
theorem dX12_init_35 : decode cX12_init 35 = .ok (.newarray .int, 2) := by decide +kernel
theorem dX12_init_37 : decode cX12_init 37 = .ok (.putfield 26, 3) := by decide +kernel
theorem dX12_init_40 : decode cX12_init 40 = .ok (.aload_n 0, 1) := by decide +kernel
theorem dX12_init_41 : decode cX12_init 41 = .ok (.bipush 6, 2) := by decide +kernel
theorem dX12_init_43 : decode cX12_init 43 = .ok (.newarray .int, 2) := by decide +kernel
theorem dX12_init_45 : decode cX12_init 45 = .ok (.putfield 29, 3) := by decide +kernel
theorem dX12_init_48 : decode cX12_init 48 = .ok (.aload_n 0, 1) := by decide +kernel
theorem dX12_init_49 : decode cX12_init 49 = .ok (.bipush 16, 2) := by decide +kernel
theorem dX12_init_51 : decode cX12_init 51 = .ok (.newarray .int, 2) := by decide +kernel
theorem dX12_init_53 : decode cX12_init 53 = .ok (.putfield 32, 3) := by decide +kernel
theorem dX12_init_56 : decode cX12_init 56 = .ok (.aload_n 0, 1) := by decide +kernel
theorem dX12_init_57 : decode cX12_init 57 = .ok (.bipush 80, 2) := by decide +kernel
theorem dX12_init_59 : decode cX12_init 59 = .ok (.newarray .int, 2) := by decide +kernel
theorem dX12_init_61 : decode cX12_init 61 = .ok (.putfield 35, 3) := by decide +kernel
theorem dX12_init_64 : decode cX12_init 64 = .ok (.aload_n 0, 1) := by decide +kernel
theorem dX12_init_65 : decode cX12_init 65 = .ok (.bipush 80, 2) := by decide +kernel
theorem dX12_init_67 : decode cX12_init 67 = .ok (.newarray .int, 2) := by decide +kernel
theorem dX12_init_69 : decode cX12_init 69 = .ok (.putfield 38, 3) := by decide +kernel
theorem dX12_init_72 : decode cX12_init 72 = .ok (.aload_n 0, 1) := by decide +kernel
theorem dX12_init_73 : decode cX12_init 73 = .ok (.bipush 80, 2) := by decide +kernel
theorem dX12_init_75 : decode cX12_init 75 = .ok (.newarray .int, 2) := by decide +kernel
theorem dX12_init_77 : decode cX12_init 77 = .ok (.putfield 41, 3) := by decide +kernel
theorem dX12_init_80 : decode cX12_init 80 = .ok (.aload_n 0, 1) := by decide +kernel
theorem dX12_init_81 : decode cX12_init 81 = .ok (.bipush 80, 2) := by decide +kernel
theorem dX12_init_83 : decode cX12_init 83 = .ok (.newarray .int, 2) := by decide +kernel
theorem dX12_init_85 : decode cX12_init 85 = .ok (.putfield 44, 3) := by decide +kernel
theorem dX12_init_88 : decode cX12_init 88 = .ok (.aload_n 0, 1) := by decide +kernel
theorem dX12_init_89 : decode cX12_init 89 = .ok (.bipush 10, 2) := by decide +kernel
theorem dX12_init_91 : decode cX12_init 91 = .ok (.newarray .int, 2) := by decide +kernel
theorem dX12_init_93 : decode cX12_init 93 = .ok (.putfield 47, 3) := by decide +kernel
theorem dX12_init_96 : decode cX12_init 96 = .ok (.aload_n 0, 1) := by decide +kernel
theorem dX12_init_97 : decode cX12_init 97 = .ok (.iconst 0, 1) := by decide +kernel
theorem dX12_init_98 : decode cX12_init 98 = .ok (.putfield 50, 3) := by decide +kernel
theorem dX12_init_101 : decode cX12_init 101 = .ok (.aload_n 0, 1) := by decide +kernel
theorem dX12_init_102 : decode cX12_init 102 = .ok (.iconst 0, 1) := by decide +kernel
theorem dX12_init_103 : decode cX12_init 103 = .ok (.putfield 53, 3) := by decide +kernel
theorem dX12_init_106 : decode cX12_init 106 = .ok (.aload_n 0, 1) := by decide +kernel
theorem dX12_init_107 : decode cX12_init 107 = .ok (.bipush 10, 2) := by decide +kernel
theorem dX12_init_109 : decode cX12_init 109 = .ok (.newarray .int, 2) := by decide +kernel
theorem dX12_init_111 : decode cX12_init 111 = .ok (.putfield 56, 3) := by decide +kernel
theorem dX12_init_114 : decode cX12_init 114 = .ok (.aload_n 0, 1) := by decide +kernel
theorem dX12_init_115 : decode cX12_init 115 = .ok (.sipush 1320, 3) := by decide +kernel
theorem dX12_init_118 : decode cX12_init 118 = .ok (.newarray .int, 2) := by decide +kernel
theorem dX12_init_120 : decode cX12_init 120 = .ok (.putfield 59, 3) := by decide +kernel
theorem dX12_init_123 : decode cX12_init 123 = .ok (.aload_n 0, 1) := by decide +kernel
theorem dX12_init_124 : decode cX12_init 124 = .ok (.bipush 11, 2) := by decide +kernel
theorem dX12_init_126 : decode cX12_init 126 = .ok (.newarray .int, 2) := by decide +kernel
theorem dX12_init_128 : decode cX12_init 128 = .ok (.putfield 62, 3) := by decide +kernel
theorem dX12_init_131 : decode cX12_init 131 = .ok (.aload_n 0, 1) := by decide +kernel
theorem dX12_init_132 : decode cX12_init 132 = .ok (.bipush 10, 2) := by decide +kernel
theorem dX12_init_134 : decode cX12_init 134 = .ok (.newarray .int, 2) := by decide +kernel
theorem dX12_init_136 : decode cX12_init 136 = .ok (.putfield 65, 3) := by decide +kernel
theorem dX12_init_139 : decode cX12_init 139 = .ok (.aload_n 0, 1) := by decide +kernel
theorem dX12_init_140 : decode cX12_init 140 = .ok (.iconst 0, 1) := by decide +kernel
theorem dX12_init_141 : decode cX12_init 141 = .ok (.putfield 68, 3) := by decide +kernel
theorem dX12_init_144 : decode cX12_init 144 = .ok (.aload_n 0, 1) := by decide +kernel
theorem dX12_init_145 : decode cX12_init 145 = .ok (.iconst 0, 1) := by decide +kernel
theorem dX12_init_146 : decode cX12_init 146 = .ok (.putfield 71, 3) := by decide +kernel
theorem dX12_init_149 : decode cX12_init 149 = .ok (.aload_n 0, 1) := by decide +kernel
theorem dX12_init_150 : decode cX12_init 150 = .ok (.iconst 0, 1) := by decide +kernel
theorem dX12_init_151 : decode cX12_init 151 = .ok (.putfield 74, 3) := by decide +kernel
theorem dX12_init_154 : decode cX12_init 154 = .ok (.aload_n 0, 1) := by decide +kernel
theorem dX12_init_155 : decode cX12_init 155 = .ok (.iconst 0, 1) := by decide +kernel
theorem dX12_init_156 : decode cX12_init 156 = .ok (.putfield 77, 3) := by decide +kernel
theorem dX12_init_159 : decode cX12_init 159 = .ok (.aload_n 0, 1) := by decide +kernel
theorem dX12_init_160 : decode cX12_init 160 = .ok (.iconst 0, 1) := by decide +kernel
theorem dX12_init_161 : decode cX12_init 161 = .ok (.putfield 80, 3) := by decide +kernel
theorem dX12_init_164 : decode cX12_init 164 = .ok (.aload_n 0, 1) := by decide +kernel
theorem dX12_init_165 : decode cX12_init 165 = .ok (.bipush 6, 2) := by decide +kernel
theorem dX12_init_167 : decode cX12_init 167 = .ok (.newarray .int, 2) := by decide +kernel
theorem dX12_init_169 : decode cX12_init 169 = .ok (.putfield 83, 3) := by decide +kernel
theorem dX12_init_172 : decode cX12_init 172 = .ok (.aload_n 0, 1) := by decide +kernel
theorem dX12_init_173 : decode cX12_init 173 = .ok (.bipush 8, 2) := by decide +kernel
theorem dX12_init_175 : decode cX12_init 175 = .ok (.newarray .int, 2) := by decide +kernel
theorem dX12_init_177 : decode cX12_init 177 = .ok (.putfield 86, 3) := by decide +kernel
theorem dX12_init_180 : decode cX12_init 180 = .ok (.aload_n 0, 1) := by decide +kernel
theorem dX12_init_181 : decode cX12_init 181 = .ok (.iconst 3, 1) := by decide +kernel
theorem dX12_init_182 : decode cX12_init 182 = .ok (.newarray .int, 2) := by decide +kernel
theorem dX12_init_184 : decode cX12_init 184 = .ok (.putfield 89, 3) := by decide +kernel
theorem dX12_init_187 : decode cX12_init 187 = .ok (.aload_n 0, 1) := by decide +kernel
theorem dX12_init_188 : decode cX12_init 188 = .ok (.iconst 3, 1) := by decide +kernel
theorem dX12_init_189 : decode cX12_init 189 = .ok (.newarray .int, 2) := by decide +kernel
theorem dX12_init_191 : decode cX12_init 191 = .ok (.putfield 92, 3) := by decide +kernel
theorem dX12_init_194 : decode cX12_init 194 = .ok (.aload_n 0, 1) := by decide +kernel
theorem dX12_init_195 : decode cX12_init 195 = .ok (.iconst 0, 1) := by decide +kernel
theorem dX12_init_196 : decode cX12_init 196 = .ok (.putfield 95, 3) := by decide +kernel
theorem dX12_init_199 : decode cX12_init 199 = .ok (.aload_n 0, 1) := by decide +kernel
theorem dX12_init_200 : decode cX12_init 200 = .ok (.iconst 0, 1) := by decide +kernel
theorem dX12_init_201 : decode cX12_init 201 = .ok (.putfield 98, 3) := by decide +kernel
theorem dX12_init_204 : decode cX12_init 204 = .ok (.aload_n 0, 1) := by decide +kernel
theorem dX12_init_205 : decode cX12_init 205 = .ok (.iconst 0, 1) := by decide +kernel
theorem dX12_init_206 : decode cX12_init 206 = .ok (.putfield 101, 3) := by decide +kernel
theorem dX12_init_209 : decode cX12_init 209 = .ok (.aload_n 0, 1) := by decide +kernel
theorem dX12_init_210 : decode cX12_init 210 = .ok (.iconst 0, 1) := by decide +kernel
theorem dX12_init_211 : decode cX12_init 211 = .ok (.putfield 104, 3) := by decide +kernel
theorem dX12_init_214 : decode cX12_init 214 = .ok (.aload_n 0, 1) := by decide +kernel
theorem dX12_init_215 : decode cX12_init 215 = .ok (.bipush 60, 2) := by decide +kernel
theorem dX12_init_217 : decode cX12_init 217 = .ok (.newarray .boolean, 2) := by decide +kernel
theorem dX12_init_219 : decode cX12_init 219 = .ok (.putfield 107, 3) := by decide +kernel
theorem dX12_init_222 : decode cX12_init 222 = .ok (.aload_n 0, 1) := by decide +kernel
theorem dX12_init_223 : decode cX12_init 223 = .ok (.iconst 0, 1) := by decide +kernel
theorem dX12_init_224 : decode cX12_init 224 = .ok (.putfield 111, 3) := by decide +kernel
theorem dX12_init_227 : decode cX12_init 227 = .ok (.aload_n 0, 1) := by decide +kernel
theorem dX12_init_228 : decode cX12_init 228 = .ok (.bipush 121, 2) := by decide +kernel
theorem dX12_init_230 : decode cX12_init 230 = .ok (.newarray .int, 2) := by decide +kernel
theorem dX12_init_232 : decode cX12_init 232 = .ok (.putfield 114, 3) := by decide +kernel
theorem dX12_init_235 : decode cX12_init 235 = .ok (.aload_n 0, 1) := by decide +kernel
theorem dX12_init_236 : decode cX12_init 236 = .ok (.bipush 121, 2) := by decide +kernel
theorem dX12_init_238 : decode cX12_init 238 = .ok (.newarray .boolean, 2) := by decide +kernel
theorem dX12_init_240 : decode cX12_init 240 = .ok (.putfield 117, 3) := by decide +kernel
theorem dX12_init_243 : decode cX12_init 243 = .ok (.aload_n 0, 1) := by decide +kernel
theorem dX12_init_244 : decode cX12_init 244 = .ok (.iconst 0, 1) := by decide +kernel
theorem dX12_init_245 : decode cX12_init 245 = .ok (.putfield 120, 3) := by decide +kernel
theorem dX12_init_248 : decode cX12_init 248 = .ok (.aload_n 0, 1) := by decide +kernel
theorem dX12_init_249 : decode cX12_init 249 = .ok (.iconst 0, 1) := by decide +kernel
theorem dX12_init_250 : decode cX12_init 250 = .ok (.putfield 123, 3) := by decide +kernel
theorem dX12_init_253 : decode cX12_init 253 = .ok (.aload_n 0, 1) := by decide +kernel
theorem dX12_init_254 : decode cX12_init 254 = .ok (.iconst 0, 1) := by decide +kernel
theorem dX12_init_255 : decode cX12_init 255 = .ok (.putfield 126, 3) := by decide +kernel
theorem dX12_init_258 : decode cX12_init 258 = .ok (.aload_n 0, 1) := by decide +kernel
theorem dX12_init_259 : decode cX12_init 259 = .ok (.lconst 0, 1) := by decide +kernel
theorem dX12_init_260 : decode cX12_init 260 = .ok (.putfield 129, 3) := by decide +kernel
theorem dX12_init_263 : decode cX12_init 263 = .ok (.aload_n 0, 1) := by decide +kernel
theorem dX12_init_264 : decode cX12_init 264 = .ok (.lconst 1, 1) := by decide +kernel
theorem dX12_init_265 : decode cX12_init 265 = .ok (.putfield 133, 3) := by decide +kernel
theorem dX12_init_268 : decode cX12_init 268 = .ok (.aload_n 0, 1) := by decide +kernel
theorem dX12_init_269 : decode cX12_init 269 = .ok (.bipush 8, 2) := by decide +kernel
theorem dX12_init_271 : decode cX12_init 271 = .ok (.newarray .int, 2) := by decide +kernel
theorem dX12_init_273 : decode cX12_init 273 = .ok (.putfield 136, 3) := by decide +kernel
theorem dX12_init_276 : decode cX12_init 276 = .ok (.aload_n 0, 1) := by decide +kernel
theorem dX12_init_277 : decode cX12_init 277 = .ok (.bipush 7, 2) := by decide +kernel
theorem dX12_init_279 : decode cX12_init 279 = .ok (.newarray .int, 2) := by decide +kernel
theorem dX12_init_281 : decode cX12_init 281 = .ok (.putfield 139, 3) := by decide +kernel
theorem dX12_init_284 : decode cX12_init 284 = .ok (.aload_n 0, 1) := by decide +kernel
theorem dX12_init_285 : decode cX12_init 285 = .ok (.ldc 142, 2) := by decide +kernel
theorem dX12_init_287 : decode cX12_init 287 = .ok (.newarray .int, 2) := by decide +kernel
theorem dX12_init_289 : decode cX12_init 289 = .ok (.putfield 143, 3) := by decide +kernel
theorem dX12_init_292 : decode cX12_init 292 = .ok (.aload_n 0, 1) := by decide +kernel
theorem dX12_init_293 : decode cX12_init 293 = .ok (.ldc 146, 2) := by decide +kernel
theorem dX12_init_295 : decode cX12_init 295 = .ok (.newarray .boolean, 2) := by decide +kernel
theorem dX12_init_297 : decode cX12_init 297 = .ok (.putfield 147, 3) := by decide +kernel
theorem dX12_init_300 : decode cX12_init 300 = .ok (.aload_n 0, 1) := by decide +kernel
theorem dX12_init_301 : decode cX12_init 301 = .ok (.bipush 16, 2) := by decide +kernel
theorem dX12_init_303 : decode cX12_init 303 = .ok (.newarray .boolean, 2) := by decide +kernel
theorem dX12_init_305 : decode cX12_init 305 = .ok (.putfield 150, 3) := by decide +kernel
theorem dX12_init_308 : decode cX12_init 308 = .ok (.aload_n 0, 1) := by decide +kernel
theorem dX12_init_309 : decode cX12_init 309 = .ok (.iconst (-1), 1) := by decide +kernel
theorem dX12_init_310 : decode cX12_init 310 = .ok (.putfield 153, 3) := by decide +kernel
theorem dX12_init_313 : decode cX12_init 313 = .ok (.aload_n 0, 1) := by decide +kernel
theorem dX12_init_314 : decode cX12_init 314 = .ok (.bipush 80, 2) := by decide +kernel
theorem dX12_init_316 : decode cX12_init 316 = .ok (.newarray .int, 2) := by decide +kernel
theorem dX12_init_318 : decode cX12_init 318 = .ok (.putfield 156, 3) := by decide +kernel
theorem dX12_init_321 : decode cX12_init 321 = .ok (.aload_n 0, 1) := by decide +kernel
theorem dX12_init_322 : decode cX12_init 322 = .ok (.iconst 0, 1) := by decide +kernel
theorem dX12_init_323 : decode cX12_init 323 = .ok (.putfield 159, 3) := by decide +kernel
theorem dX12_init_326 : decode cX12_init 326 = .ok (.aload_n 0, 1) := by decide +kernel
theorem dX12_init_327 : decode cX12_init 327 = .ok (.bipush 20, 2) := by decide +kernel
theorem dX12_init_329 : decode cX12_init 329 = .ok (.newarray .int, 2) := by decide +kernel
theorem dX12_init_331 : decode cX12_init 331 = .ok (.putfield 162, 3) := by decide +kernel
theorem dX12_init_334 : decode cX12_init 334 = .ok (.aload_n 0, 1) := by decide +kernel
theorem dX12_init_335 : decode cX12_init 335 = .ok (.bipush 6, 2) := by decide +kernel
theorem dX12_init_337 : decode cX12_init 337 = .ok (.newarray .int, 2) := by decide +kernel
theorem dX12_init_339 : decode cX12_init 339 = .ok (.dup, 1) := by decide +kernel
theorem dX12_init_340 : decode cX12_init 340 = .ok (.iconst 0, 1) := by decide +kernel
theorem dX12_init_341 : decode cX12_init 341 = .ok (.iconst (-1), 1) := by decide +kernel
theorem dX12_init_342 : decode cX12_init 342 = .ok (.iastore, 1) := by decide +kernel
theorem dX12_init_343 : decode cX12_init 343 = .ok (.dup, 1) := by decide +kernel
theorem dX12_init_344 : decode cX12_init 344 = .ok (.iconst 1, 1) := by decide +kernel
theorem dX12_init_345 : decode cX12_init 345 = .ok (.iconst (-1), 1) := by decide +kernel
theorem dX12_init_346 : decode cX12_init 346 = .ok (.iastore, 1) := by decide +kernel
theorem dX12_init_347 : decode cX12_init 347 = .ok (.dup, 1) := by decide +kernel
theorem dX12_init_348 : decode cX12_init 348 = .ok (.iconst 2, 1) := by decide +kernel
theorem dX12_init_349 : decode cX12_init 349 = .ok (.iconst (-1), 1) := by decide +kernel
theorem dX12_init_350 : decode cX12_init 350 = .ok (.iastore, 1) := by decide +kernel
theorem dX12_init_351 : decode cX12_init 351 = .ok (.dup, 1) := by decide +kernel
theorem dX12_init_352 : decode cX12_init 352 = .ok (.iconst 3, 1) := by decide +kernel
theorem dX12_init_353 : decode cX12_init 353 = .ok (.iconst (-1), 1) := by decide +kernel
theorem dX12_init_354 : decode cX12_init 354 = .ok (.iastore, 1) := by decide +kernel
theorem dX12_init_355 : decode cX12_init 355 = .ok (.dup, 1) := by decide +kernel
theorem dX12_init_356 : decode cX12_init 356 = .ok (.iconst 4, 1) := by decide +kernel
theorem dX12_init_357 : decode cX12_init 357 = .ok (.iconst (-1), 1) := by decide +kernel
theorem dX12_init_358 : decode cX12_init 358 = .ok (.iastore, 1) := by decide +kernel
theorem dX12_init_359 : decode cX12_init 359 = .ok (.dup, 1) := by decide +kernel
theorem dX12_init_360 : decode cX12_init 360 = .ok (.iconst 5, 1) := by decide +kernel
theorem dX12_init_361 : decode cX12_init 361 = .ok (.iconst (-1), 1) := by decide +kernel
theorem dX12_init_362 : decode cX12_init 362 = .ok (.iastore, 1) := by decide +kernel
theorem dX12_init_363 : decode cX12_init 363 = .ok (.putfield 165, 3) := by decide +kernel
theorem dX12_init_366 : decode cX12_init 366 = .ok (.aload_n 0, 1) := by decide +kernel
theorem dX12_init_367 : decode cX12_init 367 = .ok (.bipush 6, 2) := by decide +kernel
theorem dX12_init_369 : decode cX12_init 369 = .ok (.newarray .int, 2) := by decide +kernel
theorem dX12_init_371 : decode cX12_init 371 = .ok (.putfield 168, 3) := by decide +kernel
theorem dX12_init_374 : decode cX12_init 374 = .ok (.aload_n 0, 1) := by decide +kernel
theorem dX12_init_375 : decode cX12_init 375 = .ok (.sipush 360, 3) := by decide +kernel
theorem dX12_init_378 : decode cX12_init 378 = .ok (.newarray .long, 2) := by decide +kernel
theorem dX12_init_380 : decode cX12_init 380 = .ok (.putfield 171, 3) := by decide +kernel
theorem dX12_init_383 : decode cX12_init 383 = .ok (.aload_n 0, 1) := by decide +kernel
theorem dX12_init_384 : decode cX12_init 384 = .ok (.bipush 60, 2) := by decide +kernel
theorem dX12_init_386 : decode cX12_init 386 = .ok (.newarray .long, 2) := by decide +kernel
theorem dX12_init_388 : decode cX12_init 388 = .ok (.putfield 175, 3) := by decide +kernel
theorem dX12_init_391 : decode cX12_init 391 = .ok (.return_, 1) := by decide +kernel
theorem dX12_in_0 : decode cX12_in 0 = .ok (.iload_n 1, 1) := by decide +kernel
theorem dX12_in_1 : decode cX12_in 1 = .ok (.iload_n 2, 1) := by decide +kernel
theorem dX12_in_2 : decode cX12_in 2 = .ok (.if_icmp .lt 12, 3) := by decide +kernel
theorem dX12_in_5 : decode cX12_in 5 = .ok (.iload_n 1, 1) := by decide +kernel
theorem dX12_in_6 : decode cX12_in 6 = .ok (.iload_n 3, 1) := by decide +kernel
theorem dX12_in_7 : decode cX12_in 7 = .ok (.if_icmp .gt 7, 3) := by decide +kernel
theorem dX12_in_10 : decode cX12_in 10 = .ok (.iconst 1, 1) := by decide +kernel
theorem dX12_in_11 : decode cX12_in 11 = .ok (.goto 4, 3) := by decide +kernel
theorem dX12_in_14 : decode cX12_in 14 = .ok (.iconst 0, 1) := by decide +kernel
theorem dX12_in_15 : decode cX12_in 15 = .ok (.ireturn, 1) := by decide +kernel
theorem dX12_ones_0 : decode cX12_ones 0 = .ok (.iconst 0, 1) := by decide +kernel
theorem dX12_ones_1 : decode cX12_ones 1 = .ok (.istore_n 2, 1) := by decide +kernel
theorem dX12_ones_2 : decode cX12_ones 2 = .ok (.iload_n 1, 1) := by decide +kernel
theorem dX12_ones_3 : decode cX12_ones 3 = .ok (.istore_n 3, 1) := by decide +kernel
theorem dX12_ones_4 : decode cX12_ones 4 = .ok (.iload_n 3, 1) := by decide +kernel
theorem dX12_ones_5 : decode cX12_ones 5 = .ok (.ifCond .eq 15, 3) := by decide +kernel
theorem dX12_ones_8 : decode cX12_ones 8 = .ok (.iinc 2 1, 3) := by decide +kernel
theorem dX12_ones_11 : decode cX12_ones 11 = .ok (.iload_n 3, 1) := by decide +kernel
theorem dX12_ones_12 : decode cX12_ones 12 = .ok (.iload_n 3, 1) := by decide +kernel
theorem dX12_ones_13 : decode cX12_ones 13 = .ok (.iconst 1, 1) := by decide +kernel
theorem dX12_ones_14 : decode cX12_ones 14 = .ok (.isub, 1) := by decide +kernel
theorem dX12_ones_15 : decode cX12_ones 15 = .ok (.iand, 1) := by decide +kernel
theorem dX12_ones_16 : decode cX12_ones 16 = .ok (.istore_n 3, 1) := by decide +kernel
theorem dX12_ones_17 : decode cX12_ones 17 = .ok (.goto (-13), 3) := by decide +kernel
theorem dX12_ones_20 : decode cX12_ones 20 = .ok (.iload_n 2, 1) := by decide +kernel
theorem dX12_ones_21 : decode cX12_ones 21 = .ok (.ireturn, 1) := by decide +kernel
theorem dX12_has_0 : decode cX12_has 0 = .ok (.iload_n 1, 1) := by decide +kernel
theorem dX12_has_1 : decode cX12_has 1 = .ok (.iload_n 2, 1) := by decide +kernel
theorem dX12_has_2 : decode cX12_has 2 = .ok (.ishr, 1) := by decide +kernel
theorem dX12_has_3 : decode cX12_has 3 = .ok (.iconst 1, 1) := by decide +kernel
theorem dX12_has_4 : decode cX12_has 4 = .ok (.iand, 1) := by decide +kernel
theorem dX12_has_5 : decode cX12_has 5 = .ok (.iconst 1, 1) := by decide +kernel
theorem dX12_has_6 : decode cX12_has 6 = .ok (.if_icmp .ne 7, 3) := by decide +kernel
theorem dX12_has_9 : decode cX12_has 9 = .ok (.iconst 1, 1) := by decide +kernel
theorem dX12_has_10 : decode cX12_has 10 = .ok (.goto 4, 3) := by decide +kernel
theorem dX12_has_13 : decode cX12_has 13 = .ok (.iconst 0, 1) := by decide +kernel
theorem dX12_has_14 : decode cX12_has 14 = .ok (.ireturn, 1) := by decide +kernel
theorem dX12_isThing_0 : decode cX12_isThing 0 = .ok (.aload_n 0, 1) := by decide +kernel
theorem dX12_isThing_1 : decode cX12_isThing 1 = .ok (.iload_n 1, 1) := by decide +kernel
theorem dX12_isThing_2 : decode cX12_isThing 2 = .ok (.iconst 0, 1) := by decide +kernel
theorem dX12_isThing_3 : decode cX12_isThing 3 = .ok (.aload_n 0, 1) := by decide +kernel
theorem dX12_isThing_4 : decode cX12_isThing 4 = .ok (.getfield 7, 3) := by decide +kernel
theorem dX12_isThing_7 : decode cX12_isThing 7 = .ok (.iconst 1, 1) := by decide +kernel
theorem dX12_isThing_8 : decode cX12_isThing 8 = .ok (.isub, 1) := by decide +kernel
theorem dX12_isThing_9 : decode cX12_isThing 9 = .ok (.invokevirtual 178, 3) := by decide +kernel
theorem dX12_isThing_12 : decode cX12_isThing 12 = .ok (.ireturn, 1) := by decide +kernel
theorem dX12_isTaker_0 : decode cX12_isTaker 0 = .ok (.aload_n 0, 1) := by decide +kernel
theorem dX12_isTaker_1 : decode cX12_isTaker 1 = .ok (.iload_n 1, 1) := by decide +kernel
theorem dX12_isTaker_2 : decode cX12_isTaker 2 = .ok (.iconst 0, 1) := by decide +kernel
theorem dX12_isTaker_3 : decode cX12_isTaker 3 = .ok (.aload_n 0, 1) := by decide +kernel
theorem dX12_isTaker_4 : decode cX12_isTaker 4 = .ok (.getfield 13, 3) := by decide +kernel
theorem dX12_isTaker_7 : decode cX12_isTaker 7 = .ok (.iconst 1, 1) := by decide +kernel
theorem dX12_isTaker_8 : decode cX12_isTaker 8 = .ok (.isub, 1) := by decide +kernel
theorem dX12_isTaker_9 : decode cX12_isTaker 9 = .ok (.invokevirtual 178, 3) := by decide +kernel
theorem dX12_isTaker_12 : decode cX12_isTaker 12 = .ok (.ireturn, 1) := by decide +kernel
theorem dX12_isChoice_0 : decode cX12_isChoice 0 = .ok (.aload_n 0, 1) := by decide +kernel
theorem dX12_isChoice_1 : decode cX12_isChoice 1 = .ok (.iload_n 1, 1) := by decide +kernel
theorem dX12_isChoice_2 : decode cX12_isChoice 2 = .ok (.iconst 0, 1) := by decide +kernel
theorem dX12_isChoice_3 : decode cX12_isChoice 3 = .ok (.aload_n 0, 1) := by decide +kernel
theorem dX12_isChoice_4 : decode cX12_isChoice 4 = .ok (.getfield 16, 3) := by decide +kernel
theorem dX12_isChoice_7 : decode cX12_isChoice 7 = .ok (.iconst 1, 1) := by decide +kernel
theorem dX12_isChoice_8 : decode cX12_isChoice 8 = .ok (.isub, 1) := by decide +kernel
theorem dX12_isChoice_9 : decode cX12_isChoice 9 = .ok (.invokevirtual 178, 3) := by decide +kernel
theorem dX12_isChoice_12 : decode cX12_isChoice 12 = .ok (.ireturn, 1) := by decide +kernel
theorem dX12_isSet_0 : decode cX12_isSet 0 = .ok (.aload_n 0, 1) := by decide +kernel
theorem dX12_isSet_1 : decode cX12_isSet 1 = .ok (.iload_n 1, 1) := by decide +kernel
theorem dX12_isSet_2 : decode cX12_isSet 2 = .ok (.iconst 0, 1) := by decide +kernel
theorem dX12_isSet_3 : decode cX12_isSet 3 = .ok (.iconst 1, 1) := by decide +kernel
theorem dX12_isSet_4 : decode cX12_isSet 4 = .ok (.aload_n 0, 1) := by decide +kernel
theorem dX12_isSet_5 : decode cX12_isSet 5 = .ok (.getfield 7, 3) := by decide +kernel
theorem dX12_isSet_8 : decode cX12_isSet 8 = .ok (.ishl, 1) := by decide +kernel
theorem dX12_isSet_9 : decode cX12_isSet 9 = .ok (.iconst 1, 1) := by decide +kernel
theorem dX12_isSet_10 : decode cX12_isSet 10 = .ok (.isub, 1) := by decide +kernel
theorem dX12_isSet_11 : decode cX12_isSet 11 = .ok (.invokevirtual 178, 3) := by decide +kernel
theorem dX12_isSet_14 : decode cX12_isSet 14 = .ok (.ireturn, 1) := by decide +kernel
theorem dX12_thing_0 : decode cX12_thing 0 = .ok (.aload_n 0, 1) := by decide +kernel
theorem dX12_thing_1 : decode cX12_thing 1 = .ok (.iload_n 1, 1) := by decide +kernel
theorem dX12_thing_2 : decode cX12_thing 2 = .ok (.iconst 0, 1) := by decide +kernel
theorem dX12_thing_3 : decode cX12_thing 3 = .ok (.sipush 255, 3) := by decide +kernel
theorem dX12_thing_6 : decode cX12_thing 6 = .ok (.invokevirtual 178, 3) := by decide +kernel
theorem dX12_thing_9 : decode cX12_thing 9 = .ok (.ifCond .eq 24, 3) := by decide +kernel
theorem dX12_thing_12 : decode cX12_thing 12 = .ok (.aload_n 0, 1) := by decide +kernel
theorem dX12_thing_13 : decode cX12_thing 13 = .ok (.iload_n 2, 1) := by decide +kernel
theorem dX12_thing_14 : decode cX12_thing 14 = .ok (.iconst 0, 1) := by decide +kernel
theorem dX12_thing_15 : decode cX12_thing 15 = .ok (.bipush 99, 2) := by decide +kernel
theorem dX12_thing_17 : decode cX12_thing 17 = .ok (.invokevirtual 178, 3) := by decide +kernel
theorem dX12_thing_20 : decode cX12_thing 20 = .ok (.ifCond .eq 13, 3) := by decide +kernel
theorem dX12_thing_23 : decode cX12_thing 23 = .ok (.aload_n 0, 1) := by decide +kernel
theorem dX12_thing_24 : decode cX12_thing 24 = .ok (.iload_n 3, 1) := by decide +kernel
theorem dX12_thing_25 : decode cX12_thing 25 = .ok (.iconst 0, 1) := by decide +kernel
theorem dX12_thing_26 : decode cX12_thing 26 = .ok (.iconst 3, 1) := by decide +kernel
theorem dX12_thing_27 : decode cX12_thing 27 = .ok (.invokevirtual 178, 3) := by decide +kernel
theorem dX12_thing_30 : decode cX12_thing 30 = .ok (.ifCond .ne 6, 3) := by decide +kernel
theorem dX12_thing_33 : decode cX12_thing 33 = .ok (.bipush (-2), 2) := by decide +kernel
theorem dX12_thing_35 : decode cX12_thing 35 = .ok (.ireturn, 1) := by decide +kernel
theorem dX12_thing_36 : decode cX12_thing 36 = .ok (.aload_n 0, 1) := by decide +kernel
theorem dX12_thing_37 : decode cX12_thing 37 = .ok (.getfield 16, 3) := by decide +kernel
theorem dX12_thing_40 : decode cX12_thing 40 = .ok (.ifCond .gt 10, 3) := by decide +kernel
theorem dX12_thing_43 : decode cX12_thing 43 = .ok (.aload_n 0, 1) := by decide +kernel
theorem dX12_thing_44 : decode cX12_thing 44 = .ok (.getfield 19, 3) := by decide +kernel
theorem dX12_thing_47 : decode cX12_thing 47 = .ok (.ifCond .le 6, 3) := by decide +kernel
theorem dX12_thing_50 : decode cX12_thing 50 = .ok (.bipush (-3), 2) := by decide +kernel
theorem dX12_thing_52 : decode cX12_thing 52 = .ok (.ireturn, 1) := by decide +kernel
theorem dX12_thing_53 : decode cX12_thing 53 = .ok (.aload_n 0, 1) := by decide +kernel
theorem dX12_thing_54 : decode cX12_thing 54 = .ok (.getfield 7, 3) := by decide +kernel
theorem dX12_thing_57 : decode cX12_thing 57 = .ok (.bipush 6, 2) := by decide +kernel
theorem dX12_thing_59 : decode cX12_thing 59 = .ok (.if_icmp .ne 6, 3) := by decide +kernel
theorem dX12_thing_62 : decode cX12_thing 62 = .ok (.bipush (-4), 2) := by decide +kernel
theorem dX12_thing_64 : decode cX12_thing 64 = .ok (.ireturn, 1) := by decide +kernel
theorem dX12_thing_65 : decode cX12_thing 65 = .ok (.aload_n 0, 1) := by decide +kernel
theorem dX12_thing_66 : decode cX12_thing 66 = .ok (.getfield 22, 3) := by decide +kernel
theorem dX12_thing_69 : decode cX12_thing 69 = .ok (.aload_n 0, 1) := by decide +kernel
theorem dX12_thing_70 : decode cX12_thing 70 = .ok (.getfield 7, 3) := by decide +kernel
theorem dX12_thing_73 : decode cX12_thing 73 = .ok (.iload_n 1, 1) := by decide +kernel
theorem dX12_thing_74 : decode cX12_thing 74 = .ok (.iastore, 1) := by decide +kernel
theorem dX12_thing_75 : decode cX12_thing 75 = .ok (.aload_n 0, 1) := by decide +kernel
theorem dX12_thing_76 : decode cX12_thing 76 = .ok (.getfield 26, 3) := by decide +kernel
theorem dX12_thing_79 : decode cX12_thing 79 = .ok (.aload_n 0, 1) := by decide +kernel
theorem dX12_thing_80 : decode cX12_thing 80 = .ok (.getfield 7, 3) := by decide +kernel
theorem dX12_thing_83 : decode cX12_thing 83 = .ok (.iload_n 2, 1) := by decide +kernel
theorem dX12_thing_84 : decode cX12_thing 84 = .ok (.iastore, 1) := by decide +kernel
theorem dX12_thing_85 : decode cX12_thing 85 = .ok (.aload_n 0, 1) := by decide +kernel
theorem dX12_thing_86 : decode cX12_thing 86 = .ok (.getfield 29, 3) := by decide +kernel
theorem dX12_thing_89 : decode cX12_thing 89 = .ok (.aload_n 0, 1) := by decide +kernel
theorem dX12_thing_90 : decode cX12_thing 90 = .ok (.getfield 7, 3) := by decide +kernel
theorem dX12_thing_93 : decode cX12_thing 93 = .ok (.iload_n 3, 1) := by decide +kernel
theorem dX12_thing_94 : decode cX12_thing 94 = .ok (.iastore, 1) := by decide +kernel
theorem dX12_thing_95 : decode cX12_thing 95 = .ok (.aload_n 0, 1) := by decide +kernel
theorem dX12_thing_96 : decode cX12_thing 96 = .ok (.dup, 1) := by decide +kernel
theorem dX12_thing_97 : decode cX12_thing 97 = .ok (.getfield 7, 3) := by decide +kernel
theorem dX12_thing_100 : decode cX12_thing 100 = .ok (.iconst 1, 1) := by decide +kernel
theorem dX12_thing_101 : decode cX12_thing 101 = .ok (.iadd, 1) := by decide +kernel
theorem dX12_thing_102 : decode cX12_thing 102 = .ok (.putfield 7, 3) := by decide +kernel
theorem dX12_thing_105 : decode cX12_thing 105 = .ok (.aload_n 0, 1) := by decide +kernel
theorem dX12_thing_106 : decode cX12_thing 106 = .ok (.getfield 7, 3) := by decide +kernel
theorem dX12_thing_109 : decode cX12_thing 109 = .ok (.iconst 1, 1) := by decide +kernel
theorem dX12_thing_110 : decode cX12_thing 110 = .ok (.isub, 1) := by decide +kernel
theorem dX12_thing_111 : decode cX12_thing 111 = .ok (.ireturn, 1) := by decide +kernel
theorem dX12_price_0 : decode cX12_price 0 = .ok (.aload_n 0, 1) := by decide +kernel
theorem dX12_price_1 : decode cX12_price 1 = .ok (.iload_n 1, 1) := by decide +kernel
theorem dX12_price_2 : decode cX12_price 2 = .ok (.invokevirtual 182, 3) := by decide +kernel
theorem dX12_price_5 : decode cX12_price 5 = .ok (.ifCond .ne 5, 3) := by decide +kernel
theorem dX12_price_8 : decode cX12_price 8 = .ok (.iconst (-1), 1) := by decide +kernel
theorem dX12_price_9 : decode cX12_price 9 = .ok (.ireturn, 1) := by decide +kernel
theorem dX12_price_10 : decode cX12_price 10 = .ok (.aload_n 0, 1) := by decide +kernel
theorem dX12_price_11 : decode cX12_price 11 = .ok (.iload_n 2, 1) := by decide +kernel
theorem dX12_price_12 : decode cX12_price 12 = .ok (.iconst 0, 1) := by decide +kernel
theorem dX12_price_13 : decode cX12_price 13 = .ok (.bipush 99, 2) := by decide +kernel
theorem dX12_price_15 : decode cX12_price 15 = .ok (.invokevirtual 178, 3) := by decide +kernel
theorem dX12_price_18 : decode cX12_price 18 = .ok (.ifCond .ne 6, 3) := by decide +kernel
theorem dX12_price_21 : decode cX12_price 21 = .ok (.bipush (-2), 2) := by decide +kernel
theorem dX12_price_23 : decode cX12_price 23 = .ok (.ireturn, 1) := by decide +kernel
theorem dX12_price_24 : decode cX12_price 24 = .ok (.aload_n 0, 1) := by decide +kernel
theorem dX12_price_25 : decode cX12_price 25 = .ok (.getfield 26, 3) := by decide +kernel
theorem dX12_price_28 : decode cX12_price 28 = .ok (.iload_n 1, 1) := by decide +kernel
theorem dX12_price_29 : decode cX12_price 29 = .ok (.iaload, 1) := by decide +kernel
theorem dX12_price_30 : decode cX12_price 30 = .ok (.istore_n 3, 1) := by decide +kernel
theorem dX12_price_31 : decode cX12_price 31 = .ok (.aload_n 0, 1) := by decide +kernel
theorem dX12_price_32 : decode cX12_price 32 = .ok (.getfield 26, 3) := by decide +kernel
theorem dX12_price_35 : decode cX12_price 35 = .ok (.iload_n 1, 1) := by decide +kernel
theorem dX12_price_36 : decode cX12_price 36 = .ok (.iload_n 2, 1) := by decide +kernel
theorem dX12_price_37 : decode cX12_price 37 = .ok (.iastore, 1) := by decide +kernel
theorem dX12_price_38 : decode cX12_price 38 = .ok (.iload_n 3, 1) := by decide +kernel
theorem dX12_price_39 : decode cX12_price 39 = .ok (.ireturn, 1) := by decide +kernel
theorem dX12_taker_0 : decode cX12_taker 0 = .ok (.aload_n 0, 1) := by decide +kernel
theorem dX12_taker_1 : decode cX12_taker 1 = .ok (.iload_n 1, 1) := by decide +kernel
theorem dX12_taker_2 : decode cX12_taker 2 = .ok (.iconst 0, 1) := by decide +kernel
theorem dX12_taker_3 : decode cX12_taker 3 = .ok (.iconst 2, 1) := by decide +kernel
theorem dX12_taker_4 : decode cX12_taker 4 = .ok (.invokevirtual 178, 3) := by decide +kernel
theorem dX12_taker_7 : decode cX12_taker 7 = .ok (.ifCond .ne 6, 3) := by decide +kernel
theorem dX12_taker_10 : decode cX12_taker 10 = .ok (.bipush (-2), 2) := by decide +kernel
theorem dX12_taker_12 : decode cX12_taker 12 = .ok (.ireturn, 1) := by decide +kernel
theorem dX12_taker_13 : decode cX12_taker 13 = .ok (.aload_n 0, 1) := by decide +kernel
theorem dX12_taker_14 : decode cX12_taker 14 = .ok (.getfield 13, 3) := by decide +kernel
theorem dX12_taker_17 : decode cX12_taker 17 = .ok (.bipush 16, 2) := by decide +kernel
theorem dX12_taker_19 : decode cX12_taker 19 = .ok (.if_icmp .ne 6, 3) := by decide +kernel
theorem dX12_taker_22 : decode cX12_taker 22 = .ok (.bipush (-4), 2) := by decide +kernel
theorem dX12_taker_24 : decode cX12_taker 24 = .ok (.ireturn, 1) := by decide +kernel
theorem dX12_taker_25 : decode cX12_taker 25 = .ok (.aload_n 0, 1) := by decide +kernel
theorem dX12_taker_26 : decode cX12_taker 26 = .ok (.getfield 32, 3) := by decide +kernel
theorem dX12_taker_29 : decode cX12_taker 29 = .ok (.aload_n 0, 1) := by decide +kernel
theorem dX12_taker_30 : decode cX12_taker 30 = .ok (.getfield 13, 3) := by decide +kernel
theorem dX12_taker_33 : decode cX12_taker 33 = .ok (.iload_n 1, 1) := by decide +kernel
theorem dX12_taker_34 : decode cX12_taker 34 = .ok (.iastore, 1) := by decide +kernel
theorem dX12_taker_35 : decode cX12_taker 35 = .ok (.aload_n 0, 1) := by decide +kernel
theorem dX12_taker_36 : decode cX12_taker 36 = .ok (.dup, 1) := by decide +kernel
theorem dX12_taker_37 : decode cX12_taker 37 = .ok (.getfield 13, 3) := by decide +kernel
theorem dX12_taker_40 : decode cX12_taker 40 = .ok (.iconst 1, 1) := by decide +kernel
theorem dX12_taker_41 : decode cX12_taker 41 = .ok (.iadd, 1) := by decide +kernel
theorem dX12_taker_42 : decode cX12_taker 42 = .ok (.putfield 13, 3) := by decide +kernel
theorem dX12_taker_45 : decode cX12_taker 45 = .ok (.aload_n 0, 1) := by decide +kernel
theorem dX12_taker_46 : decode cX12_taker 46 = .ok (.getfield 13, 3) := by decide +kernel
theorem dX12_taker_49 : decode cX12_taker 49 = .ok (.iconst 1, 1) := by decide +kernel
theorem dX12_taker_50 : decode cX12_taker 50 = .ok (.isub, 1) := by decide +kernel
theorem dX12_taker_51 : decode cX12_taker 51 = .ok (.ireturn, 1) := by decide +kernel
theorem dX12_choice_0 : decode cX12_choice 0 = .ok (.aload_n 0, 1) := by decide +kernel
theorem dX12_choice_1 : decode cX12_choice 1 = .ok (.iload_n 1, 1) := by decide +kernel
theorem dX12_choice_2 : decode cX12_choice 2 = .ok (.invokevirtual 186, 3) := by decide +kernel
theorem dX12_choice_5 : decode cX12_choice 5 = .ok (.ifCond .ne 5, 3) := by decide +kernel
theorem dX12_choice_8 : decode cX12_choice 8 = .ok (.iconst (-1), 1) := by decide +kernel
theorem dX12_choice_9 : decode cX12_choice 9 = .ok (.ireturn, 1) := by decide +kernel
theorem dX12_choice_10 : decode cX12_choice 10 = .ok (.aload_n 0, 1) := by decide +kernel
theorem dX12_choice_11 : decode cX12_choice 11 = .ok (.iload_n 2, 1) := by decide +kernel
theorem dX12_choice_12 : decode cX12_choice 12 = .ok (.invokevirtual 189, 3) := by decide +kernel
theorem dX12_choice_15 : decode cX12_choice 15 = .ok (.ifCond .eq 29, 3) := by decide +kernel
theorem dX12_choice_18 : decode cX12_choice 18 = .ok (.iload_n 2, 1) := by decide +kernel
theorem dX12_choice_19 : decode cX12_choice 19 = .ok (.ifCond .eq 25, 3) := by decide +kernel
theorem dX12_choice_22 : decode cX12_choice 22 = .ok (.iload_n 3, 1) := by decide +kernel
theorem dX12_choice_23 : decode cX12_choice 23 = .ok (.iconst (-1), 1) := by decide +kernel
theorem dX12_choice_24 : decode cX12_choice 24 = .ok (.if_icmp .eq 23, 3) := by decide +kernel
theorem dX12_choice_27 : decode cX12_choice 27 = .ok (.aload_n 0, 1) := by decide +kernel
theorem dX12_choice_28 : decode cX12_choice 28 = .ok (.iload_n 3, 1) := by decide +kernel
theorem dX12_choice_29 : decode cX12_choice 29 = .ok (.invokevirtual 182, 3) := by decide +kernel
theorem dX12_choice_32 : decode cX12_choice 32 = .ok (.ifCond .eq 12, 3) := by decide +kernel
theorem dX12_choice_35 : decode cX12_choice 35 = .ok (.aload_n 0, 1) := by decide +kernel
theorem dX12_choice_36 : decode cX12_choice 36 = .ok (.iload_n 2, 1) := by decide +kernel
theorem dX12_choice_37 : decode cX12_choice 37 = .ok (.iload_n 3, 1) := by decide +kernel
theorem dX12_choice_38 : decode cX12_choice 38 = .ok (.invokevirtual 192, 3) := by decide +kernel
theorem dX12_choice_41 : decode cX12_choice 41 = .ok (.ifCond .ne 6, 3) := by decide +kernel
theorem dX12_choice_44 : decode cX12_choice 44 = .ok (.bipush (-2), 2) := by decide +kernel
theorem dX12_choice_46 : decode cX12_choice 46 = .ok (.ireturn, 1) := by decide +kernel
theorem dX12_choice_47 : decode cX12_choice 47 = .ok (.aload_n 0, 1) := by decide +kernel
theorem dX12_choice_48 : decode cX12_choice 48 = .ok (.getfield 16, 3) := by decide +kernel
theorem dX12_choice_51 : decode cX12_choice 51 = .ok (.bipush 80, 2) := by decide +kernel
theorem dX12_choice_53 : decode cX12_choice 53 = .ok (.if_icmp .ne 6, 3) := by decide +kernel
theorem dX12_choice_56 : decode cX12_choice 56 = .ok (.bipush (-4), 2) := by decide +kernel
theorem dX12_choice_58 : decode cX12_choice 58 = .ok (.ireturn, 1) := by decide +kernel
theorem dX12_choice_59 : decode cX12_choice 59 = .ok (.aload_n 0, 1) := by decide +kernel
theorem dX12_choice_60 : decode cX12_choice 60 = .ok (.getfield 35, 3) := by decide +kernel
theorem dX12_choice_63 : decode cX12_choice 63 = .ok (.aload_n 0, 1) := by decide +kernel
theorem dX12_choice_64 : decode cX12_choice 64 = .ok (.getfield 16, 3) := by decide +kernel
theorem dX12_choice_67 : decode cX12_choice 67 = .ok (.iload_n 1, 1) := by decide +kernel
theorem dX12_choice_68 : decode cX12_choice 68 = .ok (.iastore, 1) := by decide +kernel
theorem dX12_choice_69 : decode cX12_choice 69 = .ok (.aload_n 0, 1) := by decide +kernel
theorem dX12_choice_70 : decode cX12_choice 70 = .ok (.getfield 38, 3) := by decide +kernel
theorem dX12_choice_73 : decode cX12_choice 73 = .ok (.aload_n 0, 1) := by decide +kernel
theorem dX12_choice_74 : decode cX12_choice 74 = .ok (.getfield 16, 3) := by decide +kernel
theorem dX12_choice_77 : decode cX12_choice 77 = .ok (.iload_n 2, 1) := by decide +kernel
theorem dX12_choice_78 : decode cX12_choice 78 = .ok (.iastore, 1) := by decide +kernel
theorem dX12_choice_79 : decode cX12_choice 79 = .ok (.aload_n 0, 1) := by decide +kernel
theorem dX12_choice_80 : decode cX12_choice 80 = .ok (.getfield 41, 3) := by decide +kernel
theorem dX12_choice_83 : decode cX12_choice 83 = .ok (.aload_n 0, 1) := by decide +kernel
theorem dX12_choice_84 : decode cX12_choice 84 = .ok (.getfield 16, 3) := by decide +kernel
theorem dX12_choice_87 : decode cX12_choice 87 = .ok (.iload_n 3, 1) := by decide +kernel
theorem dX12_choice_88 : decode cX12_choice 88 = .ok (.iastore, 1) := by decide +kernel
theorem dX12_choice_89 : decode cX12_choice 89 = .ok (.aload_n 0, 1) := by decide +kernel
theorem dX12_choice_90 : decode cX12_choice 90 = .ok (.getfield 44, 3) := by decide +kernel
theorem dX12_choice_93 : decode cX12_choice 93 = .ok (.aload_n 0, 1) := by decide +kernel
theorem dX12_choice_94 : decode cX12_choice 94 = .ok (.getfield 16, 3) := by decide +kernel
theorem dX12_choice_97 : decode cX12_choice 97 = .ok (.iconst 0, 1) := by decide +kernel
theorem dX12_choice_98 : decode cX12_choice 98 = .ok (.iastore, 1) := by decide +kernel
theorem dX12_choice_99 : decode cX12_choice 99 = .ok (.aload_n 0, 1) := by decide +kernel
theorem dX12_choice_100 : decode cX12_choice 100 = .ok (.getfield 150, 3) := by decide +kernel
theorem dX12_choice_103 : decode cX12_choice 103 = .ok (.iload_n 1, 1) := by decide +kernel
theorem dX12_choice_104 : decode cX12_choice 104 = .ok (.iconst 0, 1) := by decide +kernel
theorem dX12_choice_105 : decode cX12_choice 105 = .ok (.bastore, 1) := by decide +kernel
theorem dX12_choice_106 : decode cX12_choice 106 = .ok (.aload_n 0, 1) := by decide +kernel
theorem dX12_choice_107 : decode cX12_choice 107 = .ok (.dup, 1) := by decide +kernel
theorem dX12_choice_108 : decode cX12_choice 108 = .ok (.getfield 16, 3) := by decide +kernel
theorem dX12_choice_111 : decode cX12_choice 111 = .ok (.iconst 1, 1) := by decide +kernel
theorem dX12_choice_112 : decode cX12_choice 112 = .ok (.iadd, 1) := by decide +kernel
theorem dX12_choice_113 : decode cX12_choice 113 = .ok (.putfield 16, 3) := by decide +kernel
theorem dX12_choice_116 : decode cX12_choice 116 = .ok (.aload_n 0, 1) := by decide +kernel
theorem dX12_choice_117 : decode cX12_choice 117 = .ok (.getfield 16, 3) := by decide +kernel
theorem dX12_choice_120 : decode cX12_choice 120 = .ok (.iconst 1, 1) := by decide +kernel
theorem dX12_choice_121 : decode cX12_choice 121 = .ok (.isub, 1) := by decide +kernel
theorem dX12_choice_122 : decode cX12_choice 122 = .ok (.ireturn, 1) := by decide +kernel
theorem dX12_put_0 : decode cX12_put 0 = .ok (.aload_n 0, 1) := by decide +kernel
theorem dX12_put_1 : decode cX12_put 1 = .ok (.iload_n 1, 1) := by decide +kernel
theorem dX12_put_2 : decode cX12_put 2 = .ok (.invokevirtual 196, 3) := by decide +kernel
theorem dX12_put_5 : decode cX12_put 5 = .ok (.ifCond .ne 5, 3) := by decide +kernel
theorem dX12_put_8 : decode cX12_put 8 = .ok (.iconst (-1), 1) := by decide +kernel
theorem dX12_put_9 : decode cX12_put 9 = .ok (.ireturn, 1) := by decide +kernel
theorem dX12_put_10 : decode cX12_put 10 = .ok (.aload_n 0, 1) := by decide +kernel
theorem dX12_put_11 : decode cX12_put 11 = .ok (.iload_n 2, 1) := by decide +kernel
theorem dX12_put_12 : decode cX12_put 12 = .ok (.iconst 0, 1) := by decide +kernel
theorem dX12_put_13 : decode cX12_put 13 = .ok (.iconst 2, 1) := by decide +kernel
theorem dX12_put_14 : decode cX12_put 14 = .ok (.invokevirtual 178, 3) := by decide +kernel
theorem dX12_put_17 : decode cX12_put 17 = .ok (.ifCond .ne 6, 3) := by decide +kernel
theorem dX12_put_20 : decode cX12_put 20 = .ok (.bipush (-2), 2) := by decide +kernel
theorem dX12_put_22 : decode cX12_put 22 = .ok (.ireturn, 1) := by decide +kernel
theorem dX12_put_23 : decode cX12_put 23 = .ok (.aload_n 0, 1) := by decide +kernel
theorem dX12_put_24 : decode cX12_put 24 = .ok (.getfield 44, 3) := by decide +kernel
theorem dX12_put_27 : decode cX12_put 27 = .ok (.iload_n 1, 1) := by decide +kernel
theorem dX12_put_28 : decode cX12_put 28 = .ok (.iaload, 1) := by decide +kernel
theorem dX12_put_29 : decode cX12_put 29 = .ok (.istore_n 3, 1) := by decide +kernel
theorem dX12_put_30 : decode cX12_put 30 = .ok (.aload_n 0, 1) := by decide +kernel
theorem dX12_put_31 : decode cX12_put 31 = .ok (.getfield 44, 3) := by decide +kernel
theorem dX12_put_34 : decode cX12_put 34 = .ok (.iload_n 1, 1) := by decide +kernel
theorem dX12_put_35 : decode cX12_put 35 = .ok (.iload_n 2, 1) := by decide +kernel
theorem dX12_put_36 : decode cX12_put 36 = .ok (.iastore, 1) := by decide +kernel
theorem dX12_put_37 : decode cX12_put 37 = .ok (.aload_n 0, 1) := by decide +kernel
theorem dX12_put_38 : decode cX12_put 38 = .ok (.getfield 150, 3) := by decide +kernel
theorem dX12_put_41 : decode cX12_put 41 = .ok (.aload_n 0, 1) := by decide +kernel
theorem dX12_put_42 : decode cX12_put 42 = .ok (.getfield 35, 3) := by decide +kernel
theorem dX12_put_45 : decode cX12_put 45 = .ok (.iload_n 1, 1) := by decide +kernel
theorem dX12_put_46 : decode cX12_put 46 = .ok (.iaload, 1) := by decide +kernel
theorem dX12_put_47 : decode cX12_put 47 = .ok (.iconst 0, 1) := by decide +kernel
theorem dX12_put_48 : decode cX12_put 48 = .ok (.bastore, 1) := by decide +kernel
theorem dX12_put_49 : decode cX12_put 49 = .ok (.iload_n 3, 1) := by decide +kernel
theorem dX12_put_50 : decode cX12_put 50 = .ok (.ireturn, 1) := by decide +kernel
theorem dX12_of_0 : decode cX12_of 0 = .ok (.aload_n 0, 1) := by decide +kernel
theorem dX12_of_1 : decode cX12_of 1 = .ok (.iload_n 1, 1) := by decide +kernel
theorem dX12_of_2 : decode cX12_of 2 = .ok (.invokevirtual 196, 3) := by decide +kernel
theorem dX12_of_5 : decode cX12_of 5 = .ok (.ifCond .ne 5, 3) := by decide +kernel
theorem dX12_of_8 : decode cX12_of 8 = .ok (.iconst (-1), 1) := by decide +kernel
theorem dX12_of_9 : decode cX12_of 9 = .ok (.ireturn, 1) := by decide +kernel
theorem dX12_of_10 : decode cX12_of 10 = .ok (.iload_n 2, 1) := by decide +kernel
theorem dX12_of_11 : decode cX12_of 11 = .ok (.tableswitch 71 0 3 #[29, 36, 43, 64], 29) := by decide +kernel
theorem dX12_of_40 : decode cX12_of 40 = .ok (.aload_n 0, 1) := by decide +kernel
theorem dX12_of_41 : decode cX12_of 41 = .ok (.getfield 35, 3) := by decide +kernel
theorem dX12_of_44 : decode cX12_of 44 = .ok (.iload_n 1, 1) := by decide +kernel
theorem dX12_of_45 : decode cX12_of 45 = .ok (.iaload, 1) := by decide +kernel
theorem dX12_of_46 : decode cX12_of 46 = .ok (.ireturn, 1) := by decide +kernel
theorem dX12_of_47 : decode cX12_of 47 = .ok (.aload_n 0, 1) := by decide +kernel
theorem dX12_of_48 : decode cX12_of 48 = .ok (.getfield 38, 3) := by decide +kernel
theorem dX12_of_51 : decode cX12_of 51 = .ok (.iload_n 1, 1) := by decide +kernel
theorem dX12_of_52 : decode cX12_of 52 = .ok (.iaload, 1) := by decide +kernel
theorem dX12_of_53 : decode cX12_of 53 = .ok (.ireturn, 1) := by decide +kernel
theorem dX12_of_54 : decode cX12_of 54 = .ok (.aload_n 0, 1) := by decide +kernel
theorem dX12_of_55 : decode cX12_of 55 = .ok (.getfield 41, 3) := by decide +kernel
theorem dX12_of_58 : decode cX12_of 58 = .ok (.iload_n 1, 1) := by decide +kernel
theorem dX12_of_59 : decode cX12_of 59 = .ok (.iaload, 1) := by decide +kernel
theorem dX12_of_60 : decode cX12_of 60 = .ok (.ifCond .ge 8, 3) := by decide +kernel
theorem dX12_of_63 : decode cX12_of 63 = .ok (.bipush (-5), 2) := by decide +kernel
theorem dX12_of_65 : decode cX12_of 65 = .ok (.goto 9, 3) := by decide +kernel
theorem dX12_of_68 : decode cX12_of 68 = .ok (.aload_n 0, 1) := by decide +kernel
theorem dX12_of_69 : decode cX12_of 69 = .ok (.getfield 41, 3) := by decide +kernel
theorem dX12_of_72 : decode cX12_of 72 = .ok (.iload_n 1, 1) := by decide +kernel
theorem dX12_of_73 : decode cX12_of 73 = .ok (.iaload, 1) := by decide +kernel
theorem dX12_of_74 : decode cX12_of 74 = .ok (.ireturn, 1) := by decide +kernel
theorem dX12_of_75 : decode cX12_of 75 = .ok (.aload_n 0, 1) := by decide +kernel
theorem dX12_of_76 : decode cX12_of 76 = .ok (.getfield 44, 3) := by decide +kernel
theorem dX12_of_79 : decode cX12_of 79 = .ok (.iload_n 1, 1) := by decide +kernel
theorem dX12_of_80 : decode cX12_of 80 = .ok (.iaload, 1) := by decide +kernel
theorem dX12_of_81 : decode cX12_of 81 = .ok (.ireturn, 1) := by decide +kernel
theorem dX12_of_82 : decode cX12_of 82 = .ok (.iconst (-1), 1) := by decide +kernel
theorem dX12_of_83 : decode cX12_of 83 = .ok (.ireturn, 1) := by decide +kernel
theorem dX12_feed_0 : decode cX12_feed 0 = .ok (.aload_n 0, 1) := by decide +kernel
theorem dX12_feed_1 : decode cX12_feed 1 = .ok (.iload_n 2, 1) := by decide +kernel
theorem dX12_feed_2 : decode cX12_feed 2 = .ok (.iconst 0, 1) := by decide +kernel
theorem dX12_feed_3 : decode cX12_feed 3 = .ok (.iconst 4, 1) := by decide +kernel
theorem dX12_feed_4 : decode cX12_feed 4 = .ok (.invokevirtual 178, 3) := by decide +kernel
theorem dX12_feed_7 : decode cX12_feed 7 = .ok (.ifCond .ne 6, 3) := by decide +kernel
theorem dX12_feed_10 : decode cX12_feed 10 = .ok (.bipush (-2), 2) := by decide +kernel
theorem dX12_feed_12 : decode cX12_feed 12 = .ok (.ireturn, 1) := by decide +kernel
theorem dX12_feed_13 : decode cX12_feed 13 = .ok (.aload_n 0, 1) := by decide +kernel
theorem dX12_feed_14 : decode cX12_feed 14 = .ok (.getfield 53, 3) := by decide +kernel
theorem dX12_feed_17 : decode cX12_feed 17 = .ok (.iload_n 2, 1) := by decide +kernel
theorem dX12_feed_18 : decode cX12_feed 18 = .ok (.iadd, 1) := by decide +kernel
theorem dX12_feed_19 : decode cX12_feed 19 = .ok (.bipush 120, 2) := by decide +kernel
theorem dX12_feed_21 : decode cX12_feed 21 = .ok (.if_icmp .le 6, 3) := by decide +kernel
theorem dX12_feed_24 : decode cX12_feed 24 = .ok (.bipush (-4), 2) := by decide +kernel
theorem dX12_feed_26 : decode cX12_feed 26 = .ok (.ireturn, 1) := by decide +kernel
theorem dX12_feed_27 : decode cX12_feed 27 = .ok (.iload_n 2, 1) := by decide +kernel
theorem dX12_feed_28 : decode cX12_feed 28 = .ok (.iconst 1, 1) := by decide +kernel
theorem dX12_feed_29 : decode cX12_feed 29 = .ok (.isub, 1) := by decide +kernel
theorem dX12_feed_30 : decode cX12_feed 30 = .ok (.istore_n 3, 1) := by decide +kernel
theorem dX12_feed_31 : decode cX12_feed 31 = .ok (.iload_n 3, 1) := by decide +kernel
theorem dX12_feed_32 : decode cX12_feed 32 = .ok (.ifCond .lt 39, 3) := by decide +kernel
theorem dX12_feed_35 : decode cX12_feed 35 = .ok (.aload_n 0, 1) := by decide +kernel
theorem dX12_feed_36 : decode cX12_feed 36 = .ok (.getfield 59, 3) := by decide +kernel
theorem dX12_feed_39 : decode cX12_feed 39 = .ok (.sipush 1200, 3) := by decide +kernel
theorem dX12_feed_42 : decode cX12_feed 42 = .ok (.aload_n 0, 1) := by decide +kernel
theorem dX12_feed_43 : decode cX12_feed 43 = .ok (.getfield 53, 3) := by decide +kernel
theorem dX12_feed_46 : decode cX12_feed 46 = .ok (.iadd, 1) := by decide +kernel
theorem dX12_feed_47 : decode cX12_feed 47 = .ok (.iload_n 1, 1) := by decide +kernel
theorem dX12_feed_48 : decode cX12_feed 48 = .ok (.bipush 8, 2) := by decide +kernel
theorem dX12_feed_50 : decode cX12_feed 50 = .ok (.iload_n 3, 1) := by decide +kernel
theorem dX12_feed_51 : decode cX12_feed 51 = .ok (.imul, 1) := by decide +kernel
theorem dX12_feed_52 : decode cX12_feed 52 = .ok (.ishr, 1) := by decide +kernel
theorem dX12_feed_53 : decode cX12_feed 53 = .ok (.i2b, 1) := by decide +kernel
theorem dX12_feed_54 : decode cX12_feed 54 = .ok (.iastore, 1) := by decide +kernel
theorem dX12_feed_55 : decode cX12_feed 55 = .ok (.aload_n 0, 1) := by decide +kernel
theorem dX12_feed_56 : decode cX12_feed 56 = .ok (.dup, 1) := by decide +kernel
theorem dX12_feed_57 : decode cX12_feed 57 = .ok (.getfield 53, 3) := by decide +kernel
theorem dX12_feed_60 : decode cX12_feed 60 = .ok (.iconst 1, 1) := by decide +kernel
theorem dX12_feed_61 : decode cX12_feed 61 = .ok (.iadd, 1) := by decide +kernel
theorem dX12_feed_62 : decode cX12_feed 62 = .ok (.putfield 53, 3) := by decide +kernel
theorem dX12_feed_65 : decode cX12_feed 65 = .ok (.iinc 3 (-1), 3) := by decide +kernel
theorem dX12_feed_68 : decode cX12_feed 68 = .ok (.goto (-37), 3) := by decide +kernel
theorem dX12_feed_71 : decode cX12_feed 71 = .ok (.aload_n 0, 1) := by decide +kernel
theorem dX12_feed_72 : decode cX12_feed 72 = .ok (.getfield 53, 3) := by decide +kernel
theorem dX12_feed_75 : decode cX12_feed 75 = .ok (.ireturn, 1) := by decide +kernel
theorem dX12_nextByte_0 : decode cX12_nextByte 0 = .ok (.aload_n 0, 1) := by decide +kernel
theorem dX12_nextByte_1 : decode cX12_nextByte 1 = .ok (.getfield 74, 3) := by decide +kernel
theorem dX12_nextByte_4 : decode cX12_nextByte 4 = .ok (.aload_n 0, 1) := by decide +kernel
theorem dX12_nextByte_5 : decode cX12_nextByte 5 = .ok (.getfield 71, 3) := by decide +kernel
theorem dX12_nextByte_8 : decode cX12_nextByte 8 = .ok (.if_icmp .ge 20, 3) := by decide +kernel
theorem dX12_nextByte_11 : decode cX12_nextByte 11 = .ok (.aload_n 0, 1) := by decide +kernel
theorem dX12_nextByte_12 : decode cX12_nextByte 12 = .ok (.getfield 59, 3) := by decide +kernel
theorem dX12_nextByte_15 : decode cX12_nextByte 15 = .ok (.aload_n 0, 1) := by decide +kernel
theorem dX12_nextByte_16 : decode cX12_nextByte 16 = .ok (.getfield 68, 3) := by decide +kernel
theorem dX12_nextByte_19 : decode cX12_nextByte 19 = .ok (.aload_n 0, 1) := by decide +kernel
theorem dX12_nextByte_20 : decode cX12_nextByte 20 = .ok (.getfield 74, 3) := by decide +kernel
theorem dX12_nextByte_23 : decode cX12_nextByte 23 = .ok (.iadd, 1) := by decide +kernel
theorem dX12_nextByte_24 : decode cX12_nextByte 24 = .ok (.iaload, 1) := by decide +kernel
theorem dX12_nextByte_25 : decode cX12_nextByte 25 = .ok (.goto 4, 3) := by decide +kernel
theorem dX12_nextByte_28 : decode cX12_nextByte 28 = .ok (.iconst (-1), 1) := by decide +kernel
theorem dX12_nextByte_29 : decode cX12_nextByte 29 = .ok (.ireturn, 1) := by decide +kernel
theorem dX12_isDigit_0 : decode cX12_isDigit 0 = .ok (.aload_n 0, 1) := by decide +kernel
theorem dX12_isDigit_1 : decode cX12_isDigit 1 = .ok (.aload_n 0, 1) := by decide +kernel
theorem dX12_isDigit_2 : decode cX12_isDigit 2 = .ok (.invokevirtual 199, 3) := by decide +kernel
theorem dX12_isDigit_5 : decode cX12_isDigit 5 = .ok (.bipush 48, 2) := by decide +kernel
theorem dX12_isDigit_7 : decode cX12_isDigit 7 = .ok (.bipush 57, 2) := by decide +kernel
theorem dX12_isDigit_9 : decode cX12_isDigit 9 = .ok (.invokevirtual 178, 3) := by decide +kernel
theorem dX12_isDigit_12 : decode cX12_isDigit 12 = .ok (.ireturn, 1) := by decide +kernel
theorem dX12_takes_0 : decode cX12_takes 0 = .ok (.aload_n 0, 1) := by decide +kernel
theorem dX12_takes_1 : decode cX12_takes 1 = .ok (.invokevirtual 199, 3) := by decide +kernel
theorem dX12_takes_4 : decode cX12_takes 4 = .ok (.iload_n 1, 1) := by decide +kernel
theorem dX12_takes_5 : decode cX12_takes 5 = .ok (.if_icmp .eq 5, 3) := by decide +kernel
theorem dX12_takes_8 : decode cX12_takes 8 = .ok (.iconst 0, 1) := by decide +kernel
theorem dX12_takes_9 : decode cX12_takes 9 = .ok (.ireturn, 1) := by decide +kernel
theorem dX12_takes_10 : decode cX12_takes 10 = .ok (.aload_n 0, 1) := by decide +kernel
theorem dX12_takes_11 : decode cX12_takes 11 = .ok (.dup, 1) := by decide +kernel
theorem dX12_takes_12 : decode cX12_takes 12 = .ok (.getfield 74, 3) := by decide +kernel
theorem dX12_takes_15 : decode cX12_takes 15 = .ok (.iconst 1, 1) := by decide +kernel
theorem dX12_takes_16 : decode cX12_takes 16 = .ok (.iadd, 1) := by decide +kernel
theorem dX12_takes_17 : decode cX12_takes 17 = .ok (.putfield 74, 3) := by decide +kernel
theorem dX12_takes_20 : decode cX12_takes 20 = .ok (.iconst 1, 1) := by decide +kernel
theorem dX12_takes_21 : decode cX12_takes 21 = .ok (.ireturn, 1) := by decide +kernel
theorem dX12_takesWord_0 : decode cX12_takesWord 0 = .ok (.iload_n 2, 1) := by decide +kernel
theorem dX12_takesWord_1 : decode cX12_takesWord 1 = .ok (.iconst 1, 1) := by decide +kernel
theorem dX12_takesWord_2 : decode cX12_takesWord 2 = .ok (.isub, 1) := by decide +kernel
theorem dX12_takesWord_3 : decode cX12_takesWord 3 = .ok (.istore_n 3, 1) := by decide +kernel
theorem dX12_takesWord_4 : decode cX12_takesWord 4 = .ok (.iload_n 3, 1) := by decide +kernel
theorem dX12_takesWord_5 : decode cX12_takesWord 5 = .ok (.ifCond .lt 29, 3) := by decide +kernel
theorem dX12_takesWord_8 : decode cX12_takesWord 8 = .ok (.aload_n 0, 1) := by decide +kernel
theorem dX12_takesWord_9 : decode cX12_takesWord 9 = .ok (.bipush 96, 2) := by decide +kernel
theorem dX12_takesWord_11 : decode cX12_takesWord 11 = .ok (.iload_n 1, 1) := by decide +kernel
theorem dX12_takesWord_12 : decode cX12_takesWord 12 = .ok (.iconst 5, 1) := by decide +kernel
theorem dX12_takesWord_13 : decode cX12_takesWord 13 = .ok (.iload_n 3, 1) := by decide +kernel
theorem dX12_takesWord_14 : decode cX12_takesWord 14 = .ok (.imul, 1) := by decide +kernel
theorem dX12_takesWord_15 : decode cX12_takesWord 15 = .ok (.ishr, 1) := by decide +kernel
theorem dX12_takesWord_16 : decode cX12_takesWord 16 = .ok (.bipush 31, 2) := by decide +kernel
theorem dX12_takesWord_18 : decode cX12_takesWord 18 = .ok (.iand, 1) := by decide +kernel
theorem dX12_takesWord_19 : decode cX12_takesWord 19 = .ok (.iadd, 1) := by decide +kernel
theorem dX12_takesWord_20 : decode cX12_takesWord 20 = .ok (.invokevirtual 203, 3) := by decide +kernel
theorem dX12_takesWord_23 : decode cX12_takesWord 23 = .ok (.ifCond .ne 5, 3) := by decide +kernel
theorem dX12_takesWord_26 : decode cX12_takesWord 26 = .ok (.iconst 0, 1) := by decide +kernel
theorem dX12_takesWord_27 : decode cX12_takesWord 27 = .ok (.ireturn, 1) := by decide +kernel
theorem dX12_takesWord_28 : decode cX12_takesWord 28 = .ok (.iinc 3 (-1), 3) := by decide +kernel
theorem dX12_takesWord_31 : decode cX12_takesWord 31 = .ok (.goto (-27), 3) := by decide +kernel
theorem dX12_takesWord_34 : decode cX12_takesWord 34 = .ok (.aload_n 0, 1) := by decide +kernel
theorem dX12_takesWord_35 : decode cX12_takesWord 35 = .ok (.bipush 32, 2) := by decide +kernel
theorem dX12_takesWord_37 : decode cX12_takesWord 37 = .ok (.invokevirtual 203, 3) := by decide +kernel
theorem dX12_takesWord_40 : decode cX12_takesWord 40 = .ok (.ireturn, 1) := by decide +kernel
theorem dX12_takesNumber_0 : decode cX12_takesNumber 0 = .ok (.aload_n 0, 1) := by decide +kernel
theorem dX12_takesNumber_1 : decode cX12_takesNumber 1 = .ok (.invokevirtual 206, 3) := by decide +kernel
theorem dX12_takesNumber_4 : decode cX12_takesNumber 4 = .ok (.ifCond .ne 5, 3) := by decide +kernel
theorem dX12_takesNumber_7 : decode cX12_takesNumber 7 = .ok (.iconst 0, 1) := by decide +kernel
theorem dX12_takesNumber_8 : decode cX12_takesNumber 8 = .ok (.ireturn, 1) := by decide +kernel
theorem dX12_takesNumber_9 : decode cX12_takesNumber 9 = .ok (.aload_n 0, 1) := by decide +kernel
theorem dX12_takesNumber_10 : decode cX12_takesNumber 10 = .ok (.iconst 0, 1) := by decide +kernel
theorem dX12_takesNumber_11 : decode cX12_takesNumber 11 = .ok (.putfield 80, 3) := by decide +kernel
theorem dX12_takesNumber_14 : decode cX12_takesNumber 14 = .ok (.iconst 0, 1) := by decide +kernel
theorem dX12_takesNumber_15 : decode cX12_takesNumber 15 = .ok (.istore_n 1, 1) := by decide +kernel
theorem dX12_takesNumber_16 : decode cX12_takesNumber 16 = .ok (.iload_n 1, 1) := by decide +kernel
theorem dX12_takesNumber_17 : decode cX12_takesNumber 17 = .ok (.iconst 3, 1) := by decide +kernel
theorem dX12_takesNumber_18 : decode cX12_takesNumber 18 = .ok (.if_icmp .ge 45, 3) := by decide +kernel
theorem dX12_takesNumber_21 : decode cX12_takesNumber 21 = .ok (.aload_n 0, 1) := by decide +kernel
theorem dX12_takesNumber_22 : decode cX12_takesNumber 22 = .ok (.invokevirtual 206, 3) := by decide +kernel
theorem dX12_takesNumber_25 : decode cX12_takesNumber 25 = .ok (.ifCond .eq 38, 3) := by decide +kernel
theorem dX12_takesNumber_28 : decode cX12_takesNumber 28 = .ok (.aload_n 0, 1) := by decide +kernel
theorem dX12_takesNumber_29 : decode cX12_takesNumber 29 = .ok (.bipush 10, 2) := by decide +kernel
theorem dX12_takesNumber_31 : decode cX12_takesNumber 31 = .ok (.aload_n 0, 1) := by decide +kernel
theorem dX12_takesNumber_32 : decode cX12_takesNumber 32 = .ok (.getfield 80, 3) := by decide +kernel
theorem dX12_takesNumber_35 : decode cX12_takesNumber 35 = .ok (.imul, 1) := by decide +kernel
theorem dX12_takesNumber_36 : decode cX12_takesNumber 36 = .ok (.aload_n 0, 1) := by decide +kernel
theorem dX12_takesNumber_37 : decode cX12_takesNumber 37 = .ok (.invokevirtual 199, 3) := by decide +kernel
theorem dX12_takesNumber_40 : decode cX12_takesNumber 40 = .ok (.iadd, 1) := by decide +kernel
theorem dX12_takesNumber_41 : decode cX12_takesNumber 41 = .ok (.bipush 48, 2) := by decide +kernel
theorem dX12_takesNumber_43 : decode cX12_takesNumber 43 = .ok (.isub, 1) := by decide +kernel
theorem dX12_takesNumber_44 : decode cX12_takesNumber 44 = .ok (.putfield 80, 3) := by decide +kernel
theorem dX12_takesNumber_47 : decode cX12_takesNumber 47 = .ok (.aload_n 0, 1) := by decide +kernel
theorem dX12_takesNumber_48 : decode cX12_takesNumber 48 = .ok (.dup, 1) := by decide +kernel
theorem dX12_takesNumber_49 : decode cX12_takesNumber 49 = .ok (.getfield 74, 3) := by decide +kernel
theorem dX12_takesNumber_52 : decode cX12_takesNumber 52 = .ok (.iconst 1, 1) := by decide +kernel
theorem dX12_takesNumber_53 : decode cX12_takesNumber 53 = .ok (.iadd, 1) := by decide +kernel
theorem dX12_takesNumber_54 : decode cX12_takesNumber 54 = .ok (.putfield 74, 3) := by decide +kernel
theorem dX12_takesNumber_57 : decode cX12_takesNumber 57 = .ok (.iinc 1 1, 3) := by decide +kernel
theorem dX12_takesNumber_60 : decode cX12_takesNumber 60 = .ok (.goto (-44), 3) := by decide +kernel
theorem dX12_takesNumber_63 : decode cX12_takesNumber 63 = .ok (.iconst 1, 1) := by decide +kernel
theorem dX12_takesNumber_64 : decode cX12_takesNumber 64 = .ok (.ireturn, 1) := by decide +kernel
theorem dX12_takesFigure_0 : decode cX12_takesFigure 0 = .ok (.aload_n 0, 1) := by decide +kernel
theorem dX12_takesFigure_1 : decode cX12_takesFigure 1 = .ok (.aload_n 0, 1) := by decide +kernel
theorem dX12_takesFigure_2 : decode cX12_takesFigure 2 = .ok (.invokevirtual 199, 3) := by decide +kernel
theorem dX12_takesFigure_5 : decode cX12_takesFigure 5 = .ok (.bipush 48, 2) := by decide +kernel
theorem dX12_takesFigure_7 : decode cX12_takesFigure 7 = .ok (.isub, 1) := by decide +kernel
theorem dX12_takesFigure_8 : decode cX12_takesFigure 8 = .ok (.iload_n 1, 1) := by decide +kernel
theorem dX12_takesFigure_9 : decode cX12_takesFigure 9 = .ok (.iload_n 2, 1) := by decide +kernel
theorem dX12_takesFigure_10 : decode cX12_takesFigure 10 = .ok (.invokevirtual 178, 3) := by decide +kernel
theorem dX12_takesFigure_13 : decode cX12_takesFigure 13 = .ok (.ifCond .ne 5, 3) := by decide +kernel
theorem dX12_takesFigure_16 : decode cX12_takesFigure 16 = .ok (.iconst 0, 1) := by decide +kernel
theorem dX12_takesFigure_17 : decode cX12_takesFigure 17 = .ok (.ireturn, 1) := by decide +kernel
theorem dX12_takesFigure_18 : decode cX12_takesFigure 18 = .ok (.aload_n 0, 1) := by decide +kernel
theorem dX12_takesFigure_19 : decode cX12_takesFigure 19 = .ok (.aload_n 0, 1) := by decide +kernel
theorem dX12_takesFigure_20 : decode cX12_takesFigure 20 = .ok (.invokevirtual 199, 3) := by decide +kernel
theorem dX12_takesFigure_23 : decode cX12_takesFigure 23 = .ok (.bipush 48, 2) := by decide +kernel
theorem dX12_takesFigure_25 : decode cX12_takesFigure 25 = .ok (.isub, 1) := by decide +kernel
theorem dX12_takesFigure_26 : decode cX12_takesFigure 26 = .ok (.putfield 80, 3) := by decide +kernel
theorem dX12_takesFigure_29 : decode cX12_takesFigure 29 = .ok (.aload_n 0, 1) := by decide +kernel
theorem dX12_takesFigure_30 : decode cX12_takesFigure 30 = .ok (.dup, 1) := by decide +kernel
theorem dX12_takesFigure_31 : decode cX12_takesFigure 31 = .ok (.getfield 74, 3) := by decide +kernel
theorem dX12_takesFigure_34 : decode cX12_takesFigure 34 = .ok (.iconst 1, 1) := by decide +kernel
theorem dX12_takesFigure_35 : decode cX12_takesFigure 35 = .ok (.iadd, 1) := by decide +kernel
theorem dX12_takesFigure_36 : decode cX12_takesFigure 36 = .ok (.putfield 74, 3) := by decide +kernel
theorem dX12_takesFigure_39 : decode cX12_takesFigure 39 = .ok (.iconst 1, 1) := by decide +kernel
theorem dX12_takesFigure_40 : decode cX12_takesFigure 40 = .ok (.ireturn, 1) := by decide +kernel
theorem dX12_push_0 : decode cX12_push 0 = .ok (.iload_n 1, 1) := by decide +kernel
theorem dX12_push_1 : decode cX12_push 1 = .ok (.istore_n 2, 1) := by decide +kernel
theorem dX12_push_2 : decode cX12_push 2 = .ok (.aload_n 0, 1) := by decide +kernel
theorem dX12_push_3 : decode cX12_push 3 = .ok (.getfield 120, 3) := by decide +kernel
theorem dX12_push_6 : decode cX12_push 6 = .ok (.ifCond .le 52, 3) := by decide +kernel
theorem dX12_push_9 : decode cX12_push 9 = .ok (.aload_n 0, 1) := by decide +kernel
theorem dX12_push_10 : decode cX12_push 10 = .ok (.getfield 114, 3) := by decide +kernel
theorem dX12_push_13 : decode cX12_push 13 = .ok (.aload_n 0, 1) := by decide +kernel
theorem dX12_push_14 : decode cX12_push 14 = .ok (.getfield 120, 3) := by decide +kernel
theorem dX12_push_17 : decode cX12_push 17 = .ok (.iconst 1, 1) := by decide +kernel
theorem dX12_push_18 : decode cX12_push 18 = .ok (.isub, 1) := by decide +kernel
theorem dX12_push_19 : decode cX12_push 19 = .ok (.iaload, 1) := by decide +kernel
theorem dX12_push_20 : decode cX12_push 20 = .ok (.bipush 33, 2) := by decide +kernel
theorem dX12_push_22 : decode cX12_push 22 = .ok (.if_icmp .ne 36, 3) := by decide +kernel
theorem dX12_push_25 : decode cX12_push 25 = .ok (.iload_n 2, 1) := by decide +kernel
theorem dX12_push_26 : decode cX12_push 26 = .ok (.ifCond .ne 7, 3) := by decide +kernel
theorem dX12_push_29 : decode cX12_push 29 = .ok (.iconst 1, 1) := by decide +kernel
theorem dX12_push_30 : decode cX12_push 30 = .ok (.goto 4, 3) := by decide +kernel
theorem dX12_push_33 : decode cX12_push 33 = .ok (.iconst 0, 1) := by decide +kernel
theorem dX12_push_34 : decode cX12_push 34 = .ok (.istore_n 2, 1) := by decide +kernel
theorem dX12_push_35 : decode cX12_push 35 = .ok (.aload_n 0, 1) := by decide +kernel
theorem dX12_push_36 : decode cX12_push 36 = .ok (.dup, 1) := by decide +kernel
theorem dX12_push_37 : decode cX12_push 37 = .ok (.getfield 120, 3) := by decide +kernel
theorem dX12_push_40 : decode cX12_push 40 = .ok (.iconst 1, 1) := by decide +kernel
theorem dX12_push_41 : decode cX12_push 41 = .ok (.isub, 1) := by decide +kernel
theorem dX12_push_42 : decode cX12_push 42 = .ok (.putfield 120, 3) := by decide +kernel
theorem dX12_push_45 : decode cX12_push 45 = .ok (.aload_n 0, 1) := by decide +kernel
theorem dX12_push_46 : decode cX12_push 46 = .ok (.dup, 1) := by decide +kernel
theorem dX12_push_47 : decode cX12_push 47 = .ok (.getfield 126, 3) := by decide +kernel
theorem dX12_push_50 : decode cX12_push 50 = .ok (.iconst 1, 1) := by decide +kernel
theorem dX12_push_51 : decode cX12_push 51 = .ok (.isub, 1) := by decide +kernel
theorem dX12_push_52 : decode cX12_push 52 = .ok (.putfield 126, 3) := by decide +kernel
theorem dX12_push_55 : decode cX12_push 55 = .ok (.goto (-53), 3) := by decide +kernel
theorem dX12_push_58 : decode cX12_push 58 = .ok (.aload_n 0, 1) := by decide +kernel
theorem dX12_push_59 : decode cX12_push 59 = .ok (.getfield 117, 3) := by decide +kernel
theorem dX12_push_62 : decode cX12_push 62 = .ok (.aload_n 0, 1) := by decide +kernel
theorem dX12_push_63 : decode cX12_push 63 = .ok (.getfield 123, 3) := by decide +kernel
theorem dX12_push_66 : decode cX12_push 66 = .ok (.iload_n 2, 1) := by decide +kernel
theorem dX12_push_67 : decode cX12_push 67 = .ok (.bastore, 1) := by decide +kernel
theorem dX12_push_68 : decode cX12_push 68 = .ok (.aload_n 0, 1) := by decide +kernel
theorem dX12_push_69 : decode cX12_push 69 = .ok (.dup, 1) := by decide +kernel
theorem dX12_push_70 : decode cX12_push 70 = .ok (.getfield 123, 3) := by decide +kernel
theorem dX12_push_73 : decode cX12_push 73 = .ok (.iconst 1, 1) := by decide +kernel
theorem dX12_push_74 : decode cX12_push 74 = .ok (.iadd, 1) := by decide +kernel
theorem dX12_push_75 : decode cX12_push 75 = .ok (.putfield 123, 3) := by decide +kernel
theorem dX12_push_78 : decode cX12_push 78 = .ok (.return_, 1) := by decide +kernel
theorem dX12_settle_0 : decode cX12_settle 0 = .ok (.aload_n 0, 1) := by decide +kernel
theorem dX12_settle_1 : decode cX12_settle 1 = .ok (.getfield 120, 3) := by decide +kernel
theorem dX12_settle_4 : decode cX12_settle 4 = .ok (.ifCond .le 154, 3) := by decide +kernel
theorem dX12_settle_7 : decode cX12_settle 7 = .ok (.aload_n 0, 1) := by decide +kernel
theorem dX12_settle_8 : decode cX12_settle 8 = .ok (.getfield 114, 3) := by decide +kernel
theorem dX12_settle_11 : decode cX12_settle 11 = .ok (.aload_n 0, 1) := by decide +kernel
theorem dX12_settle_12 : decode cX12_settle 12 = .ok (.getfield 120, 3) := by decide +kernel
theorem dX12_settle_15 : decode cX12_settle 15 = .ok (.iconst 1, 1) := by decide +kernel
theorem dX12_settle_16 : decode cX12_settle 16 = .ok (.isub, 1) := by decide +kernel
theorem dX12_settle_17 : decode cX12_settle 17 = .ok (.iaload, 1) := by decide +kernel
theorem dX12_settle_18 : decode cX12_settle 18 = .ok (.bipush 38, 2) := by decide +kernel
theorem dX12_settle_20 : decode cX12_settle 20 = .ok (.if_icmp .eq 25, 3) := by decide +kernel
theorem dX12_settle_23 : decode cX12_settle 23 = .ok (.aload_n 0, 1) := by decide +kernel
theorem dX12_settle_24 : decode cX12_settle 24 = .ok (.getfield 114, 3) := by decide +kernel
theorem dX12_settle_27 : decode cX12_settle 27 = .ok (.aload_n 0, 1) := by decide +kernel
theorem dX12_settle_28 : decode cX12_settle 28 = .ok (.getfield 120, 3) := by decide +kernel
theorem dX12_settle_31 : decode cX12_settle 31 = .ok (.iconst 1, 1) := by decide +kernel
theorem dX12_settle_32 : decode cX12_settle 32 = .ok (.isub, 1) := by decide +kernel
theorem dX12_settle_33 : decode cX12_settle 33 = .ok (.iaload, 1) := by decide +kernel
theorem dX12_settle_34 : decode cX12_settle 34 = .ok (.bipush 124, 2) := by decide +kernel
theorem dX12_settle_36 : decode cX12_settle 36 = .ok (.if_icmp .ne 122, 3) := by decide +kernel
theorem dX12_settle_39 : decode cX12_settle 39 = .ok (.iload_n 1, 1) := by decide +kernel
theorem dX12_settle_40 : decode cX12_settle 40 = .ok (.bipush 38, 2) := by decide +kernel
theorem dX12_settle_42 : decode cX12_settle 42 = .ok (.if_icmp .eq 116, 3) := by decide +kernel
theorem dX12_settle_45 : decode cX12_settle 45 = .ok (.aload_n 0, 1) := by decide +kernel
theorem dX12_settle_46 : decode cX12_settle 46 = .ok (.dup, 1) := by decide +kernel
theorem dX12_settle_47 : decode cX12_settle 47 = .ok (.getfield 120, 3) := by decide +kernel
theorem dX12_settle_50 : decode cX12_settle 50 = .ok (.iconst 1, 1) := by decide +kernel
theorem dX12_settle_51 : decode cX12_settle 51 = .ok (.isub, 1) := by decide +kernel
theorem dX12_settle_52 : decode cX12_settle 52 = .ok (.putfield 120, 3) := by decide +kernel
theorem dX12_settle_55 : decode cX12_settle 55 = .ok (.aload_n 0, 1) := by decide +kernel
theorem dX12_settle_56 : decode cX12_settle 56 = .ok (.dup, 1) := by decide +kernel
theorem dX12_settle_57 : decode cX12_settle 57 = .ok (.getfield 123, 3) := by decide +kernel
theorem dX12_settle_60 : decode cX12_settle 60 = .ok (.iconst 1, 1) := by decide +kernel
theorem dX12_settle_61 : decode cX12_settle 61 = .ok (.isub, 1) := by decide +kernel
theorem dX12_settle_62 : decode cX12_settle 62 = .ok (.putfield 123, 3) := by decide +kernel
theorem dX12_settle_65 : decode cX12_settle 65 = .ok (.aload_n 0, 1) := by decide +kernel
theorem dX12_settle_66 : decode cX12_settle 66 = .ok (.getfield 117, 3) := by decide +kernel
theorem dX12_settle_69 : decode cX12_settle 69 = .ok (.aload_n 0, 1) := by decide +kernel
theorem dX12_settle_70 : decode cX12_settle 70 = .ok (.getfield 123, 3) := by decide +kernel
theorem dX12_settle_73 : decode cX12_settle 73 = .ok (.iconst 1, 1) := by decide +kernel
theorem dX12_settle_74 : decode cX12_settle 74 = .ok (.isub, 1) := by decide +kernel
theorem dX12_settle_75 : decode cX12_settle 75 = .ok (.aload_n 0, 1) := by decide +kernel
theorem dX12_settle_76 : decode cX12_settle 76 = .ok (.getfield 114, 3) := by decide +kernel
theorem dX12_settle_79 : decode cX12_settle 79 = .ok (.aload_n 0, 1) := by decide +kernel
theorem dX12_settle_80 : decode cX12_settle 80 = .ok (.getfield 120, 3) := by decide +kernel
theorem dX12_settle_83 : decode cX12_settle 83 = .ok (.iaload, 1) := by decide +kernel
theorem dX12_settle_84 : decode cX12_settle 84 = .ok (.bipush 38, 2) := by decide +kernel
theorem dX12_settle_86 : decode cX12_settle 86 = .ok (.if_icmp .ne 37, 3) := by decide +kernel
theorem dX12_settle_89 : decode cX12_settle 89 = .ok (.aload_n 0, 1) := by decide +kernel
theorem dX12_settle_90 : decode cX12_settle 90 = .ok (.getfield 117, 3) := by decide +kernel
theorem dX12_settle_93 : decode cX12_settle 93 = .ok (.aload_n 0, 1) := by decide +kernel
theorem dX12_settle_94 : decode cX12_settle 94 = .ok (.getfield 123, 3) := by decide +kernel
theorem dX12_settle_97 : decode cX12_settle 97 = .ok (.iconst 1, 1) := by decide +kernel
theorem dX12_settle_98 : decode cX12_settle 98 = .ok (.isub, 1) := by decide +kernel
theorem dX12_settle_99 : decode cX12_settle 99 = .ok (.baload, 1) := by decide +kernel
theorem dX12_settle_100 : decode cX12_settle 100 = .ok (.ifCond .eq 19, 3) := by decide +kernel
theorem dX12_settle_103 : decode cX12_settle 103 = .ok (.aload_n 0, 1) := by decide +kernel
theorem dX12_settle_104 : decode cX12_settle 104 = .ok (.getfield 117, 3) := by decide +kernel
theorem dX12_settle_107 : decode cX12_settle 107 = .ok (.aload_n 0, 1) := by decide +kernel
theorem dX12_settle_108 : decode cX12_settle 108 = .ok (.getfield 123, 3) := by decide +kernel
theorem dX12_settle_111 : decode cX12_settle 111 = .ok (.baload, 1) := by decide +kernel
theorem dX12_settle_112 : decode cX12_settle 112 = .ok (.ifCond .eq 7, 3) := by decide +kernel
theorem dX12_settle_115 : decode cX12_settle 115 = .ok (.iconst 1, 1) := by decide +kernel
theorem dX12_settle_116 : decode cX12_settle 116 = .ok (.goto 38, 3) := by decide +kernel
theorem dX12_settle_119 : decode cX12_settle 119 = .ok (.iconst 0, 1) := by decide +kernel
theorem dX12_settle_120 : decode cX12_settle 120 = .ok (.goto 34, 3) := by decide +kernel
theorem dX12_settle_123 : decode cX12_settle 123 = .ok (.aload_n 0, 1) := by decide +kernel
theorem dX12_settle_124 : decode cX12_settle 124 = .ok (.getfield 117, 3) := by decide +kernel
theorem dX12_settle_127 : decode cX12_settle 127 = .ok (.aload_n 0, 1) := by decide +kernel
theorem dX12_settle_128 : decode cX12_settle 128 = .ok (.getfield 123, 3) := by decide +kernel
theorem dX12_settle_131 : decode cX12_settle 131 = .ok (.iconst 1, 1) := by decide +kernel
theorem dX12_settle_132 : decode cX12_settle 132 = .ok (.isub, 1) := by decide +kernel
theorem dX12_settle_133 : decode cX12_settle 133 = .ok (.baload, 1) := by decide +kernel
theorem dX12_settle_134 : decode cX12_settle 134 = .ok (.ifCond .ne 15, 3) := by decide +kernel
theorem dX12_settle_137 : decode cX12_settle 137 = .ok (.aload_n 0, 1) := by decide +kernel
theorem dX12_settle_138 : decode cX12_settle 138 = .ok (.getfield 117, 3) := by decide +kernel
theorem dX12_settle_141 : decode cX12_settle 141 = .ok (.aload_n 0, 1) := by decide +kernel
theorem dX12_settle_142 : decode cX12_settle 142 = .ok (.getfield 123, 3) := by decide +kernel
theorem dX12_settle_145 : decode cX12_settle 145 = .ok (.baload, 1) := by decide +kernel
theorem dX12_settle_146 : decode cX12_settle 146 = .ok (.ifCond .eq 7, 3) := by decide +kernel
theorem dX12_settle_149 : decode cX12_settle 149 = .ok (.iconst 1, 1) := by decide +kernel
theorem dX12_settle_150 : decode cX12_settle 150 = .ok (.goto 4, 3) := by decide +kernel
theorem dX12_settle_153 : decode cX12_settle 153 = .ok (.iconst 0, 1) := by decide +kernel
theorem dX12_settle_154 : decode cX12_settle 154 = .ok (.bastore, 1) := by decide +kernel
theorem dX12_settle_155 : decode cX12_settle 155 = .ok (.goto (-155), 3) := by decide +kernel
theorem dX12_settle_158 : decode cX12_settle 158 = .ok (.return_, 1) := by decide +kernel
theorem dX12_takesTest_0 : decode cX12_takesTest 0 = .ok (.aload_n 0, 1) := by decide +kernel
theorem dX12_takesTest_1 : decode cX12_takesTest 1 = .ok (.invokevirtual 199, 3) := by decide +kernel
theorem dX12_takesTest_4 : decode cX12_takesTest 4 = .ok (.istore_n 1, 1) := by decide +kernel
theorem dX12_takesTest_5 : decode cX12_takesTest 5 = .ok (.iload_n 1, 1) := by decide +kernel
theorem dX12_takesTest_6 : decode cX12_takesTest 6 = .ok (.bipush 109, 2) := by decide +kernel
theorem dX12_takesTest_8 : decode cX12_takesTest 8 = .ok (.if_icmp .eq 23, 3) := by decide +kernel
theorem dX12_takesTest_11 : decode cX12_takesTest 11 = .ok (.iload_n 1, 1) := by decide +kernel
theorem dX12_takesTest_12 : decode cX12_takesTest 12 = .ok (.bipush 116, 2) := by decide +kernel
theorem dX12_takesTest_14 : decode cX12_takesTest 14 = .ok (.if_icmp .eq 17, 3) := by decide +kernel
theorem dX12_takesTest_17 : decode cX12_takesTest 17 = .ok (.iload_n 1, 1) := by decide +kernel
theorem dX12_takesTest_18 : decode cX12_takesTest 18 = .ok (.bipush 110, 2) := by decide +kernel
theorem dX12_takesTest_20 : decode cX12_takesTest 20 = .ok (.if_icmp .eq 11, 3) := by decide +kernel
theorem dX12_takesTest_23 : decode cX12_takesTest 23 = .ok (.iload_n 1, 1) := by decide +kernel
theorem dX12_takesTest_24 : decode cX12_takesTest 24 = .ok (.bipush 112, 2) := by decide +kernel
theorem dX12_takesTest_26 : decode cX12_takesTest 26 = .ok (.if_icmp .eq 5, 3) := by decide +kernel
theorem dX12_takesTest_29 : decode cX12_takesTest 29 = .ok (.iconst 0, 1) := by decide +kernel
theorem dX12_takesTest_30 : decode cX12_takesTest 30 = .ok (.ireturn, 1) := by decide +kernel
theorem dX12_takesTest_31 : decode cX12_takesTest 31 = .ok (.aload_n 0, 1) := by decide +kernel
theorem dX12_takesTest_32 : decode cX12_takesTest 32 = .ok (.dup, 1) := by decide +kernel
theorem dX12_takesTest_33 : decode cX12_takesTest 33 = .ok (.getfield 74, 3) := by decide +kernel
theorem dX12_takesTest_36 : decode cX12_takesTest 36 = .ok (.iconst 1, 1) := by decide +kernel
theorem dX12_takesTest_37 : decode cX12_takesTest 37 = .ok (.iadd, 1) := by decide +kernel
theorem dX12_takesTest_38 : decode cX12_takesTest 38 = .ok (.putfield 74, 3) := by decide +kernel
theorem dX12_takesTest_41 : decode cX12_takesTest 41 = .ok (.aload_n 0, 1) := by decide +kernel
theorem dX12_takesTest_42 : decode cX12_takesTest 42 = .ok (.invokevirtual 199, 3) := by decide +kernel
theorem dX12_takesTest_45 : decode cX12_takesTest 45 = .ok (.istore_n 2, 1) := by decide +kernel
theorem dX12_takesTest_46 : decode cX12_takesTest 46 = .ok (.iload_n 1, 1) := by decide +kernel
theorem dX12_takesTest_47 : decode cX12_takesTest 47 = .ok (.bipush 112, 2) := by decide +kernel
theorem dX12_takesTest_49 : decode cX12_takesTest 49 = .ok (.if_icmp .ne 109, 3) := by decide +kernel
theorem dX12_takesTest_52 : decode cX12_takesTest 52 = .ok (.aload_n 0, 1) := by decide +kernel
theorem dX12_takesTest_53 : decode cX12_takesTest 53 = .ok (.iload_n 2, 1) := by decide +kernel
theorem dX12_takesTest_54 : decode cX12_takesTest 54 = .ok (.bipush 60, 2) := by decide +kernel
theorem dX12_takesTest_56 : decode cX12_takesTest 56 = .ok (.bipush 62, 2) := by decide +kernel
theorem dX12_takesTest_58 : decode cX12_takesTest 58 = .ok (.invokevirtual 178, 3) := by decide +kernel
theorem dX12_takesTest_61 : decode cX12_takesTest 61 = .ok (.ifCond .ne 5, 3) := by decide +kernel
theorem dX12_takesTest_64 : decode cX12_takesTest 64 = .ok (.iconst 0, 1) := by decide +kernel
theorem dX12_takesTest_65 : decode cX12_takesTest 65 = .ok (.ireturn, 1) := by decide +kernel
theorem dX12_takesTest_66 : decode cX12_takesTest 66 = .ok (.aload_n 0, 1) := by decide +kernel
theorem dX12_takesTest_67 : decode cX12_takesTest 67 = .ok (.dup, 1) := by decide +kernel
theorem dX12_takesTest_68 : decode cX12_takesTest 68 = .ok (.getfield 74, 3) := by decide +kernel
theorem dX12_takesTest_71 : decode cX12_takesTest 71 = .ok (.iconst 1, 1) := by decide +kernel
theorem dX12_takesTest_72 : decode cX12_takesTest 72 = .ok (.iadd, 1) := by decide +kernel
theorem dX12_takesTest_73 : decode cX12_takesTest 73 = .ok (.putfield 74, 3) := by decide +kernel
theorem dX12_takesTest_76 : decode cX12_takesTest 76 = .ok (.aload_n 0, 1) := by decide +kernel
theorem dX12_takesTest_77 : decode cX12_takesTest 77 = .ok (.invokevirtual 210, 3) := by decide +kernel
theorem dX12_takesTest_80 : decode cX12_takesTest 80 = .ok (.ifCond .ne 5, 3) := by decide +kernel
theorem dX12_takesTest_83 : decode cX12_takesTest 83 = .ok (.iconst 0, 1) := by decide +kernel
theorem dX12_takesTest_84 : decode cX12_takesTest 84 = .ok (.ireturn, 1) := by decide +kernel
theorem dX12_takesTest_85 : decode cX12_takesTest 85 = .ok (.aload_n 0, 1) := by decide +kernel
theorem dX12_takesTest_86 : decode cX12_takesTest 86 = .ok (.getfield 26, 3) := by decide +kernel
theorem dX12_takesTest_89 : decode cX12_takesTest 89 = .ok (.aload_n 0, 1) := by decide +kernel
theorem dX12_takesTest_90 : decode cX12_takesTest 90 = .ok (.getfield 111, 3) := by decide +kernel
theorem dX12_takesTest_93 : decode cX12_takesTest 93 = .ok (.iaload, 1) := by decide +kernel
theorem dX12_takesTest_94 : decode cX12_takesTest 94 = .ok (.istore_n 3, 1) := by decide +kernel
theorem dX12_takesTest_95 : decode cX12_takesTest 95 = .ok (.aload_n 0, 1) := by decide +kernel
theorem dX12_takesTest_96 : decode cX12_takesTest 96 = .ok (.iload_n 2, 1) := by decide +kernel
theorem dX12_takesTest_97 : decode cX12_takesTest 97 = .ok (.bipush 60, 2) := by decide +kernel
theorem dX12_takesTest_99 : decode cX12_takesTest 99 = .ok (.if_icmp .ne 19, 3) := by decide +kernel
theorem dX12_takesTest_102 : decode cX12_takesTest 102 = .ok (.iload_n 3, 1) := by decide +kernel
theorem dX12_takesTest_103 : decode cX12_takesTest 103 = .ok (.aload_n 0, 1) := by decide +kernel
theorem dX12_takesTest_104 : decode cX12_takesTest 104 = .ok (.getfield 80, 3) := by decide +kernel
theorem dX12_takesTest_107 : decode cX12_takesTest 107 = .ok (.if_icmp .ge 7, 3) := by decide +kernel
theorem dX12_takesTest_110 : decode cX12_takesTest 110 = .ok (.iconst 1, 1) := by decide +kernel
theorem dX12_takesTest_111 : decode cX12_takesTest 111 = .ok (.goto 42, 3) := by decide +kernel
theorem dX12_takesTest_114 : decode cX12_takesTest 114 = .ok (.iconst 0, 1) := by decide +kernel
theorem dX12_takesTest_115 : decode cX12_takesTest 115 = .ok (.goto 38, 3) := by decide +kernel
theorem dX12_takesTest_118 : decode cX12_takesTest 118 = .ok (.iload_n 2, 1) := by decide +kernel
theorem dX12_takesTest_119 : decode cX12_takesTest 119 = .ok (.bipush 61, 2) := by decide +kernel
theorem dX12_takesTest_121 : decode cX12_takesTest 121 = .ok (.if_icmp .ne 19, 3) := by decide +kernel
theorem dX12_takesTest_124 : decode cX12_takesTest 124 = .ok (.iload_n 3, 1) := by decide +kernel
theorem dX12_takesTest_125 : decode cX12_takesTest 125 = .ok (.aload_n 0, 1) := by decide +kernel
theorem dX12_takesTest_126 : decode cX12_takesTest 126 = .ok (.getfield 80, 3) := by decide +kernel
theorem dX12_takesTest_129 : decode cX12_takesTest 129 = .ok (.if_icmp .ne 7, 3) := by decide +kernel
theorem dX12_takesTest_132 : decode cX12_takesTest 132 = .ok (.iconst 1, 1) := by decide +kernel
theorem dX12_takesTest_133 : decode cX12_takesTest 133 = .ok (.goto 20, 3) := by decide +kernel
theorem dX12_takesTest_136 : decode cX12_takesTest 136 = .ok (.iconst 0, 1) := by decide +kernel
theorem dX12_takesTest_137 : decode cX12_takesTest 137 = .ok (.goto 16, 3) := by decide +kernel
theorem dX12_takesTest_140 : decode cX12_takesTest 140 = .ok (.iload_n 3, 1) := by decide +kernel
theorem dX12_takesTest_141 : decode cX12_takesTest 141 = .ok (.aload_n 0, 1) := by decide +kernel
theorem dX12_takesTest_142 : decode cX12_takesTest 142 = .ok (.getfield 80, 3) := by decide +kernel
theorem dX12_takesTest_145 : decode cX12_takesTest 145 = .ok (.if_icmp .le 7, 3) := by decide +kernel
theorem dX12_takesTest_148 : decode cX12_takesTest 148 = .ok (.iconst 1, 1) := by decide +kernel
theorem dX12_takesTest_149 : decode cX12_takesTest 149 = .ok (.goto 4, 3) := by decide +kernel
theorem dX12_takesTest_152 : decode cX12_takesTest 152 = .ok (.iconst 0, 1) := by decide +kernel
theorem dX12_takesTest_153 : decode cX12_takesTest 153 = .ok (.invokevirtual 213, 3) := by decide +kernel
theorem dX12_takesTest_156 : decode cX12_takesTest 156 = .ok (.iconst 1, 1) := by decide +kernel
theorem dX12_takesTest_157 : decode cX12_takesTest 157 = .ok (.ireturn, 1) := by decide +kernel
theorem dX12_takesTest_158 : decode cX12_takesTest 158 = .ok (.aload_n 0, 1) := by decide +kernel
theorem dX12_takesTest_159 : decode cX12_takesTest 159 = .ok (.bipush 61, 2) := by decide +kernel
theorem dX12_takesTest_161 : decode cX12_takesTest 161 = .ok (.invokevirtual 203, 3) := by decide +kernel
theorem dX12_takesTest_164 : decode cX12_takesTest 164 = .ok (.ifCond .eq 13, 3) := by decide +kernel
theorem dX12_takesTest_167 : decode cX12_takesTest 167 = .ok (.aload_n 0, 1) := by decide +kernel
theorem dX12_takesTest_168 : decode cX12_takesTest 168 = .ok (.iconst 0, 1) := by decide +kernel
theorem dX12_takesTest_169 : decode cX12_takesTest 169 = .ok (.bipush 9, 2) := by decide +kernel
theorem dX12_takesTest_171 : decode cX12_takesTest 171 = .ok (.invokevirtual 217, 3) := by decide +kernel
theorem dX12_takesTest_174 : decode cX12_takesTest 174 = .ok (.ifCond .ne 5, 3) := by decide +kernel
theorem dX12_takesTest_177 : decode cX12_takesTest 177 = .ok (.iconst 0, 1) := by decide +kernel
theorem dX12_takesTest_178 : decode cX12_takesTest 178 = .ok (.ireturn, 1) := by decide +kernel
theorem dX12_takesTest_179 : decode cX12_takesTest 179 = .ok (.aload_n 0, 1) := by decide +kernel
theorem dX12_takesTest_180 : decode cX12_takesTest 180 = .ok (.iload_n 1, 1) := by decide +kernel
theorem dX12_takesTest_181 : decode cX12_takesTest 181 = .ok (.bipush 109, 2) := by decide +kernel
theorem dX12_takesTest_183 : decode cX12_takesTest 183 = .ok (.if_icmp .ne 23, 3) := by decide +kernel
theorem dX12_takesTest_186 : decode cX12_takesTest 186 = .ok (.aload_n 0, 1) := by decide +kernel
theorem dX12_takesTest_187 : decode cX12_takesTest 187 = .ok (.aload_n 0, 1) := by decide +kernel
theorem dX12_takesTest_188 : decode cX12_takesTest 188 = .ok (.getfield 22, 3) := by decide +kernel
theorem dX12_takesTest_191 : decode cX12_takesTest 191 = .ok (.aload_n 0, 1) := by decide +kernel
theorem dX12_takesTest_192 : decode cX12_takesTest 192 = .ok (.getfield 111, 3) := by decide +kernel
theorem dX12_takesTest_195 : decode cX12_takesTest 195 = .ok (.iaload, 1) := by decide +kernel
theorem dX12_takesTest_196 : decode cX12_takesTest 196 = .ok (.aload_n 0, 1) := by decide +kernel
theorem dX12_takesTest_197 : decode cX12_takesTest 197 = .ok (.getfield 80, 3) := by decide +kernel
theorem dX12_takesTest_200 : decode cX12_takesTest 200 = .ok (.invokevirtual 192, 3) := by decide +kernel
theorem dX12_takesTest_203 : decode cX12_takesTest 203 = .ok (.goto 49, 3) := by decide +kernel
theorem dX12_takesTest_206 : decode cX12_takesTest 206 = .ok (.iload_n 1, 1) := by decide +kernel
theorem dX12_takesTest_207 : decode cX12_takesTest 207 = .ok (.bipush 116, 2) := by decide +kernel
theorem dX12_takesTest_209 : decode cX12_takesTest 209 = .ok (.if_icmp .ne 22, 3) := by decide +kernel
theorem dX12_takesTest_212 : decode cX12_takesTest 212 = .ok (.aload_n 0, 1) := by decide +kernel
theorem dX12_takesTest_213 : decode cX12_takesTest 213 = .ok (.getfield 111, 3) := by decide +kernel
theorem dX12_takesTest_216 : decode cX12_takesTest 216 = .ok (.aload_n 0, 1) := by decide +kernel
theorem dX12_takesTest_217 : decode cX12_takesTest 217 = .ok (.getfield 80, 3) := by decide +kernel
theorem dX12_takesTest_220 : decode cX12_takesTest 220 = .ok (.if_icmp .ne 7, 3) := by decide +kernel
theorem dX12_takesTest_223 : decode cX12_takesTest 223 = .ok (.iconst 1, 1) := by decide +kernel
theorem dX12_takesTest_224 : decode cX12_takesTest 224 = .ok (.goto 28, 3) := by decide +kernel
theorem dX12_takesTest_227 : decode cX12_takesTest 227 = .ok (.iconst 0, 1) := by decide +kernel
theorem dX12_takesTest_228 : decode cX12_takesTest 228 = .ok (.goto 24, 3) := by decide +kernel
theorem dX12_takesTest_231 : decode cX12_takesTest 231 = .ok (.aload_n 0, 1) := by decide +kernel
theorem dX12_takesTest_232 : decode cX12_takesTest 232 = .ok (.getfield 29, 3) := by decide +kernel
theorem dX12_takesTest_235 : decode cX12_takesTest 235 = .ok (.aload_n 0, 1) := by decide +kernel
theorem dX12_takesTest_236 : decode cX12_takesTest 236 = .ok (.getfield 111, 3) := by decide +kernel
theorem dX12_takesTest_239 : decode cX12_takesTest 239 = .ok (.iaload, 1) := by decide +kernel
theorem dX12_takesTest_240 : decode cX12_takesTest 240 = .ok (.aload_n 0, 1) := by decide +kernel
theorem dX12_takesTest_241 : decode cX12_takesTest 241 = .ok (.getfield 80, 3) := by decide +kernel
theorem dX12_takesTest_244 : decode cX12_takesTest 244 = .ok (.if_icmp .ne 7, 3) := by decide +kernel
theorem dX12_takesTest_247 : decode cX12_takesTest 247 = .ok (.iconst 1, 1) := by decide +kernel
theorem dX12_takesTest_248 : decode cX12_takesTest 248 = .ok (.goto 4, 3) := by decide +kernel
theorem dX12_takesTest_251 : decode cX12_takesTest 251 = .ok (.iconst 0, 1) := by decide +kernel
theorem dX12_takesTest_252 : decode cX12_takesTest 252 = .ok (.invokevirtual 213, 3) := by decide +kernel
theorem dX12_takesTest_255 : decode cX12_takesTest 255 = .ok (.iconst 1, 1) := by decide +kernel
theorem dX12_takesTest_256 : decode cX12_takesTest 256 = .ok (.ireturn, 1) := by decide +kernel
theorem dX12_takesE_0 : decode cX12_takesE 0 = .ok (.aload_n 0, 1) := by decide +kernel
theorem dX12_takesE_1 : decode cX12_takesE 1 = .ok (.iconst 0, 1) := by decide +kernel
theorem dX12_takesE_2 : decode cX12_takesE 2 = .ok (.putfield 120, 3) := by decide +kernel
theorem dX12_takesE_5 : decode cX12_takesE 5 = .ok (.aload_n 0, 1) := by decide +kernel
theorem dX12_takesE_6 : decode cX12_takesE 6 = .ok (.iconst 0, 1) := by decide +kernel
theorem dX12_takesE_7 : decode cX12_takesE 7 = .ok (.putfield 123, 3) := by decide +kernel
theorem dX12_takesE_10 : decode cX12_takesE 10 = .ok (.aload_n 0, 1) := by decide +kernel
theorem dX12_takesE_11 : decode cX12_takesE 11 = .ok (.iconst 0, 1) := by decide +kernel
theorem dX12_takesE_12 : decode cX12_takesE 12 = .ok (.putfield 126, 3) := by decide +kernel
theorem dX12_takesE_15 : decode cX12_takesE 15 = .ok (.iconst 1, 1) := by decide +kernel
theorem dX12_takesE_16 : decode cX12_takesE 16 = .ok (.istore_n 1, 1) := by decide +kernel
theorem dX12_takesE_17 : decode cX12_takesE 17 = .ok (.aload_n 0, 1) := by decide +kernel
theorem dX12_takesE_18 : decode cX12_takesE 18 = .ok (.invokevirtual 199, 3) := by decide +kernel
theorem dX12_takesE_21 : decode cX12_takesE 21 = .ok (.istore_n 2, 1) := by decide +kernel
theorem dX12_takesE_22 : decode cX12_takesE 22 = .ok (.iload_n 1, 1) := by decide +kernel
theorem dX12_takesE_23 : decode cX12_takesE 23 = .ok (.ifCond .eq 82, 3) := by decide +kernel
theorem dX12_takesE_26 : decode cX12_takesE 26 = .ok (.iload_n 2, 1) := by decide +kernel
theorem dX12_takesE_27 : decode cX12_takesE 27 = .ok (.bipush 33, 2) := by decide +kernel
theorem dX12_takesE_29 : decode cX12_takesE 29 = .ok (.if_icmp .eq 9, 3) := by decide +kernel
theorem dX12_takesE_32 : decode cX12_takesE 32 = .ok (.iload_n 2, 1) := by decide +kernel
theorem dX12_takesE_33 : decode cX12_takesE 33 = .ok (.bipush 40, 2) := by decide +kernel
theorem dX12_takesE_35 : decode cX12_takesE 35 = .ok (.if_icmp .ne 56, 3) := by decide +kernel
theorem dX12_takesE_38 : decode cX12_takesE 38 = .ok (.aload_n 0, 1) := by decide +kernel
theorem dX12_takesE_39 : decode cX12_takesE 39 = .ok (.getfield 126, 3) := by decide +kernel
theorem dX12_takesE_42 : decode cX12_takesE 42 = .ok (.iconst 4, 1) := by decide +kernel
theorem dX12_takesE_43 : decode cX12_takesE 43 = .ok (.if_icmp .ne 5, 3) := by decide +kernel
theorem dX12_takesE_46 : decode cX12_takesE 46 = .ok (.iconst 0, 1) := by decide +kernel
theorem dX12_takesE_47 : decode cX12_takesE 47 = .ok (.ireturn, 1) := by decide +kernel
theorem dX12_takesE_48 : decode cX12_takesE 48 = .ok (.aload_n 0, 1) := by decide +kernel
theorem dX12_takesE_49 : decode cX12_takesE 49 = .ok (.dup, 1) := by decide +kernel
theorem dX12_takesE_50 : decode cX12_takesE 50 = .ok (.getfield 126, 3) := by decide +kernel
theorem dX12_takesE_53 : decode cX12_takesE 53 = .ok (.iconst 1, 1) := by decide +kernel
theorem dX12_takesE_54 : decode cX12_takesE 54 = .ok (.iadd, 1) := by decide +kernel
theorem dX12_takesE_55 : decode cX12_takesE 55 = .ok (.putfield 126, 3) := by decide +kernel
theorem dX12_takesE_58 : decode cX12_takesE 58 = .ok (.aload_n 0, 1) := by decide +kernel
theorem dX12_takesE_59 : decode cX12_takesE 59 = .ok (.getfield 114, 3) := by decide +kernel
theorem dX12_takesE_62 : decode cX12_takesE 62 = .ok (.aload_n 0, 1) := by decide +kernel
theorem dX12_takesE_63 : decode cX12_takesE 63 = .ok (.getfield 120, 3) := by decide +kernel
theorem dX12_takesE_66 : decode cX12_takesE 66 = .ok (.iload_n 2, 1) := by decide +kernel
theorem dX12_takesE_67 : decode cX12_takesE 67 = .ok (.iastore, 1) := by decide +kernel
theorem dX12_takesE_68 : decode cX12_takesE 68 = .ok (.aload_n 0, 1) := by decide +kernel
theorem dX12_takesE_69 : decode cX12_takesE 69 = .ok (.dup, 1) := by decide +kernel
theorem dX12_takesE_70 : decode cX12_takesE 70 = .ok (.getfield 120, 3) := by decide +kernel
theorem dX12_takesE_73 : decode cX12_takesE 73 = .ok (.iconst 1, 1) := by decide +kernel
theorem dX12_takesE_74 : decode cX12_takesE 74 = .ok (.iadd, 1) := by decide +kernel
theorem dX12_takesE_75 : decode cX12_takesE 75 = .ok (.putfield 120, 3) := by decide +kernel
theorem dX12_takesE_78 : decode cX12_takesE 78 = .ok (.aload_n 0, 1) := by decide +kernel
theorem dX12_takesE_79 : decode cX12_takesE 79 = .ok (.dup, 1) := by decide +kernel
theorem dX12_takesE_80 : decode cX12_takesE 80 = .ok (.getfield 74, 3) := by decide +kernel
theorem dX12_takesE_83 : decode cX12_takesE 83 = .ok (.iconst 1, 1) := by decide +kernel
theorem dX12_takesE_84 : decode cX12_takesE 84 = .ok (.iadd, 1) := by decide +kernel
theorem dX12_takesE_85 : decode cX12_takesE 85 = .ok (.putfield 74, 3) := by decide +kernel
theorem dX12_takesE_88 : decode cX12_takesE 88 = .ok (.goto (-71), 3) := by decide +kernel
theorem dX12_takesE_91 : decode cX12_takesE 91 = .ok (.aload_n 0, 1) := by decide +kernel
theorem dX12_takesE_92 : decode cX12_takesE 92 = .ok (.invokevirtual 220, 3) := by decide +kernel
theorem dX12_takesE_95 : decode cX12_takesE 95 = .ok (.ifCond .eq 8, 3) := by decide +kernel
theorem dX12_takesE_98 : decode cX12_takesE 98 = .ok (.iconst 0, 1) := by decide +kernel
theorem dX12_takesE_99 : decode cX12_takesE 99 = .ok (.istore_n 1, 1) := by decide +kernel
theorem dX12_takesE_100 : decode cX12_takesE 100 = .ok (.goto (-83), 3) := by decide +kernel
theorem dX12_takesE_103 : decode cX12_takesE 103 = .ok (.iconst 0, 1) := by decide +kernel
theorem dX12_takesE_104 : decode cX12_takesE 104 = .ok (.ireturn, 1) := by decide +kernel
theorem dX12_takesE_105 : decode cX12_takesE 105 = .ok (.iload_n 2, 1) := by decide +kernel
theorem dX12_takesE_106 : decode cX12_takesE 106 = .ok (.bipush 38, 2) := by decide +kernel
theorem dX12_takesE_108 : decode cX12_takesE 108 = .ok (.if_icmp .eq 9, 3) := by decide +kernel
theorem dX12_takesE_111 : decode cX12_takesE 111 = .ok (.iload_n 2, 1) := by decide +kernel
theorem dX12_takesE_112 : decode cX12_takesE 112 = .ok (.bipush 124, 2) := by decide +kernel
theorem dX12_takesE_114 : decode cX12_takesE 114 = .ok (.if_icmp .ne 43, 3) := by decide +kernel
theorem dX12_takesE_117 : decode cX12_takesE 117 = .ok (.aload_n 0, 1) := by decide +kernel
theorem dX12_takesE_118 : decode cX12_takesE 118 = .ok (.iload_n 2, 1) := by decide +kernel
theorem dX12_takesE_119 : decode cX12_takesE 119 = .ok (.invokevirtual 223, 3) := by decide +kernel
theorem dX12_takesE_122 : decode cX12_takesE 122 = .ok (.aload_n 0, 1) := by decide +kernel
theorem dX12_takesE_123 : decode cX12_takesE 123 = .ok (.getfield 114, 3) := by decide +kernel
theorem dX12_takesE_126 : decode cX12_takesE 126 = .ok (.aload_n 0, 1) := by decide +kernel
theorem dX12_takesE_127 : decode cX12_takesE 127 = .ok (.getfield 120, 3) := by decide +kernel
theorem dX12_takesE_130 : decode cX12_takesE 130 = .ok (.iload_n 2, 1) := by decide +kernel
theorem dX12_takesE_131 : decode cX12_takesE 131 = .ok (.iastore, 1) := by decide +kernel
theorem dX12_takesE_132 : decode cX12_takesE 132 = .ok (.aload_n 0, 1) := by decide +kernel
theorem dX12_takesE_133 : decode cX12_takesE 133 = .ok (.dup, 1) := by decide +kernel
theorem dX12_takesE_134 : decode cX12_takesE 134 = .ok (.getfield 120, 3) := by decide +kernel
theorem dX12_takesE_137 : decode cX12_takesE 137 = .ok (.iconst 1, 1) := by decide +kernel
theorem dX12_takesE_138 : decode cX12_takesE 138 = .ok (.iadd, 1) := by decide +kernel
theorem dX12_takesE_139 : decode cX12_takesE 139 = .ok (.putfield 120, 3) := by decide +kernel
theorem dX12_takesE_142 : decode cX12_takesE 142 = .ok (.iconst 1, 1) := by decide +kernel
theorem dX12_takesE_143 : decode cX12_takesE 143 = .ok (.istore_n 1, 1) := by decide +kernel
theorem dX12_takesE_144 : decode cX12_takesE 144 = .ok (.aload_n 0, 1) := by decide +kernel
theorem dX12_takesE_145 : decode cX12_takesE 145 = .ok (.dup, 1) := by decide +kernel
theorem dX12_takesE_146 : decode cX12_takesE 146 = .ok (.getfield 74, 3) := by decide +kernel
theorem dX12_takesE_149 : decode cX12_takesE 149 = .ok (.iconst 1, 1) := by decide +kernel
theorem dX12_takesE_150 : decode cX12_takesE 150 = .ok (.iadd, 1) := by decide +kernel
theorem dX12_takesE_151 : decode cX12_takesE 151 = .ok (.putfield 74, 3) := by decide +kernel
theorem dX12_takesE_154 : decode cX12_takesE 154 = .ok (.goto (-137), 3) := by decide +kernel
theorem dX12_takesE_157 : decode cX12_takesE 157 = .ok (.aload_n 0, 1) := by decide +kernel
theorem dX12_takesE_158 : decode cX12_takesE 158 = .ok (.bipush 124, 2) := by decide +kernel
theorem dX12_takesE_160 : decode cX12_takesE 160 = .ok (.invokevirtual 223, 3) := by decide +kernel
theorem dX12_takesE_163 : decode cX12_takesE 163 = .ok (.aload_n 0, 1) := by decide +kernel
theorem dX12_takesE_164 : decode cX12_takesE 164 = .ok (.getfield 120, 3) := by decide +kernel
theorem dX12_takesE_167 : decode cX12_takesE 167 = .ok (.ifCond .ne 5, 3) := by decide +kernel
theorem dX12_takesE_170 : decode cX12_takesE 170 = .ok (.iconst 1, 1) := by decide +kernel
theorem dX12_takesE_171 : decode cX12_takesE 171 = .ok (.ireturn, 1) := by decide +kernel
theorem dX12_takesE_172 : decode cX12_takesE 172 = .ok (.iload_n 2, 1) := by decide +kernel
theorem dX12_takesE_173 : decode cX12_takesE 173 = .ok (.bipush 41, 2) := by decide +kernel
theorem dX12_takesE_175 : decode cX12_takesE 175 = .ok (.if_icmp .eq 5, 3) := by decide +kernel
theorem dX12_takesE_178 : decode cX12_takesE 178 = .ok (.iconst 0, 1) := by decide +kernel
theorem dX12_takesE_179 : decode cX12_takesE 179 = .ok (.ireturn, 1) := by decide +kernel
theorem dX12_takesE_180 : decode cX12_takesE 180 = .ok (.aload_n 0, 1) := by decide +kernel
theorem dX12_takesE_181 : decode cX12_takesE 181 = .ok (.dup, 1) := by decide +kernel
theorem dX12_takesE_182 : decode cX12_takesE 182 = .ok (.getfield 120, 3) := by decide +kernel
theorem dX12_takesE_185 : decode cX12_takesE 185 = .ok (.iconst 1, 1) := by decide +kernel
theorem dX12_takesE_186 : decode cX12_takesE 186 = .ok (.isub, 1) := by decide +kernel
theorem dX12_takesE_187 : decode cX12_takesE 187 = .ok (.putfield 120, 3) := by decide +kernel
theorem dX12_takesE_190 : decode cX12_takesE 190 = .ok (.aload_n 0, 1) := by decide +kernel
theorem dX12_takesE_191 : decode cX12_takesE 191 = .ok (.dup, 1) := by decide +kernel
theorem dX12_takesE_192 : decode cX12_takesE 192 = .ok (.getfield 126, 3) := by decide +kernel
theorem dX12_takesE_195 : decode cX12_takesE 195 = .ok (.iconst 1, 1) := by decide +kernel
theorem dX12_takesE_196 : decode cX12_takesE 196 = .ok (.isub, 1) := by decide +kernel
theorem dX12_takesE_197 : decode cX12_takesE 197 = .ok (.putfield 126, 3) := by decide +kernel
theorem dX12_takesE_200 : decode cX12_takesE 200 = .ok (.aload_n 0, 1) := by decide +kernel
theorem dX12_takesE_201 : decode cX12_takesE 201 = .ok (.dup, 1) := by decide +kernel
theorem dX12_takesE_202 : decode cX12_takesE 202 = .ok (.getfield 123, 3) := by decide +kernel
theorem dX12_takesE_205 : decode cX12_takesE 205 = .ok (.iconst 1, 1) := by decide +kernel
theorem dX12_takesE_206 : decode cX12_takesE 206 = .ok (.isub, 1) := by decide +kernel
theorem dX12_takesE_207 : decode cX12_takesE 207 = .ok (.putfield 123, 3) := by decide +kernel
theorem dX12_takesE_210 : decode cX12_takesE 210 = .ok (.aload_n 0, 1) := by decide +kernel
theorem dX12_takesE_211 : decode cX12_takesE 211 = .ok (.dup, 1) := by decide +kernel
theorem dX12_takesE_212 : decode cX12_takesE 212 = .ok (.getfield 74, 3) := by decide +kernel
theorem dX12_takesE_215 : decode cX12_takesE 215 = .ok (.iconst 1, 1) := by decide +kernel
theorem dX12_takesE_216 : decode cX12_takesE 216 = .ok (.iadd, 1) := by decide +kernel
theorem dX12_takesE_217 : decode cX12_takesE 217 = .ok (.putfield 74, 3) := by decide +kernel
theorem dX12_takesE_220 : decode cX12_takesE 220 = .ok (.aload_n 0, 1) := by decide +kernel
theorem dX12_takesE_221 : decode cX12_takesE 221 = .ok (.aload_n 0, 1) := by decide +kernel
theorem dX12_takesE_222 : decode cX12_takesE 222 = .ok (.getfield 117, 3) := by decide +kernel
theorem dX12_takesE_225 : decode cX12_takesE 225 = .ok (.aload_n 0, 1) := by decide +kernel
theorem dX12_takesE_226 : decode cX12_takesE 226 = .ok (.getfield 123, 3) := by decide +kernel
theorem dX12_takesE_229 : decode cX12_takesE 229 = .ok (.baload, 1) := by decide +kernel
theorem dX12_takesE_230 : decode cX12_takesE 230 = .ok (.invokevirtual 213, 3) := by decide +kernel
theorem dX12_takesE_233 : decode cX12_takesE 233 = .ok (.goto (-216), 3) := by decide +kernel
theorem dX12_takesWorth_0 : decode cX12_takesWorth 0 = .ok (.aload_n 0, 1) := by decide +kernel
theorem dX12_takesWorth_1 : decode cX12_takesWorth 1 = .ok (.ldc 227, 2) := by decide +kernel
theorem dX12_takesWorth_3 : decode cX12_takesWorth 3 = .ok (.iconst 5, 1) := by decide +kernel
theorem dX12_takesWorth_4 : decode cX12_takesWorth 4 = .ok (.invokevirtual 228, 3) := by decide +kernel
theorem dX12_takesWorth_7 : decode cX12_takesWorth 7 = .ok (.ifCond .eq 12, 3) := by decide +kernel
theorem dX12_takesWorth_10 : decode cX12_takesWorth 10 = .ok (.aload_n 0, 1) := by decide +kernel
theorem dX12_takesWorth_11 : decode cX12_takesWorth 11 = .ok (.iconst 0, 1) := by decide +kernel
theorem dX12_takesWorth_12 : decode cX12_takesWorth 12 = .ok (.iconst 5, 1) := by decide +kernel
theorem dX12_takesWorth_13 : decode cX12_takesWorth 13 = .ok (.invokevirtual 217, 3) := by decide +kernel
theorem dX12_takesWorth_16 : decode cX12_takesWorth 16 = .ok (.ifCond .ne 5, 3) := by decide +kernel
theorem dX12_takesWorth_19 : decode cX12_takesWorth 19 = .ok (.iconst 0, 1) := by decide +kernel
theorem dX12_takesWorth_20 : decode cX12_takesWorth 20 = .ok (.ireturn, 1) := by decide +kernel
theorem dX12_takesWorth_21 : decode cX12_takesWorth 21 = .ok (.aload_n 0, 1) := by decide +kernel
theorem dX12_takesWorth_22 : decode cX12_takesWorth 22 = .ok (.getfield 80, 3) := by decide +kernel
theorem dX12_takesWorth_25 : decode cX12_takesWorth 25 = .ok (.istore_n 1, 1) := by decide +kernel
theorem dX12_takesWorth_26 : decode cX12_takesWorth 26 = .ok (.aload_n 0, 1) := by decide +kernel
theorem dX12_takesWorth_27 : decode cX12_takesWorth 27 = .ok (.bipush 32, 2) := by decide +kernel
theorem dX12_takesWorth_29 : decode cX12_takesWorth 29 = .ok (.invokevirtual 203, 3) := by decide +kernel
theorem dX12_takesWorth_32 : decode cX12_takesWorth 32 = .ok (.ifCond .eq 10, 3) := by decide +kernel
theorem dX12_takesWorth_35 : decode cX12_takesWorth 35 = .ok (.aload_n 0, 1) := by decide +kernel
theorem dX12_takesWorth_36 : decode cX12_takesWorth 36 = .ok (.invokevirtual 210, 3) := by decide +kernel
theorem dX12_takesWorth_39 : decode cX12_takesWorth 39 = .ok (.ifCond .ne 5, 3) := by decide +kernel
theorem dX12_takesWorth_42 : decode cX12_takesWorth 42 = .ok (.iconst 0, 1) := by decide +kernel
theorem dX12_takesWorth_43 : decode cX12_takesWorth 43 = .ok (.ireturn, 1) := by decide +kernel
theorem dX12_takesWorth_44 : decode cX12_takesWorth 44 = .ok (.aload_n 0, 1) := by decide +kernel
theorem dX12_takesWorth_45 : decode cX12_takesWorth 45 = .ok (.getfield 83, 3) := by decide +kernel
theorem dX12_takesWorth_48 : decode cX12_takesWorth 48 = .ok (.iload_n 1, 1) := by decide +kernel
theorem dX12_takesWorth_49 : decode cX12_takesWorth 49 = .ok (.aload_n 0, 1) := by decide +kernel
theorem dX12_takesWorth_50 : decode cX12_takesWorth 50 = .ok (.getfield 80, 3) := by decide +kernel
theorem dX12_takesWorth_53 : decode cX12_takesWorth 53 = .ok (.iastore, 1) := by decide +kernel
theorem dX12_takesWorth_54 : decode cX12_takesWorth 54 = .ok (.iconst 1, 1) := by decide +kernel
theorem dX12_takesWorth_55 : decode cX12_takesWorth 55 = .ok (.ireturn, 1) := by decide +kernel
theorem dX12_takesMark_0 : decode cX12_takesMark 0 = .ok (.aload_n 0, 1) := by decide +kernel
theorem dX12_takesMark_1 : decode cX12_takesMark 1 = .ok (.ldc 231, 2) := by decide +kernel
theorem dX12_takesMark_3 : decode cX12_takesMark 3 = .ok (.iconst 4, 1) := by decide +kernel
theorem dX12_takesMark_4 : decode cX12_takesMark 4 = .ok (.invokevirtual 228, 3) := by decide +kernel
theorem dX12_takesMark_7 : decode cX12_takesMark 7 = .ok (.ifCond .eq 13, 3) := by decide +kernel
theorem dX12_takesMark_10 : decode cX12_takesMark 10 = .ok (.aload_n 0, 1) := by decide +kernel
theorem dX12_takesMark_11 : decode cX12_takesMark 11 = .ok (.iconst 0, 1) := by decide +kernel
theorem dX12_takesMark_12 : decode cX12_takesMark 12 = .ok (.bipush 7, 2) := by decide +kernel
theorem dX12_takesMark_14 : decode cX12_takesMark 14 = .ok (.invokevirtual 217, 3) := by decide +kernel
theorem dX12_takesMark_17 : decode cX12_takesMark 17 = .ok (.ifCond .ne 5, 3) := by decide +kernel
theorem dX12_takesMark_20 : decode cX12_takesMark 20 = .ok (.iconst 0, 1) := by decide +kernel
theorem dX12_takesMark_21 : decode cX12_takesMark 21 = .ok (.ireturn, 1) := by decide +kernel
theorem dX12_takesMark_22 : decode cX12_takesMark 22 = .ok (.aload_n 0, 1) := by decide +kernel
theorem dX12_takesMark_23 : decode cX12_takesMark 23 = .ok (.getfield 80, 3) := by decide +kernel
theorem dX12_takesMark_26 : decode cX12_takesMark 26 = .ok (.istore_n 1, 1) := by decide +kernel
theorem dX12_takesMark_27 : decode cX12_takesMark 27 = .ok (.aload_n 0, 1) := by decide +kernel
theorem dX12_takesMark_28 : decode cX12_takesMark 28 = .ok (.bipush 32, 2) := by decide +kernel
theorem dX12_takesMark_30 : decode cX12_takesMark 30 = .ok (.invokevirtual 203, 3) := by decide +kernel
theorem dX12_takesMark_33 : decode cX12_takesMark 33 = .ok (.ifCond .eq 10, 3) := by decide +kernel
theorem dX12_takesMark_36 : decode cX12_takesMark 36 = .ok (.aload_n 0, 1) := by decide +kernel
theorem dX12_takesMark_37 : decode cX12_takesMark 37 = .ok (.invokevirtual 210, 3) := by decide +kernel
theorem dX12_takesMark_40 : decode cX12_takesMark 40 = .ok (.ifCond .ne 5, 3) := by decide +kernel
theorem dX12_takesMark_43 : decode cX12_takesMark 43 = .ok (.iconst 0, 1) := by decide +kernel
theorem dX12_takesMark_44 : decode cX12_takesMark 44 = .ok (.ireturn, 1) := by decide +kernel
theorem dX12_takesMark_45 : decode cX12_takesMark 45 = .ok (.aload_n 0, 1) := by decide +kernel
theorem dX12_takesMark_46 : decode cX12_takesMark 46 = .ok (.getfield 86, 3) := by decide +kernel
theorem dX12_takesMark_49 : decode cX12_takesMark 49 = .ok (.iload_n 1, 1) := by decide +kernel
theorem dX12_takesMark_50 : decode cX12_takesMark 50 = .ok (.aload_n 0, 1) := by decide +kernel
theorem dX12_takesMark_51 : decode cX12_takesMark 51 = .ok (.getfield 80, 3) := by decide +kernel
theorem dX12_takesMark_54 : decode cX12_takesMark 54 = .ok (.iastore, 1) := by decide +kernel
theorem dX12_takesMark_55 : decode cX12_takesMark 55 = .ok (.iconst 1, 1) := by decide +kernel
theorem dX12_takesMark_56 : decode cX12_takesMark 56 = .ok (.ireturn, 1) := by decide +kernel
theorem dX12_takesKind_0 : decode cX12_takesKind 0 = .ok (.aload_n 0, 1) := by decide +kernel
theorem dX12_takesKind_1 : decode cX12_takesKind 1 = .ok (.ldc 232, 2) := by decide +kernel
theorem dX12_takesKind_3 : decode cX12_takesKind 3 = .ok (.iconst 4, 1) := by decide +kernel
theorem dX12_takesKind_4 : decode cX12_takesKind 4 = .ok (.invokevirtual 228, 3) := by decide +kernel
theorem dX12_takesKind_7 : decode cX12_takesKind 7 = .ok (.ifCond .eq 12, 3) := by decide +kernel
theorem dX12_takesKind_10 : decode cX12_takesKind 10 = .ok (.aload_n 0, 1) := by decide +kernel
theorem dX12_takesKind_11 : decode cX12_takesKind 11 = .ok (.iconst 0, 1) := by decide +kernel
theorem dX12_takesKind_12 : decode cX12_takesKind 12 = .ok (.iconst 2, 1) := by decide +kernel
theorem dX12_takesKind_13 : decode cX12_takesKind 13 = .ok (.invokevirtual 217, 3) := by decide +kernel
theorem dX12_takesKind_16 : decode cX12_takesKind 16 = .ok (.ifCond .ne 5, 3) := by decide +kernel
theorem dX12_takesKind_19 : decode cX12_takesKind 19 = .ok (.iconst 0, 1) := by decide +kernel
theorem dX12_takesKind_20 : decode cX12_takesKind 20 = .ok (.ireturn, 1) := by decide +kernel
theorem dX12_takesKind_21 : decode cX12_takesKind 21 = .ok (.aload_n 0, 1) := by decide +kernel
theorem dX12_takesKind_22 : decode cX12_takesKind 22 = .ok (.getfield 80, 3) := by decide +kernel
theorem dX12_takesKind_25 : decode cX12_takesKind 25 = .ok (.istore_n 1, 1) := by decide +kernel
theorem dX12_takesKind_26 : decode cX12_takesKind 26 = .ok (.aload_n 0, 1) := by decide +kernel
theorem dX12_takesKind_27 : decode cX12_takesKind 27 = .ok (.bipush 32, 2) := by decide +kernel
theorem dX12_takesKind_29 : decode cX12_takesKind 29 = .ok (.invokevirtual 203, 3) := by decide +kernel
theorem dX12_takesKind_32 : decode cX12_takesKind 32 = .ok (.ifCond .eq 13, 3) := by decide +kernel
theorem dX12_takesKind_35 : decode cX12_takesKind 35 = .ok (.aload_n 0, 1) := by decide +kernel
theorem dX12_takesKind_36 : decode cX12_takesKind 36 = .ok (.iconst 0, 1) := by decide +kernel
theorem dX12_takesKind_37 : decode cX12_takesKind 37 = .ok (.bipush 9, 2) := by decide +kernel
theorem dX12_takesKind_39 : decode cX12_takesKind 39 = .ok (.invokevirtual 217, 3) := by decide +kernel
theorem dX12_takesKind_42 : decode cX12_takesKind 42 = .ok (.ifCond .ne 5, 3) := by decide +kernel
theorem dX12_takesKind_45 : decode cX12_takesKind 45 = .ok (.iconst 0, 1) := by decide +kernel
theorem dX12_takesKind_46 : decode cX12_takesKind 46 = .ok (.ireturn, 1) := by decide +kernel
theorem dX12_takesKind_47 : decode cX12_takesKind 47 = .ok (.aload_n 0, 1) := by decide +kernel
theorem dX12_takesKind_48 : decode cX12_takesKind 48 = .ok (.getfield 80, 3) := by decide +kernel
theorem dX12_takesKind_51 : decode cX12_takesKind 51 = .ok (.istore_n 2, 1) := by decide +kernel
theorem dX12_takesKind_52 : decode cX12_takesKind 52 = .ok (.aload_n 0, 1) := by decide +kernel
theorem dX12_takesKind_53 : decode cX12_takesKind 53 = .ok (.bipush 32, 2) := by decide +kernel
theorem dX12_takesKind_55 : decode cX12_takesKind 55 = .ok (.invokevirtual 203, 3) := by decide +kernel
theorem dX12_takesKind_58 : decode cX12_takesKind 58 = .ok (.ifCond .eq 10, 3) := by decide +kernel
theorem dX12_takesKind_61 : decode cX12_takesKind 61 = .ok (.aload_n 0, 1) := by decide +kernel
theorem dX12_takesKind_62 : decode cX12_takesKind 62 = .ok (.invokevirtual 210, 3) := by decide +kernel
theorem dX12_takesKind_65 : decode cX12_takesKind 65 = .ok (.ifCond .ne 5, 3) := by decide +kernel
theorem dX12_takesKind_68 : decode cX12_takesKind 68 = .ok (.iconst 0, 1) := by decide +kernel
theorem dX12_takesKind_69 : decode cX12_takesKind 69 = .ok (.ireturn, 1) := by decide +kernel
theorem dX12_takesKind_70 : decode cX12_takesKind 70 = .ok (.aload_n 0, 1) := by decide +kernel
theorem dX12_takesKind_71 : decode cX12_takesKind 71 = .ok (.getfield 89, 3) := by decide +kernel
theorem dX12_takesKind_74 : decode cX12_takesKind 74 = .ok (.iload_n 1, 1) := by decide +kernel
theorem dX12_takesKind_75 : decode cX12_takesKind 75 = .ok (.iload_n 2, 1) := by decide +kernel
theorem dX12_takesKind_76 : decode cX12_takesKind 76 = .ok (.iastore, 1) := by decide +kernel
theorem dX12_takesKind_77 : decode cX12_takesKind 77 = .ok (.aload_n 0, 1) := by decide +kernel
theorem dX12_takesKind_78 : decode cX12_takesKind 78 = .ok (.getfield 92, 3) := by decide +kernel
theorem dX12_takesKind_81 : decode cX12_takesKind 81 = .ok (.iload_n 1, 1) := by decide +kernel
theorem dX12_takesKind_82 : decode cX12_takesKind 82 = .ok (.aload_n 0, 1) := by decide +kernel
theorem dX12_takesKind_83 : decode cX12_takesKind 83 = .ok (.getfield 80, 3) := by decide +kernel
theorem dX12_takesKind_86 : decode cX12_takesKind 86 = .ok (.iastore, 1) := by decide +kernel
theorem dX12_takesKind_87 : decode cX12_takesKind 87 = .ok (.iconst 1, 1) := by decide +kernel
theorem dX12_takesKind_88 : decode cX12_takesKind 88 = .ok (.ireturn, 1) := by decide +kernel
theorem dX12_takesP_0 : decode cX12_takesP 0 = .ok (.aload_n 0, 1) := by decide +kernel
theorem dX12_takesP_1 : decode cX12_takesP 1 = .ok (.getfield 74, 3) := by decide +kernel
theorem dX12_takesP_4 : decode cX12_takesP 4 = .ok (.iconst 1, 1) := by decide +kernel
theorem dX12_takesP_5 : decode cX12_takesP 5 = .ok (.iadd, 1) := by decide +kernel
theorem dX12_takesP_6 : decode cX12_takesP 6 = .ok (.aload_n 0, 1) := by decide +kernel
theorem dX12_takesP_7 : decode cX12_takesP 7 = .ok (.getfield 71, 3) := by decide +kernel
theorem dX12_takesP_10 : decode cX12_takesP 10 = .ok (.if_icmp .ge 22, 3) := by decide +kernel
theorem dX12_takesP_13 : decode cX12_takesP 13 = .ok (.aload_n 0, 1) := by decide +kernel
theorem dX12_takesP_14 : decode cX12_takesP 14 = .ok (.getfield 59, 3) := by decide +kernel
theorem dX12_takesP_17 : decode cX12_takesP 17 = .ok (.aload_n 0, 1) := by decide +kernel
theorem dX12_takesP_18 : decode cX12_takesP 18 = .ok (.getfield 68, 3) := by decide +kernel
theorem dX12_takesP_21 : decode cX12_takesP 21 = .ok (.aload_n 0, 1) := by decide +kernel
theorem dX12_takesP_22 : decode cX12_takesP 22 = .ok (.getfield 74, 3) := by decide +kernel
theorem dX12_takesP_25 : decode cX12_takesP 25 = .ok (.iadd, 1) := by decide +kernel
theorem dX12_takesP_26 : decode cX12_takesP 26 = .ok (.iconst 1, 1) := by decide +kernel
theorem dX12_takesP_27 : decode cX12_takesP 27 = .ok (.iadd, 1) := by decide +kernel
theorem dX12_takesP_28 : decode cX12_takesP 28 = .ok (.iaload, 1) := by decide +kernel
theorem dX12_takesP_29 : decode cX12_takesP 29 = .ok (.goto 4, 3) := by decide +kernel
theorem dX12_takesP_32 : decode cX12_takesP 32 = .ok (.iconst (-1), 1) := by decide +kernel
theorem dX12_takesP_33 : decode cX12_takesP 33 = .ok (.istore_n 1, 1) := by decide +kernel
theorem dX12_takesP_34 : decode cX12_takesP 34 = .ok (.iload_n 1, 1) := by decide +kernel
theorem dX12_takesP_35 : decode cX12_takesP 35 = .ok (.bipush 105, 2) := by decide +kernel
theorem dX12_takesP_37 : decode cX12_takesP 37 = .ok (.if_icmp .ne 57, 3) := by decide +kernel
theorem dX12_takesP_40 : decode cX12_takesP 40 = .ok (.aload_n 0, 1) := by decide +kernel
theorem dX12_takesP_41 : decode cX12_takesP 41 = .ok (.ldc 233, 2) := by decide +kernel
theorem dX12_takesP_43 : decode cX12_takesP 43 = .ok (.iconst 4, 1) := by decide +kernel
theorem dX12_takesP_44 : decode cX12_takesP 44 = .ok (.invokevirtual 228, 3) := by decide +kernel
theorem dX12_takesP_47 : decode cX12_takesP 47 = .ok (.ifCond .eq 10, 3) := by decide +kernel
theorem dX12_takesP_50 : decode cX12_takesP 50 = .ok (.aload_n 0, 1) := by decide +kernel
theorem dX12_takesP_51 : decode cX12_takesP 51 = .ok (.invokevirtual 234, 3) := by decide +kernel
theorem dX12_takesP_54 : decode cX12_takesP 54 = .ok (.ifCond .ne 5, 3) := by decide +kernel
theorem dX12_takesP_57 : decode cX12_takesP 57 = .ok (.iconst 0, 1) := by decide +kernel
theorem dX12_takesP_58 : decode cX12_takesP 58 = .ok (.ireturn, 1) := by decide +kernel
theorem dX12_takesP_59 : decode cX12_takesP 59 = .ok (.aload_n 0, 1) := by decide +kernel
theorem dX12_takesP_60 : decode cX12_takesP 60 = .ok (.getfield 107, 3) := by decide +kernel
theorem dX12_takesP_63 : decode cX12_takesP 63 = .ok (.bipush 6, 2) := by decide +kernel
theorem dX12_takesP_65 : decode cX12_takesP 65 = .ok (.aload_n 0, 1) := by decide +kernel
theorem dX12_takesP_66 : decode cX12_takesP 66 = .ok (.getfield 104, 3) := by decide +kernel
theorem dX12_takesP_69 : decode cX12_takesP 69 = .ok (.imul, 1) := by decide +kernel
theorem dX12_takesP_70 : decode cX12_takesP 70 = .ok (.aload_n 0, 1) := by decide +kernel
theorem dX12_takesP_71 : decode cX12_takesP 71 = .ok (.getfield 111, 3) := by decide +kernel
theorem dX12_takesP_74 : decode cX12_takesP 74 = .ok (.iadd, 1) := by decide +kernel
theorem dX12_takesP_75 : decode cX12_takesP 75 = .ok (.aload_n 0, 1) := by decide +kernel
theorem dX12_takesP_76 : decode cX12_takesP 76 = .ok (.getfield 117, 3) := by decide +kernel
theorem dX12_takesP_79 : decode cX12_takesP 79 = .ok (.iconst 0, 1) := by decide +kernel
theorem dX12_takesP_80 : decode cX12_takesP 80 = .ok (.baload, 1) := by decide +kernel
theorem dX12_takesP_81 : decode cX12_takesP 81 = .ok (.bastore, 1) := by decide +kernel
theorem dX12_takesP_82 : decode cX12_takesP 82 = .ok (.aload_n 0, 1) := by decide +kernel
theorem dX12_takesP_83 : decode cX12_takesP 83 = .ok (.dup, 1) := by decide +kernel
theorem dX12_takesP_84 : decode cX12_takesP 84 = .ok (.getfield 104, 3) := by decide +kernel
theorem dX12_takesP_87 : decode cX12_takesP 87 = .ok (.iconst 1, 1) := by decide +kernel
theorem dX12_takesP_88 : decode cX12_takesP 88 = .ok (.iadd, 1) := by decide +kernel
theorem dX12_takesP_89 : decode cX12_takesP 89 = .ok (.putfield 104, 3) := by decide +kernel
theorem dX12_takesP_92 : decode cX12_takesP 92 = .ok (.iconst 1, 1) := by decide +kernel
theorem dX12_takesP_93 : decode cX12_takesP 93 = .ok (.ireturn, 1) := by decide +kernel
theorem dX12_takesP_94 : decode cX12_takesP 94 = .ok (.aload_n 0, 1) := by decide +kernel
theorem dX12_takesP_95 : decode cX12_takesP 95 = .ok (.ldc 237, 2) := by decide +kernel
theorem dX12_takesP_97 : decode cX12_takesP 97 = .ok (.iconst 5, 1) := by decide +kernel
theorem dX12_takesP_98 : decode cX12_takesP 98 = .ok (.invokevirtual 228, 3) := by decide +kernel
theorem dX12_takesP_101 : decode cX12_takesP 101 = .ok (.ifCond .eq 10, 3) := by decide +kernel
theorem dX12_takesP_104 : decode cX12_takesP 104 = .ok (.aload_n 0, 1) := by decide +kernel
theorem dX12_takesP_105 : decode cX12_takesP 105 = .ok (.invokevirtual 210, 3) := by decide +kernel
theorem dX12_takesP_108 : decode cX12_takesP 108 = .ok (.ifCond .ne 5, 3) := by decide +kernel
theorem dX12_takesP_111 : decode cX12_takesP 111 = .ok (.iconst 0, 1) := by decide +kernel
theorem dX12_takesP_112 : decode cX12_takesP 112 = .ok (.ireturn, 1) := by decide +kernel
theorem dX12_takesP_113 : decode cX12_takesP 113 = .ok (.aload_n 0, 1) := by decide +kernel
theorem dX12_takesP_114 : decode cX12_takesP 114 = .ok (.aload_n 0, 1) := by decide +kernel
theorem dX12_takesP_115 : decode cX12_takesP 115 = .ok (.getfield 80, 3) := by decide +kernel
theorem dX12_takesP_118 : decode cX12_takesP 118 = .ok (.putfield 95, 3) := by decide +kernel
theorem dX12_takesP_121 : decode cX12_takesP 121 = .ok (.iconst 1, 1) := by decide +kernel
theorem dX12_takesP_122 : decode cX12_takesP 122 = .ok (.ireturn, 1) := by decide +kernel
theorem dX12_takesClause_0 : decode cX12_takesClause 0 = .ok (.aload_n 0, 1) := by decide +kernel
theorem dX12_takesClause_1 : decode cX12_takesClause 1 = .ok (.invokevirtual 199, 3) := by decide +kernel
theorem dX12_takesClause_4 : decode cX12_takesClause 4 = .ok (.tableswitch 120 107 119 #[78, 88, 73, 120, 120, 83, 120, 120, 120, 120, 120, 120, 68], 68) := by decide +kernel
theorem dX12_takesClause_72 : decode cX12_takesClause 72 = .ok (.aload_n 0, 1) := by decide +kernel
theorem dX12_takesClause_73 : decode cX12_takesClause 73 = .ok (.invokevirtual 238, 3) := by decide +kernel
theorem dX12_takesClause_76 : decode cX12_takesClause 76 = .ok (.ireturn, 1) := by decide +kernel
theorem dX12_takesClause_77 : decode cX12_takesClause 77 = .ok (.aload_n 0, 1) := by decide +kernel
theorem dX12_takesClause_78 : decode cX12_takesClause 78 = .ok (.invokevirtual 241, 3) := by decide +kernel
theorem dX12_takesClause_81 : decode cX12_takesClause 81 = .ok (.ireturn, 1) := by decide +kernel
theorem dX12_takesClause_82 : decode cX12_takesClause 82 = .ok (.aload_n 0, 1) := by decide +kernel
theorem dX12_takesClause_83 : decode cX12_takesClause 83 = .ok (.invokevirtual 244, 3) := by decide +kernel
theorem dX12_takesClause_86 : decode cX12_takesClause 86 = .ok (.ireturn, 1) := by decide +kernel
theorem dX12_takesClause_87 : decode cX12_takesClause 87 = .ok (.aload_n 0, 1) := by decide +kernel
theorem dX12_takesClause_88 : decode cX12_takesClause 88 = .ok (.invokevirtual 247, 3) := by decide +kernel
theorem dX12_takesClause_91 : decode cX12_takesClause 91 = .ok (.ireturn, 1) := by decide +kernel
theorem dX12_takesClause_92 : decode cX12_takesClause 92 = .ok (.aload_n 0, 1) := by decide +kernel
theorem dX12_takesClause_93 : decode cX12_takesClause 93 = .ok (.ldc 250, 2) := by decide +kernel
theorem dX12_takesClause_95 : decode cX12_takesClause 95 = .ok (.iconst 4, 1) := by decide +kernel
theorem dX12_takesClause_96 : decode cX12_takesClause 96 = .ok (.invokevirtual 228, 3) := by decide +kernel
theorem dX12_takesClause_99 : decode cX12_takesClause 99 = .ok (.ifCond .eq 13, 3) := by decide +kernel
theorem dX12_takesClause_102 : decode cX12_takesClause 102 = .ok (.aload_n 0, 1) := by decide +kernel
theorem dX12_takesClause_103 : decode cX12_takesClause 103 = .ok (.iconst 1, 1) := by decide +kernel
theorem dX12_takesClause_104 : decode cX12_takesClause 104 = .ok (.bipush 9, 2) := by decide +kernel
theorem dX12_takesClause_106 : decode cX12_takesClause 106 = .ok (.invokevirtual 217, 3) := by decide +kernel
theorem dX12_takesClause_109 : decode cX12_takesClause 109 = .ok (.ifCond .ne 5, 3) := by decide +kernel
theorem dX12_takesClause_112 : decode cX12_takesClause 112 = .ok (.iconst 0, 1) := by decide +kernel
theorem dX12_takesClause_113 : decode cX12_takesClause 113 = .ok (.ireturn, 1) := by decide +kernel
theorem dX12_takesClause_114 : decode cX12_takesClause 114 = .ok (.aload_n 0, 1) := by decide +kernel
theorem dX12_takesClause_115 : decode cX12_takesClause 115 = .ok (.aload_n 0, 1) := by decide +kernel
theorem dX12_takesClause_116 : decode cX12_takesClause 116 = .ok (.getfield 80, 3) := by decide +kernel
theorem dX12_takesClause_119 : decode cX12_takesClause 119 = .ok (.putfield 101, 3) := by decide +kernel
theorem dX12_takesClause_122 : decode cX12_takesClause 122 = .ok (.iconst 1, 1) := by decide +kernel
theorem dX12_takesClause_123 : decode cX12_takesClause 123 = .ok (.ireturn, 1) := by decide +kernel
theorem dX12_takesClause_124 : decode cX12_takesClause 124 = .ok (.aload_n 0, 1) := by decide +kernel
theorem dX12_takesClause_125 : decode cX12_takesClause 125 = .ok (.ldc 251, 2) := by decide +kernel
theorem dX12_takesClause_127 : decode cX12_takesClause 127 = .ok (.iconst 4, 1) := by decide +kernel
theorem dX12_takesClause_128 : decode cX12_takesClause 128 = .ok (.invokevirtual 228, 3) := by decide +kernel
theorem dX12_takesClause_131 : decode cX12_takesClause 131 = .ok (.ifCond .eq 10, 3) := by decide +kernel
theorem dX12_takesClause_134 : decode cX12_takesClause 134 = .ok (.aload_n 0, 1) := by decide +kernel
theorem dX12_takesClause_135 : decode cX12_takesClause 135 = .ok (.invokevirtual 210, 3) := by decide +kernel
theorem dX12_takesClause_138 : decode cX12_takesClause 138 = .ok (.ifCond .ne 5, 3) := by decide +kernel
theorem dX12_takesClause_141 : decode cX12_takesClause 141 = .ok (.iconst 0, 1) := by decide +kernel
theorem dX12_takesClause_142 : decode cX12_takesClause 142 = .ok (.ireturn, 1) := by decide +kernel
theorem dX12_takesClause_143 : decode cX12_takesClause 143 = .ok (.aload_n 0, 1) := by decide +kernel
theorem dX12_takesClause_144 : decode cX12_takesClause 144 = .ok (.aload_n 0, 1) := by decide +kernel
theorem dX12_takesClause_145 : decode cX12_takesClause 145 = .ok (.getfield 80, 3) := by decide +kernel
theorem dX12_takesClause_148 : decode cX12_takesClause 148 = .ok (.putfield 98, 3) := by decide +kernel
theorem dX12_takesClause_151 : decode cX12_takesClause 151 = .ok (.iconst 1, 1) := by decide +kernel
theorem dX12_takesClause_152 : decode cX12_takesClause 152 = .ok (.ireturn, 1) := by decide +kernel
theorem dX12_goes_0 : decode cX12_goes 0 = .ok (.aload_n 0, 1) := by decide +kernel
theorem dX12_goes_1 : decode cX12_goes 1 = .ok (.bipush 120, 2) := by decide +kernel
theorem dX12_goes_3 : decode cX12_goes 3 = .ok (.iload_n 1, 1) := by decide +kernel
theorem dX12_goes_4 : decode cX12_goes 4 = .ok (.imul, 1) := by decide +kernel
theorem dX12_goes_5 : decode cX12_goes 5 = .ok (.putfield 68, 3) := by decide +kernel
theorem dX12_goes_8 : decode cX12_goes 8 = .ok (.aload_n 0, 1) := by decide +kernel
theorem dX12_goes_9 : decode cX12_goes 9 = .ok (.aload_n 0, 1) := by decide +kernel
theorem dX12_goes_10 : decode cX12_goes 10 = .ok (.getfield 62, 3) := by decide +kernel
theorem dX12_goes_13 : decode cX12_goes 13 = .ok (.iload_n 1, 1) := by decide +kernel
theorem dX12_goes_14 : decode cX12_goes 14 = .ok (.iaload, 1) := by decide +kernel
theorem dX12_goes_15 : decode cX12_goes 15 = .ok (.putfield 71, 3) := by decide +kernel
theorem dX12_goes_18 : decode cX12_goes 18 = .ok (.aload_n 0, 1) := by decide +kernel
theorem dX12_goes_19 : decode cX12_goes 19 = .ok (.iconst 0, 1) := by decide +kernel
theorem dX12_goes_20 : decode cX12_goes 20 = .ok (.putfield 74, 3) := by decide +kernel
theorem dX12_goes_23 : decode cX12_goes 23 = .ok (.aload_n 0, 1) := by decide +kernel
theorem dX12_goes_24 : decode cX12_goes 24 = .ok (.iconst 0, 1) := by decide +kernel
theorem dX12_goes_25 : decode cX12_goes 25 = .ok (.putfield 77, 3) := by decide +kernel
theorem dX12_goes_28 : decode cX12_goes 28 = .ok (.aload_n 0, 1) := by decide +kernel
theorem dX12_goes_29 : decode cX12_goes 29 = .ok (.iconst 0, 1) := by decide +kernel
theorem dX12_goes_30 : decode cX12_goes 30 = .ok (.putfield 104, 3) := by decide +kernel
theorem dX12_goes_33 : decode cX12_goes 33 = .ok (.aload_n 0, 1) := by decide +kernel
theorem dX12_goes_34 : decode cX12_goes 34 = .ok (.iconst 0, 1) := by decide +kernel
theorem dX12_goes_35 : decode cX12_goes 35 = .ok (.putfield 95, 3) := by decide +kernel
theorem dX12_goes_38 : decode cX12_goes 38 = .ok (.aload_n 0, 1) := by decide +kernel
theorem dX12_goes_39 : decode cX12_goes 39 = .ok (.iconst 0, 1) := by decide +kernel
theorem dX12_goes_40 : decode cX12_goes 40 = .ok (.putfield 98, 3) := by decide +kernel
theorem dX12_goes_43 : decode cX12_goes 43 = .ok (.aload_n 0, 1) := by decide +kernel
theorem dX12_goes_44 : decode cX12_goes 44 = .ok (.bipush 9, 2) := by decide +kernel
theorem dX12_goes_46 : decode cX12_goes 46 = .ok (.putfield 101, 3) := by decide +kernel
theorem dX12_goes_49 : decode cX12_goes 49 = .ok (.iconst 0, 1) := by decide +kernel
theorem dX12_goes_50 : decode cX12_goes 50 = .ok (.istore_n 2, 1) := by decide +kernel
theorem dX12_goes_51 : decode cX12_goes 51 = .ok (.iload_n 2, 1) := by decide +kernel
theorem dX12_goes_52 : decode cX12_goes 52 = .ok (.bipush 6, 2) := by decide +kernel
theorem dX12_goes_54 : decode cX12_goes 54 = .ok (.if_icmp .ge 17, 3) := by decide +kernel
theorem dX12_goes_57 : decode cX12_goes 57 = .ok (.aload_n 0, 1) := by decide +kernel
theorem dX12_goes_58 : decode cX12_goes 58 = .ok (.getfield 83, 3) := by decide +kernel
theorem dX12_goes_61 : decode cX12_goes 61 = .ok (.iload_n 2, 1) := by decide +kernel
theorem dX12_goes_62 : decode cX12_goes 62 = .ok (.bipush 10, 2) := by decide +kernel
theorem dX12_goes_64 : decode cX12_goes 64 = .ok (.iastore, 1) := by decide +kernel
theorem dX12_goes_65 : decode cX12_goes 65 = .ok (.iinc 2 1, 3) := by decide +kernel
theorem dX12_goes_68 : decode cX12_goes 68 = .ok (.goto (-17), 3) := by decide +kernel
theorem dX12_goes_71 : decode cX12_goes 71 = .ok (.iconst 0, 1) := by decide +kernel
theorem dX12_goes_72 : decode cX12_goes 72 = .ok (.istore_n 2, 1) := by decide +kernel
theorem dX12_goes_73 : decode cX12_goes 73 = .ok (.iload_n 2, 1) := by decide +kernel
theorem dX12_goes_74 : decode cX12_goes 74 = .ok (.bipush 8, 2) := by decide +kernel
theorem dX12_goes_76 : decode cX12_goes 76 = .ok (.if_icmp .ge 16, 3) := by decide +kernel
theorem dX12_goes_79 : decode cX12_goes 79 = .ok (.aload_n 0, 1) := by decide +kernel
theorem dX12_goes_80 : decode cX12_goes 80 = .ok (.getfield 86, 3) := by decide +kernel
theorem dX12_goes_83 : decode cX12_goes 83 = .ok (.iload_n 2, 1) := by decide +kernel
theorem dX12_goes_84 : decode cX12_goes 84 = .ok (.iconst 0, 1) := by decide +kernel
theorem dX12_goes_85 : decode cX12_goes 85 = .ok (.iastore, 1) := by decide +kernel
theorem dX12_goes_86 : decode cX12_goes 86 = .ok (.iinc 2 1, 3) := by decide +kernel
theorem dX12_goes_89 : decode cX12_goes 89 = .ok (.goto (-16), 3) := by decide +kernel
theorem dX12_goes_92 : decode cX12_goes 92 = .ok (.iconst 0, 1) := by decide +kernel
theorem dX12_goes_93 : decode cX12_goes 93 = .ok (.istore_n 2, 1) := by decide +kernel
theorem dX12_goes_94 : decode cX12_goes 94 = .ok (.iload_n 2, 1) := by decide +kernel
theorem dX12_goes_95 : decode cX12_goes 95 = .ok (.iconst 3, 1) := by decide +kernel
theorem dX12_goes_96 : decode cX12_goes 96 = .ok (.if_icmp .ge 23, 3) := by decide +kernel
theorem dX12_goes_99 : decode cX12_goes 99 = .ok (.aload_n 0, 1) := by decide +kernel
theorem dX12_goes_100 : decode cX12_goes 100 = .ok (.getfield 89, 3) := by decide +kernel
theorem dX12_goes_103 : decode cX12_goes 103 = .ok (.iload_n 2, 1) := by decide +kernel
theorem dX12_goes_104 : decode cX12_goes 104 = .ok (.iconst 0, 1) := by decide +kernel
theorem dX12_goes_105 : decode cX12_goes 105 = .ok (.iastore, 1) := by decide +kernel
theorem dX12_goes_106 : decode cX12_goes 106 = .ok (.aload_n 0, 1) := by decide +kernel
theorem dX12_goes_107 : decode cX12_goes 107 = .ok (.getfield 92, 3) := by decide +kernel
theorem dX12_goes_110 : decode cX12_goes 110 = .ok (.iload_n 2, 1) := by decide +kernel
theorem dX12_goes_111 : decode cX12_goes 111 = .ok (.iconst 1, 1) := by decide +kernel
theorem dX12_goes_112 : decode cX12_goes 112 = .ok (.iastore, 1) := by decide +kernel
theorem dX12_goes_113 : decode cX12_goes 113 = .ok (.iinc 2 1, 3) := by decide +kernel
theorem dX12_goes_116 : decode cX12_goes 116 = .ok (.goto (-22), 3) := by decide +kernel
theorem dX12_goes_119 : decode cX12_goes 119 = .ok (.aload_n 0, 1) := by decide +kernel
theorem dX12_goes_120 : decode cX12_goes 120 = .ok (.invokevirtual 252, 3) := by decide +kernel
theorem dX12_goes_123 : decode cX12_goes 123 = .ok (.ifCond .ne 5, 3) := by decide +kernel
theorem dX12_goes_126 : decode cX12_goes 126 = .ok (.iconst 0, 1) := by decide +kernel
theorem dX12_goes_127 : decode cX12_goes 127 = .ok (.ireturn, 1) := by decide +kernel
theorem dX12_goes_128 : decode cX12_goes 128 = .ok (.aload_n 0, 1) := by decide +kernel
theorem dX12_goes_129 : decode cX12_goes 129 = .ok (.dup, 1) := by decide +kernel
theorem dX12_goes_130 : decode cX12_goes 130 = .ok (.getfield 77, 3) := by decide +kernel
theorem dX12_goes_133 : decode cX12_goes 133 = .ok (.iconst 1, 1) := by decide +kernel
theorem dX12_goes_134 : decode cX12_goes 134 = .ok (.iadd, 1) := by decide +kernel
theorem dX12_goes_135 : decode cX12_goes 135 = .ok (.putfield 77, 3) := by decide +kernel
theorem dX12_goes_138 : decode cX12_goes 138 = .ok (.aload_n 0, 1) := by decide +kernel
theorem dX12_goes_139 : decode cX12_goes 139 = .ok (.getfield 74, 3) := by decide +kernel
theorem dX12_goes_142 : decode cX12_goes 142 = .ok (.aload_n 0, 1) := by decide +kernel
theorem dX12_goes_143 : decode cX12_goes 143 = .ok (.getfield 71, 3) := by decide +kernel
theorem dX12_goes_146 : decode cX12_goes 146 = .ok (.if_icmp .ne 5, 3) := by decide +kernel
theorem dX12_goes_149 : decode cX12_goes 149 = .ok (.iconst 1, 1) := by decide +kernel
theorem dX12_goes_150 : decode cX12_goes 150 = .ok (.ireturn, 1) := by decide +kernel
theorem dX12_goes_151 : decode cX12_goes 151 = .ok (.aload_n 0, 1) := by decide +kernel
theorem dX12_goes_152 : decode cX12_goes 152 = .ok (.getfield 77, 3) := by decide +kernel
theorem dX12_goes_155 : decode cX12_goes 155 = .ok (.bipush 10, 2) := by decide +kernel
theorem dX12_goes_157 : decode cX12_goes 157 = .ok (.if_icmp .eq 12, 3) := by decide +kernel
theorem dX12_goes_160 : decode cX12_goes 160 = .ok (.aload_n 0, 1) := by decide +kernel
theorem dX12_goes_161 : decode cX12_goes 161 = .ok (.bipush 59, 2) := by decide +kernel
theorem dX12_goes_163 : decode cX12_goes 163 = .ok (.invokevirtual 203, 3) := by decide +kernel
theorem dX12_goes_166 : decode cX12_goes 166 = .ok (.ifCond .ne (-47), 3) := by decide +kernel
theorem dX12_goes_169 : decode cX12_goes 169 = .ok (.iconst 0, 1) := by decide +kernel
theorem dX12_goes_170 : decode cX12_goes 170 = .ok (.ireturn, 1) := by decide +kernel
theorem dX12_isModel_0 : decode cX12_isModel 0 = .ok (.aload_n 0, 1) := by decide +kernel
theorem dX12_isModel_1 : decode cX12_isModel 1 = .ok (.iload_n 1, 1) := by decide +kernel
theorem dX12_isModel_2 : decode cX12_isModel 2 = .ok (.iconst 0, 1) := by decide +kernel
theorem dX12_isModel_3 : decode cX12_isModel 3 = .ok (.aload_n 0, 1) := by decide +kernel
theorem dX12_isModel_4 : decode cX12_isModel 4 = .ok (.getfield 50, 3) := by decide +kernel
theorem dX12_isModel_7 : decode cX12_isModel 7 = .ok (.iconst 1, 1) := by decide +kernel
theorem dX12_isModel_8 : decode cX12_isModel 8 = .ok (.isub, 1) := by decide +kernel
theorem dX12_isModel_9 : decode cX12_isModel 9 = .ok (.invokevirtual 178, 3) := by decide +kernel
theorem dX12_isModel_12 : decode cX12_isModel 12 = .ok (.ireturn, 1) := by decide +kernel
theorem dX12_listen_0 : decode cX12_listen 0 = .ok (.iconst 1, 1) := by decide +kernel
theorem dX12_listen_1 : decode cX12_listen 1 = .ok (.istore_n 2, 1) := by decide +kernel
theorem dX12_listen_2 : decode cX12_listen 2 = .ok (.iconst 0, 1) := by decide +kernel
theorem dX12_listen_3 : decode cX12_listen 3 = .ok (.istore_n 3, 1) := by decide +kernel
theorem dX12_listen_4 : decode cX12_listen 4 = .ok (.iload_n 3, 1) := by decide +kernel
theorem dX12_listen_5 : decode cX12_listen 5 = .ok (.bipush 6, 2) := by decide +kernel
theorem dX12_listen_7 : decode cX12_listen 7 = .ok (.if_icmp .ge 20, 3) := by decide +kernel
theorem dX12_listen_10 : decode cX12_listen 10 = .ok (.aload_n 0, 1) := by decide +kernel
theorem dX12_listen_11 : decode cX12_listen 11 = .ok (.iload_n 3, 1) := by decide +kernel
theorem dX12_listen_12 : decode cX12_listen 12 = .ok (.putfield 111, 3) := by decide +kernel
theorem dX12_listen_15 : decode cX12_listen 15 = .ok (.aload_n 0, 1) := by decide +kernel
theorem dX12_listen_16 : decode cX12_listen 16 = .ok (.iload_n 1, 1) := by decide +kernel
theorem dX12_listen_17 : decode cX12_listen 17 = .ok (.invokevirtual 255, 3) := by decide +kernel
theorem dX12_listen_20 : decode cX12_listen 20 = .ok (.istore_n 2, 1) := by decide +kernel
theorem dX12_listen_21 : decode cX12_listen 21 = .ok (.iinc 3 1, 3) := by decide +kernel
theorem dX12_listen_24 : decode cX12_listen 24 = .ok (.goto (-20), 3) := by decide +kernel
theorem dX12_listen_27 : decode cX12_listen 27 = .ok (.iload_n 2, 1) := by decide +kernel
theorem dX12_listen_28 : decode cX12_listen 28 = .ok (.ireturn, 1) := by decide +kernel
theorem dX12_model_0 : decode cX12_model 0 = .ok (.aload_n 0, 1) := by decide +kernel
theorem dX12_model_1 : decode cX12_model 1 = .ok (.iload_n 1, 1) := by decide +kernel
theorem dX12_model_2 : decode cX12_model 2 = .ok (.iconst 0, 1) := by decide +kernel
theorem dX12_model_3 : decode cX12_model 3 = .ok (.iconst 5, 1) := by decide +kernel
theorem dX12_model_4 : decode cX12_model 4 = .ok (.invokevirtual 178, 3) := by decide +kernel
theorem dX12_model_7 : decode cX12_model 7 = .ok (.ifCond .ne 5, 3) := by decide +kernel
theorem dX12_model_10 : decode cX12_model 10 = .ok (.iconst (-1), 1) := by decide +kernel
theorem dX12_model_11 : decode cX12_model 11 = .ok (.ireturn, 1) := by decide +kernel
theorem dX12_model_12 : decode cX12_model 12 = .ok (.aload_n 0, 1) := by decide +kernel
theorem dX12_model_13 : decode cX12_model 13 = .ok (.getfield 50, 3) := by decide +kernel
theorem dX12_model_16 : decode cX12_model 16 = .ok (.bipush 10, 2) := by decide +kernel
theorem dX12_model_18 : decode cX12_model 18 = .ok (.if_icmp .ne 6, 3) := by decide +kernel
theorem dX12_model_21 : decode cX12_model 21 = .ok (.bipush (-4), 2) := by decide +kernel
theorem dX12_model_23 : decode cX12_model 23 = .ok (.ireturn, 1) := by decide +kernel
theorem dX12_model_24 : decode cX12_model 24 = .ok (.aload_n 0, 1) := by decide +kernel
theorem dX12_model_25 : decode cX12_model 25 = .ok (.getfield 62, 3) := by decide +kernel
theorem dX12_model_28 : decode cX12_model 28 = .ok (.bipush 10, 2) := by decide +kernel
theorem dX12_model_30 : decode cX12_model 30 = .ok (.aload_n 0, 1) := by decide +kernel
theorem dX12_model_31 : decode cX12_model 31 = .ok (.getfield 53, 3) := by decide +kernel
theorem dX12_model_34 : decode cX12_model 34 = .ok (.iastore, 1) := by decide +kernel
theorem dX12_model_35 : decode cX12_model 35 = .ok (.aload_n 0, 1) := by decide +kernel
theorem dX12_model_36 : decode cX12_model 36 = .ok (.iconst 0, 1) := by decide +kernel
theorem dX12_model_37 : decode cX12_model 37 = .ok (.putfield 53, 3) := by decide +kernel
theorem dX12_model_40 : decode cX12_model 40 = .ok (.aload_n 0, 1) := by decide +kernel
theorem dX12_model_41 : decode cX12_model 41 = .ok (.iconst 0, 1) := by decide +kernel
theorem dX12_model_42 : decode cX12_model 42 = .ok (.putfield 111, 3) := by decide +kernel
theorem dX12_model_45 : decode cX12_model 45 = .ok (.aload_n 0, 1) := by decide +kernel
theorem dX12_model_46 : decode cX12_model 46 = .ok (.bipush 10, 2) := by decide +kernel
theorem dX12_model_48 : decode cX12_model 48 = .ok (.invokevirtual 255, 3) := by decide +kernel
theorem dX12_model_51 : decode cX12_model 51 = .ok (.ifCond .ne 11, 3) := by decide +kernel
theorem dX12_model_54 : decode cX12_model 54 = .ok (.bipush (-10), 2) := by decide +kernel
theorem dX12_model_56 : decode cX12_model 56 = .ok (.aload_n 0, 1) := by decide +kernel
theorem dX12_model_57 : decode cX12_model 57 = .ok (.getfield 74, 3) := by decide +kernel
theorem dX12_model_60 : decode cX12_model 60 = .ok (.isub, 1) := by decide +kernel
theorem dX12_model_61 : decode cX12_model 61 = .ok (.ireturn, 1) := by decide +kernel
theorem dX12_model_62 : decode cX12_model 62 = .ok (.aload_n 0, 1) := by decide +kernel
theorem dX12_model_63 : decode cX12_model 63 = .ok (.getfield 62, 3) := by decide +kernel
theorem dX12_model_66 : decode cX12_model 66 = .ok (.aload_n 0, 1) := by decide +kernel
theorem dX12_model_67 : decode cX12_model 67 = .ok (.getfield 50, 3) := by decide +kernel
theorem dX12_model_70 : decode cX12_model 70 = .ok (.aload_n 0, 1) := by decide +kernel
theorem dX12_model_71 : decode cX12_model 71 = .ok (.getfield 62, 3) := by decide +kernel
theorem dX12_model_74 : decode cX12_model 74 = .ok (.bipush 10, 2) := by decide +kernel
theorem dX12_model_76 : decode cX12_model 76 = .ok (.iaload, 1) := by decide +kernel
theorem dX12_model_77 : decode cX12_model 77 = .ok (.iastore, 1) := by decide +kernel
theorem dX12_model_78 : decode cX12_model 78 = .ok (.iconst 0, 1) := by decide +kernel
theorem dX12_model_79 : decode cX12_model 79 = .ok (.istore_n 2, 1) := by decide +kernel
theorem dX12_model_80 : decode cX12_model 80 = .ok (.iload_n 2, 1) := by decide +kernel
theorem dX12_model_81 : decode cX12_model 81 = .ok (.aload_n 0, 1) := by decide +kernel
theorem dX12_model_82 : decode cX12_model 82 = .ok (.getfield 62, 3) := by decide +kernel
theorem dX12_model_85 : decode cX12_model 85 = .ok (.bipush 10, 2) := by decide +kernel
theorem dX12_model_87 : decode cX12_model 87 = .ok (.iaload, 1) := by decide +kernel
theorem dX12_model_88 : decode cX12_model 88 = .ok (.if_icmp .ge 33, 3) := by decide +kernel
theorem dX12_model_91 : decode cX12_model 91 = .ok (.aload_n 0, 1) := by decide +kernel
theorem dX12_model_92 : decode cX12_model 92 = .ok (.getfield 59, 3) := by decide +kernel
theorem dX12_model_95 : decode cX12_model 95 = .ok (.bipush 120, 2) := by decide +kernel
theorem dX12_model_97 : decode cX12_model 97 = .ok (.aload_n 0, 1) := by decide +kernel
theorem dX12_model_98 : decode cX12_model 98 = .ok (.getfield 50, 3) := by decide +kernel
theorem dX12_model_101 : decode cX12_model 101 = .ok (.imul, 1) := by decide +kernel
theorem dX12_model_102 : decode cX12_model 102 = .ok (.iload_n 2, 1) := by decide +kernel
theorem dX12_model_103 : decode cX12_model 103 = .ok (.iadd, 1) := by decide +kernel
theorem dX12_model_104 : decode cX12_model 104 = .ok (.aload_n 0, 1) := by decide +kernel
theorem dX12_model_105 : decode cX12_model 105 = .ok (.getfield 59, 3) := by decide +kernel
theorem dX12_model_108 : decode cX12_model 108 = .ok (.sipush 1200, 3) := by decide +kernel
theorem dX12_model_111 : decode cX12_model 111 = .ok (.iload_n 2, 1) := by decide +kernel
theorem dX12_model_112 : decode cX12_model 112 = .ok (.iadd, 1) := by decide +kernel
theorem dX12_model_113 : decode cX12_model 113 = .ok (.iaload, 1) := by decide +kernel
theorem dX12_model_114 : decode cX12_model 114 = .ok (.iastore, 1) := by decide +kernel
theorem dX12_model_115 : decode cX12_model 115 = .ok (.iinc 2 1, 3) := by decide +kernel
theorem dX12_model_118 : decode cX12_model 118 = .ok (.goto (-38), 3) := by decide +kernel
theorem dX12_model_121 : decode cX12_model 121 = .ok (.aload_n 0, 1) := by decide +kernel
theorem dX12_model_122 : decode cX12_model 122 = .ok (.getfield 56, 3) := by decide +kernel
theorem dX12_model_125 : decode cX12_model 125 = .ok (.aload_n 0, 1) := by decide +kernel
theorem dX12_model_126 : decode cX12_model 126 = .ok (.getfield 50, 3) := by decide +kernel
theorem dX12_model_129 : decode cX12_model 129 = .ok (.iload_n 1, 1) := by decide +kernel
theorem dX12_model_130 : decode cX12_model 130 = .ok (.iastore, 1) := by decide +kernel
theorem dX12_model_131 : decode cX12_model 131 = .ok (.aload_n 0, 1) := by decide +kernel
theorem dX12_model_132 : decode cX12_model 132 = .ok (.getfield 65, 3) := by decide +kernel
theorem dX12_model_135 : decode cX12_model 135 = .ok (.aload_n 0, 1) := by decide +kernel
theorem dX12_model_136 : decode cX12_model 136 = .ok (.getfield 50, 3) := by decide +kernel
theorem dX12_model_139 : decode cX12_model 139 = .ok (.aload_n 0, 1) := by decide +kernel
theorem dX12_model_140 : decode cX12_model 140 = .ok (.getfield 77, 3) := by decide +kernel
theorem dX12_model_143 : decode cX12_model 143 = .ok (.iastore, 1) := by decide +kernel
theorem dX12_model_144 : decode cX12_model 144 = .ok (.aload_n 0, 1) := by decide +kernel
theorem dX12_model_145 : decode cX12_model 145 = .ok (.dup, 1) := by decide +kernel
theorem dX12_model_146 : decode cX12_model 146 = .ok (.getfield 50, 3) := by decide +kernel
theorem dX12_model_149 : decode cX12_model 149 = .ok (.iconst 1, 1) := by decide +kernel
theorem dX12_model_150 : decode cX12_model 150 = .ok (.iadd, 1) := by decide +kernel
theorem dX12_model_151 : decode cX12_model 151 = .ok (.putfield 50, 3) := by decide +kernel
theorem dX12_model_154 : decode cX12_model 154 = .ok (.aload_n 0, 1) := by decide +kernel
theorem dX12_model_155 : decode cX12_model 155 = .ok (.getfield 50, 3) := by decide +kernel
theorem dX12_model_158 : decode cX12_model 158 = .ok (.iconst 1, 1) := by decide +kernel
theorem dX12_model_159 : decode cX12_model 159 = .ok (.isub, 1) := by decide +kernel
theorem dX12_model_160 : decode cX12_model 160 = .ok (.ireturn, 1) := by decide +kernel
theorem dX12_weightOf_0 : decode cX12_weightOf 0 = .ok (.iload_n 1, 1) := by decide +kernel
theorem dX12_weightOf_1 : decode cX12_weightOf 1 = .ok (.bipush 7, 2) := by decide +kernel
theorem dX12_weightOf_3 : decode cX12_weightOf 3 = .ok (.if_icmp .ne 22, 3) := by decide +kernel
theorem dX12_weightOf_6 : decode cX12_weightOf 6 = .ok (.aload_n 0, 1) := by decide +kernel
theorem dX12_weightOf_7 : decode cX12_weightOf 7 = .ok (.getfield 98, 3) := by decide +kernel
theorem dX12_weightOf_10 : decode cX12_weightOf 10 = .ok (.bipush 50, 2) := by decide +kernel
theorem dX12_weightOf_12 : decode cX12_weightOf 12 = .ok (.if_icmp .le 8, 3) := by decide +kernel
theorem dX12_weightOf_15 : decode cX12_weightOf 15 = .ok (.bipush 50, 2) := by decide +kernel
theorem dX12_weightOf_17 : decode cX12_weightOf 17 = .ok (.goto 7, 3) := by decide +kernel
theorem dX12_weightOf_20 : decode cX12_weightOf 20 = .ok (.aload_n 0, 1) := by decide +kernel
theorem dX12_weightOf_21 : decode cX12_weightOf 21 = .ok (.getfield 98, 3) := by decide +kernel
theorem dX12_weightOf_24 : decode cX12_weightOf 24 = .ok (.ireturn, 1) := by decide +kernel
theorem dX12_weightOf_25 : decode cX12_weightOf 25 = .ok (.aload_n 0, 1) := by decide +kernel
theorem dX12_weightOf_26 : decode cX12_weightOf 26 = .ok (.getfield 83, 3) := by decide +kernel
theorem dX12_weightOf_29 : decode cX12_weightOf 29 = .ok (.iload_n 1, 1) := by decide +kernel
theorem dX12_weightOf_30 : decode cX12_weightOf 30 = .ok (.iaload, 1) := by decide +kernel
theorem dX12_weightOf_31 : decode cX12_weightOf 31 = .ok (.istore_n 3, 1) := by decide +kernel
theorem dX12_weightOf_32 : decode cX12_weightOf 32 = .ok (.iconst 0, 1) := by decide +kernel
theorem dX12_weightOf_33 : decode cX12_weightOf 33 = .ok (.istore 4, 2) := by decide +kernel
theorem dX12_weightOf_35 : decode cX12_weightOf 35 = .ok (.iload 4, 2) := by decide +kernel
theorem dX12_weightOf_37 : decode cX12_weightOf 37 = .ok (.bipush 8, 2) := by decide +kernel
theorem dX12_weightOf_39 : decode cX12_weightOf 39 = .ok (.if_icmp .ge 38, 3) := by decide +kernel
theorem dX12_weightOf_42 : decode cX12_weightOf 42 = .ok (.iload_n 3, 1) := by decide +kernel
theorem dX12_weightOf_43 : decode cX12_weightOf 43 = .ok (.aload_n 0, 1) := by decide +kernel
theorem dX12_weightOf_44 : decode cX12_weightOf 44 = .ok (.aload_n 0, 1) := by decide +kernel
theorem dX12_weightOf_45 : decode cX12_weightOf 45 = .ok (.getfield 22, 3) := by decide +kernel
theorem dX12_weightOf_48 : decode cX12_weightOf 48 = .ok (.iload_n 1, 1) := by decide +kernel
theorem dX12_weightOf_49 : decode cX12_weightOf 49 = .ok (.iaload, 1) := by decide +kernel
theorem dX12_weightOf_50 : decode cX12_weightOf 50 = .ok (.iload 4, 2) := by decide +kernel
theorem dX12_weightOf_52 : decode cX12_weightOf 52 = .ok (.invokevirtual 192, 3) := by decide +kernel
theorem dX12_weightOf_55 : decode cX12_weightOf 55 = .ok (.ifCond .eq 13, 3) := by decide +kernel
theorem dX12_weightOf_58 : decode cX12_weightOf 58 = .ok (.aload_n 0, 1) := by decide +kernel
theorem dX12_weightOf_59 : decode cX12_weightOf 59 = .ok (.getfield 86, 3) := by decide +kernel
theorem dX12_weightOf_62 : decode cX12_weightOf 62 = .ok (.iload 4, 2) := by decide +kernel
theorem dX12_weightOf_64 : decode cX12_weightOf 64 = .ok (.iaload, 1) := by decide +kernel
theorem dX12_weightOf_65 : decode cX12_weightOf 65 = .ok (.goto 4, 3) := by decide +kernel
theorem dX12_weightOf_68 : decode cX12_weightOf 68 = .ok (.iconst 0, 1) := by decide +kernel
theorem dX12_weightOf_69 : decode cX12_weightOf 69 = .ok (.iadd, 1) := by decide +kernel
theorem dX12_weightOf_70 : decode cX12_weightOf 70 = .ok (.istore_n 3, 1) := by decide +kernel
theorem dX12_weightOf_71 : decode cX12_weightOf 71 = .ok (.iinc 4 1, 3) := by decide +kernel
theorem dX12_weightOf_74 : decode cX12_weightOf 74 = .ok (.goto (-39), 3) := by decide +kernel
theorem dX12_weightOf_77 : decode cX12_weightOf 77 = .ok (.iload_n 3, 1) := by decide +kernel
theorem dX12_weightOf_78 : decode cX12_weightOf 78 = .ok (.aload_n 0, 1) := by decide +kernel
theorem dX12_weightOf_79 : decode cX12_weightOf 79 = .ok (.getfield 95, 3) := by decide +kernel
theorem dX12_weightOf_82 : decode cX12_weightOf 82 = .ok (.aload_n 0, 1) := by decide +kernel
theorem dX12_weightOf_83 : decode cX12_weightOf 83 = .ok (.getfield 26, 3) := by decide +kernel
theorem dX12_weightOf_86 : decode cX12_weightOf 86 = .ok (.iload_n 1, 1) := by decide +kernel
theorem dX12_weightOf_87 : decode cX12_weightOf 87 = .ok (.iaload, 1) := by decide +kernel
theorem dX12_weightOf_88 : decode cX12_weightOf 88 = .ok (.imul, 1) := by decide +kernel
theorem dX12_weightOf_89 : decode cX12_weightOf 89 = .ok (.bipush 10, 2) := by decide +kernel
theorem dX12_weightOf_91 : decode cX12_weightOf 91 = .ok (.idiv, 1) := by decide +kernel
theorem dX12_weightOf_92 : decode cX12_weightOf 92 = .ok (.isub, 1) := by decide +kernel
theorem dX12_weightOf_93 : decode cX12_weightOf 93 = .ok (.istore_n 3, 1) := by decide +kernel
theorem dX12_weightOf_94 : decode cX12_weightOf 94 = .ok (.iload_n 3, 1) := by decide +kernel
theorem dX12_weightOf_95 : decode cX12_weightOf 95 = .ok (.iconst 1, 1) := by decide +kernel
theorem dX12_weightOf_96 : decode cX12_weightOf 96 = .ok (.if_icmp .ge 5, 3) := by decide +kernel
theorem dX12_weightOf_99 : decode cX12_weightOf 99 = .ok (.iconst 1, 1) := by decide +kernel
theorem dX12_weightOf_100 : decode cX12_weightOf 100 = .ok (.istore_n 3, 1) := by decide +kernel
theorem dX12_weightOf_101 : decode cX12_weightOf 101 = .ok (.iload_n 1, 1) := by decide +kernel
theorem dX12_weightOf_102 : decode cX12_weightOf 102 = .ok (.iconst 3, 1) := by decide +kernel
theorem dX12_weightOf_103 : decode cX12_weightOf 103 = .ok (.irem, 1) := by decide +kernel
theorem dX12_weightOf_104 : decode cX12_weightOf 104 = .ok (.iload_n 2, 1) := by decide +kernel
theorem dX12_weightOf_105 : decode cX12_weightOf 105 = .ok (.if_icmp .ne 22, 3) := by decide +kernel
theorem dX12_weightOf_108 : decode cX12_weightOf 108 = .ok (.aload_n 0, 1) := by decide +kernel
theorem dX12_weightOf_109 : decode cX12_weightOf 109 = .ok (.getfield 92, 3) := by decide +kernel
theorem dX12_weightOf_112 : decode cX12_weightOf 112 = .ok (.iload_n 2, 1) := by decide +kernel
theorem dX12_weightOf_113 : decode cX12_weightOf 113 = .ok (.iaload, 1) := by decide +kernel
theorem dX12_weightOf_114 : decode cX12_weightOf 114 = .ok (.iconst 1, 1) := by decide +kernel
theorem dX12_weightOf_115 : decode cX12_weightOf 115 = .ok (.if_icmp .le 12, 3) := by decide +kernel
theorem dX12_weightOf_118 : decode cX12_weightOf 118 = .ok (.iload_n 3, 1) := by decide +kernel
theorem dX12_weightOf_119 : decode cX12_weightOf 119 = .ok (.aload_n 0, 1) := by decide +kernel
theorem dX12_weightOf_120 : decode cX12_weightOf 120 = .ok (.getfield 92, 3) := by decide +kernel
theorem dX12_weightOf_123 : decode cX12_weightOf 123 = .ok (.iload_n 2, 1) := by decide +kernel
theorem dX12_weightOf_124 : decode cX12_weightOf 124 = .ok (.iaload, 1) := by decide +kernel
theorem dX12_weightOf_125 : decode cX12_weightOf 125 = .ok (.imul, 1) := by decide +kernel
theorem dX12_weightOf_126 : decode cX12_weightOf 126 = .ok (.istore_n 3, 1) := by decide +kernel
theorem dX12_weightOf_127 : decode cX12_weightOf 127 = .ok (.iload_n 3, 1) := by decide +kernel
theorem dX12_weightOf_128 : decode cX12_weightOf 128 = .ok (.bipush 50, 2) := by decide +kernel
theorem dX12_weightOf_130 : decode cX12_weightOf 130 = .ok (.if_icmp .le 8, 3) := by decide +kernel
theorem dX12_weightOf_133 : decode cX12_weightOf 133 = .ok (.bipush 50, 2) := by decide +kernel
theorem dX12_weightOf_135 : decode cX12_weightOf 135 = .ok (.goto 4, 3) := by decide +kernel
theorem dX12_weightOf_138 : decode cX12_weightOf 138 = .ok (.iload_n 3, 1) := by decide +kernel
theorem dX12_weightOf_139 : decode cX12_weightOf 139 = .ok (.ireturn, 1) := by decide +kernel
theorem dX12_weight_0 : decode cX12_weight 0 = .ok (.aload_n 0, 1) := by decide +kernel
theorem dX12_weight_1 : decode cX12_weight 1 = .ok (.iload_n 1, 1) := by decide +kernel
theorem dX12_weight_2 : decode cX12_weight 2 = .ok (.invokevirtual 258, 3) := by decide +kernel
theorem dX12_weight_5 : decode cX12_weight 5 = .ok (.ifCond .eq 27, 3) := by decide +kernel
theorem dX12_weight_8 : decode cX12_weight 8 = .ok (.iload_n 2, 1) := by decide +kernel
theorem dX12_weight_9 : decode cX12_weight 9 = .ok (.bipush 7, 2) := by decide +kernel
theorem dX12_weight_11 : decode cX12_weight 11 = .ok (.if_icmp .eq 11, 3) := by decide +kernel
theorem dX12_weight_14 : decode cX12_weight 14 = .ok (.aload_n 0, 1) := by decide +kernel
theorem dX12_weight_15 : decode cX12_weight 15 = .ok (.iload_n 2, 1) := by decide +kernel
theorem dX12_weight_16 : decode cX12_weight 16 = .ok (.invokevirtual 182, 3) := by decide +kernel
theorem dX12_weight_19 : decode cX12_weight 19 = .ok (.ifCond .eq 13, 3) := by decide +kernel
theorem dX12_weight_22 : decode cX12_weight 22 = .ok (.aload_n 0, 1) := by decide +kernel
theorem dX12_weight_23 : decode cX12_weight 23 = .ok (.iload_n 3, 1) := by decide +kernel
theorem dX12_weight_24 : decode cX12_weight 24 = .ok (.iconst 0, 1) := by decide +kernel
theorem dX12_weight_25 : decode cX12_weight 25 = .ok (.iconst 2, 1) := by decide +kernel
theorem dX12_weight_26 : decode cX12_weight 26 = .ok (.invokevirtual 178, 3) := by decide +kernel
theorem dX12_weight_29 : decode cX12_weight 29 = .ok (.ifCond .ne 5, 3) := by decide +kernel
theorem dX12_weight_32 : decode cX12_weight 32 = .ok (.iconst (-1), 1) := by decide +kernel
theorem dX12_weight_33 : decode cX12_weight 33 = .ok (.ireturn, 1) := by decide +kernel
theorem dX12_weight_34 : decode cX12_weight 34 = .ok (.aload_n 0, 1) := by decide +kernel
theorem dX12_weight_35 : decode cX12_weight 35 = .ok (.iload_n 1, 1) := by decide +kernel
theorem dX12_weight_36 : decode cX12_weight 36 = .ok (.invokevirtual 261, 3) := by decide +kernel
theorem dX12_weight_39 : decode cX12_weight 39 = .ok (.ifCond .eq 12, 3) := by decide +kernel
theorem dX12_weight_42 : decode cX12_weight 42 = .ok (.aload_n 0, 1) := by decide +kernel
theorem dX12_weight_43 : decode cX12_weight 43 = .ok (.iload_n 2, 1) := by decide +kernel
theorem dX12_weight_44 : decode cX12_weight 44 = .ok (.iload_n 3, 1) := by decide +kernel
theorem dX12_weight_45 : decode cX12_weight 45 = .ok (.invokevirtual 264, 3) := by decide +kernel
theorem dX12_weight_48 : decode cX12_weight 48 = .ok (.goto 4, 3) := by decide +kernel
theorem dX12_weight_51 : decode cX12_weight 51 = .ok (.iconst (-1), 1) := by decide +kernel
theorem dX12_weight_52 : decode cX12_weight 52 = .ok (.ireturn, 1) := by decide +kernel
theorem dX12_putOdds_0 : decode cX12_putOdds 0 = .ok (.aload_n 0, 1) := by decide +kernel
theorem dX12_putOdds_1 : decode cX12_putOdds 1 = .ok (.lload_n 1, 1) := by decide +kernel
theorem dX12_putOdds_2 : decode cX12_putOdds 2 = .ok (.putfield 129, 3) := by decide +kernel
theorem dX12_putOdds_5 : decode cX12_putOdds 5 = .ok (.aload_n 0, 1) := by decide +kernel
theorem dX12_putOdds_6 : decode cX12_putOdds 6 = .ok (.lload_n 3, 1) := by decide +kernel
theorem dX12_putOdds_7 : decode cX12_putOdds 7 = .ok (.putfield 133, 3) := by decide +kernel
theorem dX12_putOdds_10 : decode cX12_putOdds 10 = .ok (.return_, 1) := by decide +kernel
theorem dX12_plain_0 : decode cX12_plain 0 = .ok (.aload_n 0, 1) := by decide +kernel
theorem dX12_plain_1 : decode cX12_plain 1 = .ok (.bipush 7, 2) := by decide +kernel
theorem dX12_plain_3 : decode cX12_plain 3 = .ok (.iload_n 3, 1) := by decide +kernel
theorem dX12_plain_4 : decode cX12_plain 4 = .ok (.invokevirtual 264, 3) := by decide +kernel
theorem dX12_plain_7 : decode cX12_plain 7 = .ok (.i2l, 1) := by decide +kernel
theorem dX12_plain_8 : decode cX12_plain 8 = .ok (.lstore 4, 2) := by decide +kernel
theorem dX12_plain_10 : decode cX12_plain 10 = .ok (.iconst 0, 1) := by decide +kernel
theorem dX12_plain_11 : decode cX12_plain 11 = .ok (.istore 6, 2) := by decide +kernel
theorem dX12_plain_13 : decode cX12_plain 13 = .ok (.iload 6, 2) := by decide +kernel
theorem dX12_plain_15 : decode cX12_plain 15 = .ok (.aload_n 0, 1) := by decide +kernel
theorem dX12_plain_16 : decode cX12_plain 16 = .ok (.getfield 7, 3) := by decide +kernel
theorem dX12_plain_19 : decode cX12_plain 19 = .ok (.if_icmp .ge 36, 3) := by decide +kernel
theorem dX12_plain_22 : decode cX12_plain 22 = .ok (.lload 4, 2) := by decide +kernel
theorem dX12_plain_24 : decode cX12_plain 24 = .ok (.aload_n 0, 1) := by decide +kernel
theorem dX12_plain_25 : decode cX12_plain 25 = .ok (.iload_n 2, 1) := by decide +kernel
theorem dX12_plain_26 : decode cX12_plain 26 = .ok (.iload 6, 2) := by decide +kernel
theorem dX12_plain_28 : decode cX12_plain 28 = .ok (.invokevirtual 192, 3) := by decide +kernel
theorem dX12_plain_31 : decode cX12_plain 31 = .ok (.ifCond .eq 14, 3) := by decide +kernel
theorem dX12_plain_34 : decode cX12_plain 34 = .ok (.aload_n 0, 1) := by decide +kernel
theorem dX12_plain_35 : decode cX12_plain 35 = .ok (.iload 6, 2) := by decide +kernel
theorem dX12_plain_37 : decode cX12_plain 37 = .ok (.iload_n 3, 1) := by decide +kernel
theorem dX12_plain_38 : decode cX12_plain 38 = .ok (.invokevirtual 264, 3) := by decide +kernel
theorem dX12_plain_41 : decode cX12_plain 41 = .ok (.i2l, 1) := by decide +kernel
theorem dX12_plain_42 : decode cX12_plain 42 = .ok (.goto 4, 3) := by decide +kernel
theorem dX12_plain_45 : decode cX12_plain 45 = .ok (.lconst 0, 1) := by decide +kernel
theorem dX12_plain_46 : decode cX12_plain 46 = .ok (.ladd, 1) := by decide +kernel
theorem dX12_plain_47 : decode cX12_plain 47 = .ok (.lstore 4, 2) := by decide +kernel
theorem dX12_plain_49 : decode cX12_plain 49 = .ok (.iinc 6 1, 3) := by decide +kernel
theorem dX12_plain_52 : decode cX12_plain 52 = .ok (.goto (-39), 3) := by decide +kernel
theorem dX12_plain_55 : decode cX12_plain 55 = .ok (.iload_n 1, 1) := by decide +kernel
theorem dX12_plain_56 : decode cX12_plain 56 = .ok (.bipush 7, 2) := by decide +kernel
theorem dX12_plain_58 : decode cX12_plain 58 = .ok (.if_icmp .eq 12, 3) := by decide +kernel
theorem dX12_plain_61 : decode cX12_plain 61 = .ok (.aload_n 0, 1) := by decide +kernel
theorem dX12_plain_62 : decode cX12_plain 62 = .ok (.iload_n 2, 1) := by decide +kernel
theorem dX12_plain_63 : decode cX12_plain 63 = .ok (.iload_n 1, 1) := by decide +kernel
theorem dX12_plain_64 : decode cX12_plain 64 = .ok (.invokevirtual 192, 3) := by decide +kernel
theorem dX12_plain_67 : decode cX12_plain 67 = .ok (.ifCond .eq 19, 3) := by decide +kernel
theorem dX12_plain_70 : decode cX12_plain 70 = .ok (.aload_n 0, 1) := by decide +kernel
theorem dX12_plain_71 : decode cX12_plain 71 = .ok (.aload_n 0, 1) := by decide +kernel
theorem dX12_plain_72 : decode cX12_plain 72 = .ok (.iload_n 1, 1) := by decide +kernel
theorem dX12_plain_73 : decode cX12_plain 73 = .ok (.iload_n 3, 1) := by decide +kernel
theorem dX12_plain_74 : decode cX12_plain 74 = .ok (.invokevirtual 264, 3) := by decide +kernel
theorem dX12_plain_77 : decode cX12_plain 77 = .ok (.i2l, 1) := by decide +kernel
theorem dX12_plain_78 : decode cX12_plain 78 = .ok (.lload 4, 2) := by decide +kernel
theorem dX12_plain_80 : decode cX12_plain 80 = .ok (.invokevirtual 268, 3) := by decide +kernel
theorem dX12_plain_83 : decode cX12_plain 83 = .ok (.goto 9, 3) := by decide +kernel
theorem dX12_plain_86 : decode cX12_plain 86 = .ok (.aload_n 0, 1) := by decide +kernel
theorem dX12_plain_87 : decode cX12_plain 87 = .ok (.lconst 0, 1) := by decide +kernel
theorem dX12_plain_88 : decode cX12_plain 88 = .ok (.lconst 1, 1) := by decide +kernel
theorem dX12_plain_89 : decode cX12_plain 89 = .ok (.invokevirtual 268, 3) := by decide +kernel
theorem dX12_plain_92 : decode cX12_plain 92 = .ok (.return_, 1) := by decide +kernel
theorem dX12_greatestOf_0 : decode cX12_greatestOf 0 = .ok (.iconst 0, 1) := by decide +kernel
theorem dX12_greatestOf_1 : decode cX12_greatestOf 1 = .ok (.istore 4, 2) := by decide +kernel
theorem dX12_greatestOf_3 : decode cX12_greatestOf 3 = .ok (.iconst 0, 1) := by decide +kernel
theorem dX12_greatestOf_4 : decode cX12_greatestOf 4 = .ok (.istore 5, 2) := by decide +kernel
theorem dX12_greatestOf_6 : decode cX12_greatestOf 6 = .ok (.iload 5, 2) := by decide +kernel
theorem dX12_greatestOf_8 : decode cX12_greatestOf 8 = .ok (.aload_n 0, 1) := by decide +kernel
theorem dX12_greatestOf_9 : decode cX12_greatestOf 9 = .ok (.getfield 7, 3) := by decide +kernel
theorem dX12_greatestOf_12 : decode cX12_greatestOf 12 = .ok (.if_icmp .ge 51, 3) := by decide +kernel
theorem dX12_greatestOf_15 : decode cX12_greatestOf 15 = .ok (.aload_n 0, 1) := by decide +kernel
theorem dX12_greatestOf_16 : decode cX12_greatestOf 16 = .ok (.iload_n 2, 1) := by decide +kernel
theorem dX12_greatestOf_17 : decode cX12_greatestOf 17 = .ok (.iload 5, 2) := by decide +kernel
theorem dX12_greatestOf_19 : decode cX12_greatestOf 19 = .ok (.invokevirtual 192, 3) := by decide +kernel
theorem dX12_greatestOf_22 : decode cX12_greatestOf 22 = .ok (.ifCond .eq 35, 3) := by decide +kernel
theorem dX12_greatestOf_25 : decode cX12_greatestOf 25 = .ok (.aload_n 0, 1) := by decide +kernel
theorem dX12_greatestOf_26 : decode cX12_greatestOf 26 = .ok (.getfield 29, 3) := by decide +kernel
theorem dX12_greatestOf_29 : decode cX12_greatestOf 29 = .ok (.iload 5, 2) := by decide +kernel
theorem dX12_greatestOf_31 : decode cX12_greatestOf 31 = .ok (.iaload, 1) := by decide +kernel
theorem dX12_greatestOf_32 : decode cX12_greatestOf 32 = .ok (.iload_n 1, 1) := by decide +kernel
theorem dX12_greatestOf_33 : decode cX12_greatestOf 33 = .ok (.if_icmp .ne 24, 3) := by decide +kernel
theorem dX12_greatestOf_36 : decode cX12_greatestOf 36 = .ok (.aload_n 0, 1) := by decide +kernel
theorem dX12_greatestOf_37 : decode cX12_greatestOf 37 = .ok (.iload 5, 2) := by decide +kernel
theorem dX12_greatestOf_39 : decode cX12_greatestOf 39 = .ok (.iload_n 3, 1) := by decide +kernel
theorem dX12_greatestOf_40 : decode cX12_greatestOf 40 = .ok (.invokevirtual 264, 3) := by decide +kernel
theorem dX12_greatestOf_43 : decode cX12_greatestOf 43 = .ok (.iload 4, 2) := by decide +kernel
theorem dX12_greatestOf_45 : decode cX12_greatestOf 45 = .ok (.if_icmp .le 12, 3) := by decide +kernel
theorem dX12_greatestOf_48 : decode cX12_greatestOf 48 = .ok (.aload_n 0, 1) := by decide +kernel
theorem dX12_greatestOf_49 : decode cX12_greatestOf 49 = .ok (.iload 5, 2) := by decide +kernel
theorem dX12_greatestOf_51 : decode cX12_greatestOf 51 = .ok (.iload_n 3, 1) := by decide +kernel
theorem dX12_greatestOf_52 : decode cX12_greatestOf 52 = .ok (.invokevirtual 264, 3) := by decide +kernel
theorem dX12_greatestOf_55 : decode cX12_greatestOf 55 = .ok (.istore 4, 2) := by decide +kernel
theorem dX12_greatestOf_57 : decode cX12_greatestOf 57 = .ok (.iinc 5 1, 3) := by decide +kernel
theorem dX12_greatestOf_60 : decode cX12_greatestOf 60 = .ok (.goto (-54), 3) := by decide +kernel
theorem dX12_greatestOf_63 : decode cX12_greatestOf 63 = .ok (.iload 4, 2) := by decide +kernel
theorem dX12_greatestOf_65 : decode cX12_greatestOf 65 = .ok (.ireturn, 1) := by decide +kernel
theorem dX12_nested_0 : decode cX12_nested 0 = .ok (.aload_n 0, 1) := by decide +kernel
theorem dX12_nested_1 : decode cX12_nested 1 = .ok (.bipush 7, 2) := by decide +kernel
theorem dX12_nested_3 : decode cX12_nested 3 = .ok (.iload_n 3, 1) := by decide +kernel
theorem dX12_nested_4 : decode cX12_nested 4 = .ok (.invokevirtual 264, 3) := by decide +kernel
theorem dX12_nested_7 : decode cX12_nested 7 = .ok (.i2l, 1) := by decide +kernel
theorem dX12_nested_8 : decode cX12_nested 8 = .ok (.lstore 4, 2) := by decide +kernel
theorem dX12_nested_10 : decode cX12_nested 10 = .ok (.iconst 0, 1) := by decide +kernel
theorem dX12_nested_11 : decode cX12_nested 11 = .ok (.istore 6, 2) := by decide +kernel
theorem dX12_nested_13 : decode cX12_nested 13 = .ok (.iload 6, 2) := by decide +kernel
theorem dX12_nested_15 : decode cX12_nested 15 = .ok (.iconst 4, 1) := by decide +kernel
theorem dX12_nested_16 : decode cX12_nested 16 = .ok (.if_icmp .ge 23, 3) := by decide +kernel
theorem dX12_nested_19 : decode cX12_nested 19 = .ok (.lload 4, 2) := by decide +kernel
theorem dX12_nested_21 : decode cX12_nested 21 = .ok (.aload_n 0, 1) := by decide +kernel
theorem dX12_nested_22 : decode cX12_nested 22 = .ok (.iload 6, 2) := by decide +kernel
theorem dX12_nested_24 : decode cX12_nested 24 = .ok (.iload_n 2, 1) := by decide +kernel
theorem dX12_nested_25 : decode cX12_nested 25 = .ok (.iload_n 3, 1) := by decide +kernel
theorem dX12_nested_26 : decode cX12_nested 26 = .ok (.invokevirtual 272, 3) := by decide +kernel
theorem dX12_nested_29 : decode cX12_nested 29 = .ok (.i2l, 1) := by decide +kernel
theorem dX12_nested_30 : decode cX12_nested 30 = .ok (.ladd, 1) := by decide +kernel
theorem dX12_nested_31 : decode cX12_nested 31 = .ok (.lstore 4, 2) := by decide +kernel
theorem dX12_nested_33 : decode cX12_nested 33 = .ok (.iinc 6 1, 3) := by decide +kernel
theorem dX12_nested_36 : decode cX12_nested 36 = .ok (.goto (-23), 3) := by decide +kernel
theorem dX12_nested_39 : decode cX12_nested 39 = .ok (.iload_n 1, 1) := by decide +kernel
theorem dX12_nested_40 : decode cX12_nested 40 = .ok (.bipush 7, 2) := by decide +kernel
theorem dX12_nested_42 : decode cX12_nested 42 = .ok (.if_icmp .ne 18, 3) := by decide +kernel
theorem dX12_nested_45 : decode cX12_nested 45 = .ok (.aload_n 0, 1) := by decide +kernel
theorem dX12_nested_46 : decode cX12_nested 46 = .ok (.aload_n 0, 1) := by decide +kernel
theorem dX12_nested_47 : decode cX12_nested 47 = .ok (.bipush 7, 2) := by decide +kernel
theorem dX12_nested_49 : decode cX12_nested 49 = .ok (.iload_n 3, 1) := by decide +kernel
theorem dX12_nested_50 : decode cX12_nested 50 = .ok (.invokevirtual 264, 3) := by decide +kernel
theorem dX12_nested_53 : decode cX12_nested 53 = .ok (.i2l, 1) := by decide +kernel
theorem dX12_nested_54 : decode cX12_nested 54 = .ok (.lload 4, 2) := by decide +kernel
theorem dX12_nested_56 : decode cX12_nested 56 = .ok (.invokevirtual 268, 3) := by decide +kernel
theorem dX12_nested_59 : decode cX12_nested 59 = .ok (.return_, 1) := by decide +kernel
theorem dX12_nested_60 : decode cX12_nested 60 = .ok (.lconst 0, 1) := by decide +kernel
theorem dX12_nested_61 : decode cX12_nested 61 = .ok (.lstore 6, 2) := by decide +kernel
theorem dX12_nested_63 : decode cX12_nested 63 = .ok (.iconst 0, 1) := by decide +kernel
theorem dX12_nested_64 : decode cX12_nested 64 = .ok (.istore 8, 2) := by decide +kernel
theorem dX12_nested_66 : decode cX12_nested 66 = .ok (.iload 8, 2) := by decide +kernel
theorem dX12_nested_68 : decode cX12_nested 68 = .ok (.aload_n 0, 1) := by decide +kernel
theorem dX12_nested_69 : decode cX12_nested 69 = .ok (.getfield 7, 3) := by decide +kernel
theorem dX12_nested_72 : decode cX12_nested 72 = .ok (.if_icmp .ge 52, 3) := by decide +kernel
theorem dX12_nested_75 : decode cX12_nested 75 = .ok (.lload 6, 2) := by decide +kernel
theorem dX12_nested_77 : decode cX12_nested 77 = .ok (.aload_n 0, 1) := by decide +kernel
theorem dX12_nested_78 : decode cX12_nested 78 = .ok (.iload_n 2, 1) := by decide +kernel
theorem dX12_nested_79 : decode cX12_nested 79 = .ok (.iload 8, 2) := by decide +kernel
theorem dX12_nested_81 : decode cX12_nested 81 = .ok (.invokevirtual 192, 3) := by decide +kernel
theorem dX12_nested_84 : decode cX12_nested 84 = .ok (.ifCond .eq 30, 3) := by decide +kernel
theorem dX12_nested_87 : decode cX12_nested 87 = .ok (.aload_n 0, 1) := by decide +kernel
theorem dX12_nested_88 : decode cX12_nested 88 = .ok (.getfield 29, 3) := by decide +kernel
theorem dX12_nested_91 : decode cX12_nested 91 = .ok (.iload 8, 2) := by decide +kernel
theorem dX12_nested_93 : decode cX12_nested 93 = .ok (.iaload, 1) := by decide +kernel
theorem dX12_nested_94 : decode cX12_nested 94 = .ok (.aload_n 0, 1) := by decide +kernel
theorem dX12_nested_95 : decode cX12_nested 95 = .ok (.getfield 29, 3) := by decide +kernel
theorem dX12_nested_98 : decode cX12_nested 98 = .ok (.iload_n 1, 1) := by decide +kernel
theorem dX12_nested_99 : decode cX12_nested 99 = .ok (.iaload, 1) := by decide +kernel
theorem dX12_nested_100 : decode cX12_nested 100 = .ok (.if_icmp .ne 14, 3) := by decide +kernel
theorem dX12_nested_103 : decode cX12_nested 103 = .ok (.aload_n 0, 1) := by decide +kernel
theorem dX12_nested_104 : decode cX12_nested 104 = .ok (.iload 8, 2) := by decide +kernel
theorem dX12_nested_106 : decode cX12_nested 106 = .ok (.iload_n 3, 1) := by decide +kernel
theorem dX12_nested_107 : decode cX12_nested 107 = .ok (.invokevirtual 264, 3) := by decide +kernel
theorem dX12_nested_110 : decode cX12_nested 110 = .ok (.i2l, 1) := by decide +kernel
theorem dX12_nested_111 : decode cX12_nested 111 = .ok (.goto 4, 3) := by decide +kernel
theorem dX12_nested_114 : decode cX12_nested 114 = .ok (.lconst 0, 1) := by decide +kernel
theorem dX12_nested_115 : decode cX12_nested 115 = .ok (.ladd, 1) := by decide +kernel
theorem dX12_nested_116 : decode cX12_nested 116 = .ok (.lstore 6, 2) := by decide +kernel
theorem dX12_nested_118 : decode cX12_nested 118 = .ok (.iinc 8 1, 3) := by decide +kernel
theorem dX12_nested_121 : decode cX12_nested 121 = .ok (.goto (-55), 3) := by decide +kernel
theorem dX12_nested_124 : decode cX12_nested 124 = .ok (.aload_n 0, 1) := by decide +kernel
theorem dX12_nested_125 : decode cX12_nested 125 = .ok (.aload_n 0, 1) := by decide +kernel
theorem dX12_nested_126 : decode cX12_nested 126 = .ok (.aload_n 0, 1) := by decide +kernel
theorem dX12_nested_127 : decode cX12_nested 127 = .ok (.getfield 29, 3) := by decide +kernel
theorem dX12_nested_130 : decode cX12_nested 130 = .ok (.iload_n 1, 1) := by decide +kernel
theorem dX12_nested_131 : decode cX12_nested 131 = .ok (.iaload, 1) := by decide +kernel
theorem dX12_nested_132 : decode cX12_nested 132 = .ok (.iload_n 2, 1) := by decide +kernel
theorem dX12_nested_133 : decode cX12_nested 133 = .ok (.iload_n 3, 1) := by decide +kernel
theorem dX12_nested_134 : decode cX12_nested 134 = .ok (.invokevirtual 272, 3) := by decide +kernel
theorem dX12_nested_137 : decode cX12_nested 137 = .ok (.i2l, 1) := by decide +kernel
theorem dX12_nested_138 : decode cX12_nested 138 = .ok (.aload_n 0, 1) := by decide +kernel
theorem dX12_nested_139 : decode cX12_nested 139 = .ok (.iload_n 1, 1) := by decide +kernel
theorem dX12_nested_140 : decode cX12_nested 140 = .ok (.iload_n 3, 1) := by decide +kernel
theorem dX12_nested_141 : decode cX12_nested 141 = .ok (.invokevirtual 264, 3) := by decide +kernel
theorem dX12_nested_144 : decode cX12_nested 144 = .ok (.i2l, 1) := by decide +kernel
theorem dX12_nested_145 : decode cX12_nested 145 = .ok (.lmul, 1) := by decide +kernel
theorem dX12_nested_146 : decode cX12_nested 146 = .ok (.lload 4, 2) := by decide +kernel
theorem dX12_nested_148 : decode cX12_nested 148 = .ok (.lload 6, 2) := by decide +kernel
theorem dX12_nested_150 : decode cX12_nested 150 = .ok (.lmul, 1) := by decide +kernel
theorem dX12_nested_151 : decode cX12_nested 151 = .ok (.invokevirtual 268, 3) := by decide +kernel
theorem dX12_nested_154 : decode cX12_nested 154 = .ok (.return_, 1) := by decide +kernel
theorem dX12_mixed_0 : decode cX12_mixed 0 = .ok (.aload_n 0, 1) := by decide +kernel
theorem dX12_mixed_1 : decode cX12_mixed 1 = .ok (.getfield 89, 3) := by decide +kernel
theorem dX12_mixed_4 : decode cX12_mixed 4 = .ok (.iconst 0, 1) := by decide +kernel
theorem dX12_mixed_5 : decode cX12_mixed 5 = .ok (.iaload, 1) := by decide +kernel
theorem dX12_mixed_6 : decode cX12_mixed 6 = .ok (.aload_n 0, 1) := by decide +kernel
theorem dX12_mixed_7 : decode cX12_mixed 7 = .ok (.getfield 89, 3) := by decide +kernel
theorem dX12_mixed_10 : decode cX12_mixed 10 = .ok (.iconst 1, 1) := by decide +kernel
theorem dX12_mixed_11 : decode cX12_mixed 11 = .ok (.iaload, 1) := by decide +kernel
theorem dX12_mixed_12 : decode cX12_mixed 12 = .ok (.iadd, 1) := by decide +kernel
theorem dX12_mixed_13 : decode cX12_mixed 13 = .ok (.aload_n 0, 1) := by decide +kernel
theorem dX12_mixed_14 : decode cX12_mixed 14 = .ok (.getfield 89, 3) := by decide +kernel
theorem dX12_mixed_17 : decode cX12_mixed 17 = .ok (.iconst 2, 1) := by decide +kernel
theorem dX12_mixed_18 : decode cX12_mixed 18 = .ok (.iaload, 1) := by decide +kernel
theorem dX12_mixed_19 : decode cX12_mixed 19 = .ok (.iadd, 1) := by decide +kernel
theorem dX12_mixed_20 : decode cX12_mixed 20 = .ok (.istore 4, 2) := by decide +kernel
theorem dX12_mixed_22 : decode cX12_mixed 22 = .ok (.iload 4, 2) := by decide +kernel
theorem dX12_mixed_24 : decode cX12_mixed 24 = .ok (.ifCond .ne 11, 3) := by decide +kernel
theorem dX12_mixed_27 : decode cX12_mixed 27 = .ok (.aload_n 0, 1) := by decide +kernel
theorem dX12_mixed_28 : decode cX12_mixed 28 = .ok (.iload_n 1, 1) := by decide +kernel
theorem dX12_mixed_29 : decode cX12_mixed 29 = .ok (.iload_n 2, 1) := by decide +kernel
theorem dX12_mixed_30 : decode cX12_mixed 30 = .ok (.iload_n 3, 1) := by decide +kernel
theorem dX12_mixed_31 : decode cX12_mixed 31 = .ok (.invokevirtual 276, 3) := by decide +kernel
theorem dX12_mixed_34 : decode cX12_mixed 34 = .ok (.return_, 1) := by decide +kernel
theorem dX12_mixed_35 : decode cX12_mixed 35 = .ok (.lconst 0, 1) := by decide +kernel
theorem dX12_mixed_36 : decode cX12_mixed 36 = .ok (.lstore 5, 2) := by decide +kernel
theorem dX12_mixed_38 : decode cX12_mixed 38 = .ok (.lconst 1, 1) := by decide +kernel
theorem dX12_mixed_39 : decode cX12_mixed 39 = .ok (.lstore 7, 2) := by decide +kernel
theorem dX12_mixed_41 : decode cX12_mixed 41 = .ok (.iconst 0, 1) := by decide +kernel
theorem dX12_mixed_42 : decode cX12_mixed 42 = .ok (.istore 9, 2) := by decide +kernel
theorem dX12_mixed_44 : decode cX12_mixed 44 = .ok (.iload 9, 2) := by decide +kernel
theorem dX12_mixed_46 : decode cX12_mixed 46 = .ok (.iconst 3, 1) := by decide +kernel
theorem dX12_mixed_47 : decode cX12_mixed 47 = .ok (.if_icmp .ge 52, 3) := by decide +kernel
theorem dX12_mixed_50 : decode cX12_mixed 50 = .ok (.aload_n 0, 1) := by decide +kernel
theorem dX12_mixed_51 : decode cX12_mixed 51 = .ok (.iload_n 1, 1) := by decide +kernel
theorem dX12_mixed_52 : decode cX12_mixed 52 = .ok (.iload_n 2, 1) := by decide +kernel
theorem dX12_mixed_53 : decode cX12_mixed 53 = .ok (.iload 9, 2) := by decide +kernel
theorem dX12_mixed_55 : decode cX12_mixed 55 = .ok (.invokevirtual 276, 3) := by decide +kernel
theorem dX12_mixed_58 : decode cX12_mixed 58 = .ok (.lload 5, 2) := by decide +kernel
theorem dX12_mixed_60 : decode cX12_mixed 60 = .ok (.aload_n 0, 1) := by decide +kernel
theorem dX12_mixed_61 : decode cX12_mixed 61 = .ok (.getfield 133, 3) := by decide +kernel
theorem dX12_mixed_64 : decode cX12_mixed 64 = .ok (.lmul, 1) := by decide +kernel
theorem dX12_mixed_65 : decode cX12_mixed 65 = .ok (.aload_n 0, 1) := by decide +kernel
theorem dX12_mixed_66 : decode cX12_mixed 66 = .ok (.getfield 89, 3) := by decide +kernel
theorem dX12_mixed_69 : decode cX12_mixed 69 = .ok (.iload 9, 2) := by decide +kernel
theorem dX12_mixed_71 : decode cX12_mixed 71 = .ok (.iaload, 1) := by decide +kernel
theorem dX12_mixed_72 : decode cX12_mixed 72 = .ok (.i2l, 1) := by decide +kernel
theorem dX12_mixed_73 : decode cX12_mixed 73 = .ok (.aload_n 0, 1) := by decide +kernel
theorem dX12_mixed_74 : decode cX12_mixed 74 = .ok (.getfield 129, 3) := by decide +kernel
theorem dX12_mixed_77 : decode cX12_mixed 77 = .ok (.lmul, 1) := by decide +kernel
theorem dX12_mixed_78 : decode cX12_mixed 78 = .ok (.lload 7, 2) := by decide +kernel
theorem dX12_mixed_80 : decode cX12_mixed 80 = .ok (.lmul, 1) := by decide +kernel
theorem dX12_mixed_81 : decode cX12_mixed 81 = .ok (.ladd, 1) := by decide +kernel
theorem dX12_mixed_82 : decode cX12_mixed 82 = .ok (.lstore 5, 2) := by decide +kernel
theorem dX12_mixed_84 : decode cX12_mixed 84 = .ok (.lload 7, 2) := by decide +kernel
theorem dX12_mixed_86 : decode cX12_mixed 86 = .ok (.aload_n 0, 1) := by decide +kernel
theorem dX12_mixed_87 : decode cX12_mixed 87 = .ok (.getfield 133, 3) := by decide +kernel
theorem dX12_mixed_90 : decode cX12_mixed 90 = .ok (.lmul, 1) := by decide +kernel
theorem dX12_mixed_91 : decode cX12_mixed 91 = .ok (.lstore 7, 2) := by decide +kernel
theorem dX12_mixed_93 : decode cX12_mixed 93 = .ok (.iinc 9 1, 3) := by decide +kernel
theorem dX12_mixed_96 : decode cX12_mixed 96 = .ok (.goto (-52), 3) := by decide +kernel
theorem dX12_mixed_99 : decode cX12_mixed 99 = .ok (.aload_n 0, 1) := by decide +kernel
theorem dX12_mixed_100 : decode cX12_mixed 100 = .ok (.lload 5, 2) := by decide +kernel
theorem dX12_mixed_102 : decode cX12_mixed 102 = .ok (.lload 7, 2) := by decide +kernel
theorem dX12_mixed_104 : decode cX12_mixed 104 = .ok (.iload 4, 2) := by decide +kernel
theorem dX12_mixed_106 : decode cX12_mixed 106 = .ok (.i2l, 1) := by decide +kernel
theorem dX12_mixed_107 : decode cX12_mixed 107 = .ok (.lmul, 1) := by decide +kernel
theorem dX12_mixed_108 : decode cX12_mixed 108 = .ok (.invokevirtual 268, 3) := by decide +kernel
theorem dX12_mixed_111 : decode cX12_mixed 111 = .ok (.return_, 1) := by decide +kernel
theorem dX12_seenOf_0 : decode cX12_seenOf 0 = .ok (.iconst 0, 1) := by decide +kernel
theorem dX12_seenOf_1 : decode cX12_seenOf 1 = .ok (.istore_n 2, 1) := by decide +kernel
theorem dX12_seenOf_2 : decode cX12_seenOf 2 = .ok (.iconst 0, 1) := by decide +kernel
theorem dX12_seenOf_3 : decode cX12_seenOf 3 = .ok (.istore_n 3, 1) := by decide +kernel
theorem dX12_seenOf_4 : decode cX12_seenOf 4 = .ok (.iload_n 3, 1) := by decide +kernel
theorem dX12_seenOf_5 : decode cX12_seenOf 5 = .ok (.aload_n 0, 1) := by decide +kernel
theorem dX12_seenOf_6 : decode cX12_seenOf 6 = .ok (.getfield 7, 3) := by decide +kernel
theorem dX12_seenOf_9 : decode cX12_seenOf 9 = .ok (.if_icmp .ge 128, 3) := by decide +kernel
theorem dX12_seenOf_12 : decode cX12_seenOf 12 = .ok (.iconst 0, 1) := by decide +kernel
theorem dX12_seenOf_13 : decode cX12_seenOf 13 = .ok (.istore 4, 2) := by decide +kernel
theorem dX12_seenOf_15 : decode cX12_seenOf 15 = .ok (.iconst 0, 1) := by decide +kernel
theorem dX12_seenOf_16 : decode cX12_seenOf 16 = .ok (.istore 5, 2) := by decide +kernel
theorem dX12_seenOf_18 : decode cX12_seenOf 18 = .ok (.iload 5, 2) := by decide +kernel
theorem dX12_seenOf_20 : decode cX12_seenOf 20 = .ok (.aload_n 0, 1) := by decide +kernel
theorem dX12_seenOf_21 : decode cX12_seenOf 21 = .ok (.getfield 7, 3) := by decide +kernel
theorem dX12_seenOf_24 : decode cX12_seenOf 24 = .ok (.if_icmp .ge 83, 3) := by decide +kernel
theorem dX12_seenOf_27 : decode cX12_seenOf 27 = .ok (.iload 4, 2) := by decide +kernel
theorem dX12_seenOf_29 : decode cX12_seenOf 29 = .ok (.aload_n 0, 1) := by decide +kernel
theorem dX12_seenOf_30 : decode cX12_seenOf 30 = .ok (.iload_n 1, 1) := by decide +kernel
theorem dX12_seenOf_31 : decode cX12_seenOf 31 = .ok (.iload 5, 2) := by decide +kernel
theorem dX12_seenOf_33 : decode cX12_seenOf 33 = .ok (.invokevirtual 192, 3) := by decide +kernel
theorem dX12_seenOf_36 : decode cX12_seenOf 36 = .ok (.ifCond .eq 61, 3) := by decide +kernel
theorem dX12_seenOf_39 : decode cX12_seenOf 39 = .ok (.aload_n 0, 1) := by decide +kernel
theorem dX12_seenOf_40 : decode cX12_seenOf 40 = .ok (.aload_n 0, 1) := by decide +kernel
theorem dX12_seenOf_41 : decode cX12_seenOf 41 = .ok (.getfield 22, 3) := by decide +kernel
theorem dX12_seenOf_44 : decode cX12_seenOf 44 = .ok (.iload 5, 2) := by decide +kernel
theorem dX12_seenOf_46 : decode cX12_seenOf 46 = .ok (.iaload, 1) := by decide +kernel
theorem dX12_seenOf_47 : decode cX12_seenOf 47 = .ok (.invokevirtual 280, 3) := by decide +kernel
theorem dX12_seenOf_50 : decode cX12_seenOf 50 = .ok (.aload_n 0, 1) := by decide +kernel
theorem dX12_seenOf_51 : decode cX12_seenOf 51 = .ok (.aload_n 0, 1) := by decide +kernel
theorem dX12_seenOf_52 : decode cX12_seenOf 52 = .ok (.getfield 22, 3) := by decide +kernel
theorem dX12_seenOf_55 : decode cX12_seenOf 55 = .ok (.iload_n 3, 1) := by decide +kernel
theorem dX12_seenOf_56 : decode cX12_seenOf 56 = .ok (.iaload, 1) := by decide +kernel
theorem dX12_seenOf_57 : decode cX12_seenOf 57 = .ok (.invokevirtual 280, 3) := by decide +kernel
theorem dX12_seenOf_60 : decode cX12_seenOf 60 = .ok (.if_icmp .gt 33, 3) := by decide +kernel
theorem dX12_seenOf_63 : decode cX12_seenOf 63 = .ok (.aload_n 0, 1) := by decide +kernel
theorem dX12_seenOf_64 : decode cX12_seenOf 64 = .ok (.aload_n 0, 1) := by decide +kernel
theorem dX12_seenOf_65 : decode cX12_seenOf 65 = .ok (.getfield 22, 3) := by decide +kernel
theorem dX12_seenOf_68 : decode cX12_seenOf 68 = .ok (.iload 5, 2) := by decide +kernel
theorem dX12_seenOf_70 : decode cX12_seenOf 70 = .ok (.iaload, 1) := by decide +kernel
theorem dX12_seenOf_71 : decode cX12_seenOf 71 = .ok (.invokevirtual 280, 3) := by decide +kernel
theorem dX12_seenOf_74 : decode cX12_seenOf 74 = .ok (.aload_n 0, 1) := by decide +kernel
theorem dX12_seenOf_75 : decode cX12_seenOf 75 = .ok (.aload_n 0, 1) := by decide +kernel
theorem dX12_seenOf_76 : decode cX12_seenOf 76 = .ok (.getfield 22, 3) := by decide +kernel
theorem dX12_seenOf_79 : decode cX12_seenOf 79 = .ok (.iload_n 3, 1) := by decide +kernel
theorem dX12_seenOf_80 : decode cX12_seenOf 80 = .ok (.iaload, 1) := by decide +kernel
theorem dX12_seenOf_81 : decode cX12_seenOf 81 = .ok (.invokevirtual 280, 3) := by decide +kernel
theorem dX12_seenOf_84 : decode cX12_seenOf 84 = .ok (.if_icmp .ne 13, 3) := by decide +kernel
theorem dX12_seenOf_87 : decode cX12_seenOf 87 = .ok (.iload 5, 2) := by decide +kernel
theorem dX12_seenOf_89 : decode cX12_seenOf 89 = .ok (.iload_n 3, 1) := by decide +kernel
theorem dX12_seenOf_90 : decode cX12_seenOf 90 = .ok (.if_icmp .ge 7, 3) := by decide +kernel
theorem dX12_seenOf_93 : decode cX12_seenOf 93 = .ok (.iconst 1, 1) := by decide +kernel
theorem dX12_seenOf_94 : decode cX12_seenOf 94 = .ok (.goto 4, 3) := by decide +kernel
theorem dX12_seenOf_97 : decode cX12_seenOf 97 = .ok (.iconst 0, 1) := by decide +kernel
theorem dX12_seenOf_98 : decode cX12_seenOf 98 = .ok (.iadd, 1) := by decide +kernel
theorem dX12_seenOf_99 : decode cX12_seenOf 99 = .ok (.istore 4, 2) := by decide +kernel
theorem dX12_seenOf_101 : decode cX12_seenOf 101 = .ok (.iinc 5 1, 3) := by decide +kernel
theorem dX12_seenOf_104 : decode cX12_seenOf 104 = .ok (.goto (-86), 3) := by decide +kernel
theorem dX12_seenOf_107 : decode cX12_seenOf 107 = .ok (.aload_n 0, 1) := by decide +kernel
theorem dX12_seenOf_108 : decode cX12_seenOf 108 = .ok (.iload_n 1, 1) := by decide +kernel
theorem dX12_seenOf_109 : decode cX12_seenOf 109 = .ok (.iload_n 3, 1) := by decide +kernel
theorem dX12_seenOf_110 : decode cX12_seenOf 110 = .ok (.invokevirtual 192, 3) := by decide +kernel
theorem dX12_seenOf_113 : decode cX12_seenOf 113 = .ok (.ifCond .eq 18, 3) := by decide +kernel
theorem dX12_seenOf_116 : decode cX12_seenOf 116 = .ok (.iload 4, 2) := by decide +kernel
theorem dX12_seenOf_118 : decode cX12_seenOf 118 = .ok (.aload_n 0, 1) := by decide +kernel
theorem dX12_seenOf_119 : decode cX12_seenOf 119 = .ok (.getfield 101, 3) := by decide +kernel
theorem dX12_seenOf_122 : decode cX12_seenOf 122 = .ok (.if_icmp .ge 9, 3) := by decide +kernel
theorem dX12_seenOf_125 : decode cX12_seenOf 125 = .ok (.iload_n 2, 1) := by decide +kernel
theorem dX12_seenOf_126 : decode cX12_seenOf 126 = .ok (.iconst 1, 1) := by decide +kernel
theorem dX12_seenOf_127 : decode cX12_seenOf 127 = .ok (.iload_n 3, 1) := by decide +kernel
theorem dX12_seenOf_128 : decode cX12_seenOf 128 = .ok (.ishl, 1) := by decide +kernel
theorem dX12_seenOf_129 : decode cX12_seenOf 129 = .ok (.ior, 1) := by decide +kernel
theorem dX12_seenOf_130 : decode cX12_seenOf 130 = .ok (.istore_n 2, 1) := by decide +kernel
theorem dX12_seenOf_131 : decode cX12_seenOf 131 = .ok (.iinc 3 1, 3) := by decide +kernel
theorem dX12_seenOf_134 : decode cX12_seenOf 134 = .ok (.goto (-130), 3) := by decide +kernel
theorem dX12_seenOf_137 : decode cX12_seenOf 137 = .ok (.iload_n 2, 1) := by decide +kernel
theorem dX12_seenOf_138 : decode cX12_seenOf 138 = .ok (.ireturn, 1) := by decide +kernel
theorem dX12_pickedOf_0 : decode cX12_pickedOf 0 = .ok (.iconst 0, 1) := by decide +kernel
theorem dX12_pickedOf_1 : decode cX12_pickedOf 1 = .ok (.istore_n 2, 1) := by decide +kernel
theorem dX12_pickedOf_2 : decode cX12_pickedOf 2 = .ok (.iload_n 2, 1) := by decide +kernel
theorem dX12_pickedOf_3 : decode cX12_pickedOf 3 = .ok (.aload_n 0, 1) := by decide +kernel
theorem dX12_pickedOf_4 : decode cX12_pickedOf 4 = .ok (.getfield 104, 3) := by decide +kernel
theorem dX12_pickedOf_7 : decode cX12_pickedOf 7 = .ok (.if_icmp .ge 83, 3) := by decide +kernel
theorem dX12_pickedOf_10 : decode cX12_pickedOf 10 = .ok (.iconst (-1), 1) := by decide +kernel
theorem dX12_pickedOf_11 : decode cX12_pickedOf 11 = .ok (.istore_n 3, 1) := by decide +kernel
theorem dX12_pickedOf_12 : decode cX12_pickedOf 12 = .ok (.iconst 0, 1) := by decide +kernel
theorem dX12_pickedOf_13 : decode cX12_pickedOf 13 = .ok (.istore 4, 2) := by decide +kernel
theorem dX12_pickedOf_15 : decode cX12_pickedOf 15 = .ok (.iload 4, 2) := by decide +kernel
theorem dX12_pickedOf_17 : decode cX12_pickedOf 17 = .ok (.aload_n 0, 1) := by decide +kernel
theorem dX12_pickedOf_18 : decode cX12_pickedOf 18 = .ok (.getfield 7, 3) := by decide +kernel
theorem dX12_pickedOf_21 : decode cX12_pickedOf 21 = .ok (.if_icmp .ge 57, 3) := by decide +kernel
theorem dX12_pickedOf_24 : decode cX12_pickedOf 24 = .ok (.aload_n 0, 1) := by decide +kernel
theorem dX12_pickedOf_25 : decode cX12_pickedOf 25 = .ok (.iload_n 1, 1) := by decide +kernel
theorem dX12_pickedOf_26 : decode cX12_pickedOf 26 = .ok (.iload 4, 2) := by decide +kernel
theorem dX12_pickedOf_28 : decode cX12_pickedOf 28 = .ok (.invokevirtual 192, 3) := by decide +kernel
theorem dX12_pickedOf_31 : decode cX12_pickedOf 31 = .ok (.ifCond .eq 41, 3) := by decide +kernel
theorem dX12_pickedOf_34 : decode cX12_pickedOf 34 = .ok (.aload_n 0, 1) := by decide +kernel
theorem dX12_pickedOf_35 : decode cX12_pickedOf 35 = .ok (.getfield 107, 3) := by decide +kernel
theorem dX12_pickedOf_38 : decode cX12_pickedOf 38 = .ok (.bipush 6, 2) := by decide +kernel
theorem dX12_pickedOf_40 : decode cX12_pickedOf 40 = .ok (.iload_n 2, 1) := by decide +kernel
theorem dX12_pickedOf_41 : decode cX12_pickedOf 41 = .ok (.imul, 1) := by decide +kernel
theorem dX12_pickedOf_42 : decode cX12_pickedOf 42 = .ok (.iload 4, 2) := by decide +kernel
theorem dX12_pickedOf_44 : decode cX12_pickedOf 44 = .ok (.iadd, 1) := by decide +kernel
theorem dX12_pickedOf_45 : decode cX12_pickedOf 45 = .ok (.baload, 1) := by decide +kernel
theorem dX12_pickedOf_46 : decode cX12_pickedOf 46 = .ok (.ifCond .eq 26, 3) := by decide +kernel
theorem dX12_pickedOf_49 : decode cX12_pickedOf 49 = .ok (.iload_n 3, 1) := by decide +kernel
theorem dX12_pickedOf_50 : decode cX12_pickedOf 50 = .ok (.ifCond .lt 19, 3) := by decide +kernel
theorem dX12_pickedOf_53 : decode cX12_pickedOf 53 = .ok (.aload_n 0, 1) := by decide +kernel
theorem dX12_pickedOf_54 : decode cX12_pickedOf 54 = .ok (.getfield 26, 3) := by decide +kernel
theorem dX12_pickedOf_57 : decode cX12_pickedOf 57 = .ok (.iload 4, 2) := by decide +kernel
theorem dX12_pickedOf_59 : decode cX12_pickedOf 59 = .ok (.iaload, 1) := by decide +kernel
theorem dX12_pickedOf_60 : decode cX12_pickedOf 60 = .ok (.aload_n 0, 1) := by decide +kernel
theorem dX12_pickedOf_61 : decode cX12_pickedOf 61 = .ok (.getfield 26, 3) := by decide +kernel
theorem dX12_pickedOf_64 : decode cX12_pickedOf 64 = .ok (.iload_n 3, 1) := by decide +kernel
theorem dX12_pickedOf_65 : decode cX12_pickedOf 65 = .ok (.iaload, 1) := by decide +kernel
theorem dX12_pickedOf_66 : decode cX12_pickedOf 66 = .ok (.if_icmp .ge 6, 3) := by decide +kernel
theorem dX12_pickedOf_69 : decode cX12_pickedOf 69 = .ok (.iload 4, 2) := by decide +kernel
theorem dX12_pickedOf_71 : decode cX12_pickedOf 71 = .ok (.istore_n 3, 1) := by decide +kernel
theorem dX12_pickedOf_72 : decode cX12_pickedOf 72 = .ok (.iinc 4 1, 3) := by decide +kernel
theorem dX12_pickedOf_75 : decode cX12_pickedOf 75 = .ok (.goto (-60), 3) := by decide +kernel
theorem dX12_pickedOf_78 : decode cX12_pickedOf 78 = .ok (.iload_n 3, 1) := by decide +kernel
theorem dX12_pickedOf_79 : decode cX12_pickedOf 79 = .ok (.ifCond .lt 5, 3) := by decide +kernel
theorem dX12_pickedOf_82 : decode cX12_pickedOf 82 = .ok (.iload_n 3, 1) := by decide +kernel
theorem dX12_pickedOf_83 : decode cX12_pickedOf 83 = .ok (.ireturn, 1) := by decide +kernel
theorem dX12_pickedOf_84 : decode cX12_pickedOf 84 = .ok (.iinc 2 1, 3) := by decide +kernel
theorem dX12_pickedOf_87 : decode cX12_pickedOf 87 = .ok (.goto (-85), 3) := by decide +kernel
theorem dX12_pickedOf_90 : decode cX12_pickedOf 90 = .ok (.bipush 7, 2) := by decide +kernel
theorem dX12_pickedOf_92 : decode cX12_pickedOf 92 = .ok (.ireturn, 1) := by decide +kernel
theorem dX12_findOdds_0 : decode cX12_findOdds 0 = .ok (.iload_n 2, 1) := by decide +kernel
theorem dX12_findOdds_1 : decode cX12_findOdds 1 = .ok (.bipush 7, 2) := by decide +kernel
theorem dX12_findOdds_3 : decode cX12_findOdds 3 = .ok (.if_icmp .eq 19, 3) := by decide +kernel
theorem dX12_findOdds_6 : decode cX12_findOdds 6 = .ok (.aload_n 0, 1) := by decide +kernel
theorem dX12_findOdds_7 : decode cX12_findOdds 7 = .ok (.iload_n 3, 1) := by decide +kernel
theorem dX12_findOdds_8 : decode cX12_findOdds 8 = .ok (.iload_n 2, 1) := by decide +kernel
theorem dX12_findOdds_9 : decode cX12_findOdds 9 = .ok (.invokevirtual 192, 3) := by decide +kernel
theorem dX12_findOdds_12 : decode cX12_findOdds 12 = .ok (.ifCond .ne 10, 3) := by decide +kernel
theorem dX12_findOdds_15 : decode cX12_findOdds 15 = .ok (.aload_n 0, 1) := by decide +kernel
theorem dX12_findOdds_16 : decode cX12_findOdds 16 = .ok (.lconst 0, 1) := by decide +kernel
theorem dX12_findOdds_17 : decode cX12_findOdds 17 = .ok (.lconst 1, 1) := by decide +kernel
theorem dX12_findOdds_18 : decode cX12_findOdds 18 = .ok (.invokevirtual 268, 3) := by decide +kernel
theorem dX12_findOdds_21 : decode cX12_findOdds 21 = .ok (.return_, 1) := by decide +kernel
theorem dX12_findOdds_22 : decode cX12_findOdds 22 = .ok (.aload_n 0, 1) := by decide +kernel
theorem dX12_findOdds_23 : decode cX12_findOdds 23 = .ok (.getfield 56, 3) := by decide +kernel
theorem dX12_findOdds_26 : decode cX12_findOdds 26 = .ok (.iload_n 1, 1) := by decide +kernel
theorem dX12_findOdds_27 : decode cX12_findOdds 27 = .ok (.iaload, 1) := by decide +kernel
theorem dX12_findOdds_28 : decode cX12_findOdds 28 = .ok (.tableswitch 96 1 5 #[36, 45, 54, 63, 76], 36) := by decide +kernel
theorem dX12_findOdds_64 : decode cX12_findOdds 64 = .ok (.aload_n 0, 1) := by decide +kernel
theorem dX12_findOdds_65 : decode cX12_findOdds 65 = .ok (.iload_n 2, 1) := by decide +kernel
theorem dX12_findOdds_66 : decode cX12_findOdds 66 = .ok (.iload_n 3, 1) := by decide +kernel
theorem dX12_findOdds_67 : decode cX12_findOdds 67 = .ok (.iload 4, 2) := by decide +kernel
theorem dX12_findOdds_69 : decode cX12_findOdds 69 = .ok (.invokevirtual 276, 3) := by decide +kernel
theorem dX12_findOdds_72 : decode cX12_findOdds 72 = .ok (.return_, 1) := by decide +kernel
theorem dX12_findOdds_73 : decode cX12_findOdds 73 = .ok (.aload_n 0, 1) := by decide +kernel
theorem dX12_findOdds_74 : decode cX12_findOdds 74 = .ok (.iload_n 2, 1) := by decide +kernel
theorem dX12_findOdds_75 : decode cX12_findOdds 75 = .ok (.iload_n 3, 1) := by decide +kernel
theorem dX12_findOdds_76 : decode cX12_findOdds 76 = .ok (.iload 4, 2) := by decide +kernel
theorem dX12_findOdds_78 : decode cX12_findOdds 78 = .ok (.invokevirtual 284, 3) := by decide +kernel
theorem dX12_findOdds_81 : decode cX12_findOdds 81 = .ok (.return_, 1) := by decide +kernel
theorem dX12_findOdds_82 : decode cX12_findOdds 82 = .ok (.aload_n 0, 1) := by decide +kernel
theorem dX12_findOdds_83 : decode cX12_findOdds 83 = .ok (.iload_n 2, 1) := by decide +kernel
theorem dX12_findOdds_84 : decode cX12_findOdds 84 = .ok (.iload_n 3, 1) := by decide +kernel
theorem dX12_findOdds_85 : decode cX12_findOdds 85 = .ok (.iload 4, 2) := by decide +kernel
theorem dX12_findOdds_87 : decode cX12_findOdds 87 = .ok (.invokevirtual 287, 3) := by decide +kernel
theorem dX12_findOdds_90 : decode cX12_findOdds 90 = .ok (.return_, 1) := by decide +kernel
theorem dX12_findOdds_91 : decode cX12_findOdds 91 = .ok (.aload_n 0, 1) := by decide +kernel
theorem dX12_findOdds_92 : decode cX12_findOdds 92 = .ok (.iload_n 2, 1) := by decide +kernel
theorem dX12_findOdds_93 : decode cX12_findOdds 93 = .ok (.aload_n 0, 1) := by decide +kernel
theorem dX12_findOdds_94 : decode cX12_findOdds 94 = .ok (.iload_n 3, 1) := by decide +kernel
theorem dX12_findOdds_95 : decode cX12_findOdds 95 = .ok (.invokevirtual 290, 3) := by decide +kernel
theorem dX12_findOdds_98 : decode cX12_findOdds 98 = .ok (.iload 4, 2) := by decide +kernel
theorem dX12_findOdds_100 : decode cX12_findOdds 100 = .ok (.invokevirtual 276, 3) := by decide +kernel
theorem dX12_findOdds_103 : decode cX12_findOdds 103 = .ok (.return_, 1) := by decide +kernel
theorem dX12_findOdds_104 : decode cX12_findOdds 104 = .ok (.aload_n 0, 1) := by decide +kernel
theorem dX12_findOdds_105 : decode cX12_findOdds 105 = .ok (.aload_n 0, 1) := by decide +kernel
theorem dX12_findOdds_106 : decode cX12_findOdds 106 = .ok (.iload_n 3, 1) := by decide +kernel
theorem dX12_findOdds_107 : decode cX12_findOdds 107 = .ok (.invokevirtual 293, 3) := by decide +kernel
theorem dX12_findOdds_110 : decode cX12_findOdds 110 = .ok (.iload_n 2, 1) := by decide +kernel
theorem dX12_findOdds_111 : decode cX12_findOdds 111 = .ok (.if_icmp .ne 7, 3) := by decide +kernel
theorem dX12_findOdds_114 : decode cX12_findOdds 114 = .ok (.lconst 1, 1) := by decide +kernel
theorem dX12_findOdds_115 : decode cX12_findOdds 115 = .ok (.goto 4, 3) := by decide +kernel
theorem dX12_findOdds_118 : decode cX12_findOdds 118 = .ok (.lconst 0, 1) := by decide +kernel
theorem dX12_findOdds_119 : decode cX12_findOdds 119 = .ok (.lconst 1, 1) := by decide +kernel
theorem dX12_findOdds_120 : decode cX12_findOdds 120 = .ok (.invokevirtual 268, 3) := by decide +kernel
theorem dX12_findOdds_123 : decode cX12_findOdds 123 = .ok (.return_, 1) := by decide +kernel
theorem dX12_findOdds_124 : decode cX12_findOdds 124 = .ok (.aload_n 0, 1) := by decide +kernel
theorem dX12_findOdds_125 : decode cX12_findOdds 125 = .ok (.iload_n 2, 1) := by decide +kernel
theorem dX12_findOdds_126 : decode cX12_findOdds 126 = .ok (.bipush 7, 2) := by decide +kernel
theorem dX12_findOdds_128 : decode cX12_findOdds 128 = .ok (.if_icmp .ne 7, 3) := by decide +kernel
theorem dX12_findOdds_131 : decode cX12_findOdds 131 = .ok (.lconst 0, 1) := by decide +kernel
theorem dX12_findOdds_132 : decode cX12_findOdds 132 = .ok (.goto 4, 3) := by decide +kernel
theorem dX12_findOdds_135 : decode cX12_findOdds 135 = .ok (.lconst 1, 1) := by decide +kernel
theorem dX12_findOdds_136 : decode cX12_findOdds 136 = .ok (.aload_n 0, 1) := by decide +kernel
theorem dX12_findOdds_137 : decode cX12_findOdds 137 = .ok (.iload_n 3, 1) := by decide +kernel
theorem dX12_findOdds_138 : decode cX12_findOdds 138 = .ok (.invokevirtual 280, 3) := by decide +kernel
theorem dX12_findOdds_141 : decode cX12_findOdds 141 = .ok (.i2l, 1) := by decide +kernel
theorem dX12_findOdds_142 : decode cX12_findOdds 142 = .ok (.invokevirtual 268, 3) := by decide +kernel
theorem dX12_findOdds_145 : decode cX12_findOdds 145 = .ok (.return_, 1) := by decide +kernel
theorem dX12_divisor_0 : decode cX12_divisor 0 = .ok (.lload_n 1, 1) := by decide +kernel
theorem dX12_divisor_1 : decode cX12_divisor 1 = .ok (.lstore 5, 2) := by decide +kernel
theorem dX12_divisor_3 : decode cX12_divisor 3 = .ok (.lload_n 3, 1) := by decide +kernel
theorem dX12_divisor_4 : decode cX12_divisor 4 = .ok (.lstore 7, 2) := by decide +kernel
theorem dX12_divisor_6 : decode cX12_divisor 6 = .ok (.lload 7, 2) := by decide +kernel
theorem dX12_divisor_8 : decode cX12_divisor 8 = .ok (.lconst 0, 1) := by decide +kernel
theorem dX12_divisor_9 : decode cX12_divisor 9 = .ok (.lcmp, 1) := by decide +kernel
theorem dX12_divisor_10 : decode cX12_divisor 10 = .ok (.ifCond .eq 21, 3) := by decide +kernel
theorem dX12_divisor_13 : decode cX12_divisor 13 = .ok (.lload 5, 2) := by decide +kernel
theorem dX12_divisor_15 : decode cX12_divisor 15 = .ok (.lload 7, 2) := by decide +kernel
theorem dX12_divisor_17 : decode cX12_divisor 17 = .ok (.lrem, 1) := by decide +kernel
theorem dX12_divisor_18 : decode cX12_divisor 18 = .ok (.lstore 9, 2) := by decide +kernel
theorem dX12_divisor_20 : decode cX12_divisor 20 = .ok (.lload 7, 2) := by decide +kernel
theorem dX12_divisor_22 : decode cX12_divisor 22 = .ok (.lstore 5, 2) := by decide +kernel
theorem dX12_divisor_24 : decode cX12_divisor 24 = .ok (.lload 9, 2) := by decide +kernel
theorem dX12_divisor_26 : decode cX12_divisor 26 = .ok (.lstore 7, 2) := by decide +kernel
theorem dX12_divisor_28 : decode cX12_divisor 28 = .ok (.goto (-22), 3) := by decide +kernel
theorem dX12_divisor_31 : decode cX12_divisor 31 = .ok (.lload 5, 2) := by decide +kernel
theorem dX12_divisor_33 : decode cX12_divisor 33 = .ok (.lreturn, 1) := by decide +kernel
theorem dX12_odds_0 : decode cX12_odds 0 = .ok (.aload_n 0, 1) := by decide +kernel
theorem dX12_odds_1 : decode cX12_odds 1 = .ok (.iload_n 1, 1) := by decide +kernel
theorem dX12_odds_2 : decode cX12_odds 2 = .ok (.invokevirtual 258, 3) := by decide +kernel
theorem dX12_odds_5 : decode cX12_odds 5 = .ok (.ifCond .eq 59, 3) := by decide +kernel
theorem dX12_odds_8 : decode cX12_odds 8 = .ok (.iload_n 2, 1) := by decide +kernel
theorem dX12_odds_9 : decode cX12_odds 9 = .ok (.bipush 7, 2) := by decide +kernel
theorem dX12_odds_11 : decode cX12_odds 11 = .ok (.if_icmp .eq 11, 3) := by decide +kernel
theorem dX12_odds_14 : decode cX12_odds 14 = .ok (.aload_n 0, 1) := by decide +kernel
theorem dX12_odds_15 : decode cX12_odds 15 = .ok (.iload_n 2, 1) := by decide +kernel
theorem dX12_odds_16 : decode cX12_odds 16 = .ok (.invokevirtual 182, 3) := by decide +kernel
theorem dX12_odds_19 : decode cX12_odds 19 = .ok (.ifCond .eq 45, 3) := by decide +kernel
theorem dX12_odds_22 : decode cX12_odds 22 = .ok (.aload_n 0, 1) := by decide +kernel
theorem dX12_odds_23 : decode cX12_odds 23 = .ok (.iload_n 3, 1) := by decide +kernel
theorem dX12_odds_24 : decode cX12_odds 24 = .ok (.invokevirtual 189, 3) := by decide +kernel
theorem dX12_odds_27 : decode cX12_odds 27 = .ok (.ifCond .eq 37, 3) := by decide +kernel
theorem dX12_odds_30 : decode cX12_odds 30 = .ok (.iload_n 3, 1) := by decide +kernel
theorem dX12_odds_31 : decode cX12_odds 31 = .ok (.ifCond .eq 33, 3) := by decide +kernel
theorem dX12_odds_34 : decode cX12_odds 34 = .ok (.aload_n 0, 1) := by decide +kernel
theorem dX12_odds_35 : decode cX12_odds 35 = .ok (.iload 4, 2) := by decide +kernel
theorem dX12_odds_37 : decode cX12_odds 37 = .ok (.iconst 0, 1) := by decide +kernel
theorem dX12_odds_38 : decode cX12_odds 38 = .ok (.iconst 2, 1) := by decide +kernel
theorem dX12_odds_39 : decode cX12_odds 39 = .ok (.invokevirtual 178, 3) := by decide +kernel
theorem dX12_odds_42 : decode cX12_odds 42 = .ok (.ifCond .eq 22, 3) := by decide +kernel
theorem dX12_odds_45 : decode cX12_odds 45 = .ok (.aload_n 0, 1) := by decide +kernel
theorem dX12_odds_46 : decode cX12_odds 46 = .ok (.iload 5, 2) := by decide +kernel
theorem dX12_odds_48 : decode cX12_odds 48 = .ok (.iconst 0, 1) := by decide +kernel
theorem dX12_odds_49 : decode cX12_odds 49 = .ok (.iconst 1, 1) := by decide +kernel
theorem dX12_odds_50 : decode cX12_odds 50 = .ok (.invokevirtual 178, 3) := by decide +kernel
theorem dX12_odds_53 : decode cX12_odds 53 = .ok (.ifCond .eq 11, 3) := by decide +kernel
theorem dX12_odds_56 : decode cX12_odds 56 = .ok (.aload_n 0, 1) := by decide +kernel
theorem dX12_odds_57 : decode cX12_odds 57 = .ok (.iload_n 1, 1) := by decide +kernel
theorem dX12_odds_58 : decode cX12_odds 58 = .ok (.invokevirtual 261, 3) := by decide +kernel
theorem dX12_odds_61 : decode cX12_odds 61 = .ok (.ifCond .ne 7, 3) := by decide +kernel
theorem dX12_odds_64 : decode cX12_odds 64 = .ok (.ldc2_w 296, 3) := by decide +kernel
theorem dX12_odds_67 : decode cX12_odds 67 = .ok (.lreturn, 1) := by decide +kernel
theorem dX12_odds_68 : decode cX12_odds 68 = .ok (.aload_n 0, 1) := by decide +kernel
theorem dX12_odds_69 : decode cX12_odds 69 = .ok (.iload_n 1, 1) := by decide +kernel
theorem dX12_odds_70 : decode cX12_odds 70 = .ok (.iload_n 2, 1) := by decide +kernel
theorem dX12_odds_71 : decode cX12_odds 71 = .ok (.iload_n 3, 1) := by decide +kernel
theorem dX12_odds_72 : decode cX12_odds 72 = .ok (.iload 4, 2) := by decide +kernel
theorem dX12_odds_74 : decode cX12_odds 74 = .ok (.invokevirtual 298, 3) := by decide +kernel
theorem dX12_odds_77 : decode cX12_odds 77 = .ok (.aload_n 0, 1) := by decide +kernel
theorem dX12_odds_78 : decode cX12_odds 78 = .ok (.aload_n 0, 1) := by decide +kernel
theorem dX12_odds_79 : decode cX12_odds 79 = .ok (.getfield 129, 3) := by decide +kernel
theorem dX12_odds_82 : decode cX12_odds 82 = .ok (.aload_n 0, 1) := by decide +kernel
theorem dX12_odds_83 : decode cX12_odds 83 = .ok (.getfield 133, 3) := by decide +kernel
theorem dX12_odds_86 : decode cX12_odds 86 = .ok (.invokevirtual 302, 3) := by decide +kernel
theorem dX12_odds_89 : decode cX12_odds 89 = .ok (.lstore 6, 2) := by decide +kernel
theorem dX12_odds_91 : decode cX12_odds 91 = .ok (.iload 5, 2) := by decide +kernel
theorem dX12_odds_93 : decode cX12_odds 93 = .ok (.ifCond .ne 13, 3) := by decide +kernel
theorem dX12_odds_96 : decode cX12_odds 96 = .ok (.aload_n 0, 1) := by decide +kernel
theorem dX12_odds_97 : decode cX12_odds 97 = .ok (.getfield 129, 3) := by decide +kernel
theorem dX12_odds_100 : decode cX12_odds 100 = .ok (.lload 6, 2) := by decide +kernel
theorem dX12_odds_102 : decode cX12_odds 102 = .ok (.ldiv, 1) := by decide +kernel
theorem dX12_odds_103 : decode cX12_odds 103 = .ok (.goto 10, 3) := by decide +kernel
theorem dX12_odds_106 : decode cX12_odds 106 = .ok (.aload_n 0, 1) := by decide +kernel
theorem dX12_odds_107 : decode cX12_odds 107 = .ok (.getfield 133, 3) := by decide +kernel
theorem dX12_odds_110 : decode cX12_odds 110 = .ok (.lload 6, 2) := by decide +kernel
theorem dX12_odds_112 : decode cX12_odds 112 = .ok (.ldiv, 1) := by decide +kernel
theorem dX12_odds_113 : decode cX12_odds 113 = .ok (.lreturn, 1) := by decide +kernel
theorem dX12_scoreOf_0 : decode cX12_scoreOf 0 = .ok (.lconst 0, 1) := by decide +kernel
theorem dX12_scoreOf_1 : decode cX12_scoreOf 1 = .ok (.lstore_n 3, 1) := by decide +kernel
theorem dX12_scoreOf_2 : decode cX12_scoreOf 2 = .ok (.iconst 0, 1) := by decide +kernel
theorem dX12_scoreOf_3 : decode cX12_scoreOf 3 = .ok (.istore 5, 2) := by decide +kernel
theorem dX12_scoreOf_5 : decode cX12_scoreOf 5 = .ok (.iload 5, 2) := by decide +kernel
theorem dX12_scoreOf_7 : decode cX12_scoreOf 7 = .ok (.aload_n 0, 1) := by decide +kernel
theorem dX12_scoreOf_8 : decode cX12_scoreOf 8 = .ok (.getfield 16, 3) := by decide +kernel
theorem dX12_scoreOf_11 : decode cX12_scoreOf 11 = .ok (.if_icmp .ge 85, 3) := by decide +kernel
theorem dX12_scoreOf_14 : decode cX12_scoreOf 14 = .ok (.aload_n 0, 1) := by decide +kernel
theorem dX12_scoreOf_15 : decode cX12_scoreOf 15 = .ok (.getfield 44, 3) := by decide +kernel
theorem dX12_scoreOf_18 : decode cX12_scoreOf 18 = .ok (.iload 5, 2) := by decide +kernel
theorem dX12_scoreOf_20 : decode cX12_scoreOf 20 = .ok (.iaload, 1) := by decide +kernel
theorem dX12_scoreOf_21 : decode cX12_scoreOf 21 = .ok (.iload_n 2, 1) := by decide +kernel
theorem dX12_scoreOf_22 : decode cX12_scoreOf 22 = .ok (.if_icmp .eq 6, 3) := by decide +kernel
theorem dX12_scoreOf_25 : decode cX12_scoreOf 25 = .ok (.goto 65, 3) := by decide +kernel
theorem dX12_scoreOf_28 : decode cX12_scoreOf 28 = .ok (.aload_n 0, 1) := by decide +kernel
theorem dX12_scoreOf_29 : decode cX12_scoreOf 29 = .ok (.iload_n 1, 1) := by decide +kernel
theorem dX12_scoreOf_30 : decode cX12_scoreOf 30 = .ok (.aload_n 0, 1) := by decide +kernel
theorem dX12_scoreOf_31 : decode cX12_scoreOf 31 = .ok (.getfield 41, 3) := by decide +kernel
theorem dX12_scoreOf_34 : decode cX12_scoreOf 34 = .ok (.iload 5, 2) := by decide +kernel
theorem dX12_scoreOf_36 : decode cX12_scoreOf 36 = .ok (.iaload, 1) := by decide +kernel
theorem dX12_scoreOf_37 : decode cX12_scoreOf 37 = .ok (.ifCond .ge 8, 3) := by decide +kernel
theorem dX12_scoreOf_40 : decode cX12_scoreOf 40 = .ok (.bipush 7, 2) := by decide +kernel
theorem dX12_scoreOf_42 : decode cX12_scoreOf 42 = .ok (.goto 10, 3) := by decide +kernel
theorem dX12_scoreOf_45 : decode cX12_scoreOf 45 = .ok (.aload_n 0, 1) := by decide +kernel
theorem dX12_scoreOf_46 : decode cX12_scoreOf 46 = .ok (.getfield 41, 3) := by decide +kernel
theorem dX12_scoreOf_49 : decode cX12_scoreOf 49 = .ok (.iload 5, 2) := by decide +kernel
theorem dX12_scoreOf_51 : decode cX12_scoreOf 51 = .ok (.iaload, 1) := by decide +kernel
theorem dX12_scoreOf_52 : decode cX12_scoreOf 52 = .ok (.aload_n 0, 1) := by decide +kernel
theorem dX12_scoreOf_53 : decode cX12_scoreOf 53 = .ok (.getfield 38, 3) := by decide +kernel
theorem dX12_scoreOf_56 : decode cX12_scoreOf 56 = .ok (.iload 5, 2) := by decide +kernel
theorem dX12_scoreOf_58 : decode cX12_scoreOf 58 = .ok (.iaload, 1) := by decide +kernel
theorem dX12_scoreOf_59 : decode cX12_scoreOf 59 = .ok (.aload_n 0, 1) := by decide +kernel
theorem dX12_scoreOf_60 : decode cX12_scoreOf 60 = .ok (.getfield 32, 3) := by decide +kernel
theorem dX12_scoreOf_63 : decode cX12_scoreOf 63 = .ok (.aload_n 0, 1) := by decide +kernel
theorem dX12_scoreOf_64 : decode cX12_scoreOf 64 = .ok (.getfield 35, 3) := by decide +kernel
theorem dX12_scoreOf_67 : decode cX12_scoreOf 67 = .ok (.iload 5, 2) := by decide +kernel
theorem dX12_scoreOf_69 : decode cX12_scoreOf 69 = .ok (.iaload, 1) := by decide +kernel
theorem dX12_scoreOf_70 : decode cX12_scoreOf 70 = .ok (.iaload, 1) := by decide +kernel
theorem dX12_scoreOf_71 : decode cX12_scoreOf 71 = .ok (.invokevirtual 298, 3) := by decide +kernel
theorem dX12_scoreOf_74 : decode cX12_scoreOf 74 = .ok (.lload_n 3, 1) := by decide +kernel
theorem dX12_scoreOf_75 : decode cX12_scoreOf 75 = .ok (.ldc2_w 306, 3) := by decide +kernel
theorem dX12_scoreOf_78 : decode cX12_scoreOf 78 = .ok (.aload_n 0, 1) := by decide +kernel
theorem dX12_scoreOf_79 : decode cX12_scoreOf 79 = .ok (.getfield 129, 3) := by decide +kernel
theorem dX12_scoreOf_82 : decode cX12_scoreOf 82 = .ok (.lmul, 1) := by decide +kernel
theorem dX12_scoreOf_83 : decode cX12_scoreOf 83 = .ok (.aload_n 0, 1) := by decide +kernel
theorem dX12_scoreOf_84 : decode cX12_scoreOf 84 = .ok (.getfield 133, 3) := by decide +kernel
theorem dX12_scoreOf_87 : decode cX12_scoreOf 87 = .ok (.ldiv, 1) := by decide +kernel
theorem dX12_scoreOf_88 : decode cX12_scoreOf 88 = .ok (.ladd, 1) := by decide +kernel
theorem dX12_scoreOf_89 : decode cX12_scoreOf 89 = .ok (.lstore_n 3, 1) := by decide +kernel
theorem dX12_scoreOf_90 : decode cX12_scoreOf 90 = .ok (.iinc 5 1, 3) := by decide +kernel
theorem dX12_scoreOf_93 : decode cX12_scoreOf 93 = .ok (.goto (-88), 3) := by decide +kernel
theorem dX12_scoreOf_96 : decode cX12_scoreOf 96 = .ok (.lload_n 3, 1) := by decide +kernel
theorem dX12_scoreOf_97 : decode cX12_scoreOf 97 = .ok (.l2i, 1) := by decide +kernel
theorem dX12_scoreOf_98 : decode cX12_scoreOf 98 = .ok (.ireturn, 1) := by decide +kernel
theorem dX12_missesOf_0 : decode cX12_missesOf 0 = .ok (.iconst 0, 1) := by decide +kernel
theorem dX12_missesOf_1 : decode cX12_missesOf 1 = .ok (.istore_n 3, 1) := by decide +kernel
theorem dX12_missesOf_2 : decode cX12_missesOf 2 = .ok (.iconst 0, 1) := by decide +kernel
theorem dX12_missesOf_3 : decode cX12_missesOf 3 = .ok (.istore 4, 2) := by decide +kernel
theorem dX12_missesOf_5 : decode cX12_missesOf 5 = .ok (.iload 4, 2) := by decide +kernel
theorem dX12_missesOf_7 : decode cX12_missesOf 7 = .ok (.aload_n 0, 1) := by decide +kernel
theorem dX12_missesOf_8 : decode cX12_missesOf 8 = .ok (.getfield 16, 3) := by decide +kernel
theorem dX12_missesOf_11 : decode cX12_missesOf 11 = .ok (.if_icmp .ge 195, 3) := by decide +kernel
theorem dX12_missesOf_14 : decode cX12_missesOf 14 = .ok (.aload_n 0, 1) := by decide +kernel
theorem dX12_missesOf_15 : decode cX12_missesOf 15 = .ok (.getfield 44, 3) := by decide +kernel
theorem dX12_missesOf_18 : decode cX12_missesOf 18 = .ok (.iload 4, 2) := by decide +kernel
theorem dX12_missesOf_20 : decode cX12_missesOf 20 = .ok (.iaload, 1) := by decide +kernel
theorem dX12_missesOf_21 : decode cX12_missesOf 21 = .ok (.iload_n 2, 1) := by decide +kernel
theorem dX12_missesOf_22 : decode cX12_missesOf 22 = .ok (.if_icmp .eq 6, 3) := by decide +kernel
theorem dX12_missesOf_25 : decode cX12_missesOf 25 = .ok (.goto 175, 3) := by decide +kernel
theorem dX12_missesOf_28 : decode cX12_missesOf 28 = .ok (.aload_n 0, 1) := by decide +kernel
theorem dX12_missesOf_29 : decode cX12_missesOf 29 = .ok (.iload_n 1, 1) := by decide +kernel
theorem dX12_missesOf_30 : decode cX12_missesOf 30 = .ok (.aload_n 0, 1) := by decide +kernel
theorem dX12_missesOf_31 : decode cX12_missesOf 31 = .ok (.getfield 41, 3) := by decide +kernel
theorem dX12_missesOf_34 : decode cX12_missesOf 34 = .ok (.iload 4, 2) := by decide +kernel
theorem dX12_missesOf_36 : decode cX12_missesOf 36 = .ok (.iaload, 1) := by decide +kernel
theorem dX12_missesOf_37 : decode cX12_missesOf 37 = .ok (.ifCond .ge 8, 3) := by decide +kernel
theorem dX12_missesOf_40 : decode cX12_missesOf 40 = .ok (.bipush 7, 2) := by decide +kernel
theorem dX12_missesOf_42 : decode cX12_missesOf 42 = .ok (.goto 10, 3) := by decide +kernel
theorem dX12_missesOf_45 : decode cX12_missesOf 45 = .ok (.aload_n 0, 1) := by decide +kernel
theorem dX12_missesOf_46 : decode cX12_missesOf 46 = .ok (.getfield 41, 3) := by decide +kernel
theorem dX12_missesOf_49 : decode cX12_missesOf 49 = .ok (.iload 4, 2) := by decide +kernel
theorem dX12_missesOf_51 : decode cX12_missesOf 51 = .ok (.iaload, 1) := by decide +kernel
theorem dX12_missesOf_52 : decode cX12_missesOf 52 = .ok (.aload_n 0, 1) := by decide +kernel
theorem dX12_missesOf_53 : decode cX12_missesOf 53 = .ok (.getfield 38, 3) := by decide +kernel
theorem dX12_missesOf_56 : decode cX12_missesOf 56 = .ok (.iload 4, 2) := by decide +kernel
theorem dX12_missesOf_58 : decode cX12_missesOf 58 = .ok (.iaload, 1) := by decide +kernel
theorem dX12_missesOf_59 : decode cX12_missesOf 59 = .ok (.aload_n 0, 1) := by decide +kernel
theorem dX12_missesOf_60 : decode cX12_missesOf 60 = .ok (.getfield 32, 3) := by decide +kernel
theorem dX12_missesOf_63 : decode cX12_missesOf 63 = .ok (.aload_n 0, 1) := by decide +kernel
theorem dX12_missesOf_64 : decode cX12_missesOf 64 = .ok (.getfield 35, 3) := by decide +kernel
theorem dX12_missesOf_67 : decode cX12_missesOf 67 = .ok (.iload 4, 2) := by decide +kernel
theorem dX12_missesOf_69 : decode cX12_missesOf 69 = .ok (.iaload, 1) := by decide +kernel
theorem dX12_missesOf_70 : decode cX12_missesOf 70 = .ok (.iaload, 1) := by decide +kernel
theorem dX12_missesOf_71 : decode cX12_missesOf 71 = .ok (.invokevirtual 298, 3) := by decide +kernel
theorem dX12_missesOf_74 : decode cX12_missesOf 74 = .ok (.aload_n 0, 1) := by decide +kernel
theorem dX12_missesOf_75 : decode cX12_missesOf 75 = .ok (.getfield 129, 3) := by decide +kernel
theorem dX12_missesOf_78 : decode cX12_missesOf 78 = .ok (.lstore 5, 2) := by decide +kernel
theorem dX12_missesOf_80 : decode cX12_missesOf 80 = .ok (.aload_n 0, 1) := by decide +kernel
theorem dX12_missesOf_81 : decode cX12_missesOf 81 = .ok (.getfield 133, 3) := by decide +kernel
theorem dX12_missesOf_84 : decode cX12_missesOf 84 = .ok (.lstore 7, 2) := by decide +kernel
theorem dX12_missesOf_86 : decode cX12_missesOf 86 = .ok (.iconst 0, 1) := by decide +kernel
theorem dX12_missesOf_87 : decode cX12_missesOf 87 = .ok (.istore 9, 2) := by decide +kernel
theorem dX12_missesOf_89 : decode cX12_missesOf 89 = .ok (.iconst 0, 1) := by decide +kernel
theorem dX12_missesOf_90 : decode cX12_missesOf 90 = .ok (.istore 10, 2) := by decide +kernel
theorem dX12_missesOf_92 : decode cX12_missesOf 92 = .ok (.iload 10, 2) := by decide +kernel
theorem dX12_missesOf_94 : decode cX12_missesOf 94 = .ok (.bipush 7, 2) := by decide +kernel
theorem dX12_missesOf_96 : decode cX12_missesOf 96 = .ok (.if_icmp .gt 91, 3) := by decide +kernel
theorem dX12_missesOf_99 : decode cX12_missesOf 99 = .ok (.iload 10, 2) := by decide +kernel
theorem dX12_missesOf_101 : decode cX12_missesOf 101 = .ok (.bipush 7, 2) := by decide +kernel
theorem dX12_missesOf_103 : decode cX12_missesOf 103 = .ok (.if_icmp .eq 22, 3) := by decide +kernel
theorem dX12_missesOf_106 : decode cX12_missesOf 106 = .ok (.aload_n 0, 1) := by decide +kernel
theorem dX12_missesOf_107 : decode cX12_missesOf 107 = .ok (.aload_n 0, 1) := by decide +kernel
theorem dX12_missesOf_108 : decode cX12_missesOf 108 = .ok (.getfield 38, 3) := by decide +kernel
theorem dX12_missesOf_111 : decode cX12_missesOf 111 = .ok (.iload 4, 2) := by decide +kernel
theorem dX12_missesOf_113 : decode cX12_missesOf 113 = .ok (.iaload, 1) := by decide +kernel
theorem dX12_missesOf_114 : decode cX12_missesOf 114 = .ok (.iload 10, 2) := by decide +kernel
theorem dX12_missesOf_116 : decode cX12_missesOf 116 = .ok (.invokevirtual 192, 3) := by decide +kernel
theorem dX12_missesOf_119 : decode cX12_missesOf 119 = .ok (.ifCond .ne 6, 3) := by decide +kernel
theorem dX12_missesOf_122 : decode cX12_missesOf 122 = .ok (.goto 59, 3) := by decide +kernel
theorem dX12_missesOf_125 : decode cX12_missesOf 125 = .ok (.aload_n 0, 1) := by decide +kernel
theorem dX12_missesOf_126 : decode cX12_missesOf 126 = .ok (.iload_n 1, 1) := by decide +kernel
theorem dX12_missesOf_127 : decode cX12_missesOf 127 = .ok (.iload 10, 2) := by decide +kernel
theorem dX12_missesOf_129 : decode cX12_missesOf 129 = .ok (.aload_n 0, 1) := by decide +kernel
theorem dX12_missesOf_130 : decode cX12_missesOf 130 = .ok (.getfield 38, 3) := by decide +kernel
theorem dX12_missesOf_133 : decode cX12_missesOf 133 = .ok (.iload 4, 2) := by decide +kernel
theorem dX12_missesOf_135 : decode cX12_missesOf 135 = .ok (.iaload, 1) := by decide +kernel
theorem dX12_missesOf_136 : decode cX12_missesOf 136 = .ok (.aload_n 0, 1) := by decide +kernel
theorem dX12_missesOf_137 : decode cX12_missesOf 137 = .ok (.getfield 32, 3) := by decide +kernel
theorem dX12_missesOf_140 : decode cX12_missesOf 140 = .ok (.aload_n 0, 1) := by decide +kernel
theorem dX12_missesOf_141 : decode cX12_missesOf 141 = .ok (.getfield 35, 3) := by decide +kernel
theorem dX12_missesOf_144 : decode cX12_missesOf 144 = .ok (.iload 4, 2) := by decide +kernel
theorem dX12_missesOf_146 : decode cX12_missesOf 146 = .ok (.iaload, 1) := by decide +kernel
theorem dX12_missesOf_147 : decode cX12_missesOf 147 = .ok (.iaload, 1) := by decide +kernel
theorem dX12_missesOf_148 : decode cX12_missesOf 148 = .ok (.invokevirtual 298, 3) := by decide +kernel
theorem dX12_missesOf_151 : decode cX12_missesOf 151 = .ok (.iload 9, 2) := by decide +kernel
theorem dX12_missesOf_153 : decode cX12_missesOf 153 = .ok (.ifCond .ne 21, 3) := by decide +kernel
theorem dX12_missesOf_156 : decode cX12_missesOf 156 = .ok (.aload_n 0, 1) := by decide +kernel
theorem dX12_missesOf_157 : decode cX12_missesOf 157 = .ok (.getfield 129, 3) := by decide +kernel
theorem dX12_missesOf_160 : decode cX12_missesOf 160 = .ok (.lload 7, 2) := by decide +kernel
theorem dX12_missesOf_162 : decode cX12_missesOf 162 = .ok (.lmul, 1) := by decide +kernel
theorem dX12_missesOf_163 : decode cX12_missesOf 163 = .ok (.lload 5, 2) := by decide +kernel
theorem dX12_missesOf_165 : decode cX12_missesOf 165 = .ok (.aload_n 0, 1) := by decide +kernel
theorem dX12_missesOf_166 : decode cX12_missesOf 166 = .ok (.getfield 133, 3) := by decide +kernel
theorem dX12_missesOf_169 : decode cX12_missesOf 169 = .ok (.lmul, 1) := by decide +kernel
theorem dX12_missesOf_170 : decode cX12_missesOf 170 = .ok (.lcmp, 1) := by decide +kernel
theorem dX12_missesOf_171 : decode cX12_missesOf 171 = .ok (.ifCond .le 7, 3) := by decide +kernel
theorem dX12_missesOf_174 : decode cX12_missesOf 174 = .ok (.iconst 1, 1) := by decide +kernel
theorem dX12_missesOf_175 : decode cX12_missesOf 175 = .ok (.goto 4, 3) := by decide +kernel
theorem dX12_missesOf_178 : decode cX12_missesOf 178 = .ok (.iconst 0, 1) := by decide +kernel
theorem dX12_missesOf_179 : decode cX12_missesOf 179 = .ok (.istore 9, 2) := by decide +kernel
theorem dX12_missesOf_181 : decode cX12_missesOf 181 = .ok (.iinc 10 1, 3) := by decide +kernel
theorem dX12_missesOf_184 : decode cX12_missesOf 184 = .ok (.goto (-92), 3) := by decide +kernel
theorem dX12_missesOf_187 : decode cX12_missesOf 187 = .ok (.iload_n 3, 1) := by decide +kernel
theorem dX12_missesOf_188 : decode cX12_missesOf 188 = .ok (.iload 9, 2) := by decide +kernel
theorem dX12_missesOf_190 : decode cX12_missesOf 190 = .ok (.ifCond .eq 7, 3) := by decide +kernel
theorem dX12_missesOf_193 : decode cX12_missesOf 193 = .ok (.iconst 1, 1) := by decide +kernel
theorem dX12_missesOf_194 : decode cX12_missesOf 194 = .ok (.goto 4, 3) := by decide +kernel
theorem dX12_missesOf_197 : decode cX12_missesOf 197 = .ok (.iconst 0, 1) := by decide +kernel
theorem dX12_missesOf_198 : decode cX12_missesOf 198 = .ok (.iadd, 1) := by decide +kernel
theorem dX12_missesOf_199 : decode cX12_missesOf 199 = .ok (.istore_n 3, 1) := by decide +kernel
theorem dX12_missesOf_200 : decode cX12_missesOf 200 = .ok (.iinc 4 1, 3) := by decide +kernel
theorem dX12_missesOf_203 : decode cX12_missesOf 203 = .ok (.goto (-198), 3) := by decide +kernel
theorem dX12_missesOf_206 : decode cX12_missesOf 206 = .ok (.iload_n 3, 1) := by decide +kernel
theorem dX12_missesOf_207 : decode cX12_missesOf 207 = .ok (.ireturn, 1) := by decide +kernel
theorem dX12_score_0 : decode cX12_score 0 = .ok (.aload_n 0, 1) := by decide +kernel
theorem dX12_score_1 : decode cX12_score 1 = .ok (.iload_n 1, 1) := by decide +kernel
theorem dX12_score_2 : decode cX12_score 2 = .ok (.invokevirtual 258, 3) := by decide +kernel
theorem dX12_score_5 : decode cX12_score 5 = .ok (.ifCond .eq 21, 3) := by decide +kernel
theorem dX12_score_8 : decode cX12_score 8 = .ok (.aload_n 0, 1) := by decide +kernel
theorem dX12_score_9 : decode cX12_score 9 = .ok (.iload_n 2, 1) := by decide +kernel
theorem dX12_score_10 : decode cX12_score 10 = .ok (.iconst 0, 1) := by decide +kernel
theorem dX12_score_11 : decode cX12_score 11 = .ok (.iconst 1, 1) := by decide +kernel
theorem dX12_score_12 : decode cX12_score 12 = .ok (.invokevirtual 178, 3) := by decide +kernel
theorem dX12_score_15 : decode cX12_score 15 = .ok (.ifCond .eq 11, 3) := by decide +kernel
theorem dX12_score_18 : decode cX12_score 18 = .ok (.aload_n 0, 1) := by decide +kernel
theorem dX12_score_19 : decode cX12_score 19 = .ok (.iload_n 1, 1) := by decide +kernel
theorem dX12_score_20 : decode cX12_score 20 = .ok (.invokevirtual 261, 3) := by decide +kernel
theorem dX12_score_23 : decode cX12_score 23 = .ok (.ifCond .ne 7, 3) := by decide +kernel
theorem dX12_score_26 : decode cX12_score 26 = .ok (.iconst (-1), 1) := by decide +kernel
theorem dX12_score_27 : decode cX12_score 27 = .ok (.goto 9, 3) := by decide +kernel
theorem dX12_score_30 : decode cX12_score 30 = .ok (.aload_n 0, 1) := by decide +kernel
theorem dX12_score_31 : decode cX12_score 31 = .ok (.iload_n 1, 1) := by decide +kernel
theorem dX12_score_32 : decode cX12_score 32 = .ok (.iload_n 2, 1) := by decide +kernel
theorem dX12_score_33 : decode cX12_score 33 = .ok (.invokevirtual 308, 3) := by decide +kernel
theorem dX12_score_36 : decode cX12_score 36 = .ok (.ireturn, 1) := by decide +kernel
theorem dX12_misses_0 : decode cX12_misses 0 = .ok (.aload_n 0, 1) := by decide +kernel
theorem dX12_misses_1 : decode cX12_misses 1 = .ok (.iload_n 1, 1) := by decide +kernel
theorem dX12_misses_2 : decode cX12_misses 2 = .ok (.invokevirtual 258, 3) := by decide +kernel
theorem dX12_misses_5 : decode cX12_misses 5 = .ok (.ifCond .eq 21, 3) := by decide +kernel
theorem dX12_misses_8 : decode cX12_misses 8 = .ok (.aload_n 0, 1) := by decide +kernel
theorem dX12_misses_9 : decode cX12_misses 9 = .ok (.iload_n 2, 1) := by decide +kernel
theorem dX12_misses_10 : decode cX12_misses 10 = .ok (.iconst 0, 1) := by decide +kernel
theorem dX12_misses_11 : decode cX12_misses 11 = .ok (.iconst 1, 1) := by decide +kernel
theorem dX12_misses_12 : decode cX12_misses 12 = .ok (.invokevirtual 178, 3) := by decide +kernel
theorem dX12_misses_15 : decode cX12_misses 15 = .ok (.ifCond .eq 11, 3) := by decide +kernel
theorem dX12_misses_18 : decode cX12_misses 18 = .ok (.aload_n 0, 1) := by decide +kernel
theorem dX12_misses_19 : decode cX12_misses 19 = .ok (.iload_n 1, 1) := by decide +kernel
theorem dX12_misses_20 : decode cX12_misses 20 = .ok (.invokevirtual 261, 3) := by decide +kernel
theorem dX12_misses_23 : decode cX12_misses 23 = .ok (.ifCond .ne 7, 3) := by decide +kernel
theorem dX12_misses_26 : decode cX12_misses 26 = .ok (.iconst (-1), 1) := by decide +kernel
theorem dX12_misses_27 : decode cX12_misses 27 = .ok (.goto 9, 3) := by decide +kernel
theorem dX12_misses_30 : decode cX12_misses 30 = .ok (.aload_n 0, 1) := by decide +kernel
theorem dX12_misses_31 : decode cX12_misses 31 = .ok (.iload_n 1, 1) := by decide +kernel
theorem dX12_misses_32 : decode cX12_misses 32 = .ok (.iload_n 2, 1) := by decide +kernel
theorem dX12_misses_33 : decode cX12_misses 33 = .ok (.invokevirtual 311, 3) := by decide +kernel
theorem dX12_misses_36 : decode cX12_misses 36 = .ok (.ireturn, 1) := by decide +kernel
theorem dX12_grid_0 : decode cX12_grid 0 = .ok (.aload_n 0, 1) := by decide +kernel
theorem dX12_grid_1 : decode cX12_grid 1 = .ok (.iload_n 1, 1) := by decide +kernel
theorem dX12_grid_2 : decode cX12_grid 2 = .ok (.invokevirtual 258, 3) := by decide +kernel
theorem dX12_grid_5 : decode cX12_grid 5 = .ok (.ifCond .eq 19, 3) := by decide +kernel
theorem dX12_grid_8 : decode cX12_grid 8 = .ok (.aload_n 0, 1) := by decide +kernel
theorem dX12_grid_9 : decode cX12_grid 9 = .ok (.iload_n 2, 1) := by decide +kernel
theorem dX12_grid_10 : decode cX12_grid 10 = .ok (.invokevirtual 182, 3) := by decide +kernel
theorem dX12_grid_13 : decode cX12_grid 13 = .ok (.ifCond .eq 11, 3) := by decide +kernel
theorem dX12_grid_16 : decode cX12_grid 16 = .ok (.aload_n 0, 1) := by decide +kernel
theorem dX12_grid_17 : decode cX12_grid 17 = .ok (.iload_n 1, 1) := by decide +kernel
theorem dX12_grid_18 : decode cX12_grid 18 = .ok (.invokevirtual 261, 3) := by decide +kernel
theorem dX12_grid_21 : decode cX12_grid 21 = .ok (.ifCond .ne 5, 3) := by decide +kernel
theorem dX12_grid_24 : decode cX12_grid 24 = .ok (.iconst (-1), 1) := by decide +kernel
theorem dX12_grid_25 : decode cX12_grid 25 = .ok (.ireturn, 1) := by decide +kernel
theorem dX12_grid_26 : decode cX12_grid 26 = .ok (.iconst 0, 1) := by decide +kernel
theorem dX12_grid_27 : decode cX12_grid 27 = .ok (.istore_n 3, 1) := by decide +kernel
theorem dX12_grid_28 : decode cX12_grid 28 = .ok (.iconst (-1), 1) := by decide +kernel
theorem dX12_grid_29 : decode cX12_grid 29 = .ok (.istore 4, 2) := by decide +kernel
theorem dX12_grid_31 : decode cX12_grid 31 = .ok (.iconst 1, 1) := by decide +kernel
theorem dX12_grid_32 : decode cX12_grid 32 = .ok (.istore 5, 2) := by decide +kernel
theorem dX12_grid_34 : decode cX12_grid 34 = .ok (.iload 5, 2) := by decide +kernel
theorem dX12_grid_36 : decode cX12_grid 36 = .ok (.bipush 30, 2) := by decide +kernel
theorem dX12_grid_38 : decode cX12_grid 38 = .ok (.if_icmp .gt 42, 3) := by decide +kernel
theorem dX12_grid_41 : decode cX12_grid 41 = .ok (.aload_n 0, 1) := by decide +kernel
theorem dX12_grid_42 : decode cX12_grid 42 = .ok (.getfield 83, 3) := by decide +kernel
theorem dX12_grid_45 : decode cX12_grid 45 = .ok (.iload_n 2, 1) := by decide +kernel
theorem dX12_grid_46 : decode cX12_grid 46 = .ok (.iload 5, 2) := by decide +kernel
theorem dX12_grid_48 : decode cX12_grid 48 = .ok (.iastore, 1) := by decide +kernel
theorem dX12_grid_49 : decode cX12_grid 49 = .ok (.aload_n 0, 1) := by decide +kernel
theorem dX12_grid_50 : decode cX12_grid 50 = .ok (.iload_n 1, 1) := by decide +kernel
theorem dX12_grid_51 : decode cX12_grid 51 = .ok (.iconst 0, 1) := by decide +kernel
theorem dX12_grid_52 : decode cX12_grid 52 = .ok (.invokevirtual 308, 3) := by decide +kernel
theorem dX12_grid_55 : decode cX12_grid 55 = .ok (.istore 6, 2) := by decide +kernel
theorem dX12_grid_57 : decode cX12_grid 57 = .ok (.iload 6, 2) := by decide +kernel
theorem dX12_grid_59 : decode cX12_grid 59 = .ok (.iload 4, 2) := by decide +kernel
theorem dX12_grid_61 : decode cX12_grid 61 = .ok (.if_icmp .gt 6, 3) := by decide +kernel
theorem dX12_grid_64 : decode cX12_grid 64 = .ok (.goto 10, 3) := by decide +kernel
theorem dX12_grid_67 : decode cX12_grid 67 = .ok (.iload 6, 2) := by decide +kernel
theorem dX12_grid_69 : decode cX12_grid 69 = .ok (.istore 4, 2) := by decide +kernel
theorem dX12_grid_71 : decode cX12_grid 71 = .ok (.iload 5, 2) := by decide +kernel
theorem dX12_grid_73 : decode cX12_grid 73 = .ok (.istore_n 3, 1) := by decide +kernel
theorem dX12_grid_74 : decode cX12_grid 74 = .ok (.iinc 5 1, 3) := by decide +kernel
theorem dX12_grid_77 : decode cX12_grid 77 = .ok (.goto (-43), 3) := by decide +kernel
theorem dX12_grid_80 : decode cX12_grid 80 = .ok (.iload_n 3, 1) := by decide +kernel
theorem dX12_grid_81 : decode cX12_grid 81 = .ok (.ireturn, 1) := by decide +kernel
theorem dX12_which_0 : decode cX12_which 0 = .ok (.aload_n 0, 1) := by decide +kernel
theorem dX12_which_1 : decode cX12_which 1 = .ok (.iload_n 1, 1) := by decide +kernel
theorem dX12_which_2 : decode cX12_which 2 = .ok (.invokevirtual 258, 3) := by decide +kernel
theorem dX12_which_5 : decode cX12_which 5 = .ok (.ifCond .eq 16, 3) := by decide +kernel
theorem dX12_which_8 : decode cX12_which 8 = .ok (.aload_n 0, 1) := by decide +kernel
theorem dX12_which_9 : decode cX12_which 9 = .ok (.iload_n 2, 1) := by decide +kernel
theorem dX12_which_10 : decode cX12_which 10 = .ok (.invokevirtual 258, 3) := by decide +kernel
theorem dX12_which_13 : decode cX12_which 13 = .ok (.ifCond .eq 8, 3) := by decide +kernel
theorem dX12_which_16 : decode cX12_which 16 = .ok (.iload_n 1, 1) := by decide +kernel
theorem dX12_which_17 : decode cX12_which 17 = .ok (.iload_n 2, 1) := by decide +kernel
theorem dX12_which_18 : decode cX12_which 18 = .ok (.if_icmp .le 5, 3) := by decide +kernel
theorem dX12_which_21 : decode cX12_which 21 = .ok (.iconst (-1), 1) := by decide +kernel
theorem dX12_which_22 : decode cX12_which 22 = .ok (.ireturn, 1) := by decide +kernel
theorem dX12_which_23 : decode cX12_which 23 = .ok (.iconst (-1), 1) := by decide +kernel
theorem dX12_which_24 : decode cX12_which 24 = .ok (.istore_n 3, 1) := by decide +kernel
theorem dX12_which_25 : decode cX12_which 25 = .ok (.iconst 0, 1) := by decide +kernel
theorem dX12_which_26 : decode cX12_which 26 = .ok (.istore 4, 2) := by decide +kernel
theorem dX12_which_28 : decode cX12_which 28 = .ok (.iconst 0, 1) := by decide +kernel
theorem dX12_which_29 : decode cX12_which 29 = .ok (.istore 5, 2) := by decide +kernel
theorem dX12_which_31 : decode cX12_which 31 = .ok (.iload_n 1, 1) := by decide +kernel
theorem dX12_which_32 : decode cX12_which 32 = .ok (.istore 6, 2) := by decide +kernel
theorem dX12_which_34 : decode cX12_which 34 = .ok (.iload 6, 2) := by decide +kernel
theorem dX12_which_36 : decode cX12_which 36 = .ok (.iload_n 2, 1) := by decide +kernel
theorem dX12_which_37 : decode cX12_which 37 = .ok (.if_icmp .gt 77, 3) := by decide +kernel
theorem dX12_which_40 : decode cX12_which 40 = .ok (.aload_n 0, 1) := by decide +kernel
theorem dX12_which_41 : decode cX12_which 41 = .ok (.iload 6, 2) := by decide +kernel
theorem dX12_which_43 : decode cX12_which 43 = .ok (.invokevirtual 261, 3) := by decide +kernel
theorem dX12_which_46 : decode cX12_which 46 = .ok (.ifCond .ne 5, 3) := by decide +kernel
theorem dX12_which_49 : decode cX12_which 49 = .ok (.iconst (-1), 1) := by decide +kernel
theorem dX12_which_50 : decode cX12_which 50 = .ok (.ireturn, 1) := by decide +kernel
theorem dX12_which_51 : decode cX12_which 51 = .ok (.aload_n 0, 1) := by decide +kernel
theorem dX12_which_52 : decode cX12_which 52 = .ok (.iload 6, 2) := by decide +kernel
theorem dX12_which_54 : decode cX12_which 54 = .ok (.iconst 1, 1) := by decide +kernel
theorem dX12_which_55 : decode cX12_which 55 = .ok (.invokevirtual 308, 3) := by decide +kernel
theorem dX12_which_58 : decode cX12_which 58 = .ok (.istore 7, 2) := by decide +kernel
theorem dX12_which_60 : decode cX12_which 60 = .ok (.aload_n 0, 1) := by decide +kernel
theorem dX12_which_61 : decode cX12_which 61 = .ok (.iload 6, 2) := by decide +kernel
theorem dX12_which_63 : decode cX12_which 63 = .ok (.iconst 1, 1) := by decide +kernel
theorem dX12_which_64 : decode cX12_which 64 = .ok (.invokevirtual 311, 3) := by decide +kernel
theorem dX12_which_67 : decode cX12_which 67 = .ok (.istore 8, 2) := by decide +kernel
theorem dX12_which_69 : decode cX12_which 69 = .ok (.iload_n 3, 1) := by decide +kernel
theorem dX12_which_70 : decode cX12_which 70 = .ok (.ifCond .lt 27, 3) := by decide +kernel
theorem dX12_which_73 : decode cX12_which 73 = .ok (.iload 7, 2) := by decide +kernel
theorem dX12_which_75 : decode cX12_which 75 = .ok (.iload 4, 2) := by decide +kernel
theorem dX12_which_77 : decode cX12_which 77 = .ok (.if_icmp .lt 31, 3) := by decide +kernel
theorem dX12_which_80 : decode cX12_which 80 = .ok (.iload 7, 2) := by decide +kernel
theorem dX12_which_82 : decode cX12_which 82 = .ok (.iload 4, 2) := by decide +kernel
theorem dX12_which_84 : decode cX12_which 84 = .ok (.if_icmp .ne 13, 3) := by decide +kernel
theorem dX12_which_87 : decode cX12_which 87 = .ok (.iload 8, 2) := by decide +kernel
theorem dX12_which_89 : decode cX12_which 89 = .ok (.iload 5, 2) := by decide +kernel
theorem dX12_which_91 : decode cX12_which 91 = .ok (.if_icmp .lt 6, 3) := by decide +kernel
theorem dX12_which_94 : decode cX12_which 94 = .ok (.goto 14, 3) := by decide +kernel
theorem dX12_which_97 : decode cX12_which 97 = .ok (.iload 6, 2) := by decide +kernel
theorem dX12_which_99 : decode cX12_which 99 = .ok (.istore_n 3, 1) := by decide +kernel
theorem dX12_which_100 : decode cX12_which 100 = .ok (.iload 7, 2) := by decide +kernel
theorem dX12_which_102 : decode cX12_which 102 = .ok (.istore 4, 2) := by decide +kernel
theorem dX12_which_104 : decode cX12_which 104 = .ok (.iload 8, 2) := by decide +kernel
theorem dX12_which_106 : decode cX12_which 106 = .ok (.istore 5, 2) := by decide +kernel
theorem dX12_which_108 : decode cX12_which 108 = .ok (.iinc 6 1, 3) := by decide +kernel
theorem dX12_which_111 : decode cX12_which 111 = .ok (.goto (-77), 3) := by decide +kernel
theorem dX12_which_114 : decode cX12_which 114 = .ok (.iload_n 3, 1) := by decide +kernel
theorem dX12_which_115 : decode cX12_which 115 = .ok (.ireturn, 1) := by decide +kernel
theorem dX12_orders_0 : decode cX12_orders 0 = .ok (.iconst 1, 1) := by decide +kernel
theorem dX12_orders_1 : decode cX12_orders 1 = .ok (.istore_n 1, 1) := by decide +kernel
theorem dX12_orders_2 : decode cX12_orders 2 = .ok (.iconst 2, 1) := by decide +kernel
theorem dX12_orders_3 : decode cX12_orders 3 = .ok (.istore_n 2, 1) := by decide +kernel
theorem dX12_orders_4 : decode cX12_orders 4 = .ok (.iload_n 2, 1) := by decide +kernel
theorem dX12_orders_5 : decode cX12_orders 5 = .ok (.aload_n 0, 1) := by decide +kernel
theorem dX12_orders_6 : decode cX12_orders 6 = .ok (.getfield 7, 3) := by decide +kernel
theorem dX12_orders_9 : decode cX12_orders 9 = .ok (.iconst 1, 1) := by decide +kernel
theorem dX12_orders_10 : decode cX12_orders 10 = .ok (.iadd, 1) := by decide +kernel
theorem dX12_orders_11 : decode cX12_orders 11 = .ok (.if_icmp .gt 13, 3) := by decide +kernel
theorem dX12_orders_14 : decode cX12_orders 14 = .ok (.iload_n 1, 1) := by decide +kernel
theorem dX12_orders_15 : decode cX12_orders 15 = .ok (.iload_n 2, 1) := by decide +kernel
theorem dX12_orders_16 : decode cX12_orders 16 = .ok (.imul, 1) := by decide +kernel
theorem dX12_orders_17 : decode cX12_orders 17 = .ok (.istore_n 1, 1) := by decide +kernel
theorem dX12_orders_18 : decode cX12_orders 18 = .ok (.iinc 2 1, 3) := by decide +kernel
theorem dX12_orders_21 : decode cX12_orders 21 = .ok (.goto (-17), 3) := by decide +kernel
theorem dX12_orders_24 : decode cX12_orders 24 = .ok (.iload_n 1, 1) := by decide +kernel
theorem dX12_orders_25 : decode cX12_orders 25 = .ok (.ireturn, 1) := by decide +kernel
theorem dX12_unrank_0 : decode cX12_unrank 0 = .ok (.iload_n 1, 1) := by decide +kernel
theorem dX12_unrank_1 : decode cX12_unrank 1 = .ok (.istore_n 2, 1) := by decide +kernel
theorem dX12_unrank_2 : decode cX12_unrank 2 = .ok (.aload_n 0, 1) := by decide +kernel
theorem dX12_unrank_3 : decode cX12_unrank 3 = .ok (.getfield 7, 3) := by decide +kernel
theorem dX12_unrank_6 : decode cX12_unrank 6 = .ok (.iconst 1, 1) := by decide +kernel
theorem dX12_unrank_7 : decode cX12_unrank 7 = .ok (.iadd, 1) := by decide +kernel
theorem dX12_unrank_8 : decode cX12_unrank 8 = .ok (.istore_n 3, 1) := by decide +kernel
theorem dX12_unrank_9 : decode cX12_unrank 9 = .ok (.iload_n 3, 1) := by decide +kernel
theorem dX12_unrank_10 : decode cX12_unrank 10 = .ok (.iconst 1, 1) := by decide +kernel
theorem dX12_unrank_11 : decode cX12_unrank 11 = .ok (.isub, 1) := by decide +kernel
theorem dX12_unrank_12 : decode cX12_unrank 12 = .ok (.istore 4, 2) := by decide +kernel
theorem dX12_unrank_14 : decode cX12_unrank 14 = .ok (.iload 4, 2) := by decide +kernel
theorem dX12_unrank_16 : decode cX12_unrank 16 = .ok (.ifCond .lt 29, 3) := by decide +kernel
theorem dX12_unrank_19 : decode cX12_unrank 19 = .ok (.aload_n 0, 1) := by decide +kernel
theorem dX12_unrank_20 : decode cX12_unrank 20 = .ok (.getfield 139, 3) := by decide +kernel
theorem dX12_unrank_23 : decode cX12_unrank 23 = .ok (.iload 4, 2) := by decide +kernel
theorem dX12_unrank_25 : decode cX12_unrank 25 = .ok (.iload_n 2, 1) := by decide +kernel
theorem dX12_unrank_26 : decode cX12_unrank 26 = .ok (.iload_n 3, 1) := by decide +kernel
theorem dX12_unrank_27 : decode cX12_unrank 27 = .ok (.iload 4, 2) := by decide +kernel
theorem dX12_unrank_29 : decode cX12_unrank 29 = .ok (.isub, 1) := by decide +kernel
theorem dX12_unrank_30 : decode cX12_unrank 30 = .ok (.irem, 1) := by decide +kernel
theorem dX12_unrank_31 : decode cX12_unrank 31 = .ok (.iastore, 1) := by decide +kernel
theorem dX12_unrank_32 : decode cX12_unrank 32 = .ok (.iload_n 2, 1) := by decide +kernel
theorem dX12_unrank_33 : decode cX12_unrank 33 = .ok (.iload_n 3, 1) := by decide +kernel
theorem dX12_unrank_34 : decode cX12_unrank 34 = .ok (.iload 4, 2) := by decide +kernel
theorem dX12_unrank_36 : decode cX12_unrank 36 = .ok (.isub, 1) := by decide +kernel
theorem dX12_unrank_37 : decode cX12_unrank 37 = .ok (.idiv, 1) := by decide +kernel
theorem dX12_unrank_38 : decode cX12_unrank 38 = .ok (.istore_n 2, 1) := by decide +kernel
theorem dX12_unrank_39 : decode cX12_unrank 39 = .ok (.iinc 4 (-1), 3) := by decide +kernel
theorem dX12_unrank_42 : decode cX12_unrank 42 = .ok (.goto (-28), 3) := by decide +kernel
theorem dX12_unrank_45 : decode cX12_unrank 45 = .ok (.iconst 0, 1) := by decide +kernel
theorem dX12_unrank_46 : decode cX12_unrank 46 = .ok (.istore 4, 2) := by decide +kernel
theorem dX12_unrank_48 : decode cX12_unrank 48 = .ok (.iconst 0, 1) := by decide +kernel
theorem dX12_unrank_49 : decode cX12_unrank 49 = .ok (.istore 5, 2) := by decide +kernel
theorem dX12_unrank_51 : decode cX12_unrank 51 = .ok (.iload 5, 2) := by decide +kernel
theorem dX12_unrank_53 : decode cX12_unrank 53 = .ok (.iload_n 3, 1) := by decide +kernel
theorem dX12_unrank_54 : decode cX12_unrank 54 = .ok (.if_icmp .ge 96, 3) := by decide +kernel
theorem dX12_unrank_57 : decode cX12_unrank 57 = .ok (.aload_n 0, 1) := by decide +kernel
theorem dX12_unrank_58 : decode cX12_unrank 58 = .ok (.getfield 139, 3) := by decide +kernel
theorem dX12_unrank_61 : decode cX12_unrank 61 = .ok (.iload 5, 2) := by decide +kernel
theorem dX12_unrank_63 : decode cX12_unrank 63 = .ok (.iaload, 1) := by decide +kernel
theorem dX12_unrank_64 : decode cX12_unrank 64 = .ok (.istore 6, 2) := by decide +kernel
theorem dX12_unrank_66 : decode cX12_unrank 66 = .ok (.iconst 0, 1) := by decide +kernel
theorem dX12_unrank_67 : decode cX12_unrank 67 = .ok (.istore 7, 2) := by decide +kernel
theorem dX12_unrank_69 : decode cX12_unrank 69 = .ok (.aload_n 0, 1) := by decide +kernel
theorem dX12_unrank_70 : decode cX12_unrank 70 = .ok (.iload 4, 2) := by decide +kernel
theorem dX12_unrank_72 : decode cX12_unrank 72 = .ok (.iload 7, 2) := by decide +kernel
theorem dX12_unrank_74 : decode cX12_unrank 74 = .ok (.invokevirtual 192, 3) := by decide +kernel
theorem dX12_unrank_77 : decode cX12_unrank 77 = .ok (.ifCond .ne 8, 3) := by decide +kernel
theorem dX12_unrank_80 : decode cX12_unrank 80 = .ok (.iload 6, 2) := by decide +kernel
theorem dX12_unrank_82 : decode cX12_unrank 82 = .ok (.ifCond .le 30, 3) := by decide +kernel
theorem dX12_unrank_85 : decode cX12_unrank 85 = .ok (.iload 6, 2) := by decide +kernel
theorem dX12_unrank_87 : decode cX12_unrank 87 = .ok (.aload_n 0, 1) := by decide +kernel
theorem dX12_unrank_88 : decode cX12_unrank 88 = .ok (.iload 4, 2) := by decide +kernel
theorem dX12_unrank_90 : decode cX12_unrank 90 = .ok (.iload 7, 2) := by decide +kernel
theorem dX12_unrank_92 : decode cX12_unrank 92 = .ok (.invokevirtual 192, 3) := by decide +kernel
theorem dX12_unrank_95 : decode cX12_unrank 95 = .ok (.ifCond .eq 7, 3) := by decide +kernel
theorem dX12_unrank_98 : decode cX12_unrank 98 = .ok (.iconst 0, 1) := by decide +kernel
theorem dX12_unrank_99 : decode cX12_unrank 99 = .ok (.goto 4, 3) := by decide +kernel
theorem dX12_unrank_102 : decode cX12_unrank 102 = .ok (.iconst 1, 1) := by decide +kernel
theorem dX12_unrank_103 : decode cX12_unrank 103 = .ok (.isub, 1) := by decide +kernel
theorem dX12_unrank_104 : decode cX12_unrank 104 = .ok (.istore 6, 2) := by decide +kernel
theorem dX12_unrank_106 : decode cX12_unrank 106 = .ok (.iinc 7 1, 3) := by decide +kernel
theorem dX12_unrank_109 : decode cX12_unrank 109 = .ok (.goto (-40), 3) := by decide +kernel
theorem dX12_unrank_112 : decode cX12_unrank 112 = .ok (.iload 4, 2) := by decide +kernel
theorem dX12_unrank_114 : decode cX12_unrank 114 = .ok (.iconst 1, 1) := by decide +kernel
theorem dX12_unrank_115 : decode cX12_unrank 115 = .ok (.iload 7, 2) := by decide +kernel
theorem dX12_unrank_117 : decode cX12_unrank 117 = .ok (.ishl, 1) := by decide +kernel
theorem dX12_unrank_118 : decode cX12_unrank 118 = .ok (.ior, 1) := by decide +kernel
theorem dX12_unrank_119 : decode cX12_unrank 119 = .ok (.istore 4, 2) := by decide +kernel
theorem dX12_unrank_121 : decode cX12_unrank 121 = .ok (.aload_n 0, 1) := by decide +kernel
theorem dX12_unrank_122 : decode cX12_unrank 122 = .ok (.getfield 136, 3) := by decide +kernel
theorem dX12_unrank_125 : decode cX12_unrank 125 = .ok (.iload 7, 2) := by decide +kernel
theorem dX12_unrank_127 : decode cX12_unrank 127 = .ok (.aload_n 0, 1) := by decide +kernel
theorem dX12_unrank_128 : decode cX12_unrank 128 = .ok (.getfield 7, 3) := by decide +kernel
theorem dX12_unrank_131 : decode cX12_unrank 131 = .ok (.if_icmp .ne 8, 3) := by decide +kernel
theorem dX12_unrank_134 : decode cX12_unrank 134 = .ok (.bipush 7, 2) := by decide +kernel
theorem dX12_unrank_136 : decode cX12_unrank 136 = .ok (.goto 5, 3) := by decide +kernel
theorem dX12_unrank_139 : decode cX12_unrank 139 = .ok (.iload 7, 2) := by decide +kernel
theorem dX12_unrank_141 : decode cX12_unrank 141 = .ok (.iload 5, 2) := by decide +kernel
theorem dX12_unrank_143 : decode cX12_unrank 143 = .ok (.iastore, 1) := by decide +kernel
theorem dX12_unrank_144 : decode cX12_unrank 144 = .ok (.iinc 5 1, 3) := by decide +kernel
theorem dX12_unrank_147 : decode cX12_unrank 147 = .ok (.goto (-96), 3) := by decide +kernel
theorem dX12_unrank_150 : decode cX12_unrank 150 = .ok (.return_, 1) := by decide +kernel
theorem dX12_findPlaces_0 : decode cX12_findPlaces 0 = .ok (.aload_n 0, 1) := by decide +kernel
theorem dX12_findPlaces_1 : decode cX12_findPlaces 1 = .ok (.getfield 153, 3) := by decide +kernel
theorem dX12_findPlaces_4 : decode cX12_findPlaces 4 = .ok (.aload_n 0, 1) := by decide +kernel
theorem dX12_findPlaces_5 : decode cX12_findPlaces 5 = .ok (.getfield 7, 3) := by decide +kernel
theorem dX12_findPlaces_8 : decode cX12_findPlaces 8 = .ok (.if_icmp .ne 4, 3) := by decide +kernel
theorem dX12_findPlaces_11 : decode cX12_findPlaces 11 = .ok (.return_, 1) := by decide +kernel
theorem dX12_findPlaces_12 : decode cX12_findPlaces 12 = .ok (.aload_n 0, 1) := by decide +kernel
theorem dX12_findPlaces_13 : decode cX12_findPlaces 13 = .ok (.aload_n 0, 1) := by decide +kernel
theorem dX12_findPlaces_14 : decode cX12_findPlaces 14 = .ok (.getfield 7, 3) := by decide +kernel
theorem dX12_findPlaces_17 : decode cX12_findPlaces 17 = .ok (.putfield 153, 3) := by decide +kernel
theorem dX12_findPlaces_20 : decode cX12_findPlaces 20 = .ok (.iconst 0, 1) := by decide +kernel
theorem dX12_findPlaces_21 : decode cX12_findPlaces 21 = .ok (.istore_n 1, 1) := by decide +kernel
theorem dX12_findPlaces_22 : decode cX12_findPlaces 22 = .ok (.iload_n 1, 1) := by decide +kernel
theorem dX12_findPlaces_23 : decode cX12_findPlaces 23 = .ok (.aload_n 0, 1) := by decide +kernel
theorem dX12_findPlaces_24 : decode cX12_findPlaces 24 = .ok (.invokevirtual 314, 3) := by decide +kernel
theorem dX12_findPlaces_27 : decode cX12_findPlaces 27 = .ok (.if_icmp .ge 45, 3) := by decide +kernel
theorem dX12_findPlaces_30 : decode cX12_findPlaces 30 = .ok (.aload_n 0, 1) := by decide +kernel
theorem dX12_findPlaces_31 : decode cX12_findPlaces 31 = .ok (.iload_n 1, 1) := by decide +kernel
theorem dX12_findPlaces_32 : decode cX12_findPlaces 32 = .ok (.invokevirtual 317, 3) := by decide +kernel
theorem dX12_findPlaces_35 : decode cX12_findPlaces 35 = .ok (.iconst 0, 1) := by decide +kernel
theorem dX12_findPlaces_36 : decode cX12_findPlaces 36 = .ok (.istore_n 2, 1) := by decide +kernel
theorem dX12_findPlaces_37 : decode cX12_findPlaces 37 = .ok (.iload_n 2, 1) := by decide +kernel
theorem dX12_findPlaces_38 : decode cX12_findPlaces 38 = .ok (.bipush 8, 2) := by decide +kernel
theorem dX12_findPlaces_40 : decode cX12_findPlaces 40 = .ok (.if_icmp .ge 26, 3) := by decide +kernel
theorem dX12_findPlaces_43 : decode cX12_findPlaces 43 = .ok (.aload_n 0, 1) := by decide +kernel
theorem dX12_findPlaces_44 : decode cX12_findPlaces 44 = .ok (.getfield 143, 3) := by decide +kernel
theorem dX12_findPlaces_47 : decode cX12_findPlaces 47 = .ok (.bipush 8, 2) := by decide +kernel
theorem dX12_findPlaces_49 : decode cX12_findPlaces 49 = .ok (.iload_n 1, 1) := by decide +kernel
theorem dX12_findPlaces_50 : decode cX12_findPlaces 50 = .ok (.imul, 1) := by decide +kernel
theorem dX12_findPlaces_51 : decode cX12_findPlaces 51 = .ok (.iload_n 2, 1) := by decide +kernel
theorem dX12_findPlaces_52 : decode cX12_findPlaces 52 = .ok (.iadd, 1) := by decide +kernel
theorem dX12_findPlaces_53 : decode cX12_findPlaces 53 = .ok (.aload_n 0, 1) := by decide +kernel
theorem dX12_findPlaces_54 : decode cX12_findPlaces 54 = .ok (.getfield 136, 3) := by decide +kernel
theorem dX12_findPlaces_57 : decode cX12_findPlaces 57 = .ok (.iload_n 2, 1) := by decide +kernel
theorem dX12_findPlaces_58 : decode cX12_findPlaces 58 = .ok (.iaload, 1) := by decide +kernel
theorem dX12_findPlaces_59 : decode cX12_findPlaces 59 = .ok (.iastore, 1) := by decide +kernel
theorem dX12_findPlaces_60 : decode cX12_findPlaces 60 = .ok (.iinc 2 1, 3) := by decide +kernel
theorem dX12_findPlaces_63 : decode cX12_findPlaces 63 = .ok (.goto (-26), 3) := by decide +kernel
theorem dX12_findPlaces_66 : decode cX12_findPlaces 66 = .ok (.iinc 1 1, 3) := by decide +kernel
theorem dX12_findPlaces_69 : decode cX12_findPlaces 69 = .ok (.goto (-47), 3) := by decide +kernel
theorem dX12_findPlaces_72 : decode cX12_findPlaces 72 = .ok (.iconst 0, 1) := by decide +kernel
theorem dX12_findPlaces_73 : decode cX12_findPlaces 73 = .ok (.istore_n 1, 1) := by decide +kernel
theorem dX12_findPlaces_74 : decode cX12_findPlaces 74 = .ok (.iload_n 1, 1) := by decide +kernel
theorem dX12_findPlaces_75 : decode cX12_findPlaces 75 = .ok (.bipush 16, 2) := by decide +kernel
theorem dX12_findPlaces_77 : decode cX12_findPlaces 77 = .ok (.if_icmp .ge 16, 3) := by decide +kernel
theorem dX12_findPlaces_80 : decode cX12_findPlaces 80 = .ok (.aload_n 0, 1) := by decide +kernel
theorem dX12_findPlaces_81 : decode cX12_findPlaces 81 = .ok (.getfield 150, 3) := by decide +kernel
theorem dX12_findPlaces_84 : decode cX12_findPlaces 84 = .ok (.iload_n 1, 1) := by decide +kernel
theorem dX12_findPlaces_85 : decode cX12_findPlaces 85 = .ok (.iconst 0, 1) := by decide +kernel
theorem dX12_findPlaces_86 : decode cX12_findPlaces 86 = .ok (.bastore, 1) := by decide +kernel
theorem dX12_findPlaces_87 : decode cX12_findPlaces 87 = .ok (.iinc 1 1, 3) := by decide +kernel
theorem dX12_findPlaces_90 : decode cX12_findPlaces 90 = .ok (.goto (-16), 3) := by decide +kernel
theorem dX12_findPlaces_93 : decode cX12_findPlaces 93 = .ok (.return_, 1) := by decide +kernel
theorem dX12_takenFrom_0 : decode cX12_takenFrom 0 = .ok (.bipush 7, 2) := by decide +kernel
theorem dX12_takenFrom_2 : decode cX12_takenFrom 2 = .ok (.istore_n 3, 1) := by decide +kernel
theorem dX12_takenFrom_3 : decode cX12_takenFrom 3 = .ok (.iconst 0, 1) := by decide +kernel
theorem dX12_takenFrom_4 : decode cX12_takenFrom 4 = .ok (.istore 4, 2) := by decide +kernel
theorem dX12_takenFrom_6 : decode cX12_takenFrom 6 = .ok (.iload 4, 2) := by decide +kernel
theorem dX12_takenFrom_8 : decode cX12_takenFrom 8 = .ok (.aload_n 0, 1) := by decide +kernel
theorem dX12_takenFrom_9 : decode cX12_takenFrom 9 = .ok (.getfield 7, 3) := by decide +kernel
theorem dX12_takenFrom_12 : decode cX12_takenFrom 12 = .ok (.if_icmp .ge 48, 3) := by decide +kernel
theorem dX12_takenFrom_15 : decode cX12_takenFrom 15 = .ok (.aload_n 0, 1) := by decide +kernel
theorem dX12_takenFrom_16 : decode cX12_takenFrom 16 = .ok (.iload_n 2, 1) := by decide +kernel
theorem dX12_takenFrom_17 : decode cX12_takenFrom 17 = .ok (.iload 4, 2) := by decide +kernel
theorem dX12_takenFrom_19 : decode cX12_takenFrom 19 = .ok (.invokevirtual 192, 3) := by decide +kernel
theorem dX12_takenFrom_22 : decode cX12_takenFrom 22 = .ok (.ifCond .eq 32, 3) := by decide +kernel
theorem dX12_takenFrom_25 : decode cX12_takenFrom 25 = .ok (.aload_n 0, 1) := by decide +kernel
theorem dX12_takenFrom_26 : decode cX12_takenFrom 26 = .ok (.getfield 143, 3) := by decide +kernel
theorem dX12_takenFrom_29 : decode cX12_takenFrom 29 = .ok (.bipush 8, 2) := by decide +kernel
theorem dX12_takenFrom_31 : decode cX12_takenFrom 31 = .ok (.iload_n 1, 1) := by decide +kernel
theorem dX12_takenFrom_32 : decode cX12_takenFrom 32 = .ok (.imul, 1) := by decide +kernel
theorem dX12_takenFrom_33 : decode cX12_takenFrom 33 = .ok (.iload 4, 2) := by decide +kernel
theorem dX12_takenFrom_35 : decode cX12_takenFrom 35 = .ok (.iadd, 1) := by decide +kernel
theorem dX12_takenFrom_36 : decode cX12_takenFrom 36 = .ok (.iaload, 1) := by decide +kernel
theorem dX12_takenFrom_37 : decode cX12_takenFrom 37 = .ok (.aload_n 0, 1) := by decide +kernel
theorem dX12_takenFrom_38 : decode cX12_takenFrom 38 = .ok (.getfield 143, 3) := by decide +kernel
theorem dX12_takenFrom_41 : decode cX12_takenFrom 41 = .ok (.bipush 8, 2) := by decide +kernel
theorem dX12_takenFrom_43 : decode cX12_takenFrom 43 = .ok (.iload_n 1, 1) := by decide +kernel
theorem dX12_takenFrom_44 : decode cX12_takenFrom 44 = .ok (.imul, 1) := by decide +kernel
theorem dX12_takenFrom_45 : decode cX12_takenFrom 45 = .ok (.iload_n 3, 1) := by decide +kernel
theorem dX12_takenFrom_46 : decode cX12_takenFrom 46 = .ok (.iadd, 1) := by decide +kernel
theorem dX12_takenFrom_47 : decode cX12_takenFrom 47 = .ok (.iaload, 1) := by decide +kernel
theorem dX12_takenFrom_48 : decode cX12_takenFrom 48 = .ok (.if_icmp .ge 6, 3) := by decide +kernel
theorem dX12_takenFrom_51 : decode cX12_takenFrom 51 = .ok (.iload 4, 2) := by decide +kernel
theorem dX12_takenFrom_53 : decode cX12_takenFrom 53 = .ok (.istore_n 3, 1) := by decide +kernel
theorem dX12_takenFrom_54 : decode cX12_takenFrom 54 = .ok (.iinc 4 1, 3) := by decide +kernel
theorem dX12_takenFrom_57 : decode cX12_takenFrom 57 = .ok (.goto (-51), 3) := by decide +kernel
theorem dX12_takenFrom_60 : decode cX12_takenFrom 60 = .ok (.iload_n 3, 1) := by decide +kernel
theorem dX12_takenFrom_61 : decode cX12_takenFrom 61 = .ok (.ireturn, 1) := by decide +kernel
theorem dX12_against_0 : decode cX12_against 0 = .ok (.iconst 0, 1) := by decide +kernel
theorem dX12_against_1 : decode cX12_against 1 = .ok (.istore_n 3, 1) := by decide +kernel
theorem dX12_against_2 : decode cX12_against 2 = .ok (.iconst 0, 1) := by decide +kernel
theorem dX12_against_3 : decode cX12_against 3 = .ok (.istore 4, 2) := by decide +kernel
theorem dX12_against_5 : decode cX12_against 5 = .ok (.iload 4, 2) := by decide +kernel
theorem dX12_against_7 : decode cX12_against 7 = .ok (.aload_n 0, 1) := by decide +kernel
theorem dX12_against_8 : decode cX12_against 8 = .ok (.getfield 16, 3) := by decide +kernel
theorem dX12_against_11 : decode cX12_against 11 = .ok (.if_icmp .ge 70, 3) := by decide +kernel
theorem dX12_against_14 : decode cX12_against 14 = .ok (.aload_n 0, 1) := by decide +kernel
theorem dX12_against_15 : decode cX12_against 15 = .ok (.getfield 35, 3) := by decide +kernel
theorem dX12_against_18 : decode cX12_against 18 = .ok (.iload 4, 2) := by decide +kernel
theorem dX12_against_20 : decode cX12_against 20 = .ok (.iaload, 1) := by decide +kernel
theorem dX12_against_21 : decode cX12_against 21 = .ok (.iload_n 2, 1) := by decide +kernel
theorem dX12_against_22 : decode cX12_against 22 = .ok (.if_icmp .ne 53, 3) := by decide +kernel
theorem dX12_against_25 : decode cX12_against 25 = .ok (.aload_n 0, 1) := by decide +kernel
theorem dX12_against_26 : decode cX12_against 26 = .ok (.getfield 44, 3) := by decide +kernel
theorem dX12_against_29 : decode cX12_against 29 = .ok (.iload 4, 2) := by decide +kernel
theorem dX12_against_31 : decode cX12_against 31 = .ok (.iaload, 1) := by decide +kernel
theorem dX12_against_32 : decode cX12_against 32 = .ok (.ifCond .ne 43, 3) := by decide +kernel
theorem dX12_against_35 : decode cX12_against 35 = .ok (.aload_n 0, 1) := by decide +kernel
theorem dX12_against_36 : decode cX12_against 36 = .ok (.iload_n 1, 1) := by decide +kernel
theorem dX12_against_37 : decode cX12_against 37 = .ok (.aload_n 0, 1) := by decide +kernel
theorem dX12_against_38 : decode cX12_against 38 = .ok (.getfield 38, 3) := by decide +kernel
theorem dX12_against_41 : decode cX12_against 41 = .ok (.iload 4, 2) := by decide +kernel
theorem dX12_against_43 : decode cX12_against 43 = .ok (.iaload, 1) := by decide +kernel
theorem dX12_against_44 : decode cX12_against 44 = .ok (.invokevirtual 320, 3) := by decide +kernel
theorem dX12_against_47 : decode cX12_against 47 = .ok (.aload_n 0, 1) := by decide +kernel
theorem dX12_against_48 : decode cX12_against 48 = .ok (.getfield 41, 3) := by decide +kernel
theorem dX12_against_51 : decode cX12_against 51 = .ok (.iload 4, 2) := by decide +kernel
theorem dX12_against_53 : decode cX12_against 53 = .ok (.iaload, 1) := by decide +kernel
theorem dX12_against_54 : decode cX12_against 54 = .ok (.ifCond .ge 8, 3) := by decide +kernel
theorem dX12_against_57 : decode cX12_against 57 = .ok (.bipush 7, 2) := by decide +kernel
theorem dX12_against_59 : decode cX12_against 59 = .ok (.goto 10, 3) := by decide +kernel
theorem dX12_against_62 : decode cX12_against 62 = .ok (.aload_n 0, 1) := by decide +kernel
theorem dX12_against_63 : decode cX12_against 63 = .ok (.getfield 41, 3) := by decide +kernel
theorem dX12_against_66 : decode cX12_against 66 = .ok (.iload 4, 2) := by decide +kernel
theorem dX12_against_68 : decode cX12_against 68 = .ok (.iaload, 1) := by decide +kernel
theorem dX12_against_69 : decode cX12_against 69 = .ok (.if_icmp .eq 6, 3) := by decide +kernel
theorem dX12_against_72 : decode cX12_against 72 = .ok (.iinc 3 1, 3) := by decide +kernel
theorem dX12_against_75 : decode cX12_against 75 = .ok (.iinc 4 1, 3) := by decide +kernel
theorem dX12_against_78 : decode cX12_against 78 = .ok (.goto (-73), 3) := by decide +kernel
theorem dX12_against_81 : decode cX12_against 81 = .ok (.iload_n 3, 1) := by decide +kernel
theorem dX12_against_82 : decode cX12_against 82 = .ok (.ireturn, 1) := by decide +kernel
theorem dX12_findAgreeing_0 : decode cX12_findAgreeing 0 = .ok (.aload_n 0, 1) := by decide +kernel
theorem dX12_findAgreeing_1 : decode cX12_findAgreeing 1 = .ok (.invokevirtual 323, 3) := by decide +kernel
theorem dX12_findAgreeing_4 : decode cX12_findAgreeing 4 = .ok (.aload_n 0, 1) := by decide +kernel
theorem dX12_findAgreeing_5 : decode cX12_findAgreeing 5 = .ok (.getfield 150, 3) := by decide +kernel
theorem dX12_findAgreeing_8 : decode cX12_findAgreeing 8 = .ok (.iload_n 1, 1) := by decide +kernel
theorem dX12_findAgreeing_9 : decode cX12_findAgreeing 9 = .ok (.baload, 1) := by decide +kernel
theorem dX12_findAgreeing_10 : decode cX12_findAgreeing 10 = .ok (.ifCond .eq 4, 3) := by decide +kernel
theorem dX12_findAgreeing_13 : decode cX12_findAgreeing 13 = .ok (.return_, 1) := by decide +kernel
theorem dX12_findAgreeing_14 : decode cX12_findAgreeing 14 = .ok (.aload_n 0, 1) := by decide +kernel
theorem dX12_findAgreeing_15 : decode cX12_findAgreeing 15 = .ok (.getfield 150, 3) := by decide +kernel
theorem dX12_findAgreeing_18 : decode cX12_findAgreeing 18 = .ok (.iload_n 1, 1) := by decide +kernel
theorem dX12_findAgreeing_19 : decode cX12_findAgreeing 19 = .ok (.iconst 1, 1) := by decide +kernel
theorem dX12_findAgreeing_20 : decode cX12_findAgreeing 20 = .ok (.bastore, 1) := by decide +kernel
theorem dX12_findAgreeing_21 : decode cX12_findAgreeing 21 = .ok (.iconst 0, 1) := by decide +kernel
theorem dX12_findAgreeing_22 : decode cX12_findAgreeing 22 = .ok (.istore_n 2, 1) := by decide +kernel
theorem dX12_findAgreeing_23 : decode cX12_findAgreeing 23 = .ok (.iload_n 2, 1) := by decide +kernel
theorem dX12_findAgreeing_24 : decode cX12_findAgreeing 24 = .ok (.aload_n 0, 1) := by decide +kernel
theorem dX12_findAgreeing_25 : decode cX12_findAgreeing 25 = .ok (.invokevirtual 314, 3) := by decide +kernel
theorem dX12_findAgreeing_28 : decode cX12_findAgreeing 28 = .ok (.if_icmp .ge 35, 3) := by decide +kernel
theorem dX12_findAgreeing_31 : decode cX12_findAgreeing 31 = .ok (.aload_n 0, 1) := by decide +kernel
theorem dX12_findAgreeing_32 : decode cX12_findAgreeing 32 = .ok (.getfield 147, 3) := by decide +kernel
theorem dX12_findAgreeing_35 : decode cX12_findAgreeing 35 = .ok (.sipush 5040, 3) := by decide +kernel
theorem dX12_findAgreeing_38 : decode cX12_findAgreeing 38 = .ok (.iload_n 1, 1) := by decide +kernel
theorem dX12_findAgreeing_39 : decode cX12_findAgreeing 39 = .ok (.imul, 1) := by decide +kernel
theorem dX12_findAgreeing_40 : decode cX12_findAgreeing 40 = .ok (.iload_n 2, 1) := by decide +kernel
theorem dX12_findAgreeing_41 : decode cX12_findAgreeing 41 = .ok (.iadd, 1) := by decide +kernel
theorem dX12_findAgreeing_42 : decode cX12_findAgreeing 42 = .ok (.aload_n 0, 1) := by decide +kernel
theorem dX12_findAgreeing_43 : decode cX12_findAgreeing 43 = .ok (.iload_n 2, 1) := by decide +kernel
theorem dX12_findAgreeing_44 : decode cX12_findAgreeing 44 = .ok (.iload_n 1, 1) := by decide +kernel
theorem dX12_findAgreeing_45 : decode cX12_findAgreeing 45 = .ok (.invokevirtual 326, 3) := by decide +kernel
theorem dX12_findAgreeing_48 : decode cX12_findAgreeing 48 = .ok (.ifCond .ne 7, 3) := by decide +kernel
theorem dX12_findAgreeing_51 : decode cX12_findAgreeing 51 = .ok (.iconst 1, 1) := by decide +kernel
theorem dX12_findAgreeing_52 : decode cX12_findAgreeing 52 = .ok (.goto 4, 3) := by decide +kernel
theorem dX12_findAgreeing_55 : decode cX12_findAgreeing 55 = .ok (.iconst 0, 1) := by decide +kernel
theorem dX12_findAgreeing_56 : decode cX12_findAgreeing 56 = .ok (.bastore, 1) := by decide +kernel
theorem dX12_findAgreeing_57 : decode cX12_findAgreeing 57 = .ok (.iinc 2 1, 3) := by decide +kernel
theorem dX12_findAgreeing_60 : decode cX12_findAgreeing 60 = .ok (.goto (-37), 3) := by decide +kernel
theorem dX12_findAgreeing_63 : decode cX12_findAgreeing 63 = .ok (.return_, 1) := by decide +kernel
theorem dX12_agree_0 : decode cX12_agree 0 = .ok (.aload_n 0, 1) := by decide +kernel
theorem dX12_agree_1 : decode cX12_agree 1 = .ok (.iload_n 1, 1) := by decide +kernel
theorem dX12_agree_2 : decode cX12_agree 2 = .ok (.invokevirtual 186, 3) := by decide +kernel
theorem dX12_agree_5 : decode cX12_agree 5 = .ok (.ifCond .ne 5, 3) := by decide +kernel
theorem dX12_agree_8 : decode cX12_agree 8 = .ok (.iconst (-1), 1) := by decide +kernel
theorem dX12_agree_9 : decode cX12_agree 9 = .ok (.ireturn, 1) := by decide +kernel
theorem dX12_agree_10 : decode cX12_agree 10 = .ok (.aload_n 0, 1) := by decide +kernel
theorem dX12_agree_11 : decode cX12_agree 11 = .ok (.iload_n 1, 1) := by decide +kernel
theorem dX12_agree_12 : decode cX12_agree 12 = .ok (.invokevirtual 329, 3) := by decide +kernel
theorem dX12_agree_15 : decode cX12_agree 15 = .ok (.iconst 0, 1) := by decide +kernel
theorem dX12_agree_16 : decode cX12_agree 16 = .ok (.istore_n 2, 1) := by decide +kernel
theorem dX12_agree_17 : decode cX12_agree 17 = .ok (.iconst 0, 1) := by decide +kernel
theorem dX12_agree_18 : decode cX12_agree 18 = .ok (.istore_n 3, 1) := by decide +kernel
theorem dX12_agree_19 : decode cX12_agree 19 = .ok (.iload_n 3, 1) := by decide +kernel
theorem dX12_agree_20 : decode cX12_agree 20 = .ok (.aload_n 0, 1) := by decide +kernel
theorem dX12_agree_21 : decode cX12_agree 21 = .ok (.invokevirtual 314, 3) := by decide +kernel
theorem dX12_agree_24 : decode cX12_agree 24 = .ok (.if_icmp .ge 32, 3) := by decide +kernel
theorem dX12_agree_27 : decode cX12_agree 27 = .ok (.iload_n 2, 1) := by decide +kernel
theorem dX12_agree_28 : decode cX12_agree 28 = .ok (.aload_n 0, 1) := by decide +kernel
theorem dX12_agree_29 : decode cX12_agree 29 = .ok (.getfield 147, 3) := by decide +kernel
theorem dX12_agree_32 : decode cX12_agree 32 = .ok (.sipush 5040, 3) := by decide +kernel
theorem dX12_agree_35 : decode cX12_agree 35 = .ok (.iload_n 1, 1) := by decide +kernel
theorem dX12_agree_36 : decode cX12_agree 36 = .ok (.imul, 1) := by decide +kernel
theorem dX12_agree_37 : decode cX12_agree 37 = .ok (.iload_n 3, 1) := by decide +kernel
theorem dX12_agree_38 : decode cX12_agree 38 = .ok (.iadd, 1) := by decide +kernel
theorem dX12_agree_39 : decode cX12_agree 39 = .ok (.baload, 1) := by decide +kernel
theorem dX12_agree_40 : decode cX12_agree 40 = .ok (.ifCond .eq 7, 3) := by decide +kernel
theorem dX12_agree_43 : decode cX12_agree 43 = .ok (.iconst 1, 1) := by decide +kernel
theorem dX12_agree_44 : decode cX12_agree 44 = .ok (.goto 4, 3) := by decide +kernel
theorem dX12_agree_47 : decode cX12_agree 47 = .ok (.iconst 0, 1) := by decide +kernel
theorem dX12_agree_48 : decode cX12_agree 48 = .ok (.iadd, 1) := by decide +kernel
theorem dX12_agree_49 : decode cX12_agree 49 = .ok (.istore_n 2, 1) := by decide +kernel
theorem dX12_agree_50 : decode cX12_agree 50 = .ok (.iinc 3 1, 3) := by decide +kernel
theorem dX12_agree_53 : decode cX12_agree 53 = .ok (.goto (-34), 3) := by decide +kernel
theorem dX12_agree_56 : decode cX12_agree 56 = .ok (.iload_n 2, 1) := by decide +kernel
theorem dX12_agree_57 : decode cX12_agree 57 = .ok (.ireturn, 1) := by decide +kernel
theorem dX12_letgo_0 : decode cX12_letgo 0 = .ok (.aload_n 0, 1) := by decide +kernel
theorem dX12_letgo_1 : decode cX12_letgo 1 = .ok (.iload_n 1, 1) := by decide +kernel
theorem dX12_letgo_2 : decode cX12_letgo 2 = .ok (.invokevirtual 186, 3) := by decide +kernel
theorem dX12_letgo_5 : decode cX12_letgo 5 = .ok (.ifCond .ne 5, 3) := by decide +kernel
theorem dX12_letgo_8 : decode cX12_letgo 8 = .ok (.iconst (-1), 1) := by decide +kernel
theorem dX12_letgo_9 : decode cX12_letgo 9 = .ok (.ireturn, 1) := by decide +kernel
theorem dX12_letgo_10 : decode cX12_letgo 10 = .ok (.aload_n 0, 1) := by decide +kernel
theorem dX12_letgo_11 : decode cX12_letgo 11 = .ok (.invokevirtual 323, 3) := by decide +kernel
theorem dX12_letgo_14 : decode cX12_letgo 14 = .ok (.bipush 80, 2) := by decide +kernel
theorem dX12_letgo_16 : decode cX12_letgo 16 = .ok (.istore_n 2, 1) := by decide +kernel
theorem dX12_letgo_17 : decode cX12_letgo 17 = .ok (.iconst 0, 1) := by decide +kernel
theorem dX12_letgo_18 : decode cX12_letgo 18 = .ok (.istore_n 3, 1) := by decide +kernel
theorem dX12_letgo_19 : decode cX12_letgo 19 = .ok (.iload_n 3, 1) := by decide +kernel
theorem dX12_letgo_20 : decode cX12_letgo 20 = .ok (.aload_n 0, 1) := by decide +kernel
theorem dX12_letgo_21 : decode cX12_letgo 21 = .ok (.invokevirtual 314, 3) := by decide +kernel
theorem dX12_letgo_24 : decode cX12_letgo 24 = .ok (.if_icmp .ge 30, 3) := by decide +kernel
theorem dX12_letgo_27 : decode cX12_letgo 27 = .ok (.aload_n 0, 1) := by decide +kernel
theorem dX12_letgo_28 : decode cX12_letgo 28 = .ok (.iload_n 3, 1) := by decide +kernel
theorem dX12_letgo_29 : decode cX12_letgo 29 = .ok (.iload_n 1, 1) := by decide +kernel
theorem dX12_letgo_30 : decode cX12_letgo 30 = .ok (.invokevirtual 326, 3) := by decide +kernel
theorem dX12_letgo_33 : decode cX12_letgo 33 = .ok (.istore 4, 2) := by decide +kernel
theorem dX12_letgo_35 : decode cX12_letgo 35 = .ok (.iload 4, 2) := by decide +kernel
theorem dX12_letgo_37 : decode cX12_letgo 37 = .ok (.iload_n 2, 1) := by decide +kernel
theorem dX12_letgo_38 : decode cX12_letgo 38 = .ok (.if_icmp .ge 8, 3) := by decide +kernel
theorem dX12_letgo_41 : decode cX12_letgo 41 = .ok (.iload 4, 2) := by decide +kernel
theorem dX12_letgo_43 : decode cX12_letgo 43 = .ok (.goto 4, 3) := by decide +kernel
theorem dX12_letgo_46 : decode cX12_letgo 46 = .ok (.iload_n 2, 1) := by decide +kernel
theorem dX12_letgo_47 : decode cX12_letgo 47 = .ok (.istore_n 2, 1) := by decide +kernel
theorem dX12_letgo_48 : decode cX12_letgo 48 = .ok (.iinc 3 1, 3) := by decide +kernel
theorem dX12_letgo_51 : decode cX12_letgo 51 = .ok (.goto (-32), 3) := by decide +kernel
theorem dX12_letgo_54 : decode cX12_letgo 54 = .ok (.iload_n 2, 1) := by decide +kernel
theorem dX12_letgo_55 : decode cX12_letgo 55 = .ok (.ireturn, 1) := by decide +kernel
theorem dX12_like_0 : decode cX12_like 0 = .ok (.aload_n 0, 1) := by decide +kernel
theorem dX12_like_1 : decode cX12_like 1 = .ok (.iload_n 1, 1) := by decide +kernel
theorem dX12_like_2 : decode cX12_like 2 = .ok (.invokevirtual 186, 3) := by decide +kernel
theorem dX12_like_5 : decode cX12_like 5 = .ok (.ifCond .eq 11, 3) := by decide +kernel
theorem dX12_like_8 : decode cX12_like 8 = .ok (.aload_n 0, 1) := by decide +kernel
theorem dX12_like_9 : decode cX12_like 9 = .ok (.iload_n 2, 1) := by decide +kernel
theorem dX12_like_10 : decode cX12_like 10 = .ok (.invokevirtual 186, 3) := by decide +kernel
theorem dX12_like_13 : decode cX12_like 13 = .ok (.ifCond .ne 5, 3) := by decide +kernel
theorem dX12_like_16 : decode cX12_like 16 = .ok (.iconst (-1), 1) := by decide +kernel
theorem dX12_like_17 : decode cX12_like 17 = .ok (.ireturn, 1) := by decide +kernel
theorem dX12_like_18 : decode cX12_like 18 = .ok (.iload_n 1, 1) := by decide +kernel
theorem dX12_like_19 : decode cX12_like 19 = .ok (.iload_n 2, 1) := by decide +kernel
theorem dX12_like_20 : decode cX12_like 20 = .ok (.if_icmp .ne 6, 3) := by decide +kernel
theorem dX12_like_23 : decode cX12_like 23 = .ok (.bipush (-2), 2) := by decide +kernel
theorem dX12_like_25 : decode cX12_like 25 = .ok (.ireturn, 1) := by decide +kernel
theorem dX12_like_26 : decode cX12_like 26 = .ok (.aload_n 0, 1) := by decide +kernel
theorem dX12_like_27 : decode cX12_like 27 = .ok (.iload_n 1, 1) := by decide +kernel
theorem dX12_like_28 : decode cX12_like 28 = .ok (.invokevirtual 329, 3) := by decide +kernel
theorem dX12_like_31 : decode cX12_like 31 = .ok (.aload_n 0, 1) := by decide +kernel
theorem dX12_like_32 : decode cX12_like 32 = .ok (.iload_n 2, 1) := by decide +kernel
theorem dX12_like_33 : decode cX12_like 33 = .ok (.invokevirtual 329, 3) := by decide +kernel
theorem dX12_like_36 : decode cX12_like 36 = .ok (.iconst 0, 1) := by decide +kernel
theorem dX12_like_37 : decode cX12_like 37 = .ok (.istore_n 3, 1) := by decide +kernel
theorem dX12_like_38 : decode cX12_like 38 = .ok (.iload_n 3, 1) := by decide +kernel
theorem dX12_like_39 : decode cX12_like 39 = .ok (.aload_n 0, 1) := by decide +kernel
theorem dX12_like_40 : decode cX12_like 40 = .ok (.invokevirtual 314, 3) := by decide +kernel
theorem dX12_like_43 : decode cX12_like 43 = .ok (.if_icmp .ge 41, 3) := by decide +kernel
theorem dX12_like_46 : decode cX12_like 46 = .ok (.aload_n 0, 1) := by decide +kernel
theorem dX12_like_47 : decode cX12_like 47 = .ok (.getfield 147, 3) := by decide +kernel
theorem dX12_like_50 : decode cX12_like 50 = .ok (.sipush 5040, 3) := by decide +kernel
theorem dX12_like_53 : decode cX12_like 53 = .ok (.iload_n 1, 1) := by decide +kernel
theorem dX12_like_54 : decode cX12_like 54 = .ok (.imul, 1) := by decide +kernel
theorem dX12_like_55 : decode cX12_like 55 = .ok (.iload_n 3, 1) := by decide +kernel
theorem dX12_like_56 : decode cX12_like 56 = .ok (.iadd, 1) := by decide +kernel
theorem dX12_like_57 : decode cX12_like 57 = .ok (.baload, 1) := by decide +kernel
theorem dX12_like_58 : decode cX12_like 58 = .ok (.ifCond .eq 20, 3) := by decide +kernel
theorem dX12_like_61 : decode cX12_like 61 = .ok (.aload_n 0, 1) := by decide +kernel
theorem dX12_like_62 : decode cX12_like 62 = .ok (.getfield 147, 3) := by decide +kernel
theorem dX12_like_65 : decode cX12_like 65 = .ok (.sipush 5040, 3) := by decide +kernel
theorem dX12_like_68 : decode cX12_like 68 = .ok (.iload_n 2, 1) := by decide +kernel
theorem dX12_like_69 : decode cX12_like 69 = .ok (.imul, 1) := by decide +kernel
theorem dX12_like_70 : decode cX12_like 70 = .ok (.iload_n 3, 1) := by decide +kernel
theorem dX12_like_71 : decode cX12_like 71 = .ok (.iadd, 1) := by decide +kernel
theorem dX12_like_72 : decode cX12_like 72 = .ok (.baload, 1) := by decide +kernel
theorem dX12_like_73 : decode cX12_like 73 = .ok (.ifCond .eq 5, 3) := by decide +kernel
theorem dX12_like_76 : decode cX12_like 76 = .ok (.iconst 1, 1) := by decide +kernel
theorem dX12_like_77 : decode cX12_like 77 = .ok (.ireturn, 1) := by decide +kernel
theorem dX12_like_78 : decode cX12_like 78 = .ok (.iinc 3 1, 3) := by decide +kernel
theorem dX12_like_81 : decode cX12_like 81 = .ok (.goto (-43), 3) := by decide +kernel
theorem dX12_like_84 : decode cX12_like 84 = .ok (.iconst 0, 1) := by decide +kernel
theorem dX12_like_85 : decode cX12_like 85 = .ok (.ireturn, 1) := by decide +kernel
theorem dX12_wouldOf_0 : decode cX12_wouldOf 0 = .ok (.aload_n 0, 1) := by decide +kernel
theorem dX12_wouldOf_1 : decode cX12_wouldOf 1 = .ok (.iload_n 1, 1) := by decide +kernel
theorem dX12_wouldOf_2 : decode cX12_wouldOf 2 = .ok (.invokevirtual 329, 3) := by decide +kernel
theorem dX12_wouldOf_5 : decode cX12_wouldOf 5 = .ok (.iconst 0, 1) := by decide +kernel
theorem dX12_wouldOf_6 : decode cX12_wouldOf 6 = .ok (.istore_n 3, 1) := by decide +kernel
theorem dX12_wouldOf_7 : decode cX12_wouldOf 7 = .ok (.iconst 0, 1) := by decide +kernel
theorem dX12_wouldOf_8 : decode cX12_wouldOf 8 = .ok (.istore 4, 2) := by decide +kernel
theorem dX12_wouldOf_10 : decode cX12_wouldOf 10 = .ok (.iload 4, 2) := by decide +kernel
theorem dX12_wouldOf_12 : decode cX12_wouldOf 12 = .ok (.aload_n 0, 1) := by decide +kernel
theorem dX12_wouldOf_13 : decode cX12_wouldOf 13 = .ok (.invokevirtual 314, 3) := by decide +kernel
theorem dX12_wouldOf_16 : decode cX12_wouldOf 16 = .ok (.if_icmp .ge 37, 3) := by decide +kernel
theorem dX12_wouldOf_19 : decode cX12_wouldOf 19 = .ok (.aload_n 0, 1) := by decide +kernel
theorem dX12_wouldOf_20 : decode cX12_wouldOf 20 = .ok (.getfield 147, 3) := by decide +kernel
theorem dX12_wouldOf_23 : decode cX12_wouldOf 23 = .ok (.sipush 5040, 3) := by decide +kernel
theorem dX12_wouldOf_26 : decode cX12_wouldOf 26 = .ok (.iload_n 1, 1) := by decide +kernel
theorem dX12_wouldOf_27 : decode cX12_wouldOf 27 = .ok (.imul, 1) := by decide +kernel
theorem dX12_wouldOf_28 : decode cX12_wouldOf 28 = .ok (.iload 4, 2) := by decide +kernel
theorem dX12_wouldOf_30 : decode cX12_wouldOf 30 = .ok (.iadd, 1) := by decide +kernel
theorem dX12_wouldOf_31 : decode cX12_wouldOf 31 = .ok (.baload, 1) := by decide +kernel
theorem dX12_wouldOf_32 : decode cX12_wouldOf 32 = .ok (.ifCond .eq 15, 3) := by decide +kernel
theorem dX12_wouldOf_35 : decode cX12_wouldOf 35 = .ok (.iload_n 3, 1) := by decide +kernel
theorem dX12_wouldOf_36 : decode cX12_wouldOf 36 = .ok (.iconst 1, 1) := by decide +kernel
theorem dX12_wouldOf_37 : decode cX12_wouldOf 37 = .ok (.aload_n 0, 1) := by decide +kernel
theorem dX12_wouldOf_38 : decode cX12_wouldOf 38 = .ok (.iload 4, 2) := by decide +kernel
theorem dX12_wouldOf_40 : decode cX12_wouldOf 40 = .ok (.iload_n 2, 1) := by decide +kernel
theorem dX12_wouldOf_41 : decode cX12_wouldOf 41 = .ok (.invokevirtual 320, 3) := by decide +kernel
theorem dX12_wouldOf_44 : decode cX12_wouldOf 44 = .ok (.ishl, 1) := by decide +kernel
theorem dX12_wouldOf_45 : decode cX12_wouldOf 45 = .ok (.ior, 1) := by decide +kernel
theorem dX12_wouldOf_46 : decode cX12_wouldOf 46 = .ok (.istore_n 3, 1) := by decide +kernel
theorem dX12_wouldOf_47 : decode cX12_wouldOf 47 = .ok (.iinc 4 1, 3) := by decide +kernel
theorem dX12_wouldOf_50 : decode cX12_wouldOf 50 = .ok (.goto (-40), 3) := by decide +kernel
theorem dX12_wouldOf_53 : decode cX12_wouldOf 53 = .ok (.iload_n 3, 1) := by decide +kernel
theorem dX12_wouldOf_54 : decode cX12_wouldOf 54 = .ok (.ireturn, 1) := by decide +kernel
theorem dX12_would_0 : decode cX12_would 0 = .ok (.aload_n 0, 1) := by decide +kernel
theorem dX12_would_1 : decode cX12_would 1 = .ok (.iload_n 1, 1) := by decide +kernel
theorem dX12_would_2 : decode cX12_would 2 = .ok (.invokevirtual 186, 3) := by decide +kernel
theorem dX12_would_5 : decode cX12_would 5 = .ok (.ifCond .ne 7, 3) := by decide +kernel
theorem dX12_would_8 : decode cX12_would 8 = .ok (.iconst (-1), 1) := by decide +kernel
theorem dX12_would_9 : decode cX12_would 9 = .ok (.goto 26, 3) := by decide +kernel
theorem dX12_would_12 : decode cX12_would 12 = .ok (.aload_n 0, 1) := by decide +kernel
theorem dX12_would_13 : decode cX12_would 13 = .ok (.iload_n 2, 1) := by decide +kernel
theorem dX12_would_14 : decode cX12_would 14 = .ok (.invokevirtual 189, 3) := by decide +kernel
theorem dX12_would_17 : decode cX12_would 17 = .ok (.ifCond .eq 7, 3) := by decide +kernel
theorem dX12_would_20 : decode cX12_would 20 = .ok (.iload_n 2, 1) := by decide +kernel
theorem dX12_would_21 : decode cX12_would 21 = .ok (.ifCond .ne 8, 3) := by decide +kernel
theorem dX12_would_24 : decode cX12_would 24 = .ok (.bipush (-2), 2) := by decide +kernel
theorem dX12_would_26 : decode cX12_would 26 = .ok (.goto 9, 3) := by decide +kernel
theorem dX12_would_29 : decode cX12_would 29 = .ok (.aload_n 0, 1) := by decide +kernel
theorem dX12_would_30 : decode cX12_would 30 = .ok (.iload_n 1, 1) := by decide +kernel
theorem dX12_would_31 : decode cX12_would 31 = .ok (.iload_n 2, 1) := by decide +kernel
theorem dX12_would_32 : decode cX12_would 32 = .ok (.invokevirtual 332, 3) := by decide +kernel
theorem dX12_would_35 : decode cX12_would 35 = .ok (.ireturn, 1) := by decide +kernel
theorem dX12_must_0 : decode cX12_must 0 = .ok (.aload_n 0, 1) := by decide +kernel
theorem dX12_must_1 : decode cX12_must 1 = .ok (.iload_n 1, 1) := by decide +kernel
theorem dX12_must_2 : decode cX12_must 2 = .ok (.invokevirtual 182, 3) := by decide +kernel
theorem dX12_must_5 : decode cX12_must 5 = .ok (.ifCond .eq 13, 3) := by decide +kernel
theorem dX12_must_8 : decode cX12_must 8 = .ok (.aload_n 0, 1) := by decide +kernel
theorem dX12_must_9 : decode cX12_must 9 = .ok (.iload_n 3, 1) := by decide +kernel
theorem dX12_must_10 : decode cX12_must 10 = .ok (.iconst 0, 1) := by decide +kernel
theorem dX12_must_11 : decode cX12_must 11 = .ok (.iconst 1, 1) := by decide +kernel
theorem dX12_must_12 : decode cX12_must 12 = .ok (.invokevirtual 178, 3) := by decide +kernel
theorem dX12_must_15 : decode cX12_must 15 = .ok (.ifCond .ne 5, 3) := by decide +kernel
theorem dX12_must_18 : decode cX12_must 18 = .ok (.iconst (-1), 1) := by decide +kernel
theorem dX12_must_19 : decode cX12_must 19 = .ok (.ireturn, 1) := by decide +kernel
theorem dX12_must_20 : decode cX12_must 20 = .ok (.aload_n 0, 1) := by decide +kernel
theorem dX12_must_21 : decode cX12_must 21 = .ok (.iload_n 2, 1) := by decide +kernel
theorem dX12_must_22 : decode cX12_must 22 = .ok (.invokevirtual 189, 3) := by decide +kernel
theorem dX12_must_25 : decode cX12_must 25 = .ok (.ifCond .eq 12, 3) := by decide +kernel
theorem dX12_must_28 : decode cX12_must 28 = .ok (.aload_n 0, 1) := by decide +kernel
theorem dX12_must_29 : decode cX12_must 29 = .ok (.iload_n 2, 1) := by decide +kernel
theorem dX12_must_30 : decode cX12_must 30 = .ok (.iload_n 1, 1) := by decide +kernel
theorem dX12_must_31 : decode cX12_must 31 = .ok (.invokevirtual 192, 3) := by decide +kernel
theorem dX12_must_34 : decode cX12_must 34 = .ok (.ifCond .ne 6, 3) := by decide +kernel
theorem dX12_must_37 : decode cX12_must 37 = .ok (.bipush (-2), 2) := by decide +kernel
theorem dX12_must_39 : decode cX12_must 39 = .ok (.ireturn, 1) := by decide +kernel
theorem dX12_must_40 : decode cX12_must 40 = .ok (.iconst 0, 1) := by decide +kernel
theorem dX12_must_41 : decode cX12_must 41 = .ok (.istore 4, 2) := by decide +kernel
theorem dX12_must_43 : decode cX12_must 43 = .ok (.iconst 0, 1) := by decide +kernel
theorem dX12_must_44 : decode cX12_must 44 = .ok (.istore 5, 2) := by decide +kernel
theorem dX12_must_46 : decode cX12_must 46 = .ok (.iload 5, 2) := by decide +kernel
theorem dX12_must_48 : decode cX12_must 48 = .ok (.aload_n 0, 1) := by decide +kernel
theorem dX12_must_49 : decode cX12_must 49 = .ok (.getfield 13, 3) := by decide +kernel
theorem dX12_must_52 : decode cX12_must 52 = .ok (.if_icmp .ge 49, 3) := by decide +kernel
theorem dX12_must_55 : decode cX12_must 55 = .ok (.aload_n 0, 1) := by decide +kernel
theorem dX12_must_56 : decode cX12_must 56 = .ok (.iload 5, 2) := by decide +kernel
theorem dX12_must_58 : decode cX12_must 58 = .ok (.iload_n 2, 1) := by decide +kernel
theorem dX12_must_59 : decode cX12_must 59 = .ok (.invokevirtual 332, 3) := by decide +kernel
theorem dX12_must_62 : decode cX12_must 62 = .ok (.istore 6, 2) := by decide +kernel
theorem dX12_must_64 : decode cX12_must 64 = .ok (.iload 4, 2) := by decide +kernel
theorem dX12_must_66 : decode cX12_must 66 = .ok (.iload_n 3, 1) := by decide +kernel
theorem dX12_must_67 : decode cX12_must 67 = .ok (.ifCond .ne 19, 3) := by decide +kernel
theorem dX12_must_70 : decode cX12_must 70 = .ok (.iload 6, 2) := by decide +kernel
theorem dX12_must_72 : decode cX12_must 72 = .ok (.iconst 1, 1) := by decide +kernel
theorem dX12_must_73 : decode cX12_must 73 = .ok (.iload_n 1, 1) := by decide +kernel
theorem dX12_must_74 : decode cX12_must 74 = .ok (.ishl, 1) := by decide +kernel
theorem dX12_must_75 : decode cX12_must 75 = .ok (.if_icmp .ne 7, 3) := by decide +kernel
theorem dX12_must_78 : decode cX12_must 78 = .ok (.iconst 1, 1) := by decide +kernel
theorem dX12_must_79 : decode cX12_must 79 = .ok (.goto 13, 3) := by decide +kernel
theorem dX12_must_82 : decode cX12_must 82 = .ok (.iconst 0, 1) := by decide +kernel
theorem dX12_must_83 : decode cX12_must 83 = .ok (.goto 9, 3) := by decide +kernel
theorem dX12_must_86 : decode cX12_must 86 = .ok (.iload 6, 2) := by decide +kernel
theorem dX12_must_88 : decode cX12_must 88 = .ok (.iload_n 1, 1) := by decide +kernel
theorem dX12_must_89 : decode cX12_must 89 = .ok (.ishr, 1) := by decide +kernel
theorem dX12_must_90 : decode cX12_must 90 = .ok (.iconst 1, 1) := by decide +kernel
theorem dX12_must_91 : decode cX12_must 91 = .ok (.iand, 1) := by decide +kernel
theorem dX12_must_92 : decode cX12_must 92 = .ok (.iadd, 1) := by decide +kernel
theorem dX12_must_93 : decode cX12_must 93 = .ok (.istore 4, 2) := by decide +kernel
theorem dX12_must_95 : decode cX12_must 95 = .ok (.iinc 5 1, 3) := by decide +kernel
theorem dX12_must_98 : decode cX12_must 98 = .ok (.goto (-52), 3) := by decide +kernel
theorem dX12_must_101 : decode cX12_must 101 = .ok (.iload 4, 2) := by decide +kernel
theorem dX12_must_103 : decode cX12_must 103 = .ok (.ireturn, 1) := by decide +kernel
theorem dX12_ask_0 : decode cX12_ask 0 = .ok (.aload_n 0, 1) := by decide +kernel
theorem dX12_ask_1 : decode cX12_ask 1 = .ok (.iload_n 1, 1) := by decide +kernel
theorem dX12_ask_2 : decode cX12_ask 2 = .ok (.invokevirtual 189, 3) := by decide +kernel
theorem dX12_ask_5 : decode cX12_ask 5 = .ok (.ifCond .eq 7, 3) := by decide +kernel
theorem dX12_ask_8 : decode cX12_ask 8 = .ok (.iload_n 1, 1) := by decide +kernel
theorem dX12_ask_9 : decode cX12_ask 9 = .ok (.ifCond .ne 6, 3) := by decide +kernel
theorem dX12_ask_12 : decode cX12_ask 12 = .ok (.bipush (-2), 2) := by decide +kernel
theorem dX12_ask_14 : decode cX12_ask 14 = .ok (.ireturn, 1) := by decide +kernel
theorem dX12_ask_15 : decode cX12_ask 15 = .ok (.aload_n 0, 1) := by decide +kernel
theorem dX12_ask_16 : decode cX12_ask 16 = .ok (.getfield 19, 3) := by decide +kernel
theorem dX12_ask_19 : decode cX12_ask 19 = .ok (.bipush 10, 2) := by decide +kernel
theorem dX12_ask_21 : decode cX12_ask 21 = .ok (.if_icmp .ne 6, 3) := by decide +kernel
theorem dX12_ask_24 : decode cX12_ask 24 = .ok (.bipush (-4), 2) := by decide +kernel
theorem dX12_ask_26 : decode cX12_ask 26 = .ok (.ireturn, 1) := by decide +kernel
theorem dX12_ask_27 : decode cX12_ask 27 = .ok (.aload_n 0, 1) := by decide +kernel
theorem dX12_ask_28 : decode cX12_ask 28 = .ok (.getfield 47, 3) := by decide +kernel
theorem dX12_ask_31 : decode cX12_ask 31 = .ok (.aload_n 0, 1) := by decide +kernel
theorem dX12_ask_32 : decode cX12_ask 32 = .ok (.getfield 19, 3) := by decide +kernel
theorem dX12_ask_35 : decode cX12_ask 35 = .ok (.iload_n 1, 1) := by decide +kernel
theorem dX12_ask_36 : decode cX12_ask 36 = .ok (.iastore, 1) := by decide +kernel
theorem dX12_ask_37 : decode cX12_ask 37 = .ok (.aload_n 0, 1) := by decide +kernel
theorem dX12_ask_38 : decode cX12_ask 38 = .ok (.dup, 1) := by decide +kernel
theorem dX12_ask_39 : decode cX12_ask 39 = .ok (.getfield 19, 3) := by decide +kernel
theorem dX12_ask_42 : decode cX12_ask 42 = .ok (.iconst 1, 1) := by decide +kernel
theorem dX12_ask_43 : decode cX12_ask 43 = .ok (.iadd, 1) := by decide +kernel
theorem dX12_ask_44 : decode cX12_ask 44 = .ok (.putfield 19, 3) := by decide +kernel
theorem dX12_ask_47 : decode cX12_ask 47 = .ok (.aload_n 0, 1) := by decide +kernel
theorem dX12_ask_48 : decode cX12_ask 48 = .ok (.getfield 19, 3) := by decide +kernel
theorem dX12_ask_51 : decode cX12_ask 51 = .ok (.iconst 1, 1) := by decide +kernel
theorem dX12_ask_52 : decode cX12_ask 52 = .ok (.isub, 1) := by decide +kernel
theorem dX12_ask_53 : decode cX12_ask 53 = .ok (.ireturn, 1) := by decide +kernel
theorem dX12_next_0 : decode cX12_next 0 = .ok (.aload_n 0, 1) := by decide +kernel
theorem dX12_next_1 : decode cX12_next 1 = .ok (.iload_n 1, 1) := by decide +kernel
theorem dX12_next_2 : decode cX12_next 2 = .ok (.invokevirtual 186, 3) := by decide +kernel
theorem dX12_next_5 : decode cX12_next 5 = .ok (.ifCond .ne 5, 3) := by decide +kernel
theorem dX12_next_8 : decode cX12_next 8 = .ok (.iconst (-1), 1) := by decide +kernel
theorem dX12_next_9 : decode cX12_next 9 = .ok (.ireturn, 1) := by decide +kernel
theorem dX12_next_10 : decode cX12_next 10 = .ok (.iconst 0, 1) := by decide +kernel
theorem dX12_next_11 : decode cX12_next 11 = .ok (.istore_n 2, 1) := by decide +kernel
theorem dX12_next_12 : decode cX12_next 12 = .ok (.iload_n 2, 1) := by decide +kernel
theorem dX12_next_13 : decode cX12_next 13 = .ok (.bipush 80, 2) := by decide +kernel
theorem dX12_next_15 : decode cX12_next 15 = .ok (.if_icmp .ge 16, 3) := by decide +kernel
theorem dX12_next_18 : decode cX12_next 18 = .ok (.aload_n 0, 1) := by decide +kernel
theorem dX12_next_19 : decode cX12_next 19 = .ok (.getfield 156, 3) := by decide +kernel
theorem dX12_next_22 : decode cX12_next 22 = .ok (.iload_n 2, 1) := by decide +kernel
theorem dX12_next_23 : decode cX12_next 23 = .ok (.iconst 0, 1) := by decide +kernel
theorem dX12_next_24 : decode cX12_next 24 = .ok (.iastore, 1) := by decide +kernel
theorem dX12_next_25 : decode cX12_next 25 = .ok (.iinc 2 1, 3) := by decide +kernel
theorem dX12_next_28 : decode cX12_next 28 = .ok (.goto (-16), 3) := by decide +kernel
theorem dX12_next_31 : decode cX12_next 31 = .ok (.iconst 0, 1) := by decide +kernel
theorem dX12_next_32 : decode cX12_next 32 = .ok (.istore_n 2, 1) := by decide +kernel
theorem dX12_next_33 : decode cX12_next 33 = .ok (.aload_n 0, 1) := by decide +kernel
theorem dX12_next_34 : decode cX12_next 34 = .ok (.iload_n 1, 1) := by decide +kernel
theorem dX12_next_35 : decode cX12_next 35 = .ok (.invokevirtual 329, 3) := by decide +kernel
theorem dX12_next_38 : decode cX12_next 38 = .ok (.iconst 0, 1) := by decide +kernel
theorem dX12_next_39 : decode cX12_next 39 = .ok (.istore_n 3, 1) := by decide +kernel
theorem dX12_next_40 : decode cX12_next 40 = .ok (.iload_n 3, 1) := by decide +kernel
theorem dX12_next_41 : decode cX12_next 41 = .ok (.aload_n 0, 1) := by decide +kernel
theorem dX12_next_42 : decode cX12_next 42 = .ok (.invokevirtual 314, 3) := by decide +kernel
theorem dX12_next_45 : decode cX12_next 45 = .ok (.if_icmp .ge 75, 3) := by decide +kernel
theorem dX12_next_48 : decode cX12_next 48 = .ok (.aload_n 0, 1) := by decide +kernel
theorem dX12_next_49 : decode cX12_next 49 = .ok (.getfield 147, 3) := by decide +kernel
theorem dX12_next_52 : decode cX12_next 52 = .ok (.sipush 5040, 3) := by decide +kernel
theorem dX12_next_55 : decode cX12_next 55 = .ok (.iload_n 1, 1) := by decide +kernel
theorem dX12_next_56 : decode cX12_next 56 = .ok (.imul, 1) := by decide +kernel
theorem dX12_next_57 : decode cX12_next 57 = .ok (.iload_n 3, 1) := by decide +kernel
theorem dX12_next_58 : decode cX12_next 58 = .ok (.iadd, 1) := by decide +kernel
theorem dX12_next_59 : decode cX12_next 59 = .ok (.baload, 1) := by decide +kernel
theorem dX12_next_60 : decode cX12_next 60 = .ok (.ifCond .ne 6, 3) := by decide +kernel
theorem dX12_next_63 : decode cX12_next 63 = .ok (.goto 51, 3) := by decide +kernel
theorem dX12_next_66 : decode cX12_next 66 = .ok (.iinc 2 1, 3) := by decide +kernel
theorem dX12_next_69 : decode cX12_next 69 = .ok (.iconst 0, 1) := by decide +kernel
theorem dX12_next_70 : decode cX12_next 70 = .ok (.istore 4, 2) := by decide +kernel
theorem dX12_next_72 : decode cX12_next 72 = .ok (.iload 4, 2) := by decide +kernel
theorem dX12_next_74 : decode cX12_next 74 = .ok (.aload_n 0, 1) := by decide +kernel
theorem dX12_next_75 : decode cX12_next 75 = .ok (.getfield 19, 3) := by decide +kernel
theorem dX12_next_78 : decode cX12_next 78 = .ok (.if_icmp .ge 36, 3) := by decide +kernel
theorem dX12_next_81 : decode cX12_next 81 = .ok (.aload_n 0, 1) := by decide +kernel
theorem dX12_next_82 : decode cX12_next 82 = .ok (.getfield 156, 3) := by decide +kernel
theorem dX12_next_85 : decode cX12_next 85 = .ok (.bipush 8, 2) := by decide +kernel
theorem dX12_next_87 : decode cX12_next 87 = .ok (.iload 4, 2) := by decide +kernel
theorem dX12_next_89 : decode cX12_next 89 = .ok (.imul, 1) := by decide +kernel
theorem dX12_next_90 : decode cX12_next 90 = .ok (.aload_n 0, 1) := by decide +kernel
theorem dX12_next_91 : decode cX12_next 91 = .ok (.iload_n 3, 1) := by decide +kernel
theorem dX12_next_92 : decode cX12_next 92 = .ok (.aload_n 0, 1) := by decide +kernel
theorem dX12_next_93 : decode cX12_next 93 = .ok (.getfield 47, 3) := by decide +kernel
theorem dX12_next_96 : decode cX12_next 96 = .ok (.iload 4, 2) := by decide +kernel
theorem dX12_next_98 : decode cX12_next 98 = .ok (.iaload, 1) := by decide +kernel
theorem dX12_next_99 : decode cX12_next 99 = .ok (.invokevirtual 320, 3) := by decide +kernel
theorem dX12_next_102 : decode cX12_next 102 = .ok (.iadd, 1) := by decide +kernel
theorem dX12_next_103 : decode cX12_next 103 = .ok (.dup2, 1) := by decide +kernel
theorem dX12_next_104 : decode cX12_next 104 = .ok (.iaload, 1) := by decide +kernel
theorem dX12_next_105 : decode cX12_next 105 = .ok (.iconst 1, 1) := by decide +kernel
theorem dX12_next_106 : decode cX12_next 106 = .ok (.iadd, 1) := by decide +kernel
theorem dX12_next_107 : decode cX12_next 107 = .ok (.iastore, 1) := by decide +kernel
theorem dX12_next_108 : decode cX12_next 108 = .ok (.iinc 4 1, 3) := by decide +kernel
theorem dX12_next_111 : decode cX12_next 111 = .ok (.goto (-39), 3) := by decide +kernel
theorem dX12_next_114 : decode cX12_next 114 = .ok (.iinc 3 1, 3) := by decide +kernel
theorem dX12_next_117 : decode cX12_next 117 = .ok (.goto (-77), 3) := by decide +kernel
theorem dX12_next_120 : decode cX12_next 120 = .ok (.bipush (-5), 2) := by decide +kernel
theorem dX12_next_122 : decode cX12_next 122 = .ok (.istore_n 3, 1) := by decide +kernel
theorem dX12_next_123 : decode cX12_next 123 = .ok (.iconst 0, 1) := by decide +kernel
theorem dX12_next_124 : decode cX12_next 124 = .ok (.istore 4, 2) := by decide +kernel
theorem dX12_next_126 : decode cX12_next 126 = .ok (.iconst 0, 1) := by decide +kernel
theorem dX12_next_127 : decode cX12_next 127 = .ok (.istore 5, 2) := by decide +kernel
theorem dX12_next_129 : decode cX12_next 129 = .ok (.iload 5, 2) := by decide +kernel
theorem dX12_next_131 : decode cX12_next 131 = .ok (.aload_n 0, 1) := by decide +kernel
theorem dX12_next_132 : decode cX12_next 132 = .ok (.getfield 19, 3) := by decide +kernel
theorem dX12_next_135 : decode cX12_next 135 = .ok (.if_icmp .ge 93, 3) := by decide +kernel
theorem dX12_next_138 : decode cX12_next 138 = .ok (.iload_n 2, 1) := by decide +kernel
theorem dX12_next_139 : decode cX12_next 139 = .ok (.ifCond .le 89, 3) := by decide +kernel
theorem dX12_next_142 : decode cX12_next 142 = .ok (.iconst 0, 1) := by decide +kernel
theorem dX12_next_143 : decode cX12_next 143 = .ok (.istore 6, 2) := by decide +kernel
theorem dX12_next_145 : decode cX12_next 145 = .ok (.iconst 0, 1) := by decide +kernel
theorem dX12_next_146 : decode cX12_next 146 = .ok (.istore 7, 2) := by decide +kernel
theorem dX12_next_148 : decode cX12_next 148 = .ok (.iload 7, 2) := by decide +kernel
theorem dX12_next_150 : decode cX12_next 150 = .ok (.bipush 8, 2) := by decide +kernel
theorem dX12_next_152 : decode cX12_next 152 = .ok (.if_icmp .ge 47, 3) := by decide +kernel
theorem dX12_next_155 : decode cX12_next 155 = .ok (.aload_n 0, 1) := by decide +kernel
theorem dX12_next_156 : decode cX12_next 156 = .ok (.getfield 156, 3) := by decide +kernel
theorem dX12_next_159 : decode cX12_next 159 = .ok (.bipush 8, 2) := by decide +kernel
theorem dX12_next_161 : decode cX12_next 161 = .ok (.iload 5, 2) := by decide +kernel
theorem dX12_next_163 : decode cX12_next 163 = .ok (.imul, 1) := by decide +kernel
theorem dX12_next_164 : decode cX12_next 164 = .ok (.iload 7, 2) := by decide +kernel
theorem dX12_next_166 : decode cX12_next 166 = .ok (.iadd, 1) := by decide +kernel
theorem dX12_next_167 : decode cX12_next 167 = .ok (.iaload, 1) := by decide +kernel
theorem dX12_next_168 : decode cX12_next 168 = .ok (.iload 6, 2) := by decide +kernel
theorem dX12_next_170 : decode cX12_next 170 = .ok (.if_icmp .le 19, 3) := by decide +kernel
theorem dX12_next_173 : decode cX12_next 173 = .ok (.aload_n 0, 1) := by decide +kernel
theorem dX12_next_174 : decode cX12_next 174 = .ok (.getfield 156, 3) := by decide +kernel
theorem dX12_next_177 : decode cX12_next 177 = .ok (.bipush 8, 2) := by decide +kernel
theorem dX12_next_179 : decode cX12_next 179 = .ok (.iload 5, 2) := by decide +kernel
theorem dX12_next_181 : decode cX12_next 181 = .ok (.imul, 1) := by decide +kernel
theorem dX12_next_182 : decode cX12_next 182 = .ok (.iload 7, 2) := by decide +kernel
theorem dX12_next_184 : decode cX12_next 184 = .ok (.iadd, 1) := by decide +kernel
theorem dX12_next_185 : decode cX12_next 185 = .ok (.iaload, 1) := by decide +kernel
theorem dX12_next_186 : decode cX12_next 186 = .ok (.goto 5, 3) := by decide +kernel
theorem dX12_next_189 : decode cX12_next 189 = .ok (.iload 6, 2) := by decide +kernel
theorem dX12_next_191 : decode cX12_next 191 = .ok (.istore 6, 2) := by decide +kernel
theorem dX12_next_193 : decode cX12_next 193 = .ok (.iinc 7 1, 3) := by decide +kernel
theorem dX12_next_196 : decode cX12_next 196 = .ok (.goto (-48), 3) := by decide +kernel
theorem dX12_next_199 : decode cX12_next 199 = .ok (.iload_n 3, 1) := by decide +kernel
theorem dX12_next_200 : decode cX12_next 200 = .ok (.bipush (-5), 2) := by decide +kernel
theorem dX12_next_202 : decode cX12_next 202 = .ok (.if_icmp .eq 13, 3) := by decide +kernel
theorem dX12_next_205 : decode cX12_next 205 = .ok (.iload 6, 2) := by decide +kernel
theorem dX12_next_207 : decode cX12_next 207 = .ok (.iload 4, 2) := by decide +kernel
theorem dX12_next_209 : decode cX12_next 209 = .ok (.if_icmp .lt 6, 3) := by decide +kernel
theorem dX12_next_212 : decode cX12_next 212 = .ok (.goto 10, 3) := by decide +kernel
theorem dX12_next_215 : decode cX12_next 215 = .ok (.iload 5, 2) := by decide +kernel
theorem dX12_next_217 : decode cX12_next 217 = .ok (.istore_n 3, 1) := by decide +kernel
theorem dX12_next_218 : decode cX12_next 218 = .ok (.iload 6, 2) := by decide +kernel
theorem dX12_next_220 : decode cX12_next 220 = .ok (.istore 4, 2) := by decide +kernel
theorem dX12_next_222 : decode cX12_next 222 = .ok (.iinc 5 1, 3) := by decide +kernel
theorem dX12_next_225 : decode cX12_next 225 = .ok (.goto (-96), 3) := by decide +kernel
theorem dX12_next_228 : decode cX12_next 228 = .ok (.iload_n 3, 1) := by decide +kernel
theorem dX12_next_229 : decode cX12_next 229 = .ok (.ireturn, 1) := by decide +kernel
theorem dX12_silly_0 : decode cX12_silly 0 = .ok (.aload_n 0, 1) := by decide +kernel
theorem dX12_silly_1 : decode cX12_silly 1 = .ok (.iload_n 1, 1) := by decide +kernel
theorem dX12_silly_2 : decode cX12_silly 2 = .ok (.invokevirtual 189, 3) := by decide +kernel
theorem dX12_silly_5 : decode cX12_silly 5 = .ok (.ifCond .ne 6, 3) := by decide +kernel
theorem dX12_silly_8 : decode cX12_silly 8 = .ok (.bipush (-2), 2) := by decide +kernel
theorem dX12_silly_10 : decode cX12_silly 10 = .ok (.ireturn, 1) := by decide +kernel
theorem dX12_silly_11 : decode cX12_silly 11 = .ok (.aload_n 0, 1) := by decide +kernel
theorem dX12_silly_12 : decode cX12_silly 12 = .ok (.iload_n 1, 1) := by decide +kernel
theorem dX12_silly_13 : decode cX12_silly 13 = .ok (.invokevirtual 280, 3) := by decide +kernel
theorem dX12_silly_16 : decode cX12_silly 16 = .ok (.iconst 2, 1) := by decide +kernel
theorem dX12_silly_17 : decode cX12_silly 17 = .ok (.if_icmp .ge 5, 3) := by decide +kernel
theorem dX12_silly_20 : decode cX12_silly 20 = .ok (.iconst 0, 1) := by decide +kernel
theorem dX12_silly_21 : decode cX12_silly 21 = .ok (.ireturn, 1) := by decide +kernel
theorem dX12_silly_22 : decode cX12_silly 22 = .ok (.iconst 0, 1) := by decide +kernel
theorem dX12_silly_23 : decode cX12_silly 23 = .ok (.istore_n 2, 1) := by decide +kernel
theorem dX12_silly_24 : decode cX12_silly 24 = .ok (.iload_n 2, 1) := by decide +kernel
theorem dX12_silly_25 : decode cX12_silly 25 = .ok (.aload_n 0, 1) := by decide +kernel
theorem dX12_silly_26 : decode cX12_silly 26 = .ok (.getfield 7, 3) := by decide +kernel
theorem dX12_silly_29 : decode cX12_silly 29 = .ok (.if_icmp .ge 108, 3) := by decide +kernel
theorem dX12_silly_32 : decode cX12_silly 32 = .ok (.aload_n 0, 1) := by decide +kernel
theorem dX12_silly_33 : decode cX12_silly 33 = .ok (.iload_n 1, 1) := by decide +kernel
theorem dX12_silly_34 : decode cX12_silly 34 = .ok (.iload_n 2, 1) := by decide +kernel
theorem dX12_silly_35 : decode cX12_silly 35 = .ok (.invokevirtual 192, 3) := by decide +kernel
theorem dX12_silly_38 : decode cX12_silly 38 = .ok (.ifCond .ne 6, 3) := by decide +kernel
theorem dX12_silly_41 : decode cX12_silly 41 = .ok (.goto 90, 3) := by decide +kernel
theorem dX12_silly_44 : decode cX12_silly 44 = .ok (.iconst 1, 1) := by decide +kernel
theorem dX12_silly_45 : decode cX12_silly 45 = .ok (.istore_n 3, 1) := by decide +kernel
theorem dX12_silly_46 : decode cX12_silly 46 = .ok (.iconst 0, 1) := by decide +kernel
theorem dX12_silly_47 : decode cX12_silly 47 = .ok (.istore 4, 2) := by decide +kernel
theorem dX12_silly_49 : decode cX12_silly 49 = .ok (.iload 4, 2) := by decide +kernel
theorem dX12_silly_51 : decode cX12_silly 51 = .ok (.aload_n 0, 1) := by decide +kernel
theorem dX12_silly_52 : decode cX12_silly 52 = .ok (.getfield 7, 3) := by decide +kernel
theorem dX12_silly_55 : decode cX12_silly 55 = .ok (.if_icmp .ge 70, 3) := by decide +kernel
theorem dX12_silly_58 : decode cX12_silly 58 = .ok (.iload_n 3, 1) := by decide +kernel
theorem dX12_silly_59 : decode cX12_silly 59 = .ok (.ifCond .eq 58, 3) := by decide +kernel
theorem dX12_silly_62 : decode cX12_silly 62 = .ok (.iload 4, 2) := by decide +kernel
theorem dX12_silly_64 : decode cX12_silly 64 = .ok (.iload_n 2, 1) := by decide +kernel
theorem dX12_silly_65 : decode cX12_silly 65 = .ok (.if_icmp .eq 48, 3) := by decide +kernel
theorem dX12_silly_68 : decode cX12_silly 68 = .ok (.aload_n 0, 1) := by decide +kernel
theorem dX12_silly_69 : decode cX12_silly 69 = .ok (.iload_n 1, 1) := by decide +kernel
theorem dX12_silly_70 : decode cX12_silly 70 = .ok (.iload 4, 2) := by decide +kernel
theorem dX12_silly_72 : decode cX12_silly 72 = .ok (.invokevirtual 192, 3) := by decide +kernel
theorem dX12_silly_75 : decode cX12_silly 75 = .ok (.ifCond .eq 38, 3) := by decide +kernel
theorem dX12_silly_78 : decode cX12_silly 78 = .ok (.aload_n 0, 1) := by decide +kernel
theorem dX12_silly_79 : decode cX12_silly 79 = .ok (.getfield 22, 3) := by decide +kernel
theorem dX12_silly_82 : decode cX12_silly 82 = .ok (.iload 4, 2) := by decide +kernel
theorem dX12_silly_84 : decode cX12_silly 84 = .ok (.iaload, 1) := by decide +kernel
theorem dX12_silly_85 : decode cX12_silly 85 = .ok (.aload_n 0, 1) := by decide +kernel
theorem dX12_silly_86 : decode cX12_silly 86 = .ok (.getfield 22, 3) := by decide +kernel
theorem dX12_silly_89 : decode cX12_silly 89 = .ok (.iload_n 2, 1) := by decide +kernel
theorem dX12_silly_90 : decode cX12_silly 90 = .ok (.iaload, 1) := by decide +kernel
theorem dX12_silly_91 : decode cX12_silly 91 = .ok (.iconst (-1), 1) := by decide +kernel
theorem dX12_silly_92 : decode cX12_silly 92 = .ok (.ixor, 1) := by decide +kernel
theorem dX12_silly_93 : decode cX12_silly 93 = .ok (.iand, 1) := by decide +kernel
theorem dX12_silly_94 : decode cX12_silly 94 = .ok (.ifCond .ne 23, 3) := by decide +kernel
theorem dX12_silly_97 : decode cX12_silly 97 = .ok (.aload_n 0, 1) := by decide +kernel
theorem dX12_silly_98 : decode cX12_silly 98 = .ok (.getfield 26, 3) := by decide +kernel
theorem dX12_silly_101 : decode cX12_silly 101 = .ok (.iload_n 2, 1) := by decide +kernel
theorem dX12_silly_102 : decode cX12_silly 102 = .ok (.iaload, 1) := by decide +kernel
theorem dX12_silly_103 : decode cX12_silly 103 = .ok (.aload_n 0, 1) := by decide +kernel
theorem dX12_silly_104 : decode cX12_silly 104 = .ok (.getfield 26, 3) := by decide +kernel
theorem dX12_silly_107 : decode cX12_silly 107 = .ok (.iload 4, 2) := by decide +kernel
theorem dX12_silly_109 : decode cX12_silly 109 = .ok (.iaload, 1) := by decide +kernel
theorem dX12_silly_110 : decode cX12_silly 110 = .ok (.if_icmp .gt 7, 3) := by decide +kernel
theorem dX12_silly_113 : decode cX12_silly 113 = .ok (.iconst 1, 1) := by decide +kernel
theorem dX12_silly_114 : decode cX12_silly 114 = .ok (.goto 4, 3) := by decide +kernel
theorem dX12_silly_117 : decode cX12_silly 117 = .ok (.iconst 0, 1) := by decide +kernel
theorem dX12_silly_118 : decode cX12_silly 118 = .ok (.istore_n 3, 1) := by decide +kernel
theorem dX12_silly_119 : decode cX12_silly 119 = .ok (.iinc 4 1, 3) := by decide +kernel
theorem dX12_silly_122 : decode cX12_silly 122 = .ok (.goto (-73), 3) := by decide +kernel
theorem dX12_silly_125 : decode cX12_silly 125 = .ok (.iload_n 3, 1) := by decide +kernel
theorem dX12_silly_126 : decode cX12_silly 126 = .ok (.ifCond .eq 5, 3) := by decide +kernel
theorem dX12_silly_129 : decode cX12_silly 129 = .ok (.iconst 1, 1) := by decide +kernel
theorem dX12_silly_130 : decode cX12_silly 130 = .ok (.ireturn, 1) := by decide +kernel
theorem dX12_silly_131 : decode cX12_silly 131 = .ok (.iinc 2 1, 3) := by decide +kernel
theorem dX12_silly_134 : decode cX12_silly 134 = .ok (.goto (-110), 3) := by decide +kernel
theorem dX12_silly_137 : decode cX12_silly 137 = .ok (.iconst 0, 1) := by decide +kernel
theorem dX12_silly_138 : decode cX12_silly 138 = .ok (.ireturn, 1) := by decide +kernel
theorem dX12_could_0 : decode cX12_could 0 = .ok (.aload_n 0, 1) := by decide +kernel
theorem dX12_could_1 : decode cX12_could 1 = .ok (.iload_n 1, 1) := by decide +kernel
theorem dX12_could_2 : decode cX12_could 2 = .ok (.invokevirtual 196, 3) := by decide +kernel
theorem dX12_could_5 : decode cX12_could 5 = .ok (.ifCond .ne 5, 3) := by decide +kernel
theorem dX12_could_8 : decode cX12_could 8 = .ok (.iconst (-1), 1) := by decide +kernel
theorem dX12_could_9 : decode cX12_could 9 = .ok (.ireturn, 1) := by decide +kernel
theorem dX12_could_10 : decode cX12_could 10 = .ok (.iconst 0, 1) := by decide +kernel
theorem dX12_could_11 : decode cX12_could 11 = .ok (.istore_n 2, 1) := by decide +kernel
theorem dX12_could_12 : decode cX12_could 12 = .ok (.iconst 0, 1) := by decide +kernel
theorem dX12_could_13 : decode cX12_could 13 = .ok (.istore_n 3, 1) := by decide +kernel
theorem dX12_could_14 : decode cX12_could 14 = .ok (.iload_n 3, 1) := by decide +kernel
theorem dX12_could_15 : decode cX12_could 15 = .ok (.aload_n 0, 1) := by decide +kernel
theorem dX12_could_16 : decode cX12_could 16 = .ok (.getfield 19, 3) := by decide +kernel
theorem dX12_could_19 : decode cX12_could 19 = .ok (.if_icmp .ge 35, 3) := by decide +kernel
theorem dX12_could_22 : decode cX12_could 22 = .ok (.iload_n 2, 1) := by decide +kernel
theorem dX12_could_23 : decode cX12_could 23 = .ok (.aload_n 0, 1) := by decide +kernel
theorem dX12_could_24 : decode cX12_could 24 = .ok (.getfield 38, 3) := by decide +kernel
theorem dX12_could_27 : decode cX12_could 27 = .ok (.iload_n 1, 1) := by decide +kernel
theorem dX12_could_28 : decode cX12_could 28 = .ok (.iaload, 1) := by decide +kernel
theorem dX12_could_29 : decode cX12_could 29 = .ok (.aload_n 0, 1) := by decide +kernel
theorem dX12_could_30 : decode cX12_could 30 = .ok (.getfield 47, 3) := by decide +kernel
theorem dX12_could_33 : decode cX12_could 33 = .ok (.iload_n 3, 1) := by decide +kernel
theorem dX12_could_34 : decode cX12_could 34 = .ok (.iaload, 1) := by decide +kernel
theorem dX12_could_35 : decode cX12_could 35 = .ok (.iconst (-1), 1) := by decide +kernel
theorem dX12_could_36 : decode cX12_could 36 = .ok (.ixor, 1) := by decide +kernel
theorem dX12_could_37 : decode cX12_could 37 = .ok (.iand, 1) := by decide +kernel
theorem dX12_could_38 : decode cX12_could 38 = .ok (.ifCond .ne 7, 3) := by decide +kernel
theorem dX12_could_41 : decode cX12_could 41 = .ok (.iconst 1, 1) := by decide +kernel
theorem dX12_could_42 : decode cX12_could 42 = .ok (.goto 4, 3) := by decide +kernel
theorem dX12_could_45 : decode cX12_could 45 = .ok (.iconst 0, 1) := by decide +kernel
theorem dX12_could_46 : decode cX12_could 46 = .ok (.iadd, 1) := by decide +kernel
theorem dX12_could_47 : decode cX12_could 47 = .ok (.istore_n 2, 1) := by decide +kernel
theorem dX12_could_48 : decode cX12_could 48 = .ok (.iinc 3 1, 3) := by decide +kernel
theorem dX12_could_51 : decode cX12_could 51 = .ok (.goto (-37), 3) := by decide +kernel
theorem dX12_could_54 : decode cX12_could 54 = .ok (.iload_n 2, 1) := by decide +kernel
theorem dX12_could_55 : decode cX12_could 55 = .ok (.ireturn, 1) := by decide +kernel
theorem dX12_away_0 : decode cX12_away 0 = .ok (.aload_n 0, 1) := by decide +kernel
theorem dX12_away_1 : decode cX12_away 1 = .ok (.iload_n 1, 1) := by decide +kernel
theorem dX12_away_2 : decode cX12_away 2 = .ok (.invokevirtual 182, 3) := by decide +kernel
theorem dX12_away_5 : decode cX12_away 5 = .ok (.ifCond .eq 21, 3) := by decide +kernel
theorem dX12_away_8 : decode cX12_away 8 = .ok (.aload_n 0, 1) := by decide +kernel
theorem dX12_away_9 : decode cX12_away 9 = .ok (.iload_n 2, 1) := by decide +kernel
theorem dX12_away_10 : decode cX12_away 10 = .ok (.invokevirtual 182, 3) := by decide +kernel
theorem dX12_away_13 : decode cX12_away 13 = .ok (.ifCond .eq 13, 3) := by decide +kernel
theorem dX12_away_16 : decode cX12_away 16 = .ok (.aload_n 0, 1) := by decide +kernel
theorem dX12_away_17 : decode cX12_away 17 = .ok (.iload_n 3, 1) := by decide +kernel
theorem dX12_away_18 : decode cX12_away 18 = .ok (.iconst 0, 1) := by decide +kernel
theorem dX12_away_19 : decode cX12_away 19 = .ok (.iconst 4, 1) := by decide +kernel
theorem dX12_away_20 : decode cX12_away 20 = .ok (.invokevirtual 178, 3) := by decide +kernel
theorem dX12_away_23 : decode cX12_away 23 = .ok (.ifCond .ne 5, 3) := by decide +kernel
theorem dX12_away_26 : decode cX12_away 26 = .ok (.iconst (-1), 1) := by decide +kernel
theorem dX12_away_27 : decode cX12_away 27 = .ok (.ireturn, 1) := by decide +kernel
theorem dX12_away_28 : decode cX12_away 28 = .ok (.iload_n 1, 1) := by decide +kernel
theorem dX12_away_29 : decode cX12_away 29 = .ok (.iload_n 2, 1) := by decide +kernel
theorem dX12_away_30 : decode cX12_away 30 = .ok (.if_icmp .ne 6, 3) := by decide +kernel
theorem dX12_away_33 : decode cX12_away 33 = .ok (.bipush (-2), 2) := by decide +kernel
theorem dX12_away_35 : decode cX12_away 35 = .ok (.ireturn, 1) := by decide +kernel
theorem dX12_away_36 : decode cX12_away 36 = .ok (.iconst 0, 1) := by decide +kernel
theorem dX12_away_37 : decode cX12_away 37 = .ok (.istore 4, 2) := by decide +kernel
theorem dX12_away_39 : decode cX12_away 39 = .ok (.iconst 0, 1) := by decide +kernel
theorem dX12_away_40 : decode cX12_away 40 = .ok (.istore 5, 2) := by decide +kernel
theorem dX12_away_42 : decode cX12_away 42 = .ok (.iconst 0, 1) := by decide +kernel
theorem dX12_away_43 : decode cX12_away 43 = .ok (.istore 6, 2) := by decide +kernel
theorem dX12_away_45 : decode cX12_away 45 = .ok (.iconst 0, 1) := by decide +kernel
theorem dX12_away_46 : decode cX12_away 46 = .ok (.istore 7, 2) := by decide +kernel
theorem dX12_away_48 : decode cX12_away 48 = .ok (.iconst 0, 1) := by decide +kernel
theorem dX12_away_49 : decode cX12_away 49 = .ok (.istore 8, 2) := by decide +kernel
theorem dX12_away_51 : decode cX12_away 51 = .ok (.iload 8, 2) := by decide +kernel
theorem dX12_away_53 : decode cX12_away 53 = .ok (.aload_n 0, 1) := by decide +kernel
theorem dX12_away_54 : decode cX12_away 54 = .ok (.getfield 16, 3) := by decide +kernel
theorem dX12_away_57 : decode cX12_away 57 = .ok (.if_icmp .ge 93, 3) := by decide +kernel
theorem dX12_away_60 : decode cX12_away 60 = .ok (.aload_n 0, 1) := by decide +kernel
theorem dX12_away_61 : decode cX12_away 61 = .ok (.getfield 44, 3) := by decide +kernel
theorem dX12_away_64 : decode cX12_away 64 = .ok (.iload 8, 2) := by decide +kernel
theorem dX12_away_66 : decode cX12_away 66 = .ok (.iaload, 1) := by decide +kernel
theorem dX12_away_67 : decode cX12_away 67 = .ok (.ifCond .ne 77, 3) := by decide +kernel
theorem dX12_away_70 : decode cX12_away 70 = .ok (.aload_n 0, 1) := by decide +kernel
theorem dX12_away_71 : decode cX12_away 71 = .ok (.aload_n 0, 1) := by decide +kernel
theorem dX12_away_72 : decode cX12_away 72 = .ok (.getfield 38, 3) := by decide +kernel
theorem dX12_away_75 : decode cX12_away 75 = .ok (.iload 8, 2) := by decide +kernel
theorem dX12_away_77 : decode cX12_away 77 = .ok (.iaload, 1) := by decide +kernel
theorem dX12_away_78 : decode cX12_away 78 = .ok (.iload_n 1, 1) := by decide +kernel
theorem dX12_away_79 : decode cX12_away 79 = .ok (.invokevirtual 192, 3) := by decide +kernel
theorem dX12_away_82 : decode cX12_away 82 = .ok (.ifCond .ne 6, 3) := by decide +kernel
theorem dX12_away_85 : decode cX12_away 85 = .ok (.goto 59, 3) := by decide +kernel
theorem dX12_away_88 : decode cX12_away 88 = .ok (.aload_n 0, 1) := by decide +kernel
theorem dX12_away_89 : decode cX12_away 89 = .ok (.getfield 41, 3) := by decide +kernel
theorem dX12_away_92 : decode cX12_away 92 = .ok (.iload 8, 2) := by decide +kernel
theorem dX12_away_94 : decode cX12_away 94 = .ok (.iaload, 1) := by decide +kernel
theorem dX12_away_95 : decode cX12_away 95 = .ok (.iload_n 1, 1) := by decide +kernel
theorem dX12_away_96 : decode cX12_away 96 = .ok (.if_icmp .ne 7, 3) := by decide +kernel
theorem dX12_away_99 : decode cX12_away 99 = .ok (.iconst 1, 1) := by decide +kernel
theorem dX12_away_100 : decode cX12_away 100 = .ok (.goto 4, 3) := by decide +kernel
theorem dX12_away_103 : decode cX12_away 103 = .ok (.iconst 0, 1) := by decide +kernel
theorem dX12_away_104 : decode cX12_away 104 = .ok (.istore 9, 2) := by decide +kernel
theorem dX12_away_106 : decode cX12_away 106 = .ok (.aload_n 0, 1) := by decide +kernel
theorem dX12_away_107 : decode cX12_away 107 = .ok (.aload_n 0, 1) := by decide +kernel
theorem dX12_away_108 : decode cX12_away 108 = .ok (.getfield 38, 3) := by decide +kernel
theorem dX12_away_111 : decode cX12_away 111 = .ok (.iload 8, 2) := by decide +kernel
theorem dX12_away_113 : decode cX12_away 113 = .ok (.iaload, 1) := by decide +kernel
theorem dX12_away_114 : decode cX12_away 114 = .ok (.iload_n 2, 1) := by decide +kernel
theorem dX12_away_115 : decode cX12_away 115 = .ok (.invokevirtual 192, 3) := by decide +kernel
theorem dX12_away_118 : decode cX12_away 118 = .ok (.ifCond .eq 16, 3) := by decide +kernel
theorem dX12_away_121 : decode cX12_away 121 = .ok (.iinc 5 1, 3) := by decide +kernel
theorem dX12_away_124 : decode cX12_away 124 = .ok (.iload 4, 2) := by decide +kernel
theorem dX12_away_126 : decode cX12_away 126 = .ok (.iload 9, 2) := by decide +kernel
theorem dX12_away_128 : decode cX12_away 128 = .ok (.iadd, 1) := by decide +kernel
theorem dX12_away_129 : decode cX12_away 129 = .ok (.istore 4, 2) := by decide +kernel
theorem dX12_away_131 : decode cX12_away 131 = .ok (.goto 13, 3) := by decide +kernel
theorem dX12_away_134 : decode cX12_away 134 = .ok (.iinc 7 1, 3) := by decide +kernel
theorem dX12_away_137 : decode cX12_away 137 = .ok (.iload 6, 2) := by decide +kernel
theorem dX12_away_139 : decode cX12_away 139 = .ok (.iload 9, 2) := by decide +kernel
theorem dX12_away_141 : decode cX12_away 141 = .ok (.iadd, 1) := by decide +kernel
theorem dX12_away_142 : decode cX12_away 142 = .ok (.istore 6, 2) := by decide +kernel
theorem dX12_away_144 : decode cX12_away 144 = .ok (.iinc 8 1, 3) := by decide +kernel
theorem dX12_away_147 : decode cX12_away 147 = .ok (.goto (-96), 3) := by decide +kernel
theorem dX12_away_150 : decode cX12_away 150 = .ok (.iload_n 3, 1) := by decide +kernel
theorem dX12_away_151 : decode cX12_away 151 = .ok (.tableswitch 41 0 3 #[29, 32, 35, 38], 29) := by decide +kernel
theorem dX12_away_180 : decode cX12_away 180 = .ok (.iload 4, 2) := by decide +kernel
theorem dX12_away_182 : decode cX12_away 182 = .ok (.ireturn, 1) := by decide +kernel
theorem dX12_away_183 : decode cX12_away 183 = .ok (.iload 5, 2) := by decide +kernel
theorem dX12_away_185 : decode cX12_away 185 = .ok (.ireturn, 1) := by decide +kernel
theorem dX12_away_186 : decode cX12_away 186 = .ok (.iload 6, 2) := by decide +kernel
theorem dX12_away_188 : decode cX12_away 188 = .ok (.ireturn, 1) := by decide +kernel
theorem dX12_away_189 : decode cX12_away 189 = .ok (.iload 7, 2) := by decide +kernel
theorem dX12_away_191 : decode cX12_away 191 = .ok (.ireturn, 1) := by decide +kernel
theorem dX12_away_192 : decode cX12_away 192 = .ok (.iload 5, 2) := by decide +kernel
theorem dX12_away_194 : decode cX12_away 194 = .ok (.ifCond .eq 8, 3) := by decide +kernel
theorem dX12_away_197 : decode cX12_away 197 = .ok (.iload 7, 2) := by decide +kernel
theorem dX12_away_199 : decode cX12_away 199 = .ok (.ifCond .ne 6, 3) := by decide +kernel
theorem dX12_away_202 : decode cX12_away 202 = .ok (.bipush (-6), 2) := by decide +kernel
theorem dX12_away_204 : decode cX12_away 204 = .ok (.ireturn, 1) := by decide +kernel
theorem dX12_away_205 : decode cX12_away 205 = .ok (.iload 6, 2) := by decide +kernel
theorem dX12_away_207 : decode cX12_away 207 = .ok (.iload 5, 2) := by decide +kernel
theorem dX12_away_209 : decode cX12_away 209 = .ok (.imul, 1) := by decide +kernel
theorem dX12_away_210 : decode cX12_away 210 = .ok (.iload 4, 2) := by decide +kernel
theorem dX12_away_212 : decode cX12_away 212 = .ok (.iload 7, 2) := by decide +kernel
theorem dX12_away_214 : decode cX12_away 214 = .ok (.imul, 1) := by decide +kernel
theorem dX12_away_215 : decode cX12_away 215 = .ok (.isub, 1) := by decide +kernel
theorem dX12_away_216 : decode cX12_away 216 = .ok (.istore 8, 2) := by decide +kernel
theorem dX12_away_218 : decode cX12_away 218 = .ok (.iload 8, 2) := by decide +kernel
theorem dX12_away_220 : decode cX12_away 220 = .ok (.ifCond .le 7, 3) := by decide +kernel
theorem dX12_away_223 : decode cX12_away 223 = .ok (.iconst 1, 1) := by decide +kernel
theorem dX12_away_224 : decode cX12_away 224 = .ok (.goto 14, 3) := by decide +kernel
theorem dX12_away_227 : decode cX12_away 227 = .ok (.iload 8, 2) := by decide +kernel
theorem dX12_away_229 : decode cX12_away 229 = .ok (.ifCond .ge 8, 3) := by decide +kernel
theorem dX12_away_232 : decode cX12_away 232 = .ok (.bipush (-5), 2) := by decide +kernel
theorem dX12_away_234 : decode cX12_away 234 = .ok (.goto 4, 3) := by decide +kernel
theorem dX12_away_237 : decode cX12_away 237 = .ok (.iconst 0, 1) := by decide +kernel
theorem dX12_away_238 : decode cX12_away 238 = .ok (.ireturn, 1) := by decide +kernel
theorem dX12_coinOf_0 : decode cX12_coinOf 0 = .ok (.lconst 0, 1) := by decide +kernel
theorem dX12_coinOf_1 : decode cX12_coinOf 1 = .ok (.lstore_n 3, 1) := by decide +kernel
theorem dX12_coinOf_2 : decode cX12_coinOf 2 = .ok (.iconst 0, 1) := by decide +kernel
theorem dX12_coinOf_3 : decode cX12_coinOf 3 = .ok (.istore 5, 2) := by decide +kernel
theorem dX12_coinOf_5 : decode cX12_coinOf 5 = .ok (.iload 5, 2) := by decide +kernel
theorem dX12_coinOf_7 : decode cX12_coinOf 7 = .ok (.aload_n 0, 1) := by decide +kernel
theorem dX12_coinOf_8 : decode cX12_coinOf 8 = .ok (.getfield 13, 3) := by decide +kernel
theorem dX12_coinOf_11 : decode cX12_coinOf 11 = .ok (.if_icmp .ge 80, 3) := by decide +kernel
theorem dX12_coinOf_14 : decode cX12_coinOf 14 = .ok (.iconst 0, 1) := by decide +kernel
theorem dX12_coinOf_15 : decode cX12_coinOf 15 = .ok (.istore 6, 2) := by decide +kernel
theorem dX12_coinOf_17 : decode cX12_coinOf 17 = .ok (.iload 6, 2) := by decide +kernel
theorem dX12_coinOf_19 : decode cX12_coinOf 19 = .ok (.aload_n 0, 1) := by decide +kernel
theorem dX12_coinOf_20 : decode cX12_coinOf 20 = .ok (.getfield 7, 3) := by decide +kernel
theorem dX12_coinOf_23 : decode cX12_coinOf 23 = .ok (.if_icmp .ge 62, 3) := by decide +kernel
theorem dX12_coinOf_26 : decode cX12_coinOf 26 = .ok (.aload_n 0, 1) := by decide +kernel
theorem dX12_coinOf_27 : decode cX12_coinOf 27 = .ok (.iload_n 2, 1) := by decide +kernel
theorem dX12_coinOf_28 : decode cX12_coinOf 28 = .ok (.iload 6, 2) := by decide +kernel
theorem dX12_coinOf_30 : decode cX12_coinOf 30 = .ok (.invokevirtual 192, 3) := by decide +kernel
theorem dX12_coinOf_33 : decode cX12_coinOf 33 = .ok (.ifCond .ne 6, 3) := by decide +kernel
theorem dX12_coinOf_36 : decode cX12_coinOf 36 = .ok (.goto 43, 3) := by decide +kernel
theorem dX12_coinOf_39 : decode cX12_coinOf 39 = .ok (.aload_n 0, 1) := by decide +kernel
theorem dX12_coinOf_40 : decode cX12_coinOf 40 = .ok (.iload_n 1, 1) := by decide +kernel
theorem dX12_coinOf_41 : decode cX12_coinOf 41 = .ok (.iload 6, 2) := by decide +kernel
theorem dX12_coinOf_43 : decode cX12_coinOf 43 = .ok (.iload_n 2, 1) := by decide +kernel
theorem dX12_coinOf_44 : decode cX12_coinOf 44 = .ok (.aload_n 0, 1) := by decide +kernel
theorem dX12_coinOf_45 : decode cX12_coinOf 45 = .ok (.getfield 32, 3) := by decide +kernel
theorem dX12_coinOf_48 : decode cX12_coinOf 48 = .ok (.iload 5, 2) := by decide +kernel
theorem dX12_coinOf_50 : decode cX12_coinOf 50 = .ok (.iaload, 1) := by decide +kernel
theorem dX12_coinOf_51 : decode cX12_coinOf 51 = .ok (.invokevirtual 298, 3) := by decide +kernel
theorem dX12_coinOf_54 : decode cX12_coinOf 54 = .ok (.lload_n 3, 1) := by decide +kernel
theorem dX12_coinOf_55 : decode cX12_coinOf 55 = .ok (.aload_n 0, 1) := by decide +kernel
theorem dX12_coinOf_56 : decode cX12_coinOf 56 = .ok (.getfield 26, 3) := by decide +kernel
theorem dX12_coinOf_59 : decode cX12_coinOf 59 = .ok (.iload 6, 2) := by decide +kernel
theorem dX12_coinOf_61 : decode cX12_coinOf 61 = .ok (.iaload, 1) := by decide +kernel
theorem dX12_coinOf_62 : decode cX12_coinOf 62 = .ok (.i2l, 1) := by decide +kernel
theorem dX12_coinOf_63 : decode cX12_coinOf 63 = .ok (.ldc2_w 306, 3) := by decide +kernel
theorem dX12_coinOf_66 : decode cX12_coinOf 66 = .ok (.aload_n 0, 1) := by decide +kernel
theorem dX12_coinOf_67 : decode cX12_coinOf 67 = .ok (.getfield 129, 3) := by decide +kernel
theorem dX12_coinOf_70 : decode cX12_coinOf 70 = .ok (.lmul, 1) := by decide +kernel
theorem dX12_coinOf_71 : decode cX12_coinOf 71 = .ok (.aload_n 0, 1) := by decide +kernel
theorem dX12_coinOf_72 : decode cX12_coinOf 72 = .ok (.getfield 133, 3) := by decide +kernel
theorem dX12_coinOf_75 : decode cX12_coinOf 75 = .ok (.ldiv, 1) := by decide +kernel
theorem dX12_coinOf_76 : decode cX12_coinOf 76 = .ok (.lmul, 1) := by decide +kernel
theorem dX12_coinOf_77 : decode cX12_coinOf 77 = .ok (.ladd, 1) := by decide +kernel
theorem dX12_coinOf_78 : decode cX12_coinOf 78 = .ok (.lstore_n 3, 1) := by decide +kernel
theorem dX12_coinOf_79 : decode cX12_coinOf 79 = .ok (.iinc 6 1, 3) := by decide +kernel
theorem dX12_coinOf_82 : decode cX12_coinOf 82 = .ok (.goto (-65), 3) := by decide +kernel
theorem dX12_coinOf_85 : decode cX12_coinOf 85 = .ok (.iinc 5 1, 3) := by decide +kernel
theorem dX12_coinOf_88 : decode cX12_coinOf 88 = .ok (.goto (-83), 3) := by decide +kernel
theorem dX12_coinOf_91 : decode cX12_coinOf 91 = .ok (.lload_n 3, 1) := by decide +kernel
theorem dX12_coinOf_92 : decode cX12_coinOf 92 = .ok (.lreturn, 1) := by decide +kernel
theorem dX12_coin_0 : decode cX12_coin 0 = .ok (.aload_n 0, 1) := by decide +kernel
theorem dX12_coin_1 : decode cX12_coin 1 = .ok (.iload_n 1, 1) := by decide +kernel
theorem dX12_coin_2 : decode cX12_coin 2 = .ok (.invokevirtual 258, 3) := by decide +kernel
theorem dX12_coin_5 : decode cX12_coin 5 = .ok (.ifCond .eq 19, 3) := by decide +kernel
theorem dX12_coin_8 : decode cX12_coin 8 = .ok (.aload_n 0, 1) := by decide +kernel
theorem dX12_coin_9 : decode cX12_coin 9 = .ok (.iload_n 2, 1) := by decide +kernel
theorem dX12_coin_10 : decode cX12_coin 10 = .ok (.invokevirtual 189, 3) := by decide +kernel
theorem dX12_coin_13 : decode cX12_coin 13 = .ok (.ifCond .eq 11, 3) := by decide +kernel
theorem dX12_coin_16 : decode cX12_coin 16 = .ok (.aload_n 0, 1) := by decide +kernel
theorem dX12_coin_17 : decode cX12_coin 17 = .ok (.iload_n 1, 1) := by decide +kernel
theorem dX12_coin_18 : decode cX12_coin 18 = .ok (.invokevirtual 261, 3) := by decide +kernel
theorem dX12_coin_21 : decode cX12_coin 21 = .ok (.ifCond .ne 9, 3) := by decide +kernel
theorem dX12_coin_24 : decode cX12_coin 24 = .ok (.ldc2_w 296, 3) := by decide +kernel
theorem dX12_coin_27 : decode cX12_coin 27 = .ok (.goto 9, 3) := by decide +kernel
theorem dX12_coin_30 : decode cX12_coin 30 = .ok (.aload_n 0, 1) := by decide +kernel
theorem dX12_coin_31 : decode cX12_coin 31 = .ok (.iload_n 1, 1) := by decide +kernel
theorem dX12_coin_32 : decode cX12_coin 32 = .ok (.iload_n 2, 1) := by decide +kernel
theorem dX12_coin_33 : decode cX12_coin 33 = .ok (.invokevirtual 335, 3) := by decide +kernel
theorem dX12_coin_36 : decode cX12_coin 36 = .ok (.lreturn, 1) := by decide +kernel
theorem dX12_lay_0 : decode cX12_lay 0 = .ok (.aload_n 0, 1) := by decide +kernel
theorem dX12_lay_1 : decode cX12_lay 1 = .ok (.iload_n 1, 1) := by decide +kernel
theorem dX12_lay_2 : decode cX12_lay 2 = .ok (.invokevirtual 258, 3) := by decide +kernel
theorem dX12_lay_5 : decode cX12_lay 5 = .ok (.ifCond .eq 11, 3) := by decide +kernel
theorem dX12_lay_8 : decode cX12_lay 8 = .ok (.aload_n 0, 1) := by decide +kernel
theorem dX12_lay_9 : decode cX12_lay 9 = .ok (.iload_n 1, 1) := by decide +kernel
theorem dX12_lay_10 : decode cX12_lay 10 = .ok (.invokevirtual 261, 3) := by decide +kernel
theorem dX12_lay_13 : decode cX12_lay 13 = .ok (.ifCond .ne 5, 3) := by decide +kernel
theorem dX12_lay_16 : decode cX12_lay 16 = .ok (.iconst (-1), 1) := by decide +kernel
theorem dX12_lay_17 : decode cX12_lay 17 = .ok (.ireturn, 1) := by decide +kernel
theorem dX12_lay_18 : decode cX12_lay 18 = .ok (.aload_n 0, 1) := by decide +kernel
theorem dX12_lay_19 : decode cX12_lay 19 = .ok (.iload_n 2, 1) := by decide +kernel
theorem dX12_lay_20 : decode cX12_lay 20 = .ok (.iconst 0, 1) := by decide +kernel
theorem dX12_lay_21 : decode cX12_lay 21 = .ok (.bipush 6, 2) := by decide +kernel
theorem dX12_lay_23 : decode cX12_lay 23 = .ok (.invokevirtual 178, 3) := by decide +kernel
theorem dX12_lay_26 : decode cX12_lay 26 = .ok (.ifCond .ne 6, 3) := by decide +kernel
theorem dX12_lay_29 : decode cX12_lay 29 = .ok (.bipush (-2), 2) := by decide +kernel
theorem dX12_lay_31 : decode cX12_lay 31 = .ok (.ireturn, 1) := by decide +kernel
theorem dX12_lay_32 : decode cX12_lay 32 = .ok (.iconst 0, 1) := by decide +kernel
theorem dX12_lay_33 : decode cX12_lay 33 = .ok (.istore_n 3, 1) := by decide +kernel
theorem dX12_lay_34 : decode cX12_lay 34 = .ok (.lconst 0, 1) := by decide +kernel
theorem dX12_lay_35 : decode cX12_lay 35 = .ok (.lstore 4, 2) := by decide +kernel
theorem dX12_lay_37 : decode cX12_lay 37 = .ok (.iconst 1, 1) := by decide +kernel
theorem dX12_lay_38 : decode cX12_lay 38 = .ok (.istore 6, 2) := by decide +kernel
theorem dX12_lay_40 : decode cX12_lay 40 = .ok (.iload 6, 2) := by decide +kernel
theorem dX12_lay_42 : decode cX12_lay 42 = .ok (.iconst 1, 1) := by decide +kernel
theorem dX12_lay_43 : decode cX12_lay 43 = .ok (.aload_n 0, 1) := by decide +kernel
theorem dX12_lay_44 : decode cX12_lay 44 = .ok (.getfield 7, 3) := by decide +kernel
theorem dX12_lay_47 : decode cX12_lay 47 = .ok (.ishl, 1) := by decide +kernel
theorem dX12_lay_48 : decode cX12_lay 48 = .ok (.if_icmp .ge 71, 3) := by decide +kernel
theorem dX12_lay_51 : decode cX12_lay 51 = .ok (.aload_n 0, 1) := by decide +kernel
theorem dX12_lay_52 : decode cX12_lay 52 = .ok (.iload 6, 2) := by decide +kernel
theorem dX12_lay_54 : decode cX12_lay 54 = .ok (.invokevirtual 280, 3) := by decide +kernel
theorem dX12_lay_57 : decode cX12_lay 57 = .ok (.iload_n 2, 1) := by decide +kernel
theorem dX12_lay_58 : decode cX12_lay 58 = .ok (.if_icmp .le 6, 3) := by decide +kernel
theorem dX12_lay_61 : decode cX12_lay 61 = .ok (.goto 52, 3) := by decide +kernel
theorem dX12_lay_64 : decode cX12_lay 64 = .ok (.aload_n 0, 1) := by decide +kernel
theorem dX12_lay_65 : decode cX12_lay 65 = .ok (.iload_n 1, 1) := by decide +kernel
theorem dX12_lay_66 : decode cX12_lay 66 = .ok (.iload 6, 2) := by decide +kernel
theorem dX12_lay_68 : decode cX12_lay 68 = .ok (.invokevirtual 335, 3) := by decide +kernel
theorem dX12_lay_71 : decode cX12_lay 71 = .ok (.lstore 7, 2) := by decide +kernel
theorem dX12_lay_73 : decode cX12_lay 73 = .ok (.lload 7, 2) := by decide +kernel
theorem dX12_lay_75 : decode cX12_lay 75 = .ok (.lload 4, 2) := by decide +kernel
theorem dX12_lay_77 : decode cX12_lay 77 = .ok (.lcmp, 1) := by decide +kernel
theorem dX12_lay_78 : decode cX12_lay 78 = .ok (.ifCond .lt 35, 3) := by decide +kernel
theorem dX12_lay_81 : decode cX12_lay 81 = .ok (.lload 7, 2) := by decide +kernel
theorem dX12_lay_83 : decode cX12_lay 83 = .ok (.lload 4, 2) := by decide +kernel
theorem dX12_lay_85 : decode cX12_lay 85 = .ok (.lcmp, 1) := by decide +kernel
theorem dX12_lay_86 : decode cX12_lay 86 = .ok (.ifCond .ne 20, 3) := by decide +kernel
theorem dX12_lay_89 : decode cX12_lay 89 = .ok (.aload_n 0, 1) := by decide +kernel
theorem dX12_lay_90 : decode cX12_lay 90 = .ok (.iload 6, 2) := by decide +kernel
theorem dX12_lay_92 : decode cX12_lay 92 = .ok (.invokevirtual 280, 3) := by decide +kernel
theorem dX12_lay_95 : decode cX12_lay 95 = .ok (.aload_n 0, 1) := by decide +kernel
theorem dX12_lay_96 : decode cX12_lay 96 = .ok (.iload_n 3, 1) := by decide +kernel
theorem dX12_lay_97 : decode cX12_lay 97 = .ok (.invokevirtual 280, 3) := by decide +kernel
theorem dX12_lay_100 : decode cX12_lay 100 = .ok (.if_icmp .lt 6, 3) := by decide +kernel
theorem dX12_lay_103 : decode cX12_lay 103 = .ok (.goto 10, 3) := by decide +kernel
theorem dX12_lay_106 : decode cX12_lay 106 = .ok (.lload 7, 2) := by decide +kernel
theorem dX12_lay_108 : decode cX12_lay 108 = .ok (.lstore 4, 2) := by decide +kernel
theorem dX12_lay_110 : decode cX12_lay 110 = .ok (.iload 6, 2) := by decide +kernel
theorem dX12_lay_112 : decode cX12_lay 112 = .ok (.istore_n 3, 1) := by decide +kernel
theorem dX12_lay_113 : decode cX12_lay 113 = .ok (.iinc 6 1, 3) := by decide +kernel
theorem dX12_lay_116 : decode cX12_lay 116 = .ok (.goto (-76), 3) := by decide +kernel
theorem dX12_lay_119 : decode cX12_lay 119 = .ok (.iload_n 3, 1) := by decide +kernel
theorem dX12_lay_120 : decode cX12_lay 120 = .ok (.ireturn, 1) := by decide +kernel
theorem dX12_best_0 : decode cX12_best 0 = .ok (.aload_n 0, 1) := by decide +kernel
theorem dX12_best_1 : decode cX12_best 1 = .ok (.iload_n 1, 1) := by decide +kernel
theorem dX12_best_2 : decode cX12_best 2 = .ok (.invokevirtual 258, 3) := by decide +kernel
theorem dX12_best_5 : decode cX12_best 5 = .ok (.ifCond .eq 11, 3) := by decide +kernel
theorem dX12_best_8 : decode cX12_best 8 = .ok (.aload_n 0, 1) := by decide +kernel
theorem dX12_best_9 : decode cX12_best 9 = .ok (.iload_n 2, 1) := by decide +kernel
theorem dX12_best_10 : decode cX12_best 10 = .ok (.invokevirtual 182, 3) := by decide +kernel
theorem dX12_best_13 : decode cX12_best 13 = .ok (.ifCond .ne 5, 3) := by decide +kernel
theorem dX12_best_16 : decode cX12_best 16 = .ok (.iconst (-1), 1) := by decide +kernel
theorem dX12_best_17 : decode cX12_best 17 = .ok (.ireturn, 1) := by decide +kernel
theorem dX12_best_18 : decode cX12_best 18 = .ok (.aload_n 0, 1) := by decide +kernel
theorem dX12_best_19 : decode cX12_best 19 = .ok (.iload_n 3, 1) := by decide +kernel
theorem dX12_best_20 : decode cX12_best 20 = .ok (.invokevirtual 189, 3) := by decide +kernel
theorem dX12_best_23 : decode cX12_best 23 = .ok (.ifCond .eq 12, 3) := by decide +kernel
theorem dX12_best_26 : decode cX12_best 26 = .ok (.aload_n 0, 1) := by decide +kernel
theorem dX12_best_27 : decode cX12_best 27 = .ok (.iload_n 3, 1) := by decide +kernel
theorem dX12_best_28 : decode cX12_best 28 = .ok (.iload_n 2, 1) := by decide +kernel
theorem dX12_best_29 : decode cX12_best 29 = .ok (.invokevirtual 192, 3) := by decide +kernel
theorem dX12_best_32 : decode cX12_best 32 = .ok (.ifCond .ne 6, 3) := by decide +kernel
theorem dX12_best_35 : decode cX12_best 35 = .ok (.bipush (-2), 2) := by decide +kernel
theorem dX12_best_37 : decode cX12_best 37 = .ok (.ireturn, 1) := by decide +kernel
theorem dX12_best_38 : decode cX12_best 38 = .ok (.aload_n 0, 1) := by decide +kernel
theorem dX12_best_39 : decode cX12_best 39 = .ok (.getfield 26, 3) := by decide +kernel
theorem dX12_best_42 : decode cX12_best 42 = .ok (.iload_n 2, 1) := by decide +kernel
theorem dX12_best_43 : decode cX12_best 43 = .ok (.iaload, 1) := by decide +kernel
theorem dX12_best_44 : decode cX12_best 44 = .ok (.istore 4, 2) := by decide +kernel
theorem dX12_best_46 : decode cX12_best 46 = .ok (.iconst 0, 1) := by decide +kernel
theorem dX12_best_47 : decode cX12_best 47 = .ok (.istore 5, 2) := by decide +kernel
theorem dX12_best_49 : decode cX12_best 49 = .ok (.ldc2_w 339, 3) := by decide +kernel
theorem dX12_best_52 : decode cX12_best 52 = .ok (.lstore 6, 2) := by decide +kernel
theorem dX12_best_54 : decode cX12_best 54 = .ok (.iconst 0, 1) := by decide +kernel
theorem dX12_best_55 : decode cX12_best 55 = .ok (.istore 8, 2) := by decide +kernel
theorem dX12_best_57 : decode cX12_best 57 = .ok (.iload 8, 2) := by decide +kernel
theorem dX12_best_59 : decode cX12_best 59 = .ok (.bipush 100, 2) := by decide +kernel
theorem dX12_best_61 : decode cX12_best 61 = .ok (.if_icmp .ge 56, 3) := by decide +kernel
theorem dX12_best_64 : decode cX12_best 64 = .ok (.aload_n 0, 1) := by decide +kernel
theorem dX12_best_65 : decode cX12_best 65 = .ok (.getfield 26, 3) := by decide +kernel
theorem dX12_best_68 : decode cX12_best 68 = .ok (.iload_n 2, 1) := by decide +kernel
theorem dX12_best_69 : decode cX12_best 69 = .ok (.iload 8, 2) := by decide +kernel
theorem dX12_best_71 : decode cX12_best 71 = .ok (.iastore, 1) := by decide +kernel
theorem dX12_best_72 : decode cX12_best 72 = .ok (.aload_n 0, 1) := by decide +kernel
theorem dX12_best_73 : decode cX12_best 73 = .ok (.iload_n 1, 1) := by decide +kernel
theorem dX12_best_74 : decode cX12_best 74 = .ok (.invokevirtual 261, 3) := by decide +kernel
theorem dX12_best_77 : decode cX12_best 77 = .ok (.ifCond .eq 12, 3) := by decide +kernel
theorem dX12_best_80 : decode cX12_best 80 = .ok (.aload_n 0, 1) := by decide +kernel
theorem dX12_best_81 : decode cX12_best 81 = .ok (.iload_n 1, 1) := by decide +kernel
theorem dX12_best_82 : decode cX12_best 82 = .ok (.iload_n 3, 1) := by decide +kernel
theorem dX12_best_83 : decode cX12_best 83 = .ok (.invokevirtual 335, 3) := by decide +kernel
theorem dX12_best_86 : decode cX12_best 86 = .ok (.goto 4, 3) := by decide +kernel
theorem dX12_best_89 : decode cX12_best 89 = .ok (.lconst 0, 1) := by decide +kernel
theorem dX12_best_90 : decode cX12_best 90 = .ok (.lstore 9, 2) := by decide +kernel
theorem dX12_best_92 : decode cX12_best 92 = .ok (.lload 9, 2) := by decide +kernel
theorem dX12_best_94 : decode cX12_best 94 = .ok (.lload 6, 2) := by decide +kernel
theorem dX12_best_96 : decode cX12_best 96 = .ok (.lcmp, 1) := by decide +kernel
theorem dX12_best_97 : decode cX12_best 97 = .ok (.ifCond .gt 6, 3) := by decide +kernel
theorem dX12_best_100 : decode cX12_best 100 = .ok (.goto 11, 3) := by decide +kernel
theorem dX12_best_103 : decode cX12_best 103 = .ok (.lload 9, 2) := by decide +kernel
theorem dX12_best_105 : decode cX12_best 105 = .ok (.lstore 6, 2) := by decide +kernel
theorem dX12_best_107 : decode cX12_best 107 = .ok (.iload 8, 2) := by decide +kernel
theorem dX12_best_109 : decode cX12_best 109 = .ok (.istore 5, 2) := by decide +kernel
theorem dX12_best_111 : decode cX12_best 111 = .ok (.iinc 8 1, 3) := by decide +kernel
theorem dX12_best_114 : decode cX12_best 114 = .ok (.goto (-57), 3) := by decide +kernel
theorem dX12_best_117 : decode cX12_best 117 = .ok (.aload_n 0, 1) := by decide +kernel
theorem dX12_best_118 : decode cX12_best 118 = .ok (.getfield 26, 3) := by decide +kernel
theorem dX12_best_121 : decode cX12_best 121 = .ok (.iload_n 2, 1) := by decide +kernel
theorem dX12_best_122 : decode cX12_best 122 = .ok (.iload 4, 2) := by decide +kernel
theorem dX12_best_124 : decode cX12_best 124 = .ok (.iastore, 1) := by decide +kernel
theorem dX12_best_125 : decode cX12_best 125 = .ok (.iload 5, 2) := by decide +kernel
theorem dX12_best_127 : decode cX12_best 127 = .ok (.ireturn, 1) := by decide +kernel
theorem dX12_greatestIn_0 : decode cX12_greatestIn 0 = .ok (.iconst 0, 1) := by decide +kernel
theorem dX12_greatestIn_1 : decode cX12_greatestIn 1 = .ok (.istore_n 3, 1) := by decide +kernel
theorem dX12_greatestIn_2 : decode cX12_greatestIn 2 = .ok (.iconst 0, 1) := by decide +kernel
theorem dX12_greatestIn_3 : decode cX12_greatestIn 3 = .ok (.istore 4, 2) := by decide +kernel
theorem dX12_greatestIn_5 : decode cX12_greatestIn 5 = .ok (.iload 4, 2) := by decide +kernel
theorem dX12_greatestIn_7 : decode cX12_greatestIn 7 = .ok (.aload_n 0, 1) := by decide +kernel
theorem dX12_greatestIn_8 : decode cX12_greatestIn 8 = .ok (.getfield 7, 3) := by decide +kernel
theorem dX12_greatestIn_11 : decode cX12_greatestIn 11 = .ok (.if_icmp .ge 38, 3) := by decide +kernel
theorem dX12_greatestIn_14 : decode cX12_greatestIn 14 = .ok (.aload_n 0, 1) := by decide +kernel
theorem dX12_greatestIn_15 : decode cX12_greatestIn 15 = .ok (.iload_n 1, 1) := by decide +kernel
theorem dX12_greatestIn_16 : decode cX12_greatestIn 16 = .ok (.iload 4, 2) := by decide +kernel
theorem dX12_greatestIn_18 : decode cX12_greatestIn 18 = .ok (.invokevirtual 192, 3) := by decide +kernel
theorem dX12_greatestIn_21 : decode cX12_greatestIn 21 = .ok (.ifCond .eq 22, 3) := by decide +kernel
theorem dX12_greatestIn_24 : decode cX12_greatestIn 24 = .ok (.aload_n 0, 1) := by decide +kernel
theorem dX12_greatestIn_25 : decode cX12_greatestIn 25 = .ok (.iload 4, 2) := by decide +kernel
theorem dX12_greatestIn_27 : decode cX12_greatestIn 27 = .ok (.iload_n 2, 1) := by decide +kernel
theorem dX12_greatestIn_28 : decode cX12_greatestIn 28 = .ok (.invokevirtual 264, 3) := by decide +kernel
theorem dX12_greatestIn_31 : decode cX12_greatestIn 31 = .ok (.iload_n 3, 1) := by decide +kernel
theorem dX12_greatestIn_32 : decode cX12_greatestIn 32 = .ok (.if_icmp .le 11, 3) := by decide +kernel
theorem dX12_greatestIn_35 : decode cX12_greatestIn 35 = .ok (.aload_n 0, 1) := by decide +kernel
theorem dX12_greatestIn_36 : decode cX12_greatestIn 36 = .ok (.iload 4, 2) := by decide +kernel
theorem dX12_greatestIn_38 : decode cX12_greatestIn 38 = .ok (.iload_n 2, 1) := by decide +kernel
theorem dX12_greatestIn_39 : decode cX12_greatestIn 39 = .ok (.invokevirtual 264, 3) := by decide +kernel
theorem dX12_greatestIn_42 : decode cX12_greatestIn 42 = .ok (.istore_n 3, 1) := by decide +kernel
theorem dX12_greatestIn_43 : decode cX12_greatestIn 43 = .ok (.iinc 4 1, 3) := by decide +kernel
theorem dX12_greatestIn_46 : decode cX12_greatestIn 46 = .ok (.goto (-41), 3) := by decide +kernel
theorem dX12_greatestIn_49 : decode cX12_greatestIn 49 = .ok (.iload_n 3, 1) := by decide +kernel
theorem dX12_greatestIn_50 : decode cX12_greatestIn 50 = .ok (.ireturn, 1) := by decide +kernel
theorem dX12_worse_0 : decode cX12_worse 0 = .ok (.aload_n 0, 1) := by decide +kernel
theorem dX12_worse_1 : decode cX12_worse 1 = .ok (.iload_n 1, 1) := by decide +kernel
theorem dX12_worse_2 : decode cX12_worse 2 = .ok (.invokevirtual 258, 3) := by decide +kernel
theorem dX12_worse_5 : decode cX12_worse 5 = .ok (.ifCond .eq 11, 3) := by decide +kernel
theorem dX12_worse_8 : decode cX12_worse 8 = .ok (.aload_n 0, 1) := by decide +kernel
theorem dX12_worse_9 : decode cX12_worse 9 = .ok (.iload_n 1, 1) := by decide +kernel
theorem dX12_worse_10 : decode cX12_worse 10 = .ok (.invokevirtual 261, 3) := by decide +kernel
theorem dX12_worse_13 : decode cX12_worse 13 = .ok (.ifCond .ne 5, 3) := by decide +kernel
theorem dX12_worse_16 : decode cX12_worse 16 = .ok (.iconst (-1), 1) := by decide +kernel
theorem dX12_worse_17 : decode cX12_worse 17 = .ok (.ireturn, 1) := by decide +kernel
theorem dX12_worse_18 : decode cX12_worse 18 = .ok (.aload_n 0, 1) := by decide +kernel
theorem dX12_worse_19 : decode cX12_worse 19 = .ok (.iload_n 2, 1) := by decide +kernel
theorem dX12_worse_20 : decode cX12_worse 20 = .ok (.invokevirtual 189, 3) := by decide +kernel
theorem dX12_worse_23 : decode cX12_worse 23 = .ok (.ifCond .eq 11, 3) := by decide +kernel
theorem dX12_worse_26 : decode cX12_worse 26 = .ok (.aload_n 0, 1) := by decide +kernel
theorem dX12_worse_27 : decode cX12_worse 27 = .ok (.iload_n 3, 1) := by decide +kernel
theorem dX12_worse_28 : decode cX12_worse 28 = .ok (.invokevirtual 189, 3) := by decide +kernel
theorem dX12_worse_31 : decode cX12_worse 31 = .ok (.ifCond .ne 6, 3) := by decide +kernel
theorem dX12_worse_34 : decode cX12_worse 34 = .ok (.bipush (-2), 2) := by decide +kernel
theorem dX12_worse_36 : decode cX12_worse 36 = .ok (.ireturn, 1) := by decide +kernel
theorem dX12_worse_37 : decode cX12_worse 37 = .ok (.iconst 0, 1) := by decide +kernel
theorem dX12_worse_38 : decode cX12_worse 38 = .ok (.istore 4, 2) := by decide +kernel
theorem dX12_worse_40 : decode cX12_worse 40 = .ok (.iconst 0, 1) := by decide +kernel
theorem dX12_worse_41 : decode cX12_worse 41 = .ok (.istore 5, 2) := by decide +kernel
theorem dX12_worse_43 : decode cX12_worse 43 = .ok (.iload 5, 2) := by decide +kernel
theorem dX12_worse_45 : decode cX12_worse 45 = .ok (.aload_n 0, 1) := by decide +kernel
theorem dX12_worse_46 : decode cX12_worse 46 = .ok (.getfield 13, 3) := by decide +kernel
theorem dX12_worse_49 : decode cX12_worse 49 = .ok (.if_icmp .ge 46, 3) := by decide +kernel
theorem dX12_worse_52 : decode cX12_worse 52 = .ok (.iload 4, 2) := by decide +kernel
theorem dX12_worse_54 : decode cX12_worse 54 = .ok (.aload_n 0, 1) := by decide +kernel
theorem dX12_worse_55 : decode cX12_worse 55 = .ok (.iload_n 2, 1) := by decide +kernel
theorem dX12_worse_56 : decode cX12_worse 56 = .ok (.aload_n 0, 1) := by decide +kernel
theorem dX12_worse_57 : decode cX12_worse 57 = .ok (.getfield 32, 3) := by decide +kernel
theorem dX12_worse_60 : decode cX12_worse 60 = .ok (.iload 5, 2) := by decide +kernel
theorem dX12_worse_62 : decode cX12_worse 62 = .ok (.iaload, 1) := by decide +kernel
theorem dX12_worse_63 : decode cX12_worse 63 = .ok (.invokevirtual 341, 3) := by decide +kernel
theorem dX12_worse_66 : decode cX12_worse 66 = .ok (.aload_n 0, 1) := by decide +kernel
theorem dX12_worse_67 : decode cX12_worse 67 = .ok (.iload_n 3, 1) := by decide +kernel
theorem dX12_worse_68 : decode cX12_worse 68 = .ok (.aload_n 0, 1) := by decide +kernel
theorem dX12_worse_69 : decode cX12_worse 69 = .ok (.getfield 32, 3) := by decide +kernel
theorem dX12_worse_72 : decode cX12_worse 72 = .ok (.iload 5, 2) := by decide +kernel
theorem dX12_worse_74 : decode cX12_worse 74 = .ok (.iaload, 1) := by decide +kernel
theorem dX12_worse_75 : decode cX12_worse 75 = .ok (.invokevirtual 341, 3) := by decide +kernel
theorem dX12_worse_78 : decode cX12_worse 78 = .ok (.if_icmp .ge 7, 3) := by decide +kernel
theorem dX12_worse_81 : decode cX12_worse 81 = .ok (.iconst 1, 1) := by decide +kernel
theorem dX12_worse_82 : decode cX12_worse 82 = .ok (.goto 4, 3) := by decide +kernel
theorem dX12_worse_85 : decode cX12_worse 85 = .ok (.iconst 0, 1) := by decide +kernel
theorem dX12_worse_86 : decode cX12_worse 86 = .ok (.iadd, 1) := by decide +kernel
theorem dX12_worse_87 : decode cX12_worse 87 = .ok (.istore 4, 2) := by decide +kernel
theorem dX12_worse_89 : decode cX12_worse 89 = .ok (.iinc 5 1, 3) := by decide +kernel
theorem dX12_worse_92 : decode cX12_worse 92 = .ok (.goto (-49), 3) := by decide +kernel
theorem dX12_worse_95 : decode cX12_worse 95 = .ok (.iload 4, 2) := by decide +kernel
theorem dX12_worse_97 : decode cX12_worse 97 = .ok (.ireturn, 1) := by decide +kernel
theorem dX12_body_0 : decode cX12_body 0 = .ok (.aload_n 0, 1) := by decide +kernel
theorem dX12_body_1 : decode cX12_body 1 = .ok (.getfield 159, 3) := by decide +kernel
theorem dX12_body_4 : decode cX12_body 4 = .ok (.bipush 20, 2) := by decide +kernel
theorem dX12_body_6 : decode cX12_body 6 = .ok (.if_icmp .ge 13, 3) := by decide +kernel
theorem dX12_body_9 : decode cX12_body 9 = .ok (.aload_n 0, 1) := by decide +kernel
theorem dX12_body_10 : decode cX12_body 10 = .ok (.getfield 162, 3) := by decide +kernel
theorem dX12_body_13 : decode cX12_body 13 = .ok (.aload_n 0, 1) := by decide +kernel
theorem dX12_body_14 : decode cX12_body 14 = .ok (.getfield 159, 3) := by decide +kernel
theorem dX12_body_17 : decode cX12_body 17 = .ok (.iload_n 1, 1) := by decide +kernel
theorem dX12_body_18 : decode cX12_body 18 = .ok (.iastore, 1) := by decide +kernel
theorem dX12_body_19 : decode cX12_body 19 = .ok (.aload_n 0, 1) := by decide +kernel
theorem dX12_body_20 : decode cX12_body 20 = .ok (.dup, 1) := by decide +kernel
theorem dX12_body_21 : decode cX12_body 21 = .ok (.getfield 159, 3) := by decide +kernel
theorem dX12_body_24 : decode cX12_body 24 = .ok (.iconst 1, 1) := by decide +kernel
theorem dX12_body_25 : decode cX12_body 25 = .ok (.iadd, 1) := by decide +kernel
theorem dX12_body_26 : decode cX12_body 26 = .ok (.putfield 159, 3) := by decide +kernel
theorem dX12_body_29 : decode cX12_body 29 = .ok (.return_, 1) := by decide +kernel
theorem dX12_plainWeighs_0 : decode cX12_plainWeighs 0 = .ok (.aload_n 0, 1) := by decide +kernel
theorem dX12_plainWeighs_1 : decode cX12_plainWeighs 1 = .ok (.bipush 10, 2) := by decide +kernel
theorem dX12_plainWeighs_3 : decode cX12_plainWeighs 3 = .ok (.invokevirtual 344, 3) := by decide +kernel
theorem dX12_plainWeighs_6 : decode cX12_plainWeighs 6 = .ok (.iload_n 2, 1) := by decide +kernel
theorem dX12_plainWeighs_7 : decode cX12_plainWeighs 7 = .ok (.aload_n 0, 1) := by decide +kernel
theorem dX12_plainWeighs_8 : decode cX12_plainWeighs 8 = .ok (.getfield 65, 3) := by decide +kernel
theorem dX12_plainWeighs_11 : decode cX12_plainWeighs 11 = .ok (.iload_n 1, 1) := by decide +kernel
theorem dX12_plainWeighs_12 : decode cX12_plainWeighs 12 = .ok (.iaload, 1) := by decide +kernel
theorem dX12_plainWeighs_13 : decode cX12_plainWeighs 13 = .ok (.iadd, 1) := by decide +kernel
theorem dX12_plainWeighs_14 : decode cX12_plainWeighs 14 = .ok (.ireturn, 1) := by decide +kernel
theorem dX12_weighs_0 : decode cX12_weighs 0 = .ok (.aload_n 0, 1) := by decide +kernel
theorem dX12_weighs_1 : decode cX12_weighs 1 = .ok (.getfield 56, 3) := by decide +kernel
theorem dX12_weighs_4 : decode cX12_weighs 4 = .ok (.iload_n 1, 1) := by decide +kernel
theorem dX12_weighs_5 : decode cX12_weighs 5 = .ok (.iaload, 1) := by decide +kernel
theorem dX12_weighs_6 : decode cX12_weighs 6 = .ok (.iconst 2, 1) := by decide +kernel
theorem dX12_weighs_7 : decode cX12_weighs 7 = .ok (.if_icmp .ne 18, 3) := by decide +kernel
theorem dX12_weighs_10 : decode cX12_weighs 10 = .ok (.aload_n 0, 1) := by decide +kernel
theorem dX12_weighs_11 : decode cX12_weighs 11 = .ok (.bipush 30, 2) := by decide +kernel
theorem dX12_weighs_13 : decode cX12_weighs 13 = .ok (.invokevirtual 344, 3) := by decide +kernel
theorem dX12_weighs_16 : decode cX12_weighs 16 = .ok (.aload_n 0, 1) := by decide +kernel
theorem dX12_weighs_17 : decode cX12_weighs 17 = .ok (.iload_n 1, 1) := by decide +kernel
theorem dX12_weighs_18 : decode cX12_weighs 18 = .ok (.iload_n 2, 1) := by decide +kernel
theorem dX12_weighs_19 : decode cX12_weighs 19 = .ok (.iconst 3, 1) := by decide +kernel
theorem dX12_weighs_20 : decode cX12_weighs 20 = .ok (.imul, 1) := by decide +kernel
theorem dX12_weighs_21 : decode cX12_weighs 21 = .ok (.invokevirtual 347, 3) := by decide +kernel
theorem dX12_weighs_24 : decode cX12_weighs 24 = .ok (.ireturn, 1) := by decide +kernel
theorem dX12_weighs_25 : decode cX12_weighs 25 = .ok (.aload_n 0, 1) := by decide +kernel
theorem dX12_weighs_26 : decode cX12_weighs 26 = .ok (.getfield 56, 3) := by decide +kernel
theorem dX12_weighs_29 : decode cX12_weighs 29 = .ok (.iload_n 1, 1) := by decide +kernel
theorem dX12_weighs_30 : decode cX12_weighs 30 = .ok (.iaload, 1) := by decide +kernel
theorem dX12_weighs_31 : decode cX12_weighs 31 = .ok (.iconst 5, 1) := by decide +kernel
theorem dX12_weighs_32 : decode cX12_weighs 32 = .ok (.if_icmp .ne 18, 3) := by decide +kernel
theorem dX12_weighs_35 : decode cX12_weighs 35 = .ok (.aload_n 0, 1) := by decide +kernel
theorem dX12_weighs_36 : decode cX12_weighs 36 = .ok (.bipush 60, 2) := by decide +kernel
theorem dX12_weighs_38 : decode cX12_weighs 38 = .ok (.invokevirtual 344, 3) := by decide +kernel
theorem dX12_weighs_41 : decode cX12_weighs 41 = .ok (.aload_n 0, 1) := by decide +kernel
theorem dX12_weighs_42 : decode cX12_weighs 42 = .ok (.iload_n 1, 1) := by decide +kernel
theorem dX12_weighs_43 : decode cX12_weighs 43 = .ok (.iload_n 2, 1) := by decide +kernel
theorem dX12_weighs_44 : decode cX12_weighs 44 = .ok (.invokevirtual 347, 3) := by decide +kernel
theorem dX12_weighs_47 : decode cX12_weighs 47 = .ok (.iload_n 1, 1) := by decide +kernel
theorem dX12_weighs_48 : decode cX12_weighs 48 = .ok (.ixor, 1) := by decide +kernel
theorem dX12_weighs_49 : decode cX12_weighs 49 = .ok (.ireturn, 1) := by decide +kernel
theorem dX12_weighs_50 : decode cX12_weighs 50 = .ok (.aload_n 0, 1) := by decide +kernel
theorem dX12_weighs_51 : decode cX12_weighs 51 = .ok (.iload_n 1, 1) := by decide +kernel
theorem dX12_weighs_52 : decode cX12_weighs 52 = .ok (.iload_n 2, 1) := by decide +kernel
theorem dX12_weighs_53 : decode cX12_weighs 53 = .ok (.invokevirtual 347, 3) := by decide +kernel
theorem dX12_weighs_56 : decode cX12_weighs 56 = .ok (.ireturn, 1) := by decide +kernel
theorem dX12_modelOdds_0 : decode cX12_modelOdds 0 = .ok (.aload_n 0, 1) := by decide +kernel
theorem dX12_modelOdds_1 : decode cX12_modelOdds 1 = .ok (.bipush 11, 2) := by decide +kernel
theorem dX12_modelOdds_3 : decode cX12_modelOdds 3 = .ok (.invokevirtual 344, 3) := by decide +kernel
theorem dX12_modelOdds_6 : decode cX12_modelOdds 6 = .ok (.aload_n 0, 1) := by decide +kernel
theorem dX12_modelOdds_7 : decode cX12_modelOdds 7 = .ok (.iload_n 1, 1) := by decide +kernel
theorem dX12_modelOdds_8 : decode cX12_modelOdds 8 = .ok (.iload_n 2, 1) := by decide +kernel
theorem dX12_modelOdds_9 : decode cX12_modelOdds 9 = .ok (.invokevirtual 350, 3) := by decide +kernel
theorem dX12_modelOdds_12 : decode cX12_modelOdds 12 = .ok (.iload_n 1, 1) := by decide +kernel
theorem dX12_modelOdds_13 : decode cX12_modelOdds 13 = .ok (.isub, 1) := by decide +kernel
theorem dX12_modelOdds_14 : decode cX12_modelOdds 14 = .ok (.ireturn, 1) := by decide +kernel
theorem dX12_plainOdds_0 : decode cX12_plainOdds 0 = .ok (.aload_n 0, 1) := by decide +kernel
theorem dX12_plainOdds_1 : decode cX12_plainOdds 1 = .ok (.bipush 20, 2) := by decide +kernel
theorem dX12_plainOdds_3 : decode cX12_plainOdds 3 = .ok (.invokevirtual 344, 3) := by decide +kernel
theorem dX12_plainOdds_6 : decode cX12_plainOdds 6 = .ok (.aload_n 0, 1) := by decide +kernel
theorem dX12_plainOdds_7 : decode cX12_plainOdds 7 = .ok (.iload_n 1, 1) := by decide +kernel
theorem dX12_plainOdds_8 : decode cX12_plainOdds 8 = .ok (.iload_n 2, 1) := by decide +kernel
theorem dX12_plainOdds_9 : decode cX12_plainOdds 9 = .ok (.invokevirtual 353, 3) := by decide +kernel
theorem dX12_plainOdds_12 : decode cX12_plainOdds 12 = .ok (.bipush 6, 2) := by decide +kernel
theorem dX12_plainOdds_14 : decode cX12_plainOdds 14 = .ok (.ixor, 1) := by decide +kernel
theorem dX12_plainOdds_15 : decode cX12_plainOdds 15 = .ok (.ireturn, 1) := by decide +kernel
theorem dX12_oddsBy_0 : decode cX12_oddsBy 0 = .ok (.aload_n 0, 1) := by decide +kernel
theorem dX12_oddsBy_1 : decode cX12_oddsBy 1 = .ok (.getfield 56, 3) := by decide +kernel
theorem dX12_oddsBy_4 : decode cX12_oddsBy 4 = .ok (.iload_n 1, 1) := by decide +kernel
theorem dX12_oddsBy_5 : decode cX12_oddsBy 5 = .ok (.iaload, 1) := by decide +kernel
theorem dX12_oddsBy_6 : decode cX12_oddsBy 6 = .ok (.iconst 1, 1) := by decide +kernel
theorem dX12_oddsBy_7 : decode cX12_oddsBy 7 = .ok (.if_icmp .eq 13, 3) := by decide +kernel
theorem dX12_oddsBy_10 : decode cX12_oddsBy 10 = .ok (.aload_n 0, 1) := by decide +kernel
theorem dX12_oddsBy_11 : decode cX12_oddsBy 11 = .ok (.getfield 56, 3) := by decide +kernel
theorem dX12_oddsBy_14 : decode cX12_oddsBy 14 = .ok (.iload_n 1, 1) := by decide +kernel
theorem dX12_oddsBy_15 : decode cX12_oddsBy 15 = .ok (.iaload, 1) := by decide +kernel
theorem dX12_oddsBy_16 : decode cX12_oddsBy 16 = .ok (.iconst 2, 1) := by decide +kernel
theorem dX12_oddsBy_17 : decode cX12_oddsBy 17 = .ok (.if_icmp .ne 10, 3) := by decide +kernel
theorem dX12_oddsBy_20 : decode cX12_oddsBy 20 = .ok (.aload_n 0, 1) := by decide +kernel
theorem dX12_oddsBy_21 : decode cX12_oddsBy 21 = .ok (.iload_n 1, 1) := by decide +kernel
theorem dX12_oddsBy_22 : decode cX12_oddsBy 22 = .ok (.iload_n 2, 1) := by decide +kernel
theorem dX12_oddsBy_23 : decode cX12_oddsBy 23 = .ok (.invokevirtual 356, 3) := by decide +kernel
theorem dX12_oddsBy_26 : decode cX12_oddsBy 26 = .ok (.ireturn, 1) := by decide +kernel
theorem dX12_oddsBy_27 : decode cX12_oddsBy 27 = .ok (.aload_n 0, 1) := by decide +kernel
theorem dX12_oddsBy_28 : decode cX12_oddsBy 28 = .ok (.getfield 56, 3) := by decide +kernel
theorem dX12_oddsBy_31 : decode cX12_oddsBy 31 = .ok (.iload_n 1, 1) := by decide +kernel
theorem dX12_oddsBy_32 : decode cX12_oddsBy 32 = .ok (.iaload, 1) := by decide +kernel
theorem dX12_oddsBy_33 : decode cX12_oddsBy 33 = .ok (.iconst 3, 1) := by decide +kernel
theorem dX12_oddsBy_34 : decode cX12_oddsBy 34 = .ok (.if_icmp .ne 17, 3) := by decide +kernel
theorem dX12_oddsBy_37 : decode cX12_oddsBy 37 = .ok (.aload_n 0, 1) := by decide +kernel
theorem dX12_oddsBy_38 : decode cX12_oddsBy 38 = .ok (.bipush 40, 2) := by decide +kernel
theorem dX12_oddsBy_40 : decode cX12_oddsBy 40 = .ok (.invokevirtual 344, 3) := by decide +kernel
theorem dX12_oddsBy_43 : decode cX12_oddsBy 43 = .ok (.aload_n 0, 1) := by decide +kernel
theorem dX12_oddsBy_44 : decode cX12_oddsBy 44 = .ok (.iload_n 1, 1) := by decide +kernel
theorem dX12_oddsBy_45 : decode cX12_oddsBy 45 = .ok (.iload_n 2, 1) := by decide +kernel
theorem dX12_oddsBy_46 : decode cX12_oddsBy 46 = .ok (.invokevirtual 356, 3) := by decide +kernel
theorem dX12_oddsBy_49 : decode cX12_oddsBy 49 = .ok (.ineg, 1) := by decide +kernel
theorem dX12_oddsBy_50 : decode cX12_oddsBy 50 = .ok (.ireturn, 1) := by decide +kernel
theorem dX12_oddsBy_51 : decode cX12_oddsBy 51 = .ok (.aload_n 0, 1) := by decide +kernel
theorem dX12_oddsBy_52 : decode cX12_oddsBy 52 = .ok (.getfield 56, 3) := by decide +kernel
theorem dX12_oddsBy_55 : decode cX12_oddsBy 55 = .ok (.iload_n 1, 1) := by decide +kernel
theorem dX12_oddsBy_56 : decode cX12_oddsBy 56 = .ok (.iaload, 1) := by decide +kernel
theorem dX12_oddsBy_57 : decode cX12_oddsBy 57 = .ok (.iconst 4, 1) := by decide +kernel
theorem dX12_oddsBy_58 : decode cX12_oddsBy 58 = .ok (.if_icmp .ne 25, 3) := by decide +kernel
theorem dX12_oddsBy_61 : decode cX12_oddsBy 61 = .ok (.aload_n 0, 1) := by decide +kernel
theorem dX12_oddsBy_62 : decode cX12_oddsBy 62 = .ok (.bipush 51, 2) := by decide +kernel
theorem dX12_oddsBy_64 : decode cX12_oddsBy 64 = .ok (.invokevirtual 344, 3) := by decide +kernel
theorem dX12_oddsBy_67 : decode cX12_oddsBy 67 = .ok (.aload_n 0, 1) := by decide +kernel
theorem dX12_oddsBy_68 : decode cX12_oddsBy 68 = .ok (.iload_n 1, 1) := by decide +kernel
theorem dX12_oddsBy_69 : decode cX12_oddsBy 69 = .ok (.iload_n 2, 1) := by decide +kernel
theorem dX12_oddsBy_70 : decode cX12_oddsBy 70 = .ok (.invokevirtual 356, 3) := by decide +kernel
theorem dX12_oddsBy_73 : decode cX12_oddsBy 73 = .ok (.istore_n 3, 1) := by decide +kernel
theorem dX12_oddsBy_74 : decode cX12_oddsBy 74 = .ok (.iload_n 3, 1) := by decide +kernel
theorem dX12_oddsBy_75 : decode cX12_oddsBy 75 = .ok (.aload_n 0, 1) := by decide +kernel
theorem dX12_oddsBy_76 : decode cX12_oddsBy 76 = .ok (.iload_n 1, 1) := by decide +kernel
theorem dX12_oddsBy_77 : decode cX12_oddsBy 77 = .ok (.iconst 2, 1) := by decide +kernel
theorem dX12_oddsBy_78 : decode cX12_oddsBy 78 = .ok (.invokevirtual 347, 3) := by decide +kernel
theorem dX12_oddsBy_81 : decode cX12_oddsBy 81 = .ok (.iadd, 1) := by decide +kernel
theorem dX12_oddsBy_82 : decode cX12_oddsBy 82 = .ok (.ireturn, 1) := by decide +kernel
theorem dX12_oddsBy_83 : decode cX12_oddsBy 83 = .ok (.aload_n 0, 1) := by decide +kernel
theorem dX12_oddsBy_84 : decode cX12_oddsBy 84 = .ok (.iload_n 1, 1) := by decide +kernel
theorem dX12_oddsBy_85 : decode cX12_oddsBy 85 = .ok (.iload_n 2, 1) := by decide +kernel
theorem dX12_oddsBy_86 : decode cX12_oddsBy 86 = .ok (.invokevirtual 353, 3) := by decide +kernel
theorem dX12_oddsBy_89 : decode cX12_oddsBy 89 = .ok (.ireturn, 1) := by decide +kernel
theorem dX12_plainTells_0 : decode cX12_plainTells 0 = .ok (.aload_n 0, 1) := by decide +kernel
theorem dX12_plainTells_1 : decode cX12_plainTells 1 = .ok (.bipush 12, 2) := by decide +kernel
theorem dX12_plainTells_3 : decode cX12_plainTells 3 = .ok (.invokevirtual 344, 3) := by decide +kernel
theorem dX12_plainTells_6 : decode cX12_plainTells 6 = .ok (.aload_n 0, 1) := by decide +kernel
theorem dX12_plainTells_7 : decode cX12_plainTells 7 = .ok (.iload_n 1, 1) := by decide +kernel
theorem dX12_plainTells_8 : decode cX12_plainTells 8 = .ok (.iload_n 2, 1) := by decide +kernel
theorem dX12_plainTells_9 : decode cX12_plainTells 9 = .ok (.invokevirtual 359, 3) := by decide +kernel
theorem dX12_plainTells_12 : decode cX12_plainTells 12 = .ok (.iconst 2, 1) := by decide +kernel
theorem dX12_plainTells_13 : decode cX12_plainTells 13 = .ok (.imul, 1) := by decide +kernel
theorem dX12_plainTells_14 : decode cX12_plainTells 14 = .ok (.ireturn, 1) := by decide +kernel
theorem dX12_tells_0 : decode cX12_tells 0 = .ok (.aload_n 0, 1) := by decide +kernel
theorem dX12_tells_1 : decode cX12_tells 1 = .ok (.getfield 56, 3) := by decide +kernel
theorem dX12_tells_4 : decode cX12_tells 4 = .ok (.iload_n 1, 1) := by decide +kernel
theorem dX12_tells_5 : decode cX12_tells 5 = .ok (.iaload, 1) := by decide +kernel
theorem dX12_tells_6 : decode cX12_tells 6 = .ok (.iconst 2, 1) := by decide +kernel
theorem dX12_tells_7 : decode cX12_tells 7 = .ok (.if_icmp .ne 25, 3) := by decide +kernel
theorem dX12_tells_10 : decode cX12_tells 10 = .ok (.aload_n 0, 1) := by decide +kernel
theorem dX12_tells_11 : decode cX12_tells 11 = .ok (.bipush 31, 2) := by decide +kernel
theorem dX12_tells_13 : decode cX12_tells 13 = .ok (.invokevirtual 344, 3) := by decide +kernel
theorem dX12_tells_16 : decode cX12_tells 16 = .ok (.aload_n 0, 1) := by decide +kernel
theorem dX12_tells_17 : decode cX12_tells 17 = .ok (.iload_n 1, 1) := by decide +kernel
theorem dX12_tells_18 : decode cX12_tells 18 = .ok (.iload_n 2, 1) := by decide +kernel
theorem dX12_tells_19 : decode cX12_tells 19 = .ok (.invokevirtual 362, 3) := by decide +kernel
theorem dX12_tells_22 : decode cX12_tells 22 = .ok (.istore_n 3, 1) := by decide +kernel
theorem dX12_tells_23 : decode cX12_tells 23 = .ok (.iload_n 3, 1) := by decide +kernel
theorem dX12_tells_24 : decode cX12_tells 24 = .ok (.aload_n 0, 1) := by decide +kernel
theorem dX12_tells_25 : decode cX12_tells 25 = .ok (.iload_n 1, 1) := by decide +kernel
theorem dX12_tells_26 : decode cX12_tells 26 = .ok (.iconst 1, 1) := by decide +kernel
theorem dX12_tells_27 : decode cX12_tells 27 = .ok (.invokevirtual 359, 3) := by decide +kernel
theorem dX12_tells_30 : decode cX12_tells 30 = .ok (.iadd, 1) := by decide +kernel
theorem dX12_tells_31 : decode cX12_tells 31 = .ok (.ireturn, 1) := by decide +kernel
theorem dX12_tells_32 : decode cX12_tells 32 = .ok (.aload_n 0, 1) := by decide +kernel
theorem dX12_tells_33 : decode cX12_tells 33 = .ok (.getfield 56, 3) := by decide +kernel
theorem dX12_tells_36 : decode cX12_tells 36 = .ok (.iload_n 1, 1) := by decide +kernel
theorem dX12_tells_37 : decode cX12_tells 37 = .ok (.iaload, 1) := by decide +kernel
theorem dX12_tells_38 : decode cX12_tells 38 = .ok (.iconst 4, 1) := by decide +kernel
theorem dX12_tells_39 : decode cX12_tells 39 = .ok (.if_icmp .ne 23, 3) := by decide +kernel
theorem dX12_tells_42 : decode cX12_tells 42 = .ok (.aload_n 0, 1) := by decide +kernel
theorem dX12_tells_43 : decode cX12_tells 43 = .ok (.bipush 50, 2) := by decide +kernel
theorem dX12_tells_45 : decode cX12_tells 45 = .ok (.invokevirtual 344, 3) := by decide +kernel
theorem dX12_tells_48 : decode cX12_tells 48 = .ok (.aload_n 0, 1) := by decide +kernel
theorem dX12_tells_49 : decode cX12_tells 49 = .ok (.iload_n 1, 1) := by decide +kernel
theorem dX12_tells_50 : decode cX12_tells 50 = .ok (.iload_n 2, 1) := by decide +kernel
theorem dX12_tells_51 : decode cX12_tells 51 = .ok (.aload_n 0, 1) := by decide +kernel
theorem dX12_tells_52 : decode cX12_tells 52 = .ok (.getfield 65, 3) := by decide +kernel
theorem dX12_tells_55 : decode cX12_tells 55 = .ok (.iload_n 1, 1) := by decide +kernel
theorem dX12_tells_56 : decode cX12_tells 56 = .ok (.iaload, 1) := by decide +kernel
theorem dX12_tells_57 : decode cX12_tells 57 = .ok (.isub, 1) := by decide +kernel
theorem dX12_tells_58 : decode cX12_tells 58 = .ok (.invokevirtual 362, 3) := by decide +kernel
theorem dX12_tells_61 : decode cX12_tells 61 = .ok (.ireturn, 1) := by decide +kernel
theorem dX12_tells_62 : decode cX12_tells 62 = .ok (.aload_n 0, 1) := by decide +kernel
theorem dX12_tells_63 : decode cX12_tells 63 = .ok (.getfield 56, 3) := by decide +kernel
theorem dX12_tells_66 : decode cX12_tells 66 = .ok (.iload_n 1, 1) := by decide +kernel
theorem dX12_tells_67 : decode cX12_tells 67 = .ok (.iaload, 1) := by decide +kernel
theorem dX12_tells_68 : decode cX12_tells 68 = .ok (.iconst 5, 1) := by decide +kernel
theorem dX12_tells_69 : decode cX12_tells 69 = .ok (.if_icmp .ne 25, 3) := by decide +kernel
theorem dX12_tells_72 : decode cX12_tells 72 = .ok (.aload_n 0, 1) := by decide +kernel
theorem dX12_tells_73 : decode cX12_tells 73 = .ok (.bipush 61, 2) := by decide +kernel
theorem dX12_tells_75 : decode cX12_tells 75 = .ok (.invokevirtual 344, 3) := by decide +kernel
theorem dX12_tells_78 : decode cX12_tells 78 = .ok (.aload_n 0, 1) := by decide +kernel
theorem dX12_tells_79 : decode cX12_tells 79 = .ok (.iload_n 1, 1) := by decide +kernel
theorem dX12_tells_80 : decode cX12_tells 80 = .ok (.iload_n 2, 1) := by decide +kernel
theorem dX12_tells_81 : decode cX12_tells 81 = .ok (.invokevirtual 359, 3) := by decide +kernel
theorem dX12_tells_84 : decode cX12_tells 84 = .ok (.istore_n 3, 1) := by decide +kernel
theorem dX12_tells_85 : decode cX12_tells 85 = .ok (.iload_n 3, 1) := by decide +kernel
theorem dX12_tells_86 : decode cX12_tells 86 = .ok (.aload_n 0, 1) := by decide +kernel
theorem dX12_tells_87 : decode cX12_tells 87 = .ok (.iload_n 1, 1) := by decide +kernel
theorem dX12_tells_88 : decode cX12_tells 88 = .ok (.iload_n 2, 1) := by decide +kernel
theorem dX12_tells_89 : decode cX12_tells 89 = .ok (.invokevirtual 362, 3) := by decide +kernel
theorem dX12_tells_92 : decode cX12_tells 92 = .ok (.isub, 1) := by decide +kernel
theorem dX12_tells_93 : decode cX12_tells 93 = .ok (.ireturn, 1) := by decide +kernel
theorem dX12_tells_94 : decode cX12_tells 94 = .ok (.aload_n 0, 1) := by decide +kernel
theorem dX12_tells_95 : decode cX12_tells 95 = .ok (.iload_n 1, 1) := by decide +kernel
theorem dX12_tells_96 : decode cX12_tells 96 = .ok (.iload_n 2, 1) := by decide +kernel
theorem dX12_tells_97 : decode cX12_tells 97 = .ok (.invokevirtual 362, 3) := by decide +kernel
theorem dX12_tells_100 : decode cX12_tells 100 = .ok (.ireturn, 1) := by decide +kernel
theorem dX12_act_0 : decode cX12_act 0 = .ok (.aload_n 0, 1) := by decide +kernel
theorem dX12_act_1 : decode cX12_act 1 = .ok (.iconst 0, 1) := by decide +kernel
theorem dX12_act_2 : decode cX12_act 2 = .ok (.putfield 159, 3) := by decide +kernel
theorem dX12_act_5 : decode cX12_act 5 = .ok (.aload_n 0, 1) := by decide +kernel
theorem dX12_act_6 : decode cX12_act 6 = .ok (.iload_n 1, 1) := by decide +kernel
theorem dX12_act_7 : decode cX12_act 7 = .ok (.invokevirtual 258, 3) := by decide +kernel
theorem dX12_act_10 : decode cX12_act 10 = .ok (.ifCond .eq 13, 3) := by decide +kernel
theorem dX12_act_13 : decode cX12_act 13 = .ok (.aload_n 0, 1) := by decide +kernel
theorem dX12_act_14 : decode cX12_act 14 = .ok (.iload_n 2, 1) := by decide +kernel
theorem dX12_act_15 : decode cX12_act 15 = .ok (.iconst 0, 1) := by decide +kernel
theorem dX12_act_16 : decode cX12_act 16 = .ok (.iconst 2, 1) := by decide +kernel
theorem dX12_act_17 : decode cX12_act 17 = .ok (.invokevirtual 178, 3) := by decide +kernel
theorem dX12_act_20 : decode cX12_act 20 = .ok (.ifCond .ne 5, 3) := by decide +kernel
theorem dX12_act_23 : decode cX12_act 23 = .ok (.iconst 0, 1) := by decide +kernel
theorem dX12_act_24 : decode cX12_act 24 = .ok (.ireturn, 1) := by decide +kernel
theorem dX12_act_25 : decode cX12_act 25 = .ok (.iload_n 2, 1) := by decide +kernel
theorem dX12_act_26 : decode cX12_act 26 = .ok (.ifCond .ne 12, 3) := by decide +kernel
theorem dX12_act_29 : decode cX12_act 29 = .ok (.aload_n 0, 1) := by decide +kernel
theorem dX12_act_30 : decode cX12_act 30 = .ok (.iload_n 1, 1) := by decide +kernel
theorem dX12_act_31 : decode cX12_act 31 = .ok (.iload_n 3, 1) := by decide +kernel
theorem dX12_act_32 : decode cX12_act 32 = .ok (.invokevirtual 350, 3) := by decide +kernel
theorem dX12_act_35 : decode cX12_act 35 = .ok (.goto 23, 3) := by decide +kernel
theorem dX12_act_38 : decode cX12_act 38 = .ok (.iload_n 2, 1) := by decide +kernel
theorem dX12_act_39 : decode cX12_act 39 = .ok (.iconst 1, 1) := by decide +kernel
theorem dX12_act_40 : decode cX12_act 40 = .ok (.if_icmp .ne 12, 3) := by decide +kernel
theorem dX12_act_43 : decode cX12_act 43 = .ok (.aload_n 0, 1) := by decide +kernel
theorem dX12_act_44 : decode cX12_act 44 = .ok (.iload_n 1, 1) := by decide +kernel
theorem dX12_act_45 : decode cX12_act 45 = .ok (.iload_n 3, 1) := by decide +kernel
theorem dX12_act_46 : decode cX12_act 46 = .ok (.invokevirtual 359, 3) := by decide +kernel
theorem dX12_act_49 : decode cX12_act 49 = .ok (.goto 9, 3) := by decide +kernel
theorem dX12_act_52 : decode cX12_act 52 = .ok (.aload_n 0, 1) := by decide +kernel
theorem dX12_act_53 : decode cX12_act 53 = .ok (.iload_n 1, 1) := by decide +kernel
theorem dX12_act_54 : decode cX12_act 54 = .ok (.iload_n 3, 1) := by decide +kernel
theorem dX12_act_55 : decode cX12_act 55 = .ok (.invokevirtual 365, 3) := by decide +kernel
theorem dX12_act_58 : decode cX12_act 58 = .ok (.ireturn, 1) := by decide +kernel
theorem dX12_trace_0 : decode cX12_trace 0 = .ok (.aload_n 0, 1) := by decide +kernel
theorem dX12_trace_1 : decode cX12_trace 1 = .ok (.iload_n 1, 1) := by decide +kernel
theorem dX12_trace_2 : decode cX12_trace 2 = .ok (.iconst 0, 1) := by decide +kernel
theorem dX12_trace_3 : decode cX12_trace 3 = .ok (.bipush 19, 2) := by decide +kernel
theorem dX12_trace_5 : decode cX12_trace 5 = .ok (.invokevirtual 178, 3) := by decide +kernel
theorem dX12_trace_8 : decode cX12_trace 8 = .ok (.ifCond .eq 20, 3) := by decide +kernel
theorem dX12_trace_11 : decode cX12_trace 11 = .ok (.iload_n 1, 1) := by decide +kernel
theorem dX12_trace_12 : decode cX12_trace 12 = .ok (.aload_n 0, 1) := by decide +kernel
theorem dX12_trace_13 : decode cX12_trace 13 = .ok (.getfield 159, 3) := by decide +kernel
theorem dX12_trace_16 : decode cX12_trace 16 = .ok (.if_icmp .ge 12, 3) := by decide +kernel
theorem dX12_trace_19 : decode cX12_trace 19 = .ok (.aload_n 0, 1) := by decide +kernel
theorem dX12_trace_20 : decode cX12_trace 20 = .ok (.getfield 162, 3) := by decide +kernel
theorem dX12_trace_23 : decode cX12_trace 23 = .ok (.iload_n 1, 1) := by decide +kernel
theorem dX12_trace_24 : decode cX12_trace 24 = .ok (.iaload, 1) := by decide +kernel
theorem dX12_trace_25 : decode cX12_trace 25 = .ok (.goto 4, 3) := by decide +kernel
theorem dX12_trace_28 : decode cX12_trace 28 = .ok (.iconst (-1), 1) := by decide +kernel
theorem dX12_trace_29 : decode cX12_trace 29 = .ok (.ireturn, 1) := by decide +kernel
theorem dX12_taken_0 : decode cX12_taken 0 = .ok (.aload_n 0, 1) := by decide +kernel
theorem dX12_taken_1 : decode cX12_taken 1 = .ok (.iload_n 2, 1) := by decide +kernel
theorem dX12_taken_2 : decode cX12_taken 2 = .ok (.iconst 0, 1) := by decide +kernel
theorem dX12_taken_3 : decode cX12_taken 3 = .ok (.iconst 5, 1) := by decide +kernel
theorem dX12_taken_4 : decode cX12_taken 4 = .ok (.invokevirtual 178, 3) := by decide +kernel
theorem dX12_taken_7 : decode cX12_taken 7 = .ok (.ifCond .ne 6, 3) := by decide +kernel
theorem dX12_taken_10 : decode cX12_taken 10 = .ok (.bipush (-2), 2) := by decide +kernel
theorem dX12_taken_12 : decode cX12_taken 12 = .ok (.ireturn, 1) := by decide +kernel
theorem dX12_taken_13 : decode cX12_taken 13 = .ok (.aload_n 0, 1) := by decide +kernel
theorem dX12_taken_14 : decode cX12_taken 14 = .ok (.iload_n 1, 1) := by decide +kernel
theorem dX12_taken_15 : decode cX12_taken 15 = .ok (.invokevirtual 258, 3) := by decide +kernel
theorem dX12_taken_18 : decode cX12_taken 18 = .ok (.ifCond .ne 6, 3) := by decide +kernel
theorem dX12_taken_21 : decode cX12_taken 21 = .ok (.bipush (-11), 2) := by decide +kernel
theorem dX12_taken_23 : decode cX12_taken 23 = .ok (.ireturn, 1) := by decide +kernel
theorem dX12_taken_24 : decode cX12_taken 24 = .ok (.iload_n 2, 1) := by decide +kernel
theorem dX12_taken_25 : decode cX12_taken 25 = .ok (.ifCond .eq 33, 3) := by decide +kernel
theorem dX12_taken_28 : decode cX12_taken 28 = .ok (.aload_n 0, 1) := by decide +kernel
theorem dX12_taken_29 : decode cX12_taken 29 = .ok (.getfield 56, 3) := by decide +kernel
theorem dX12_taken_32 : decode cX12_taken 32 = .ok (.iload_n 1, 1) := by decide +kernel
theorem dX12_taken_33 : decode cX12_taken 33 = .ok (.iaload, 1) := by decide +kernel
theorem dX12_taken_34 : decode cX12_taken 34 = .ok (.iload_n 2, 1) := by decide +kernel
theorem dX12_taken_35 : decode cX12_taken 35 = .ok (.if_icmp .eq 23, 3) := by decide +kernel
theorem dX12_taken_38 : decode cX12_taken 38 = .ok (.iload_n 2, 1) := by decide +kernel
theorem dX12_taken_39 : decode cX12_taken 39 = .ok (.iconst 1, 1) := by decide +kernel
theorem dX12_taken_40 : decode cX12_taken 40 = .ok (.if_icmp .ne 27, 3) := by decide +kernel
theorem dX12_taken_43 : decode cX12_taken 43 = .ok (.aload_n 0, 1) := by decide +kernel
theorem dX12_taken_44 : decode cX12_taken 44 = .ok (.aload_n 0, 1) := by decide +kernel
theorem dX12_taken_45 : decode cX12_taken 45 = .ok (.getfield 56, 3) := by decide +kernel
theorem dX12_taken_48 : decode cX12_taken 48 = .ok (.iload_n 1, 1) := by decide +kernel
theorem dX12_taken_49 : decode cX12_taken 49 = .ok (.iaload, 1) := by decide +kernel
theorem dX12_taken_50 : decode cX12_taken 50 = .ok (.iconst 2, 1) := by decide +kernel
theorem dX12_taken_51 : decode cX12_taken 51 = .ok (.iconst 4, 1) := by decide +kernel
theorem dX12_taken_52 : decode cX12_taken 52 = .ok (.invokevirtual 178, 3) := by decide +kernel
theorem dX12_taken_55 : decode cX12_taken 55 = .ok (.ifCond .eq 12, 3) := by decide +kernel
theorem dX12_taken_58 : decode cX12_taken 58 = .ok (.aload_n 0, 1) := by decide +kernel
theorem dX12_taken_59 : decode cX12_taken 59 = .ok (.getfield 56, 3) := by decide +kernel
theorem dX12_taken_62 : decode cX12_taken 62 = .ok (.iload_n 1, 1) := by decide +kernel
theorem dX12_taken_63 : decode cX12_taken 63 = .ok (.iaload, 1) := by decide +kernel
theorem dX12_taken_64 : decode cX12_taken 64 = .ok (.goto 5, 3) := by decide +kernel
theorem dX12_taken_67 : decode cX12_taken 67 = .ok (.bipush (-12), 2) := by decide +kernel
theorem dX12_taken_69 : decode cX12_taken 69 = .ok (.ireturn, 1) := by decide +kernel
theorem dX12_count_0 : decode cX12_count 0 = .ok (.iload_n 1, 1) := by decide +kernel
theorem dX12_count_1 : decode cX12_count 1 = .ok (.tableswitch 87 0 7 #[47, 52, 57, 62, 67, 72, 77, 82], 47) := by decide +kernel
theorem dX12_count_48 : decode cX12_count 48 = .ok (.aload_n 0, 1) := by decide +kernel
theorem dX12_count_49 : decode cX12_count 49 = .ok (.getfield 7, 3) := by decide +kernel
theorem dX12_count_52 : decode cX12_count 52 = .ok (.ireturn, 1) := by decide +kernel
theorem dX12_count_53 : decode cX12_count 53 = .ok (.aload_n 0, 1) := by decide +kernel
theorem dX12_count_54 : decode cX12_count 54 = .ok (.getfield 13, 3) := by decide +kernel
theorem dX12_count_57 : decode cX12_count 57 = .ok (.ireturn, 1) := by decide +kernel
theorem dX12_count_58 : decode cX12_count 58 = .ok (.aload_n 0, 1) := by decide +kernel
theorem dX12_count_59 : decode cX12_count 59 = .ok (.getfield 16, 3) := by decide +kernel
theorem dX12_count_62 : decode cX12_count 62 = .ok (.ireturn, 1) := by decide +kernel
theorem dX12_count_63 : decode cX12_count 63 = .ok (.aload_n 0, 1) := by decide +kernel
theorem dX12_count_64 : decode cX12_count 64 = .ok (.getfield 50, 3) := by decide +kernel
theorem dX12_count_67 : decode cX12_count 67 = .ok (.ireturn, 1) := by decide +kernel
theorem dX12_count_68 : decode cX12_count 68 = .ok (.aload_n 0, 1) := by decide +kernel
theorem dX12_count_69 : decode cX12_count 69 = .ok (.getfield 53, 3) := by decide +kernel
theorem dX12_count_72 : decode cX12_count 72 = .ok (.ireturn, 1) := by decide +kernel
theorem dX12_count_73 : decode cX12_count 73 = .ok (.aload_n 0, 1) := by decide +kernel
theorem dX12_count_74 : decode cX12_count 74 = .ok (.getfield 19, 3) := by decide +kernel
theorem dX12_count_77 : decode cX12_count 77 = .ok (.ireturn, 1) := by decide +kernel
theorem dX12_count_78 : decode cX12_count 78 = .ok (.aload_n 0, 1) := by decide +kernel
theorem dX12_count_79 : decode cX12_count 79 = .ok (.invokevirtual 314, 3) := by decide +kernel
theorem dX12_count_82 : decode cX12_count 82 = .ok (.ireturn, 1) := by decide +kernel
theorem dX12_count_83 : decode cX12_count 83 = .ok (.aload_n 0, 1) := by decide +kernel
theorem dX12_count_84 : decode cX12_count 84 = .ok (.getfield 159, 3) := by decide +kernel
theorem dX12_count_87 : decode cX12_count 87 = .ok (.ireturn, 1) := by decide +kernel
theorem dX12_count_88 : decode cX12_count 88 = .ok (.bipush (-2), 2) := by decide +kernel
theorem dX12_count_90 : decode cX12_count 90 = .ok (.ireturn, 1) := by decide +kernel
theorem dX12_isTape_0 : decode cX12_isTape 0 = .ok (.aload_n 0, 1) := by decide +kernel
theorem dX12_isTape_1 : decode cX12_isTape 1 = .ok (.iload_n 1, 1) := by decide +kernel
theorem dX12_isTape_2 : decode cX12_isTape 2 = .ok (.iconst 0, 1) := by decide +kernel
theorem dX12_isTape_3 : decode cX12_isTape 3 = .ok (.iconst 5, 1) := by decide +kernel
theorem dX12_isTape_4 : decode cX12_isTape 4 = .ok (.invokevirtual 178, 3) := by decide +kernel
theorem dX12_isTape_7 : decode cX12_isTape 7 = .ok (.ireturn, 1) := by decide +kernel
theorem dX12_sheet_0 : decode cX12_sheet 0 = .ok (.aload_n 0, 1) := by decide +kernel
theorem dX12_sheet_1 : decode cX12_sheet 1 = .ok (.iload_n 1, 1) := by decide +kernel
theorem dX12_sheet_2 : decode cX12_sheet 2 = .ok (.invokevirtual 368, 3) := by decide +kernel
theorem dX12_sheet_5 : decode cX12_sheet 5 = .ok (.ifCond .eq 12, 3) := by decide +kernel
theorem dX12_sheet_8 : decode cX12_sheet 8 = .ok (.aload_n 0, 1) := by decide +kernel
theorem dX12_sheet_9 : decode cX12_sheet 9 = .ok (.iload 4, 2) := by decide +kernel
theorem dX12_sheet_11 : decode cX12_sheet 11 = .ok (.invokevirtual 186, 3) := by decide +kernel
theorem dX12_sheet_14 : decode cX12_sheet 14 = .ok (.ifCond .ne 5, 3) := by decide +kernel
theorem dX12_sheet_17 : decode cX12_sheet 17 = .ok (.iconst (-1), 1) := by decide +kernel
theorem dX12_sheet_18 : decode cX12_sheet 18 = .ok (.ireturn, 1) := by decide +kernel
theorem dX12_sheet_19 : decode cX12_sheet 19 = .ok (.aload_n 0, 1) := by decide +kernel
theorem dX12_sheet_20 : decode cX12_sheet 20 = .ok (.iload_n 3, 1) := by decide +kernel
theorem dX12_sheet_21 : decode cX12_sheet 21 = .ok (.iconst 1, 1) := by decide +kernel
theorem dX12_sheet_22 : decode cX12_sheet 22 = .ok (.bipush 20, 2) := by decide +kernel
theorem dX12_sheet_24 : decode cX12_sheet 24 = .ok (.invokevirtual 178, 3) := by decide +kernel
theorem dX12_sheet_27 : decode cX12_sheet 27 = .ok (.ifCond .ne 6, 3) := by decide +kernel
theorem dX12_sheet_30 : decode cX12_sheet 30 = .ok (.bipush (-2), 2) := by decide +kernel
theorem dX12_sheet_32 : decode cX12_sheet 32 = .ok (.ireturn, 1) := by decide +kernel
theorem dX12_sheet_33 : decode cX12_sheet 33 = .ok (.aload_n 0, 1) := by decide +kernel
theorem dX12_sheet_34 : decode cX12_sheet 34 = .ok (.getfield 165, 3) := by decide +kernel
theorem dX12_sheet_37 : decode cX12_sheet 37 = .ok (.iload_n 1, 1) := by decide +kernel
theorem dX12_sheet_38 : decode cX12_sheet 38 = .ok (.iaload, 1) := by decide +kernel
theorem dX12_sheet_39 : decode cX12_sheet 39 = .ok (.ifCond .lt 16, 3) := by decide +kernel
theorem dX12_sheet_42 : decode cX12_sheet 42 = .ok (.aload_n 0, 1) := by decide +kernel
theorem dX12_sheet_43 : decode cX12_sheet 43 = .ok (.getfield 165, 3) := by decide +kernel
theorem dX12_sheet_46 : decode cX12_sheet 46 = .ok (.iload_n 1, 1) := by decide +kernel
theorem dX12_sheet_47 : decode cX12_sheet 47 = .ok (.iaload, 1) := by decide +kernel
theorem dX12_sheet_48 : decode cX12_sheet 48 = .ok (.iconst 3, 1) := by decide +kernel
theorem dX12_sheet_49 : decode cX12_sheet 49 = .ok (.if_icmp .eq 6, 3) := by decide +kernel
theorem dX12_sheet_52 : decode cX12_sheet 52 = .ok (.bipush (-12), 2) := by decide +kernel
theorem dX12_sheet_54 : decode cX12_sheet 54 = .ok (.ireturn, 1) := by decide +kernel
theorem dX12_sheet_55 : decode cX12_sheet 55 = .ok (.iconst 0, 1) := by decide +kernel
theorem dX12_sheet_56 : decode cX12_sheet 56 = .ok (.istore 5, 2) := by decide +kernel
theorem dX12_sheet_58 : decode cX12_sheet 58 = .ok (.iconst 0, 1) := by decide +kernel
theorem dX12_sheet_59 : decode cX12_sheet 59 = .ok (.istore 6, 2) := by decide +kernel
theorem dX12_sheet_61 : decode cX12_sheet 61 = .ok (.iload 6, 2) := by decide +kernel
theorem dX12_sheet_63 : decode cX12_sheet 63 = .ok (.iload_n 3, 1) := by decide +kernel
theorem dX12_sheet_64 : decode cX12_sheet 64 = .ok (.if_icmp .ge 98, 3) := by decide +kernel
theorem dX12_sheet_67 : decode cX12_sheet 67 = .ok (.aload_n 0, 1) := by decide +kernel
theorem dX12_sheet_68 : decode cX12_sheet 68 = .ok (.getfield 165, 3) := by decide +kernel
theorem dX12_sheet_71 : decode cX12_sheet 71 = .ok (.iload_n 1, 1) := by decide +kernel
theorem dX12_sheet_72 : decode cX12_sheet 72 = .ok (.iaload, 1) := by decide +kernel
theorem dX12_sheet_73 : decode cX12_sheet 73 = .ok (.ifCond .lt 89, 3) := by decide +kernel
theorem dX12_sheet_76 : decode cX12_sheet 76 = .ok (.iload_n 2, 1) := by decide +kernel
theorem dX12_sheet_77 : decode cX12_sheet 77 = .ok (.ifCond .lt 85, 3) := by decide +kernel
theorem dX12_sheet_80 : decode cX12_sheet 80 = .ok (.iload_n 2, 1) := by decide +kernel
theorem dX12_sheet_81 : decode cX12_sheet 81 = .ok (.aload_n 0, 1) := by decide +kernel
theorem dX12_sheet_82 : decode cX12_sheet 82 = .ok (.getfield 168, 3) := by decide +kernel
theorem dX12_sheet_85 : decode cX12_sheet 85 = .ok (.iload_n 1, 1) := by decide +kernel
theorem dX12_sheet_86 : decode cX12_sheet 86 = .ok (.iaload, 1) := by decide +kernel
theorem dX12_sheet_87 : decode cX12_sheet 87 = .ok (.iload 6, 2) := by decide +kernel
theorem dX12_sheet_89 : decode cX12_sheet 89 = .ok (.isub, 1) := by decide +kernel
theorem dX12_sheet_90 : decode cX12_sheet 90 = .ok (.if_icmp .lt 6, 3) := by decide +kernel
theorem dX12_sheet_93 : decode cX12_sheet 93 = .ok (.goto 69, 3) := by decide +kernel
theorem dX12_sheet_96 : decode cX12_sheet 96 = .ok (.aload_n 0, 1) := by decide +kernel
theorem dX12_sheet_97 : decode cX12_sheet 97 = .ok (.getfield 171, 3) := by decide +kernel
theorem dX12_sheet_100 : decode cX12_sheet 100 = .ok (.bipush 60, 2) := by decide +kernel
theorem dX12_sheet_102 : decode cX12_sheet 102 = .ok (.iload_n 1, 1) := by decide +kernel
theorem dX12_sheet_103 : decode cX12_sheet 103 = .ok (.imul, 1) := by decide +kernel
theorem dX12_sheet_104 : decode cX12_sheet 104 = .ok (.iload_n 2, 1) := by decide +kernel
theorem dX12_sheet_105 : decode cX12_sheet 105 = .ok (.iadd, 1) := by decide +kernel
theorem dX12_sheet_106 : decode cX12_sheet 106 = .ok (.iload 6, 2) := by decide +kernel
theorem dX12_sheet_108 : decode cX12_sheet 108 = .ok (.iadd, 1) := by decide +kernel
theorem dX12_sheet_109 : decode cX12_sheet 109 = .ok (.laload, 1) := by decide +kernel
theorem dX12_sheet_110 : decode cX12_sheet 110 = .ok (.lstore 7, 2) := by decide +kernel
theorem dX12_sheet_112 : decode cX12_sheet 112 = .ok (.lload 7, 2) := by decide +kernel
theorem dX12_sheet_114 : decode cX12_sheet 114 = .ok (.lconst 0, 1) := by decide +kernel
theorem dX12_sheet_115 : decode cX12_sheet 115 = .ok (.lcmp, 1) := by decide +kernel
theorem dX12_sheet_116 : decode cX12_sheet 116 = .ok (.ifCond .lt 40, 3) := by decide +kernel
theorem dX12_sheet_119 : decode cX12_sheet 119 = .ok (.lload 7, 2) := by decide +kernel
theorem dX12_sheet_121 : decode cX12_sheet 121 = .ok (.ldc2_w 371, 3) := by decide +kernel
theorem dX12_sheet_124 : decode cX12_sheet 124 = .ok (.lcmp, 1) := by decide +kernel
theorem dX12_sheet_125 : decode cX12_sheet 125 = .ok (.ifCond .ge 31, 3) := by decide +kernel
theorem dX12_sheet_128 : decode cX12_sheet 128 = .ok (.aload_n 0, 1) := by decide +kernel
theorem dX12_sheet_129 : decode cX12_sheet 129 = .ok (.iload 4, 2) := by decide +kernel
theorem dX12_sheet_131 : decode cX12_sheet 131 = .ok (.lload 7, 2) := by decide +kernel
theorem dX12_sheet_133 : decode cX12_sheet 133 = .ok (.ldc2_w 373, 3) := by decide +kernel
theorem dX12_sheet_136 : decode cX12_sheet 136 = .ok (.ldiv, 1) := by decide +kernel
theorem dX12_sheet_137 : decode cX12_sheet 137 = .ok (.l2i, 1) := by decide +kernel
theorem dX12_sheet_138 : decode cX12_sheet 138 = .ok (.lload 7, 2) := by decide +kernel
theorem dX12_sheet_140 : decode cX12_sheet 140 = .ok (.ldc2_w 373, 3) := by decide +kernel
theorem dX12_sheet_143 : decode cX12_sheet 143 = .ok (.lrem, 1) := by decide +kernel
theorem dX12_sheet_144 : decode cX12_sheet 144 = .ok (.l2i, 1) := by decide +kernel
theorem dX12_sheet_145 : decode cX12_sheet 145 = .ok (.iconst 1, 1) := by decide +kernel
theorem dX12_sheet_146 : decode cX12_sheet 146 = .ok (.isub, 1) := by decide +kernel
theorem dX12_sheet_147 : decode cX12_sheet 147 = .ok (.invokevirtual 375, 3) := by decide +kernel
theorem dX12_sheet_150 : decode cX12_sheet 150 = .ok (.ifCond .lt 6, 3) := by decide +kernel
theorem dX12_sheet_153 : decode cX12_sheet 153 = .ok (.iinc 5 1, 3) := by decide +kernel
theorem dX12_sheet_156 : decode cX12_sheet 156 = .ok (.iinc 6 1, 3) := by decide +kernel
theorem dX12_sheet_159 : decode cX12_sheet 159 = .ok (.goto (-98), 3) := by decide +kernel
theorem dX12_sheet_162 : decode cX12_sheet 162 = .ok (.bipush 100, 2) := by decide +kernel
theorem dX12_sheet_164 : decode cX12_sheet 164 = .ok (.iload 5, 2) := by decide +kernel
theorem dX12_sheet_166 : decode cX12_sheet 166 = .ok (.imul, 1) := by decide +kernel
theorem dX12_sheet_167 : decode cX12_sheet 167 = .ok (.iload_n 3, 1) := by decide +kernel
theorem dX12_sheet_168 : decode cX12_sheet 168 = .ok (.iadd, 1) := by decide +kernel
theorem dX12_sheet_169 : decode cX12_sheet 169 = .ok (.iload 5, 2) := by decide +kernel
theorem dX12_sheet_171 : decode cX12_sheet 171 = .ok (.isub, 1) := by decide +kernel
theorem dX12_sheet_172 : decode cX12_sheet 172 = .ok (.ireturn, 1) := by decide +kernel
theorem dX12_tape_0 : decode cX12_tape 0 = .ok (.aload_n 0, 1) := by decide +kernel
theorem dX12_tape_1 : decode cX12_tape 1 = .ok (.iload_n 1, 1) := by decide +kernel
theorem dX12_tape_2 : decode cX12_tape 2 = .ok (.invokevirtual 368, 3) := by decide +kernel
theorem dX12_tape_5 : decode cX12_tape 5 = .ok (.ifCond .ne 5, 3) := by decide +kernel
theorem dX12_tape_8 : decode cX12_tape 8 = .ok (.iconst (-1), 1) := by decide +kernel
theorem dX12_tape_9 : decode cX12_tape 9 = .ok (.ireturn, 1) := by decide +kernel
theorem dX12_tape_10 : decode cX12_tape 10 = .ok (.aload_n 0, 1) := by decide +kernel
theorem dX12_tape_11 : decode cX12_tape 11 = .ok (.iload_n 2, 1) := by decide +kernel
theorem dX12_tape_12 : decode cX12_tape 12 = .ok (.iconst (-1), 1) := by decide +kernel
theorem dX12_tape_13 : decode cX12_tape 13 = .ok (.iconst 4, 1) := by decide +kernel
theorem dX12_tape_14 : decode cX12_tape 14 = .ok (.invokevirtual 178, 3) := by decide +kernel
theorem dX12_tape_17 : decode cX12_tape 17 = .ok (.ifCond .eq 13, 3) := by decide +kernel
theorem dX12_tape_20 : decode cX12_tape 20 = .ok (.iload_n 2, 1) := by decide +kernel
theorem dX12_tape_21 : decode cX12_tape 21 = .ok (.ifCond .lt 12, 3) := by decide +kernel
theorem dX12_tape_24 : decode cX12_tape 24 = .ok (.iload_n 3, 1) := by decide +kernel
theorem dX12_tape_25 : decode cX12_tape 25 = .ok (.bipush 60, 2) := by decide +kernel
theorem dX12_tape_27 : decode cX12_tape 27 = .ok (.if_icmp .le 6, 3) := by decide +kernel
theorem dX12_tape_30 : decode cX12_tape 30 = .ok (.bipush (-2), 2) := by decide +kernel
theorem dX12_tape_32 : decode cX12_tape 32 = .ok (.ireturn, 1) := by decide +kernel
theorem dX12_tape_33 : decode cX12_tape 33 = .ok (.iload_n 2, 1) := by decide +kernel
theorem dX12_tape_34 : decode cX12_tape 34 = .ok (.ifCond .lt 10, 3) := by decide +kernel
theorem dX12_tape_37 : decode cX12_tape 37 = .ok (.iload_n 3, 1) := by decide +kernel
theorem dX12_tape_38 : decode cX12_tape 38 = .ok (.ifCond .ge 6, 3) := by decide +kernel
theorem dX12_tape_41 : decode cX12_tape 41 = .ok (.bipush (-14), 2) := by decide +kernel
theorem dX12_tape_43 : decode cX12_tape 43 = .ok (.ireturn, 1) := by decide +kernel
theorem dX12_tape_44 : decode cX12_tape 44 = .ok (.aload_n 0, 1) := by decide +kernel
theorem dX12_tape_45 : decode cX12_tape 45 = .ok (.getfield 165, 3) := by decide +kernel
theorem dX12_tape_48 : decode cX12_tape 48 = .ok (.iload_n 1, 1) := by decide +kernel
theorem dX12_tape_49 : decode cX12_tape 49 = .ok (.iload_n 2, 1) := by decide +kernel
theorem dX12_tape_50 : decode cX12_tape 50 = .ok (.iastore, 1) := by decide +kernel
theorem dX12_tape_51 : decode cX12_tape 51 = .ok (.aload_n 0, 1) := by decide +kernel
theorem dX12_tape_52 : decode cX12_tape 52 = .ok (.getfield 168, 3) := by decide +kernel
theorem dX12_tape_55 : decode cX12_tape 55 = .ok (.iload_n 1, 1) := by decide +kernel
theorem dX12_tape_56 : decode cX12_tape 56 = .ok (.iload_n 2, 1) := by decide +kernel
theorem dX12_tape_57 : decode cX12_tape 57 = .ok (.ifCond .ge 7, 3) := by decide +kernel
theorem dX12_tape_60 : decode cX12_tape 60 = .ok (.iconst 0, 1) := by decide +kernel
theorem dX12_tape_61 : decode cX12_tape 61 = .ok (.goto 4, 3) := by decide +kernel
theorem dX12_tape_64 : decode cX12_tape 64 = .ok (.iload_n 3, 1) := by decide +kernel
theorem dX12_tape_65 : decode cX12_tape 65 = .ok (.iastore, 1) := by decide +kernel
theorem dX12_tape_66 : decode cX12_tape 66 = .ok (.iconst 0, 1) := by decide +kernel
theorem dX12_tape_67 : decode cX12_tape 67 = .ok (.istore 4, 2) := by decide +kernel
theorem dX12_tape_69 : decode cX12_tape 69 = .ok (.iload 4, 2) := by decide +kernel
theorem dX12_tape_71 : decode cX12_tape 71 = .ok (.bipush 60, 2) := by decide +kernel
theorem dX12_tape_73 : decode cX12_tape 73 = .ok (.if_icmp .ge 22, 3) := by decide +kernel
theorem dX12_tape_76 : decode cX12_tape 76 = .ok (.aload_n 0, 1) := by decide +kernel
theorem dX12_tape_77 : decode cX12_tape 77 = .ok (.getfield 171, 3) := by decide +kernel
theorem dX12_tape_80 : decode cX12_tape 80 = .ok (.bipush 60, 2) := by decide +kernel
theorem dX12_tape_82 : decode cX12_tape 82 = .ok (.iload_n 1, 1) := by decide +kernel
theorem dX12_tape_83 : decode cX12_tape 83 = .ok (.imul, 1) := by decide +kernel
theorem dX12_tape_84 : decode cX12_tape 84 = .ok (.iload 4, 2) := by decide +kernel
theorem dX12_tape_86 : decode cX12_tape 86 = .ok (.iadd, 1) := by decide +kernel
theorem dX12_tape_87 : decode cX12_tape 87 = .ok (.lconst 0, 1) := by decide +kernel
theorem dX12_tape_88 : decode cX12_tape 88 = .ok (.lastore, 1) := by decide +kernel
theorem dX12_tape_89 : decode cX12_tape 89 = .ok (.iinc 4 1, 3) := by decide +kernel
theorem dX12_tape_92 : decode cX12_tape 92 = .ok (.goto (-23), 3) := by decide +kernel
theorem dX12_tape_95 : decode cX12_tape 95 = .ok (.iconst 1, 1) := by decide +kernel
theorem dX12_tape_96 : decode cX12_tape 96 = .ok (.ireturn, 1) := by decide +kernel
theorem dX12_narrow_0 : decode cX12_narrow 0 = .ok (.iload_n 1, 1) := by decide +kernel
theorem dX12_narrow_1 : decode cX12_narrow 1 = .ok (.ifCond .ne 10, 3) := by decide +kernel
theorem dX12_narrow_4 : decode cX12_narrow 4 = .ok (.lload_n 2, 1) := by decide +kernel
theorem dX12_narrow_5 : decode cX12_narrow 5 = .ok (.l2i, 1) := by decide +kernel
theorem dX12_narrow_6 : decode cX12_narrow 6 = .ok (.i2b, 1) := by decide +kernel
theorem dX12_narrow_7 : decode cX12_narrow 7 = .ok (.i2l, 1) := by decide +kernel
theorem dX12_narrow_8 : decode cX12_narrow 8 = .ok (.goto 46, 3) := by decide +kernel
theorem dX12_narrow_11 : decode cX12_narrow 11 = .ok (.iload_n 1, 1) := by decide +kernel
theorem dX12_narrow_12 : decode cX12_narrow 12 = .ok (.iconst 1, 1) := by decide +kernel
theorem dX12_narrow_13 : decode cX12_narrow 13 = .ok (.if_icmp .ne 10, 3) := by decide +kernel
theorem dX12_narrow_16 : decode cX12_narrow 16 = .ok (.lload_n 2, 1) := by decide +kernel
theorem dX12_narrow_17 : decode cX12_narrow 17 = .ok (.l2i, 1) := by decide +kernel
theorem dX12_narrow_18 : decode cX12_narrow 18 = .ok (.i2s, 1) := by decide +kernel
theorem dX12_narrow_19 : decode cX12_narrow 19 = .ok (.i2l, 1) := by decide +kernel
theorem dX12_narrow_20 : decode cX12_narrow 20 = .ok (.goto 34, 3) := by decide +kernel
theorem dX12_narrow_23 : decode cX12_narrow 23 = .ok (.iload_n 1, 1) := by decide +kernel
theorem dX12_narrow_24 : decode cX12_narrow 24 = .ok (.iconst 2, 1) := by decide +kernel
theorem dX12_narrow_25 : decode cX12_narrow 25 = .ok (.if_icmp .ne 9, 3) := by decide +kernel
theorem dX12_narrow_28 : decode cX12_narrow 28 = .ok (.lload_n 2, 1) := by decide +kernel
theorem dX12_narrow_29 : decode cX12_narrow 29 = .ok (.l2i, 1) := by decide +kernel
theorem dX12_narrow_30 : decode cX12_narrow 30 = .ok (.i2l, 1) := by decide +kernel
theorem dX12_narrow_31 : decode cX12_narrow 31 = .ok (.goto 23, 3) := by decide +kernel
theorem dX12_narrow_34 : decode cX12_narrow 34 = .ok (.iload_n 1, 1) := by decide +kernel
theorem dX12_narrow_35 : decode cX12_narrow 35 = .ok (.iconst 4, 1) := by decide +kernel
theorem dX12_narrow_36 : decode cX12_narrow 36 = .ok (.if_icmp .ne 17, 3) := by decide +kernel
theorem dX12_narrow_39 : decode cX12_narrow 39 = .ok (.lload_n 2, 1) := by decide +kernel
theorem dX12_narrow_40 : decode cX12_narrow 40 = .ok (.lconst 0, 1) := by decide +kernel
theorem dX12_narrow_41 : decode cX12_narrow 41 = .ok (.lcmp, 1) := by decide +kernel
theorem dX12_narrow_42 : decode cX12_narrow 42 = .ok (.ifCond .eq 7, 3) := by decide +kernel
theorem dX12_narrow_45 : decode cX12_narrow 45 = .ok (.lconst 1, 1) := by decide +kernel
theorem dX12_narrow_46 : decode cX12_narrow 46 = .ok (.goto 8, 3) := by decide +kernel
theorem dX12_narrow_49 : decode cX12_narrow 49 = .ok (.lconst 0, 1) := by decide +kernel
theorem dX12_narrow_50 : decode cX12_narrow 50 = .ok (.goto 4, 3) := by decide +kernel
theorem dX12_narrow_53 : decode cX12_narrow 53 = .ok (.lload_n 2, 1) := by decide +kernel
theorem dX12_narrow_54 : decode cX12_narrow 54 = .ok (.lreturn, 1) := by decide +kernel
theorem dX12_item_0 : decode cX12_item 0 = .ok (.aload_n 0, 1) := by decide +kernel
theorem dX12_item_1 : decode cX12_item 1 = .ok (.iload_n 1, 1) := by decide +kernel
theorem dX12_item_2 : decode cX12_item 2 = .ok (.invokevirtual 368, 3) := by decide +kernel
theorem dX12_item_5 : decode cX12_item 5 = .ok (.ifCond .ne 5, 3) := by decide +kernel
theorem dX12_item_8 : decode cX12_item 8 = .ok (.iconst (-1), 1) := by decide +kernel
theorem dX12_item_9 : decode cX12_item 9 = .ok (.ireturn, 1) := by decide +kernel
theorem dX12_item_10 : decode cX12_item 10 = .ok (.aload_n 0, 1) := by decide +kernel
theorem dX12_item_11 : decode cX12_item 11 = .ok (.getfield 165, 3) := by decide +kernel
theorem dX12_item_14 : decode cX12_item 14 = .ok (.iload_n 1, 1) := by decide +kernel
theorem dX12_item_15 : decode cX12_item 15 = .ok (.iaload, 1) := by decide +kernel
theorem dX12_item_16 : decode cX12_item 16 = .ok (.ifCond .ge 6, 3) := by decide +kernel
theorem dX12_item_19 : decode cX12_item 19 = .ok (.bipush (-11), 2) := by decide +kernel
theorem dX12_item_21 : decode cX12_item 21 = .ok (.ireturn, 1) := by decide +kernel
theorem dX12_item_22 : decode cX12_item 22 = .ok (.aload_n 0, 1) := by decide +kernel
theorem dX12_item_23 : decode cX12_item 23 = .ok (.iload_n 2, 1) := by decide +kernel
theorem dX12_item_24 : decode cX12_item 24 = .ok (.iconst 0, 1) := by decide +kernel
theorem dX12_item_25 : decode cX12_item 25 = .ok (.aload_n 0, 1) := by decide +kernel
theorem dX12_item_26 : decode cX12_item 26 = .ok (.getfield 168, 3) := by decide +kernel
theorem dX12_item_29 : decode cX12_item 29 = .ok (.iload_n 1, 1) := by decide +kernel
theorem dX12_item_30 : decode cX12_item 30 = .ok (.iaload, 1) := by decide +kernel
theorem dX12_item_31 : decode cX12_item 31 = .ok (.iconst 1, 1) := by decide +kernel
theorem dX12_item_32 : decode cX12_item 32 = .ok (.isub, 1) := by decide +kernel
theorem dX12_item_33 : decode cX12_item 33 = .ok (.invokevirtual 178, 3) := by decide +kernel
theorem dX12_item_36 : decode cX12_item 36 = .ok (.ifCond .ne 6, 3) := by decide +kernel
theorem dX12_item_39 : decode cX12_item 39 = .ok (.bipush (-13), 2) := by decide +kernel
theorem dX12_item_41 : decode cX12_item 41 = .ok (.ireturn, 1) := by decide +kernel
theorem dX12_item_42 : decode cX12_item 42 = .ok (.aload_n 0, 1) := by decide +kernel
theorem dX12_item_43 : decode cX12_item 43 = .ok (.getfield 171, 3) := by decide +kernel
theorem dX12_item_46 : decode cX12_item 46 = .ok (.bipush 60, 2) := by decide +kernel
theorem dX12_item_48 : decode cX12_item 48 = .ok (.iload_n 1, 1) := by decide +kernel
theorem dX12_item_49 : decode cX12_item 49 = .ok (.imul, 1) := by decide +kernel
theorem dX12_item_50 : decode cX12_item 50 = .ok (.iload_n 2, 1) := by decide +kernel
theorem dX12_item_51 : decode cX12_item 51 = .ok (.iadd, 1) := by decide +kernel
theorem dX12_item_52 : decode cX12_item 52 = .ok (.aload_n 0, 1) := by decide +kernel
theorem dX12_item_53 : decode cX12_item 53 = .ok (.aload_n 0, 1) := by decide +kernel
theorem dX12_item_54 : decode cX12_item 54 = .ok (.getfield 165, 3) := by decide +kernel
theorem dX12_item_57 : decode cX12_item 57 = .ok (.iload_n 1, 1) := by decide +kernel
theorem dX12_item_58 : decode cX12_item 58 = .ok (.iaload, 1) := by decide +kernel
theorem dX12_item_59 : decode cX12_item 59 = .ok (.lload_n 3, 1) := by decide +kernel
theorem dX12_item_60 : decode cX12_item 60 = .ok (.invokevirtual 378, 3) := by decide +kernel
theorem dX12_item_63 : decode cX12_item 63 = .ok (.lastore, 1) := by decide +kernel
theorem dX12_item_64 : decode cX12_item 64 = .ok (.iconst 1, 1) := by decide +kernel
theorem dX12_item_65 : decode cX12_item 65 = .ok (.ireturn, 1) := by decide +kernel
theorem dX12_read_0 : decode cX12_read 0 = .ok (.aload_n 0, 1) := by decide +kernel
theorem dX12_read_1 : decode cX12_read 1 = .ok (.iload_n 1, 1) := by decide +kernel
theorem dX12_read_2 : decode cX12_read 2 = .ok (.invokevirtual 368, 3) := by decide +kernel
theorem dX12_read_5 : decode cX12_read 5 = .ok (.ifCond .eq 29, 3) := by decide +kernel
theorem dX12_read_8 : decode cX12_read 8 = .ok (.aload_n 0, 1) := by decide +kernel
theorem dX12_read_9 : decode cX12_read 9 = .ok (.getfield 165, 3) := by decide +kernel
theorem dX12_read_12 : decode cX12_read 12 = .ok (.iload_n 1, 1) := by decide +kernel
theorem dX12_read_13 : decode cX12_read 13 = .ok (.iaload, 1) := by decide +kernel
theorem dX12_read_14 : decode cX12_read 14 = .ok (.ifCond .lt 20, 3) := by decide +kernel
theorem dX12_read_17 : decode cX12_read 17 = .ok (.aload_n 0, 1) := by decide +kernel
theorem dX12_read_18 : decode cX12_read 18 = .ok (.iload_n 2, 1) := by decide +kernel
theorem dX12_read_19 : decode cX12_read 19 = .ok (.iconst 0, 1) := by decide +kernel
theorem dX12_read_20 : decode cX12_read 20 = .ok (.aload_n 0, 1) := by decide +kernel
theorem dX12_read_21 : decode cX12_read 21 = .ok (.getfield 168, 3) := by decide +kernel
theorem dX12_read_24 : decode cX12_read 24 = .ok (.iload_n 1, 1) := by decide +kernel
theorem dX12_read_25 : decode cX12_read 25 = .ok (.iaload, 1) := by decide +kernel
theorem dX12_read_26 : decode cX12_read 26 = .ok (.iconst 1, 1) := by decide +kernel
theorem dX12_read_27 : decode cX12_read 27 = .ok (.isub, 1) := by decide +kernel
theorem dX12_read_28 : decode cX12_read 28 = .ok (.invokevirtual 178, 3) := by decide +kernel
theorem dX12_read_31 : decode cX12_read 31 = .ok (.ifCond .ne 9, 3) := by decide +kernel
theorem dX12_read_34 : decode cX12_read 34 = .ok (.ldc2_w 296, 3) := by decide +kernel
theorem dX12_read_37 : decode cX12_read 37 = .ok (.goto 14, 3) := by decide +kernel
theorem dX12_read_40 : decode cX12_read 40 = .ok (.aload_n 0, 1) := by decide +kernel
theorem dX12_read_41 : decode cX12_read 41 = .ok (.getfield 171, 3) := by decide +kernel
theorem dX12_read_44 : decode cX12_read 44 = .ok (.bipush 60, 2) := by decide +kernel
theorem dX12_read_46 : decode cX12_read 46 = .ok (.iload_n 1, 1) := by decide +kernel
theorem dX12_read_47 : decode cX12_read 47 = .ok (.imul, 1) := by decide +kernel
theorem dX12_read_48 : decode cX12_read 48 = .ok (.iload_n 2, 1) := by decide +kernel
theorem dX12_read_49 : decode cX12_read 49 = .ok (.iadd, 1) := by decide +kernel
theorem dX12_read_50 : decode cX12_read 50 = .ok (.laload, 1) := by decide +kernel
theorem dX12_read_51 : decode cX12_read 51 = .ok (.lreturn, 1) := by decide +kernel
theorem dX12_shift_0 : decode cX12_shift 0 = .ok (.aload_n 0, 1) := by decide +kernel
theorem dX12_shift_1 : decode cX12_shift 1 = .ok (.iload_n 1, 1) := by decide +kernel
theorem dX12_shift_2 : decode cX12_shift 2 = .ok (.invokevirtual 368, 3) := by decide +kernel
theorem dX12_shift_5 : decode cX12_shift 5 = .ok (.ifCond .eq 11, 3) := by decide +kernel
theorem dX12_shift_8 : decode cX12_shift 8 = .ok (.aload_n 0, 1) := by decide +kernel
theorem dX12_shift_9 : decode cX12_shift 9 = .ok (.iload_n 3, 1) := by decide +kernel
theorem dX12_shift_10 : decode cX12_shift 10 = .ok (.invokevirtual 368, 3) := by decide +kernel
theorem dX12_shift_13 : decode cX12_shift 13 = .ok (.ifCond .ne 5, 3) := by decide +kernel
theorem dX12_shift_16 : decode cX12_shift 16 = .ok (.iconst (-1), 1) := by decide +kernel
theorem dX12_shift_17 : decode cX12_shift 17 = .ok (.ireturn, 1) := by decide +kernel
theorem dX12_shift_18 : decode cX12_shift 18 = .ok (.aload_n 0, 1) := by decide +kernel
theorem dX12_shift_19 : decode cX12_shift 19 = .ok (.getfield 165, 3) := by decide +kernel
theorem dX12_shift_22 : decode cX12_shift 22 = .ok (.iload_n 1, 1) := by decide +kernel
theorem dX12_shift_23 : decode cX12_shift 23 = .ok (.iaload, 1) := by decide +kernel
theorem dX12_shift_24 : decode cX12_shift 24 = .ok (.ifCond .lt 12, 3) := by decide +kernel
theorem dX12_shift_27 : decode cX12_shift 27 = .ok (.aload_n 0, 1) := by decide +kernel
theorem dX12_shift_28 : decode cX12_shift 28 = .ok (.getfield 165, 3) := by decide +kernel
theorem dX12_shift_31 : decode cX12_shift 31 = .ok (.iload_n 3, 1) := by decide +kernel
theorem dX12_shift_32 : decode cX12_shift 32 = .ok (.iaload, 1) := by decide +kernel
theorem dX12_shift_33 : decode cX12_shift 33 = .ok (.ifCond .ge 6, 3) := by decide +kernel
theorem dX12_shift_36 : decode cX12_shift 36 = .ok (.bipush (-11), 2) := by decide +kernel
theorem dX12_shift_38 : decode cX12_shift 38 = .ok (.ireturn, 1) := by decide +kernel
theorem dX12_shift_39 : decode cX12_shift 39 = .ok (.aload_n 0, 1) := by decide +kernel
theorem dX12_shift_40 : decode cX12_shift 40 = .ok (.getfield 165, 3) := by decide +kernel
theorem dX12_shift_43 : decode cX12_shift 43 = .ok (.iload_n 1, 1) := by decide +kernel
theorem dX12_shift_44 : decode cX12_shift 44 = .ok (.iaload, 1) := by decide +kernel
theorem dX12_shift_45 : decode cX12_shift 45 = .ok (.aload_n 0, 1) := by decide +kernel
theorem dX12_shift_46 : decode cX12_shift 46 = .ok (.getfield 165, 3) := by decide +kernel
theorem dX12_shift_49 : decode cX12_shift 49 = .ok (.iload_n 3, 1) := by decide +kernel
theorem dX12_shift_50 : decode cX12_shift 50 = .ok (.iaload, 1) := by decide +kernel
theorem dX12_shift_51 : decode cX12_shift 51 = .ok (.if_icmp .eq 6, 3) := by decide +kernel
theorem dX12_shift_54 : decode cX12_shift 54 = .ok (.bipush (-12), 2) := by decide +kernel
theorem dX12_shift_56 : decode cX12_shift 56 = .ok (.ireturn, 1) := by decide +kernel
theorem dX12_shift_57 : decode cX12_shift 57 = .ok (.iload 5, 2) := by decide +kernel
theorem dX12_shift_59 : decode cX12_shift 59 = .ok (.ifCond .lt 39, 3) := by decide +kernel
theorem dX12_shift_62 : decode cX12_shift 62 = .ok (.iload_n 2, 1) := by decide +kernel
theorem dX12_shift_63 : decode cX12_shift 63 = .ok (.ifCond .lt 35, 3) := by decide +kernel
theorem dX12_shift_66 : decode cX12_shift 66 = .ok (.iload 4, 2) := by decide +kernel
theorem dX12_shift_68 : decode cX12_shift 68 = .ok (.ifCond .lt 30, 3) := by decide +kernel
theorem dX12_shift_71 : decode cX12_shift 71 = .ok (.iload_n 2, 1) := by decide +kernel
theorem dX12_shift_72 : decode cX12_shift 72 = .ok (.aload_n 0, 1) := by decide +kernel
theorem dX12_shift_73 : decode cX12_shift 73 = .ok (.getfield 168, 3) := by decide +kernel
theorem dX12_shift_76 : decode cX12_shift 76 = .ok (.iload_n 1, 1) := by decide +kernel
theorem dX12_shift_77 : decode cX12_shift 77 = .ok (.iaload, 1) := by decide +kernel
theorem dX12_shift_78 : decode cX12_shift 78 = .ok (.iload 5, 2) := by decide +kernel
theorem dX12_shift_80 : decode cX12_shift 80 = .ok (.isub, 1) := by decide +kernel
theorem dX12_shift_81 : decode cX12_shift 81 = .ok (.if_icmp .gt 17, 3) := by decide +kernel
theorem dX12_shift_84 : decode cX12_shift 84 = .ok (.iload 4, 2) := by decide +kernel
theorem dX12_shift_86 : decode cX12_shift 86 = .ok (.aload_n 0, 1) := by decide +kernel
theorem dX12_shift_87 : decode cX12_shift 87 = .ok (.getfield 168, 3) := by decide +kernel
theorem dX12_shift_90 : decode cX12_shift 90 = .ok (.iload_n 3, 1) := by decide +kernel
theorem dX12_shift_91 : decode cX12_shift 91 = .ok (.iaload, 1) := by decide +kernel
theorem dX12_shift_92 : decode cX12_shift 92 = .ok (.iload 5, 2) := by decide +kernel
theorem dX12_shift_94 : decode cX12_shift 94 = .ok (.isub, 1) := by decide +kernel
theorem dX12_shift_95 : decode cX12_shift 95 = .ok (.if_icmp .le 6, 3) := by decide +kernel
theorem dX12_shift_98 : decode cX12_shift 98 = .ok (.bipush (-13), 2) := by decide +kernel
theorem dX12_shift_100 : decode cX12_shift 100 = .ok (.ireturn, 1) := by decide +kernel
theorem dX12_shift_101 : decode cX12_shift 101 = .ok (.iconst 0, 1) := by decide +kernel
theorem dX12_shift_102 : decode cX12_shift 102 = .ok (.istore 6, 2) := by decide +kernel
theorem dX12_shift_104 : decode cX12_shift 104 = .ok (.iload 6, 2) := by decide +kernel
theorem dX12_shift_106 : decode cX12_shift 106 = .ok (.iload 5, 2) := by decide +kernel
theorem dX12_shift_108 : decode cX12_shift 108 = .ok (.if_icmp .ge 30, 3) := by decide +kernel
theorem dX12_shift_111 : decode cX12_shift 111 = .ok (.aload_n 0, 1) := by decide +kernel
theorem dX12_shift_112 : decode cX12_shift 112 = .ok (.getfield 175, 3) := by decide +kernel
theorem dX12_shift_115 : decode cX12_shift 115 = .ok (.iload 6, 2) := by decide +kernel
theorem dX12_shift_117 : decode cX12_shift 117 = .ok (.aload_n 0, 1) := by decide +kernel
theorem dX12_shift_118 : decode cX12_shift 118 = .ok (.getfield 171, 3) := by decide +kernel
theorem dX12_shift_121 : decode cX12_shift 121 = .ok (.bipush 60, 2) := by decide +kernel
theorem dX12_shift_123 : decode cX12_shift 123 = .ok (.iload_n 1, 1) := by decide +kernel
theorem dX12_shift_124 : decode cX12_shift 124 = .ok (.imul, 1) := by decide +kernel
theorem dX12_shift_125 : decode cX12_shift 125 = .ok (.iload_n 2, 1) := by decide +kernel
theorem dX12_shift_126 : decode cX12_shift 126 = .ok (.iadd, 1) := by decide +kernel
theorem dX12_shift_127 : decode cX12_shift 127 = .ok (.iload 6, 2) := by decide +kernel
theorem dX12_shift_129 : decode cX12_shift 129 = .ok (.iadd, 1) := by decide +kernel
theorem dX12_shift_130 : decode cX12_shift 130 = .ok (.laload, 1) := by decide +kernel
theorem dX12_shift_131 : decode cX12_shift 131 = .ok (.lastore, 1) := by decide +kernel
theorem dX12_shift_132 : decode cX12_shift 132 = .ok (.iinc 6 1, 3) := by decide +kernel
theorem dX12_shift_135 : decode cX12_shift 135 = .ok (.goto (-31), 3) := by decide +kernel
theorem dX12_shift_138 : decode cX12_shift 138 = .ok (.iconst 0, 1) := by decide +kernel
theorem dX12_shift_139 : decode cX12_shift 139 = .ok (.istore 6, 2) := by decide +kernel
theorem dX12_shift_141 : decode cX12_shift 141 = .ok (.iload 6, 2) := by decide +kernel
theorem dX12_shift_143 : decode cX12_shift 143 = .ok (.iload 5, 2) := by decide +kernel
theorem dX12_shift_145 : decode cX12_shift 145 = .ok (.if_icmp .ge 31, 3) := by decide +kernel
theorem dX12_shift_148 : decode cX12_shift 148 = .ok (.aload_n 0, 1) := by decide +kernel
theorem dX12_shift_149 : decode cX12_shift 149 = .ok (.getfield 171, 3) := by decide +kernel
theorem dX12_shift_152 : decode cX12_shift 152 = .ok (.bipush 60, 2) := by decide +kernel
theorem dX12_shift_154 : decode cX12_shift 154 = .ok (.iload_n 3, 1) := by decide +kernel
theorem dX12_shift_155 : decode cX12_shift 155 = .ok (.imul, 1) := by decide +kernel
theorem dX12_shift_156 : decode cX12_shift 156 = .ok (.iload 4, 2) := by decide +kernel
theorem dX12_shift_158 : decode cX12_shift 158 = .ok (.iadd, 1) := by decide +kernel
theorem dX12_shift_159 : decode cX12_shift 159 = .ok (.iload 6, 2) := by decide +kernel
theorem dX12_shift_161 : decode cX12_shift 161 = .ok (.iadd, 1) := by decide +kernel
theorem dX12_shift_162 : decode cX12_shift 162 = .ok (.aload_n 0, 1) := by decide +kernel
theorem dX12_shift_163 : decode cX12_shift 163 = .ok (.getfield 175, 3) := by decide +kernel
theorem dX12_shift_166 : decode cX12_shift 166 = .ok (.iload 6, 2) := by decide +kernel
theorem dX12_shift_168 : decode cX12_shift 168 = .ok (.laload, 1) := by decide +kernel
theorem dX12_shift_169 : decode cX12_shift 169 = .ok (.lastore, 1) := by decide +kernel
theorem dX12_shift_170 : decode cX12_shift 170 = .ok (.iinc 6 1, 3) := by decide +kernel
theorem dX12_shift_173 : decode cX12_shift 173 = .ok (.goto (-32), 3) := by decide +kernel
theorem dX12_shift_176 : decode cX12_shift 176 = .ok (.iload 5, 2) := by decide +kernel
theorem dX12_shift_178 : decode cX12_shift 178 = .ok (.ireturn, 1) := by decide +kernel
theorem dJ6_bitCount_0f7a4_0 : decode cJ6_bitCount_0f7a4 0 = .ok (.iload_n 0, 1) := by decide +kernel
theorem dJ6_bitCount_0f7a4_1 : decode cJ6_bitCount_0f7a4 1 = .ok (.iload_n 0, 1) := by decide +kernel
theorem dJ6_bitCount_0f7a4_2 : decode cJ6_bitCount_0f7a4 2 = .ok (.iconst 1, 1) := by decide +kernel
theorem dJ6_bitCount_0f7a4_3 : decode cJ6_bitCount_0f7a4 3 = .ok (.iushr, 1) := by decide +kernel
theorem dJ6_bitCount_0f7a4_4 : decode cJ6_bitCount_0f7a4 4 = .ok (.ldc_w 265, 3) := by decide +kernel
theorem dJ6_bitCount_0f7a4_7 : decode cJ6_bitCount_0f7a4 7 = .ok (.iand, 1) := by decide +kernel
theorem dJ6_bitCount_0f7a4_8 : decode cJ6_bitCount_0f7a4 8 = .ok (.isub, 1) := by decide +kernel
theorem dJ6_bitCount_0f7a4_9 : decode cJ6_bitCount_0f7a4 9 = .ok (.istore_n 0, 1) := by decide +kernel
theorem dJ6_bitCount_0f7a4_10 : decode cJ6_bitCount_0f7a4 10 = .ok (.iload_n 0, 1) := by decide +kernel
theorem dJ6_bitCount_0f7a4_11 : decode cJ6_bitCount_0f7a4 11 = .ok (.ldc_w 266, 3) := by decide +kernel
theorem dJ6_bitCount_0f7a4_14 : decode cJ6_bitCount_0f7a4 14 = .ok (.iand, 1) := by decide +kernel
theorem dJ6_bitCount_0f7a4_15 : decode cJ6_bitCount_0f7a4 15 = .ok (.iload_n 0, 1) := by decide +kernel
theorem dJ6_bitCount_0f7a4_16 : decode cJ6_bitCount_0f7a4 16 = .ok (.iconst 2, 1) := by decide +kernel
theorem dJ6_bitCount_0f7a4_17 : decode cJ6_bitCount_0f7a4 17 = .ok (.iushr, 1) := by decide +kernel
theorem dJ6_bitCount_0f7a4_18 : decode cJ6_bitCount_0f7a4 18 = .ok (.ldc_w 266, 3) := by decide +kernel
theorem dJ6_bitCount_0f7a4_21 : decode cJ6_bitCount_0f7a4 21 = .ok (.iand, 1) := by decide +kernel
theorem dJ6_bitCount_0f7a4_22 : decode cJ6_bitCount_0f7a4 22 = .ok (.iadd, 1) := by decide +kernel
theorem dJ6_bitCount_0f7a4_23 : decode cJ6_bitCount_0f7a4 23 = .ok (.istore_n 0, 1) := by decide +kernel
theorem dJ6_bitCount_0f7a4_24 : decode cJ6_bitCount_0f7a4 24 = .ok (.iload_n 0, 1) := by decide +kernel
theorem dJ6_bitCount_0f7a4_25 : decode cJ6_bitCount_0f7a4 25 = .ok (.iload_n 0, 1) := by decide +kernel
theorem dJ6_bitCount_0f7a4_26 : decode cJ6_bitCount_0f7a4 26 = .ok (.iconst 4, 1) := by decide +kernel
theorem dJ6_bitCount_0f7a4_27 : decode cJ6_bitCount_0f7a4 27 = .ok (.iushr, 1) := by decide +kernel
theorem dJ6_bitCount_0f7a4_28 : decode cJ6_bitCount_0f7a4 28 = .ok (.iadd, 1) := by decide +kernel
theorem dJ6_bitCount_0f7a4_29 : decode cJ6_bitCount_0f7a4 29 = .ok (.ldc_w 267, 3) := by decide +kernel
theorem dJ6_bitCount_0f7a4_32 : decode cJ6_bitCount_0f7a4 32 = .ok (.iand, 1) := by decide +kernel
theorem dJ6_bitCount_0f7a4_33 : decode cJ6_bitCount_0f7a4 33 = .ok (.istore_n 0, 1) := by decide +kernel
theorem dJ6_bitCount_0f7a4_34 : decode cJ6_bitCount_0f7a4 34 = .ok (.iload_n 0, 1) := by decide +kernel
theorem dJ6_bitCount_0f7a4_35 : decode cJ6_bitCount_0f7a4 35 = .ok (.iload_n 0, 1) := by decide +kernel
theorem dJ6_bitCount_0f7a4_36 : decode cJ6_bitCount_0f7a4 36 = .ok (.bipush 8, 2) := by decide +kernel
theorem dJ6_bitCount_0f7a4_38 : decode cJ6_bitCount_0f7a4 38 = .ok (.iushr, 1) := by decide +kernel
theorem dJ6_bitCount_0f7a4_39 : decode cJ6_bitCount_0f7a4 39 = .ok (.iadd, 1) := by decide +kernel
theorem dJ6_bitCount_0f7a4_40 : decode cJ6_bitCount_0f7a4 40 = .ok (.istore_n 0, 1) := by decide +kernel
theorem dJ6_bitCount_0f7a4_41 : decode cJ6_bitCount_0f7a4 41 = .ok (.iload_n 0, 1) := by decide +kernel
theorem dJ6_bitCount_0f7a4_42 : decode cJ6_bitCount_0f7a4 42 = .ok (.iload_n 0, 1) := by decide +kernel
theorem dJ6_bitCount_0f7a4_43 : decode cJ6_bitCount_0f7a4 43 = .ok (.bipush 16, 2) := by decide +kernel
theorem dJ6_bitCount_0f7a4_45 : decode cJ6_bitCount_0f7a4 45 = .ok (.iushr, 1) := by decide +kernel
theorem dJ6_bitCount_0f7a4_46 : decode cJ6_bitCount_0f7a4 46 = .ok (.iadd, 1) := by decide +kernel
theorem dJ6_bitCount_0f7a4_47 : decode cJ6_bitCount_0f7a4 47 = .ok (.istore_n 0, 1) := by decide +kernel
theorem dJ6_bitCount_0f7a4_48 : decode cJ6_bitCount_0f7a4 48 = .ok (.iload_n 0, 1) := by decide +kernel
theorem dJ6_bitCount_0f7a4_49 : decode cJ6_bitCount_0f7a4 49 = .ok (.bipush 63, 2) := by decide +kernel
theorem dJ6_bitCount_0f7a4_51 : decode cJ6_bitCount_0f7a4 51 = .ok (.iand, 1) := by decide +kernel
theorem dJ6_bitCount_0f7a4_52 : decode cJ6_bitCount_0f7a4 52 = .ok (.ireturn, 1) := by decide +kernel
theorem dJ9_max_7cf53_0 : decode cJ9_max_7cf53 0 = .ok (.iload_n 0, 1) := by decide +kernel
theorem dJ9_max_7cf53_1 : decode cJ9_max_7cf53 1 = .ok (.iload_n 1, 1) := by decide +kernel
theorem dJ9_max_7cf53_2 : decode cJ9_max_7cf53 2 = .ok (.if_icmp .lt 7, 3) := by decide +kernel
theorem dJ9_max_7cf53_5 : decode cJ9_max_7cf53 5 = .ok (.iload_n 0, 1) := by decide +kernel
theorem dJ9_max_7cf53_6 : decode cJ9_max_7cf53 6 = .ok (.goto 4, 3) := by decide +kernel
theorem dJ9_max_7cf53_9 : decode cJ9_max_7cf53 9 = .ok (.iload_n 1, 1) := by decide +kernel
theorem dJ9_max_7cf53_10 : decode cJ9_max_7cf53 10 = .ok (.ireturn, 1) := by decide +kernel
theorem dJ9_min_7cf53_0 : decode cJ9_min_7cf53 0 = .ok (.iload_n 0, 1) := by decide +kernel
theorem dJ9_min_7cf53_1 : decode cJ9_min_7cf53 1 = .ok (.iload_n 1, 1) := by decide +kernel
theorem dJ9_min_7cf53_2 : decode cJ9_min_7cf53 2 = .ok (.if_icmp .gt 7, 3) := by decide +kernel
theorem dJ9_min_7cf53_5 : decode cJ9_min_7cf53 5 = .ok (.iload_n 0, 1) := by decide +kernel
theorem dJ9_min_7cf53_6 : decode cJ9_min_7cf53 6 = .ok (.goto 4, 3) := by decide +kernel
theorem dJ9_min_7cf53_9 : decode cJ9_min_7cf53 9 = .ok (.iload_n 1, 1) := by decide +kernel
theorem dJ9_min_7cf53_10 : decode cJ9_min_7cf53 10 = .ok (.ireturn, 1) := by decide +kernel
theorem dJ0_length_8abf5_0 : decode cJ0_length_8abf5 0 = .ok (.aload_n 0, 1) := by decide +kernel
theorem dJ0_length_8abf5_1 : decode cJ0_length_8abf5 1 = .ok (.getfield 9, 3) := by decide +kernel
theorem dJ0_length_8abf5_4 : decode cJ0_length_8abf5 4 = .ok (.arraylength, 1) := by decide +kernel
theorem dJ0_length_8abf5_5 : decode cJ0_length_8abf5 5 = .ok (.aload_n 0, 1) := by decide +kernel
theorem dJ0_length_8abf5_6 : decode cJ0_length_8abf5 6 = .ok (.invokevirtual 335, 3) := by decide +kernel
theorem dJ0_length_8abf5_9 : decode cJ0_length_8abf5 9 = .ok (.ishr, 1) := by decide +kernel
theorem dJ0_length_8abf5_10 : decode cJ0_length_8abf5 10 = .ok (.ireturn, 1) := by decide +kernel
theorem dJ0_charAt_5068e_0 : decode cJ0_charAt_5068e 0 = .ok (.aload_n 0, 1) := by decide +kernel
theorem dJ0_charAt_5068e_1 : decode cJ0_charAt_5068e 1 = .ok (.invokevirtual 492, 3) := by decide +kernel
theorem dJ0_charAt_5068e_4 : decode cJ0_charAt_5068e 4 = .ok (.ifCond .eq 12, 3) := by decide +kernel
theorem dJ0_charAt_5068e_7 : decode cJ0_charAt_5068e 7 = .ok (.aload_n 0, 1) := by decide +kernel
theorem dJ0_charAt_5068e_8 : decode cJ0_charAt_5068e 8 = .ok (.getfield 9, 3) := by decide +kernel
theorem dJ0_charAt_5068e_11 : decode cJ0_charAt_5068e 11 = .ok (.iload_n 1, 1) := by decide +kernel
theorem dJ0_charAt_5068e_12 : decode cJ0_charAt_5068e 12 = .ok (.invokestatic 495, 3) := by decide +kernel
theorem dJ0_charAt_5068e_15 : decode cJ0_charAt_5068e 15 = .ok (.ireturn, 1) := by decide +kernel
theorem dJ0_charAt_5068e_16 : decode cJ0_charAt_5068e 16 = .ok (.aload_n 0, 1) := by decide +kernel
theorem dJ0_charAt_5068e_17 : decode cJ0_charAt_5068e 17 = .ok (.getfield 9, 3) := by decide +kernel
theorem dJ0_charAt_5068e_20 : decode cJ0_charAt_5068e 20 = .ok (.iload_n 1, 1) := by decide +kernel
theorem dJ0_charAt_5068e_21 : decode cJ0_charAt_5068e 21 = .ok (.invokestatic 498, 3) := by decide +kernel
theorem dJ0_charAt_5068e_24 : decode cJ0_charAt_5068e 24 = .ok (.ireturn, 1) := by decide +kernel
theorem dJ0_coder_7d493_0 : decode cJ0_coder_7d493 0 = .ok (.getstatic 38, 3) := by decide +kernel
theorem dJ0_coder_7d493_3 : decode cJ0_coder_7d493 3 = .ok (.ifCond .eq 10, 3) := by decide +kernel
theorem dJ0_coder_7d493_6 : decode cJ0_coder_7d493 6 = .ok (.aload_n 0, 1) := by decide +kernel
theorem dJ0_coder_7d493_7 : decode cJ0_coder_7d493 7 = .ok (.getfield 15, 3) := by decide +kernel
theorem dJ0_coder_7d493_10 : decode cJ0_coder_7d493 10 = .ok (.goto 4, 3) := by decide +kernel
theorem dJ0_coder_7d493_13 : decode cJ0_coder_7d493 13 = .ok (.iconst 1, 1) := by decide +kernel
theorem dJ0_coder_7d493_14 : decode cJ0_coder_7d493 14 = .ok (.ireturn, 1) := by decide +kernel
theorem dJ0_isLatin1_aae02_0 : decode cJ0_isLatin1_aae02 0 = .ok (.getstatic 38, 3) := by decide +kernel
theorem dJ0_isLatin1_aae02_3 : decode cJ0_isLatin1_aae02 3 = .ok (.ifCond .eq 14, 3) := by decide +kernel
theorem dJ0_isLatin1_aae02_6 : decode cJ0_isLatin1_aae02 6 = .ok (.aload_n 0, 1) := by decide +kernel
theorem dJ0_isLatin1_aae02_7 : decode cJ0_isLatin1_aae02 7 = .ok (.getfield 15, 3) := by decide +kernel
theorem dJ0_isLatin1_aae02_10 : decode cJ0_isLatin1_aae02 10 = .ok (.ifCond .ne 7, 3) := by decide +kernel
theorem dJ0_isLatin1_aae02_13 : decode cJ0_isLatin1_aae02 13 = .ok (.iconst 1, 1) := by decide +kernel
theorem dJ0_isLatin1_aae02_14 : decode cJ0_isLatin1_aae02 14 = .ok (.goto 4, 3) := by decide +kernel
theorem dJ0_isLatin1_aae02_17 : decode cJ0_isLatin1_aae02 17 = .ok (.iconst 0, 1) := by decide +kernel
theorem dJ0_isLatin1_aae02_18 : decode cJ0_isLatin1_aae02 18 = .ok (.ireturn, 1) := by decide +kernel
theorem dJ0_checkIndex_df160_0 : decode cJ0_checkIndex_df160 0 = .ok (.iload_n 0, 1) := by decide +kernel
theorem dJ0_checkIndex_df160_1 : decode cJ0_checkIndex_df160 1 = .ok (.iload_n 1, 1) := by decide +kernel
theorem dJ0_checkIndex_df160_2 : decode cJ0_checkIndex_df160 2 = .ok (.getstatic 1053, 3) := by decide +kernel
theorem dJ0_checkIndex_df160_5 : decode cJ0_checkIndex_df160 5 = .ok (.invokestatic 1059, 3) := by decide +kernel
theorem dJ0_checkIndex_df160_8 : decode cJ0_checkIndex_df160 8 = .ok (.pop, 1) := by decide +kernel
theorem dJ0_checkIndex_df160_9 : decode cJ0_checkIndex_df160 9 = .ok (.return_, 1) := by decide +kernel
theorem dJ1_charAt_3b067_0 : decode cJ1_charAt_3b067 0 = .ok (.iload_n 1, 1) := by decide +kernel
theorem dJ1_charAt_3b067_1 : decode cJ1_charAt_3b067 1 = .ok (.aload_n 0, 1) := by decide +kernel
theorem dJ1_charAt_3b067_2 : decode cJ1_charAt_3b067 2 = .ok (.arraylength, 1) := by decide +kernel
theorem dJ1_charAt_3b067_3 : decode cJ1_charAt_3b067 3 = .ok (.invokestatic 9, 3) := by decide +kernel
theorem dJ1_charAt_3b067_6 : decode cJ1_charAt_3b067 6 = .ok (.aload_n 0, 1) := by decide +kernel
theorem dJ1_charAt_3b067_7 : decode cJ1_charAt_3b067 7 = .ok (.iload_n 1, 1) := by decide +kernel
theorem dJ1_charAt_3b067_8 : decode cJ1_charAt_3b067 8 = .ok (.baload, 1) := by decide +kernel
theorem dJ1_charAt_3b067_9 : decode cJ1_charAt_3b067 9 = .ok (.sipush 255, 3) := by decide +kernel
theorem dJ1_charAt_3b067_12 : decode cJ1_charAt_3b067 12 = .ok (.iand, 1) := by decide +kernel
theorem dJ1_charAt_3b067_13 : decode cJ1_charAt_3b067 13 = .ok (.i2c, 1) := by decide +kernel
theorem dJ1_charAt_3b067_14 : decode cJ1_charAt_3b067 14 = .ok (.ireturn, 1) := by decide +kernel
theorem dJ2_getChar_3b067_0 : decode cJ2_getChar_3b067 0 = .ok (.getstatic 44, 3) := by decide +kernel
theorem dJ2_getChar_3b067_3 : decode cJ2_getChar_3b067 3 = .ok (.ifCond .ne 25, 3) := by decide +kernel
theorem dJ2_getChar_3b067_6 : decode cJ2_getChar_3b067 6 = .ok (.iload_n 1, 1) := by decide +kernel
theorem dJ2_getChar_3b067_7 : decode cJ2_getChar_3b067 7 = .ok (.ifCond .lt 11, 3) := by decide +kernel
theorem dJ2_getChar_3b067_10 : decode cJ2_getChar_3b067 10 = .ok (.iload_n 1, 1) := by decide +kernel
theorem dJ2_getChar_3b067_11 : decode cJ2_getChar_3b067 11 = .ok (.aload_n 0, 1) := by decide +kernel
theorem dJ2_getChar_3b067_12 : decode cJ2_getChar_3b067 12 = .ok (.invokestatic 48, 3) := by decide +kernel
theorem dJ2_getChar_3b067_15 : decode cJ2_getChar_3b067 15 = .ok (.if_icmp .lt 13, 3) := by decide +kernel
theorem dJ2_getChar_3b067_18 : decode cJ2_getChar_3b067 18 = .ok (.new 52, 3) := by decide +kernel
theorem dJ2_getChar_3b067_21 : decode cJ2_getChar_3b067 21 = .ok (.dup, 1) := by decide +kernel
theorem dJ2_getChar_3b067_22 : decode cJ2_getChar_3b067 22 = .ok (.ldc 54, 2) := by decide +kernel
theorem dJ2_getChar_3b067_24 : decode cJ2_getChar_3b067 24 = .ok (.invokespecial 56, 3) := by decide +kernel
theorem dJ2_getChar_3b067_27 : decode cJ2_getChar_3b067 27 = .ok (.athrow, 1) := by decide +kernel
theorem dJ2_getChar_3b067_28 : decode cJ2_getChar_3b067 28 = .ok (.iload_n 1, 1) := by decide +kernel
theorem dJ2_getChar_3b067_29 : decode cJ2_getChar_3b067 29 = .ok (.iconst 1, 1) := by decide +kernel
theorem dJ2_getChar_3b067_30 : decode cJ2_getChar_3b067 30 = .ok (.ishl, 1) := by decide +kernel
theorem dJ2_getChar_3b067_31 : decode cJ2_getChar_3b067 31 = .ok (.istore_n 1, 1) := by decide +kernel
theorem dJ2_getChar_3b067_32 : decode cJ2_getChar_3b067 32 = .ok (.aload_n 0, 1) := by decide +kernel
theorem dJ2_getChar_3b067_33 : decode cJ2_getChar_3b067 33 = .ok (.iload_n 1, 1) := by decide +kernel
theorem dJ2_getChar_3b067_34 : decode cJ2_getChar_3b067 34 = .ok (.iinc 1 1, 3) := by decide +kernel
theorem dJ2_getChar_3b067_37 : decode cJ2_getChar_3b067 37 = .ok (.baload, 1) := by decide +kernel
theorem dJ2_getChar_3b067_38 : decode cJ2_getChar_3b067 38 = .ok (.sipush 255, 3) := by decide +kernel
theorem dJ2_getChar_3b067_41 : decode cJ2_getChar_3b067 41 = .ok (.iand, 1) := by decide +kernel
theorem dJ2_getChar_3b067_42 : decode cJ2_getChar_3b067 42 = .ok (.getstatic 59, 3) := by decide +kernel
theorem dJ2_getChar_3b067_45 : decode cJ2_getChar_3b067 45 = .ok (.ishl, 1) := by decide +kernel
theorem dJ2_getChar_3b067_46 : decode cJ2_getChar_3b067 46 = .ok (.aload_n 0, 1) := by decide +kernel
theorem dJ2_getChar_3b067_47 : decode cJ2_getChar_3b067 47 = .ok (.iload_n 1, 1) := by decide +kernel
theorem dJ2_getChar_3b067_48 : decode cJ2_getChar_3b067 48 = .ok (.baload, 1) := by decide +kernel
theorem dJ2_getChar_3b067_49 : decode cJ2_getChar_3b067 49 = .ok (.sipush 255, 3) := by decide +kernel
theorem dJ2_getChar_3b067_52 : decode cJ2_getChar_3b067 52 = .ok (.iand, 1) := by decide +kernel
theorem dJ2_getChar_3b067_53 : decode cJ2_getChar_3b067 53 = .ok (.getstatic 63, 3) := by decide +kernel
theorem dJ2_getChar_3b067_56 : decode cJ2_getChar_3b067 56 = .ok (.ishl, 1) := by decide +kernel
theorem dJ2_getChar_3b067_57 : decode cJ2_getChar_3b067 57 = .ok (.ior, 1) := by decide +kernel
theorem dJ2_getChar_3b067_58 : decode cJ2_getChar_3b067 58 = .ok (.i2c, 1) := by decide +kernel
theorem dJ2_getChar_3b067_59 : decode cJ2_getChar_3b067 59 = .ok (.ireturn, 1) := by decide +kernel
theorem dJ2_length_9d52b_0 : decode cJ2_length_9d52b 0 = .ok (.aload_n 0, 1) := by decide +kernel
theorem dJ2_length_9d52b_1 : decode cJ2_length_9d52b 1 = .ok (.arraylength, 1) := by decide +kernel
theorem dJ2_length_9d52b_2 : decode cJ2_length_9d52b 2 = .ok (.iconst 1, 1) := by decide +kernel
theorem dJ2_length_9d52b_3 : decode cJ2_length_9d52b 3 = .ok (.ishr, 1) := by decide +kernel
theorem dJ2_length_9d52b_4 : decode cJ2_length_9d52b 4 = .ok (.ireturn, 1) := by decide +kernel
theorem dJ2_charAt_3b067_0 : decode cJ2_charAt_3b067 0 = .ok (.iload_n 1, 1) := by decide +kernel
theorem dJ2_charAt_3b067_1 : decode cJ2_charAt_3b067 1 = .ok (.aload_n 0, 1) := by decide +kernel
theorem dJ2_charAt_3b067_2 : decode cJ2_charAt_3b067 2 = .ok (.invokestatic 67, 3) := by decide +kernel
theorem dJ2_charAt_3b067_5 : decode cJ2_charAt_3b067 5 = .ok (.aload_n 0, 1) := by decide +kernel
theorem dJ2_charAt_3b067_6 : decode cJ2_charAt_3b067 6 = .ok (.iload_n 1, 1) := by decide +kernel
theorem dJ2_charAt_3b067_7 : decode cJ2_charAt_3b067 7 = .ok (.invokestatic 71, 3) := by decide +kernel
theorem dJ2_charAt_3b067_10 : decode cJ2_charAt_3b067 10 = .ok (.ireturn, 1) := by decide +kernel
theorem dJ2_checkIndex_2214a_0 : decode cJ2_checkIndex_2214a 0 = .ok (.iload_n 0, 1) := by decide +kernel
theorem dJ2_checkIndex_2214a_1 : decode cJ2_checkIndex_2214a 1 = .ok (.aload_n 1, 1) := by decide +kernel
theorem dJ2_checkIndex_2214a_2 : decode cJ2_checkIndex_2214a 2 = .ok (.invokestatic 48, 3) := by decide +kernel
theorem dJ2_checkIndex_2214a_5 : decode cJ2_checkIndex_2214a 5 = .ok (.invokestatic 414, 3) := by decide +kernel
theorem dJ2_checkIndex_2214a_8 : decode cJ2_checkIndex_2214a 8 = .ok (.return_, 1) := by decide +kernel
theorem dJ3_checkIndex_8e157_0 : decode cJ3_checkIndex_8e157 0 = .ok (.iload_n 0, 1) := by decide +kernel
theorem dJ3_checkIndex_8e157_1 : decode cJ3_checkIndex_8e157 1 = .ok (.ifCond .lt 8, 3) := by decide +kernel
theorem dJ3_checkIndex_8e157_4 : decode cJ3_checkIndex_8e157 4 = .ok (.iload_n 0, 1) := by decide +kernel
theorem dJ3_checkIndex_8e157_5 : decode cJ3_checkIndex_8e157 5 = .ok (.iload_n 1, 1) := by decide +kernel
theorem dJ3_checkIndex_8e157_6 : decode cJ3_checkIndex_8e157 6 = .ok (.if_icmp .lt 10, 3) := by decide +kernel
theorem dJ3_checkIndex_8e157_9 : decode cJ3_checkIndex_8e157 9 = .ok (.aload_n 2, 1) := by decide +kernel
theorem dJ3_checkIndex_8e157_10 : decode cJ3_checkIndex_8e157 10 = .ok (.iload_n 0, 1) := by decide +kernel
theorem dJ3_checkIndex_8e157_11 : decode cJ3_checkIndex_8e157 11 = .ok (.iload_n 1, 1) := by decide +kernel
theorem dJ3_checkIndex_8e157_12 : decode cJ3_checkIndex_8e157 12 = .ok (.invokestatic 95, 3) := by decide +kernel
theorem dJ3_checkIndex_8e157_15 : decode cJ3_checkIndex_8e157 15 = .ok (.athrow, 1) := by decide +kernel
theorem dJ3_checkIndex_8e157_16 : decode cJ3_checkIndex_8e157 16 = .ok (.iload_n 0, 1) := by decide +kernel
theorem dJ3_checkIndex_8e157_17 : decode cJ3_checkIndex_8e157 17 = .ok (.ireturn, 1) := by decide +kernel
theorem dL_law_0 : decode cL_law 0 = .ok (.new 7, 3) := by decide +kernel
theorem dL_law_3 : decode cL_law 3 = .ok (.dup, 1) := by decide +kernel
theorem dL_law_4 : decode cL_law 4 = .ok (.invokespecial 9, 3) := by decide +kernel
theorem dL_law_7 : decode cL_law 7 = .ok (.astore_n 1, 1) := by decide +kernel
theorem dL_law_8 : decode cL_law 8 = .ok (.new 10, 3) := by decide +kernel
theorem dL_law_11 : decode cL_law 11 = .ok (.dup, 1) := by decide +kernel
theorem dL_law_12 : decode cL_law 12 = .ok (.invokespecial 12, 3) := by decide +kernel
theorem dL_law_15 : decode cL_law 15 = .ok (.astore_n 2, 1) := by decide +kernel
theorem dL_law_16 : decode cL_law 16 = .ok (.iconst 0, 1) := by decide +kernel
theorem dL_law_17 : decode cL_law 17 = .ok (.istore_n 3, 1) := by decide +kernel
theorem dL_law_18 : decode cL_law 18 = .ok (.iload_n 3, 1) := by decide +kernel
theorem dL_law_19 : decode cL_law 19 = .ok (.aload_n 0, 1) := by decide +kernel
theorem dL_law_20 : decode cL_law 20 = .ok (.arraylength, 1) := by decide +kernel
theorem dL_law_21 : decode cL_law 21 = .ok (.bipush 6, 2) := by decide +kernel
theorem dL_law_23 : decode cL_law 23 = .ok (.isub, 1) := by decide +kernel
theorem dL_law_24 : decode cL_law 24 = .ok (.if_icmp .gt 1512, 3) := by decide +kernel
theorem dL_law_27 : decode cL_law 27 = .ok (.aload_n 0, 1) := by decide +kernel
theorem dL_law_28 : decode cL_law 28 = .ok (.iload_n 3, 1) := by decide +kernel
theorem dL_law_29 : decode cL_law 29 = .ok (.iaload, 1) := by decide +kernel
theorem dL_law_30 : decode cL_law 30 = .ok (.bipush 63, 2) := by decide +kernel
theorem dL_law_32 : decode cL_law 32 = .ok (.iand, 1) := by decide +kernel
theorem dL_law_33 : decode cL_law 33 = .ok (.tableswitch 1497 0 36 #[163, 206, 239, 262, 305, 338, 371, 404, 427, 470, 534, 567, 600, 633, 666, 689, 712, 745, 778, 821, 844, 867, 890, 913, 956, 990, 1023, 1066, 1109, 1152, 1175, 1208, 1261, 1284, 1327, 1400, 1434], 163) := by decide +kernel
theorem dL_law_196 : decode cL_law 196 = .ok (.aload_n 1, 1) := by decide +kernel
theorem dL_law_197 : decode cL_law 197 = .ok (.aload_n 0, 1) := by decide +kernel
theorem dL_law_198 : decode cL_law 198 = .ok (.iload_n 3, 1) := by decide +kernel
theorem dL_law_199 : decode cL_law 199 = .ok (.iconst 1, 1) := by decide +kernel
theorem dL_law_200 : decode cL_law 200 = .ok (.iadd, 1) := by decide +kernel
theorem dL_law_201 : decode cL_law 201 = .ok (.iaload, 1) := by decide +kernel
theorem dL_law_202 : decode cL_law 202 = .ok (.aload_n 0, 1) := by decide +kernel
theorem dL_law_203 : decode cL_law 203 = .ok (.iload_n 3, 1) := by decide +kernel
theorem dL_law_204 : decode cL_law 204 = .ok (.iconst 2, 1) := by decide +kernel
theorem dL_law_205 : decode cL_law 205 = .ok (.iadd, 1) := by decide +kernel
theorem dL_law_206 : decode cL_law 206 = .ok (.iaload, 1) := by decide +kernel
theorem dL_law_207 : decode cL_law 207 = .ok (.aload_n 0, 1) := by decide +kernel
theorem dL_law_208 : decode cL_law 208 = .ok (.iload_n 3, 1) := by decide +kernel
theorem dL_law_209 : decode cL_law 209 = .ok (.iconst 3, 1) := by decide +kernel
theorem dL_law_210 : decode cL_law 210 = .ok (.iadd, 1) := by decide +kernel
theorem dL_law_211 : decode cL_law 211 = .ok (.iaload, 1) := by decide +kernel
theorem dL_law_212 : decode cL_law 212 = .ok (.invokevirtual 13, 3) := by decide +kernel
theorem dL_law_215 : decode cL_law 215 = .ok (.aload_n 2, 1) := by decide +kernel
theorem dL_law_216 : decode cL_law 216 = .ok (.aload_n 0, 1) := by decide +kernel
theorem dL_law_217 : decode cL_law 217 = .ok (.iload_n 3, 1) := by decide +kernel
theorem dL_law_218 : decode cL_law 218 = .ok (.iconst 1, 1) := by decide +kernel
theorem dL_law_219 : decode cL_law 219 = .ok (.iadd, 1) := by decide +kernel
theorem dL_law_220 : decode cL_law 220 = .ok (.iaload, 1) := by decide +kernel
theorem dL_law_221 : decode cL_law 221 = .ok (.aload_n 0, 1) := by decide +kernel
theorem dL_law_222 : decode cL_law 222 = .ok (.iload_n 3, 1) := by decide +kernel
theorem dL_law_223 : decode cL_law 223 = .ok (.iconst 2, 1) := by decide +kernel
theorem dL_law_224 : decode cL_law 224 = .ok (.iadd, 1) := by decide +kernel
theorem dL_law_225 : decode cL_law 225 = .ok (.iaload, 1) := by decide +kernel
theorem dL_law_226 : decode cL_law 226 = .ok (.aload_n 0, 1) := by decide +kernel
theorem dL_law_227 : decode cL_law 227 = .ok (.iload_n 3, 1) := by decide +kernel
theorem dL_law_228 : decode cL_law 228 = .ok (.iconst 3, 1) := by decide +kernel
theorem dL_law_229 : decode cL_law 229 = .ok (.iadd, 1) := by decide +kernel
theorem dL_law_230 : decode cL_law 230 = .ok (.iaload, 1) := by decide +kernel
theorem dL_law_231 : decode cL_law 231 = .ok (.invokevirtual 17, 3) := by decide +kernel
theorem dL_law_234 : decode cL_law 234 = .ok (.if_icmp .eq 1296, 3) := by decide +kernel
theorem dL_law_237 : decode cL_law 237 = .ok (.iconst 0, 1) := by decide +kernel
theorem dL_law_238 : decode cL_law 238 = .ok (.ireturn, 1) := by decide +kernel
theorem dL_law_239 : decode cL_law 239 = .ok (.aload_n 1, 1) := by decide +kernel
theorem dL_law_240 : decode cL_law 240 = .ok (.aload_n 0, 1) := by decide +kernel
theorem dL_law_241 : decode cL_law 241 = .ok (.iload_n 3, 1) := by decide +kernel
theorem dL_law_242 : decode cL_law 242 = .ok (.iconst 1, 1) := by decide +kernel
theorem dL_law_243 : decode cL_law 243 = .ok (.iadd, 1) := by decide +kernel
theorem dL_law_244 : decode cL_law 244 = .ok (.iaload, 1) := by decide +kernel
theorem dL_law_245 : decode cL_law 245 = .ok (.aload_n 0, 1) := by decide +kernel
theorem dL_law_246 : decode cL_law 246 = .ok (.iload_n 3, 1) := by decide +kernel
theorem dL_law_247 : decode cL_law 247 = .ok (.iconst 2, 1) := by decide +kernel
theorem dL_law_248 : decode cL_law 248 = .ok (.iadd, 1) := by decide +kernel
theorem dL_law_249 : decode cL_law 249 = .ok (.iaload, 1) := by decide +kernel
theorem dL_law_250 : decode cL_law 250 = .ok (.invokevirtual 18, 3) := by decide +kernel
theorem dL_law_253 : decode cL_law 253 = .ok (.aload_n 2, 1) := by decide +kernel
theorem dL_law_254 : decode cL_law 254 = .ok (.aload_n 0, 1) := by decide +kernel
theorem dL_law_255 : decode cL_law 255 = .ok (.iload_n 3, 1) := by decide +kernel
theorem dL_law_256 : decode cL_law 256 = .ok (.iconst 1, 1) := by decide +kernel
theorem dL_law_257 : decode cL_law 257 = .ok (.iadd, 1) := by decide +kernel
theorem dL_law_258 : decode cL_law 258 = .ok (.iaload, 1) := by decide +kernel
theorem dL_law_259 : decode cL_law 259 = .ok (.aload_n 0, 1) := by decide +kernel
theorem dL_law_260 : decode cL_law 260 = .ok (.iload_n 3, 1) := by decide +kernel
theorem dL_law_261 : decode cL_law 261 = .ok (.iconst 2, 1) := by decide +kernel
theorem dL_law_262 : decode cL_law 262 = .ok (.iadd, 1) := by decide +kernel
theorem dL_law_263 : decode cL_law 263 = .ok (.iaload, 1) := by decide +kernel
theorem dL_law_264 : decode cL_law 264 = .ok (.invokevirtual 22, 3) := by decide +kernel
theorem dL_law_267 : decode cL_law 267 = .ok (.if_icmp .eq 1263, 3) := by decide +kernel
theorem dL_law_270 : decode cL_law 270 = .ok (.iconst 0, 1) := by decide +kernel
theorem dL_law_271 : decode cL_law 271 = .ok (.ireturn, 1) := by decide +kernel
theorem dL_law_272 : decode cL_law 272 = .ok (.aload_n 1, 1) := by decide +kernel
theorem dL_law_273 : decode cL_law 273 = .ok (.aload_n 0, 1) := by decide +kernel
theorem dL_law_274 : decode cL_law 274 = .ok (.iload_n 3, 1) := by decide +kernel
theorem dL_law_275 : decode cL_law 275 = .ok (.iconst 1, 1) := by decide +kernel
theorem dL_law_276 : decode cL_law 276 = .ok (.iadd, 1) := by decide +kernel
theorem dL_law_277 : decode cL_law 277 = .ok (.iaload, 1) := by decide +kernel
theorem dL_law_278 : decode cL_law 278 = .ok (.invokevirtual 23, 3) := by decide +kernel
theorem dL_law_281 : decode cL_law 281 = .ok (.aload_n 2, 1) := by decide +kernel
theorem dL_law_282 : decode cL_law 282 = .ok (.aload_n 0, 1) := by decide +kernel
theorem dL_law_283 : decode cL_law 283 = .ok (.iload_n 3, 1) := by decide +kernel
theorem dL_law_284 : decode cL_law 284 = .ok (.iconst 1, 1) := by decide +kernel
theorem dL_law_285 : decode cL_law 285 = .ok (.iadd, 1) := by decide +kernel
theorem dL_law_286 : decode cL_law 286 = .ok (.iaload, 1) := by decide +kernel
theorem dL_law_287 : decode cL_law 287 = .ok (.invokevirtual 27, 3) := by decide +kernel
theorem dL_law_290 : decode cL_law 290 = .ok (.if_icmp .eq 1240, 3) := by decide +kernel
theorem dL_law_293 : decode cL_law 293 = .ok (.iconst 0, 1) := by decide +kernel
theorem dL_law_294 : decode cL_law 294 = .ok (.ireturn, 1) := by decide +kernel
theorem dL_law_295 : decode cL_law 295 = .ok (.aload_n 1, 1) := by decide +kernel
theorem dL_law_296 : decode cL_law 296 = .ok (.aload_n 0, 1) := by decide +kernel
theorem dL_law_297 : decode cL_law 297 = .ok (.iload_n 3, 1) := by decide +kernel
theorem dL_law_298 : decode cL_law 298 = .ok (.iconst 1, 1) := by decide +kernel
theorem dL_law_299 : decode cL_law 299 = .ok (.iadd, 1) := by decide +kernel
theorem dL_law_300 : decode cL_law 300 = .ok (.iaload, 1) := by decide +kernel
theorem dL_law_301 : decode cL_law 301 = .ok (.aload_n 0, 1) := by decide +kernel
theorem dL_law_302 : decode cL_law 302 = .ok (.iload_n 3, 1) := by decide +kernel
theorem dL_law_303 : decode cL_law 303 = .ok (.iconst 2, 1) := by decide +kernel
theorem dL_law_304 : decode cL_law 304 = .ok (.iadd, 1) := by decide +kernel
theorem dL_law_305 : decode cL_law 305 = .ok (.iaload, 1) := by decide +kernel
theorem dL_law_306 : decode cL_law 306 = .ok (.aload_n 0, 1) := by decide +kernel
theorem dL_law_307 : decode cL_law 307 = .ok (.iload_n 3, 1) := by decide +kernel
theorem dL_law_308 : decode cL_law 308 = .ok (.iconst 3, 1) := by decide +kernel
theorem dL_law_309 : decode cL_law 309 = .ok (.iadd, 1) := by decide +kernel
theorem dL_law_310 : decode cL_law 310 = .ok (.iaload, 1) := by decide +kernel
theorem dL_law_311 : decode cL_law 311 = .ok (.invokevirtual 28, 3) := by decide +kernel
theorem dL_law_314 : decode cL_law 314 = .ok (.aload_n 2, 1) := by decide +kernel
theorem dL_law_315 : decode cL_law 315 = .ok (.aload_n 0, 1) := by decide +kernel
theorem dL_law_316 : decode cL_law 316 = .ok (.iload_n 3, 1) := by decide +kernel
theorem dL_law_317 : decode cL_law 317 = .ok (.iconst 1, 1) := by decide +kernel
theorem dL_law_318 : decode cL_law 318 = .ok (.iadd, 1) := by decide +kernel
theorem dL_law_319 : decode cL_law 319 = .ok (.iaload, 1) := by decide +kernel
theorem dL_law_320 : decode cL_law 320 = .ok (.aload_n 0, 1) := by decide +kernel
theorem dL_law_321 : decode cL_law 321 = .ok (.iload_n 3, 1) := by decide +kernel
theorem dL_law_322 : decode cL_law 322 = .ok (.iconst 2, 1) := by decide +kernel
theorem dL_law_323 : decode cL_law 323 = .ok (.iadd, 1) := by decide +kernel
theorem dL_law_324 : decode cL_law 324 = .ok (.iaload, 1) := by decide +kernel
theorem dL_law_325 : decode cL_law 325 = .ok (.aload_n 0, 1) := by decide +kernel
theorem dL_law_326 : decode cL_law 326 = .ok (.iload_n 3, 1) := by decide +kernel
theorem dL_law_327 : decode cL_law 327 = .ok (.iconst 3, 1) := by decide +kernel
theorem dL_law_328 : decode cL_law 328 = .ok (.iadd, 1) := by decide +kernel
theorem dL_law_329 : decode cL_law 329 = .ok (.iaload, 1) := by decide +kernel
theorem dL_law_330 : decode cL_law 330 = .ok (.invokevirtual 31, 3) := by decide +kernel
theorem dL_law_333 : decode cL_law 333 = .ok (.if_icmp .eq 1197, 3) := by decide +kernel
theorem dL_law_336 : decode cL_law 336 = .ok (.iconst 0, 1) := by decide +kernel
theorem dL_law_337 : decode cL_law 337 = .ok (.ireturn, 1) := by decide +kernel
theorem dL_law_338 : decode cL_law 338 = .ok (.aload_n 1, 1) := by decide +kernel
theorem dL_law_339 : decode cL_law 339 = .ok (.aload_n 0, 1) := by decide +kernel
theorem dL_law_340 : decode cL_law 340 = .ok (.iload_n 3, 1) := by decide +kernel
theorem dL_law_341 : decode cL_law 341 = .ok (.iconst 1, 1) := by decide +kernel
theorem dL_law_342 : decode cL_law 342 = .ok (.iadd, 1) := by decide +kernel
theorem dL_law_343 : decode cL_law 343 = .ok (.iaload, 1) := by decide +kernel
theorem dL_law_344 : decode cL_law 344 = .ok (.aload_n 0, 1) := by decide +kernel
theorem dL_law_345 : decode cL_law 345 = .ok (.iload_n 3, 1) := by decide +kernel
theorem dL_law_346 : decode cL_law 346 = .ok (.iconst 2, 1) := by decide +kernel
theorem dL_law_347 : decode cL_law 347 = .ok (.iadd, 1) := by decide +kernel
theorem dL_law_348 : decode cL_law 348 = .ok (.iaload, 1) := by decide +kernel
theorem dL_law_349 : decode cL_law 349 = .ok (.invokevirtual 32, 3) := by decide +kernel
theorem dL_law_352 : decode cL_law 352 = .ok (.aload_n 2, 1) := by decide +kernel
theorem dL_law_353 : decode cL_law 353 = .ok (.aload_n 0, 1) := by decide +kernel
theorem dL_law_354 : decode cL_law 354 = .ok (.iload_n 3, 1) := by decide +kernel
theorem dL_law_355 : decode cL_law 355 = .ok (.iconst 1, 1) := by decide +kernel
theorem dL_law_356 : decode cL_law 356 = .ok (.iadd, 1) := by decide +kernel
theorem dL_law_357 : decode cL_law 357 = .ok (.iaload, 1) := by decide +kernel
theorem dL_law_358 : decode cL_law 358 = .ok (.aload_n 0, 1) := by decide +kernel
theorem dL_law_359 : decode cL_law 359 = .ok (.iload_n 3, 1) := by decide +kernel
theorem dL_law_360 : decode cL_law 360 = .ok (.iconst 2, 1) := by decide +kernel
theorem dL_law_361 : decode cL_law 361 = .ok (.iadd, 1) := by decide +kernel
theorem dL_law_362 : decode cL_law 362 = .ok (.iaload, 1) := by decide +kernel
theorem dL_law_363 : decode cL_law 363 = .ok (.invokevirtual 35, 3) := by decide +kernel
theorem dL_law_366 : decode cL_law 366 = .ok (.if_icmp .eq 1164, 3) := by decide +kernel
theorem dL_law_369 : decode cL_law 369 = .ok (.iconst 0, 1) := by decide +kernel
theorem dL_law_370 : decode cL_law 370 = .ok (.ireturn, 1) := by decide +kernel
theorem dL_law_371 : decode cL_law 371 = .ok (.aload_n 1, 1) := by decide +kernel
theorem dL_law_372 : decode cL_law 372 = .ok (.aload_n 0, 1) := by decide +kernel
theorem dL_law_373 : decode cL_law 373 = .ok (.iload_n 3, 1) := by decide +kernel
theorem dL_law_374 : decode cL_law 374 = .ok (.iconst 1, 1) := by decide +kernel
theorem dL_law_375 : decode cL_law 375 = .ok (.iadd, 1) := by decide +kernel
theorem dL_law_376 : decode cL_law 376 = .ok (.iaload, 1) := by decide +kernel
theorem dL_law_377 : decode cL_law 377 = .ok (.aload_n 0, 1) := by decide +kernel
theorem dL_law_378 : decode cL_law 378 = .ok (.iload_n 3, 1) := by decide +kernel
theorem dL_law_379 : decode cL_law 379 = .ok (.iconst 2, 1) := by decide +kernel
theorem dL_law_380 : decode cL_law 380 = .ok (.iadd, 1) := by decide +kernel
theorem dL_law_381 : decode cL_law 381 = .ok (.iaload, 1) := by decide +kernel
theorem dL_law_382 : decode cL_law 382 = .ok (.invokevirtual 36, 3) := by decide +kernel
theorem dL_law_385 : decode cL_law 385 = .ok (.aload_n 2, 1) := by decide +kernel
theorem dL_law_386 : decode cL_law 386 = .ok (.aload_n 0, 1) := by decide +kernel
theorem dL_law_387 : decode cL_law 387 = .ok (.iload_n 3, 1) := by decide +kernel
theorem dL_law_388 : decode cL_law 388 = .ok (.iconst 1, 1) := by decide +kernel
theorem dL_law_389 : decode cL_law 389 = .ok (.iadd, 1) := by decide +kernel
theorem dL_law_390 : decode cL_law 390 = .ok (.iaload, 1) := by decide +kernel
theorem dL_law_391 : decode cL_law 391 = .ok (.aload_n 0, 1) := by decide +kernel
theorem dL_law_392 : decode cL_law 392 = .ok (.iload_n 3, 1) := by decide +kernel
theorem dL_law_393 : decode cL_law 393 = .ok (.iconst 2, 1) := by decide +kernel
theorem dL_law_394 : decode cL_law 394 = .ok (.iadd, 1) := by decide +kernel
theorem dL_law_395 : decode cL_law 395 = .ok (.iaload, 1) := by decide +kernel
theorem dL_law_396 : decode cL_law 396 = .ok (.invokevirtual 39, 3) := by decide +kernel
theorem dL_law_399 : decode cL_law 399 = .ok (.if_icmp .eq 1131, 3) := by decide +kernel
theorem dL_law_402 : decode cL_law 402 = .ok (.iconst 0, 1) := by decide +kernel
theorem dL_law_403 : decode cL_law 403 = .ok (.ireturn, 1) := by decide +kernel
theorem dL_law_404 : decode cL_law 404 = .ok (.aload_n 1, 1) := by decide +kernel
theorem dL_law_405 : decode cL_law 405 = .ok (.aload_n 0, 1) := by decide +kernel
theorem dL_law_406 : decode cL_law 406 = .ok (.iload_n 3, 1) := by decide +kernel
theorem dL_law_407 : decode cL_law 407 = .ok (.iconst 1, 1) := by decide +kernel
theorem dL_law_408 : decode cL_law 408 = .ok (.iadd, 1) := by decide +kernel
theorem dL_law_409 : decode cL_law 409 = .ok (.iaload, 1) := by decide +kernel
theorem dL_law_410 : decode cL_law 410 = .ok (.aload_n 0, 1) := by decide +kernel
theorem dL_law_411 : decode cL_law 411 = .ok (.iload_n 3, 1) := by decide +kernel
theorem dL_law_412 : decode cL_law 412 = .ok (.iconst 2, 1) := by decide +kernel
theorem dL_law_413 : decode cL_law 413 = .ok (.iadd, 1) := by decide +kernel
theorem dL_law_414 : decode cL_law 414 = .ok (.iaload, 1) := by decide +kernel
theorem dL_law_415 : decode cL_law 415 = .ok (.invokevirtual 40, 3) := by decide +kernel
theorem dL_law_418 : decode cL_law 418 = .ok (.aload_n 2, 1) := by decide +kernel
theorem dL_law_419 : decode cL_law 419 = .ok (.aload_n 0, 1) := by decide +kernel
theorem dL_law_420 : decode cL_law 420 = .ok (.iload_n 3, 1) := by decide +kernel
theorem dL_law_421 : decode cL_law 421 = .ok (.iconst 1, 1) := by decide +kernel
theorem dL_law_422 : decode cL_law 422 = .ok (.iadd, 1) := by decide +kernel
theorem dL_law_423 : decode cL_law 423 = .ok (.iaload, 1) := by decide +kernel
theorem dL_law_424 : decode cL_law 424 = .ok (.aload_n 0, 1) := by decide +kernel
theorem dL_law_425 : decode cL_law 425 = .ok (.iload_n 3, 1) := by decide +kernel
theorem dL_law_426 : decode cL_law 426 = .ok (.iconst 2, 1) := by decide +kernel
theorem dL_law_427 : decode cL_law 427 = .ok (.iadd, 1) := by decide +kernel
theorem dL_law_428 : decode cL_law 428 = .ok (.iaload, 1) := by decide +kernel
theorem dL_law_429 : decode cL_law 429 = .ok (.invokevirtual 43, 3) := by decide +kernel
theorem dL_law_432 : decode cL_law 432 = .ok (.if_icmp .eq 1098, 3) := by decide +kernel
theorem dL_law_435 : decode cL_law 435 = .ok (.iconst 0, 1) := by decide +kernel
theorem dL_law_436 : decode cL_law 436 = .ok (.ireturn, 1) := by decide +kernel
theorem dL_law_437 : decode cL_law 437 = .ok (.aload_n 1, 1) := by decide +kernel
theorem dL_law_438 : decode cL_law 438 = .ok (.aload_n 0, 1) := by decide +kernel
theorem dL_law_439 : decode cL_law 439 = .ok (.iload_n 3, 1) := by decide +kernel
theorem dL_law_440 : decode cL_law 440 = .ok (.iconst 1, 1) := by decide +kernel
theorem dL_law_441 : decode cL_law 441 = .ok (.iadd, 1) := by decide +kernel
theorem dL_law_442 : decode cL_law 442 = .ok (.iaload, 1) := by decide +kernel
theorem dL_law_443 : decode cL_law 443 = .ok (.invokevirtual 44, 3) := by decide +kernel
theorem dL_law_446 : decode cL_law 446 = .ok (.aload_n 2, 1) := by decide +kernel
theorem dL_law_447 : decode cL_law 447 = .ok (.aload_n 0, 1) := by decide +kernel
theorem dL_law_448 : decode cL_law 448 = .ok (.iload_n 3, 1) := by decide +kernel
theorem dL_law_449 : decode cL_law 449 = .ok (.iconst 1, 1) := by decide +kernel
theorem dL_law_450 : decode cL_law 450 = .ok (.iadd, 1) := by decide +kernel
theorem dL_law_451 : decode cL_law 451 = .ok (.iaload, 1) := by decide +kernel
theorem dL_law_452 : decode cL_law 452 = .ok (.invokevirtual 47, 3) := by decide +kernel
theorem dL_law_455 : decode cL_law 455 = .ok (.if_icmp .eq 1075, 3) := by decide +kernel
theorem dL_law_458 : decode cL_law 458 = .ok (.iconst 0, 1) := by decide +kernel
theorem dL_law_459 : decode cL_law 459 = .ok (.ireturn, 1) := by decide +kernel
theorem dL_law_460 : decode cL_law 460 = .ok (.aload_n 1, 1) := by decide +kernel
theorem dL_law_461 : decode cL_law 461 = .ok (.aload_n 0, 1) := by decide +kernel
theorem dL_law_462 : decode cL_law 462 = .ok (.iload_n 3, 1) := by decide +kernel
theorem dL_law_463 : decode cL_law 463 = .ok (.iconst 1, 1) := by decide +kernel
theorem dL_law_464 : decode cL_law 464 = .ok (.iadd, 1) := by decide +kernel
theorem dL_law_465 : decode cL_law 465 = .ok (.iaload, 1) := by decide +kernel
theorem dL_law_466 : decode cL_law 466 = .ok (.aload_n 0, 1) := by decide +kernel
theorem dL_law_467 : decode cL_law 467 = .ok (.iload_n 3, 1) := by decide +kernel
theorem dL_law_468 : decode cL_law 468 = .ok (.iconst 2, 1) := by decide +kernel
theorem dL_law_469 : decode cL_law 469 = .ok (.iadd, 1) := by decide +kernel
theorem dL_law_470 : decode cL_law 470 = .ok (.iaload, 1) := by decide +kernel
theorem dL_law_471 : decode cL_law 471 = .ok (.aload_n 0, 1) := by decide +kernel
theorem dL_law_472 : decode cL_law 472 = .ok (.iload_n 3, 1) := by decide +kernel
theorem dL_law_473 : decode cL_law 473 = .ok (.iconst 3, 1) := by decide +kernel
theorem dL_law_474 : decode cL_law 474 = .ok (.iadd, 1) := by decide +kernel
theorem dL_law_475 : decode cL_law 475 = .ok (.iaload, 1) := by decide +kernel
theorem dL_law_476 : decode cL_law 476 = .ok (.invokevirtual 48, 3) := by decide +kernel
theorem dL_law_479 : decode cL_law 479 = .ok (.aload_n 2, 1) := by decide +kernel
theorem dL_law_480 : decode cL_law 480 = .ok (.aload_n 0, 1) := by decide +kernel
theorem dL_law_481 : decode cL_law 481 = .ok (.iload_n 3, 1) := by decide +kernel
theorem dL_law_482 : decode cL_law 482 = .ok (.iconst 1, 1) := by decide +kernel
theorem dL_law_483 : decode cL_law 483 = .ok (.iadd, 1) := by decide +kernel
theorem dL_law_484 : decode cL_law 484 = .ok (.iaload, 1) := by decide +kernel
theorem dL_law_485 : decode cL_law 485 = .ok (.aload_n 0, 1) := by decide +kernel
theorem dL_law_486 : decode cL_law 486 = .ok (.iload_n 3, 1) := by decide +kernel
theorem dL_law_487 : decode cL_law 487 = .ok (.iconst 2, 1) := by decide +kernel
theorem dL_law_488 : decode cL_law 488 = .ok (.iadd, 1) := by decide +kernel
theorem dL_law_489 : decode cL_law 489 = .ok (.iaload, 1) := by decide +kernel
theorem dL_law_490 : decode cL_law 490 = .ok (.aload_n 0, 1) := by decide +kernel
theorem dL_law_491 : decode cL_law 491 = .ok (.iload_n 3, 1) := by decide +kernel
theorem dL_law_492 : decode cL_law 492 = .ok (.iconst 3, 1) := by decide +kernel
theorem dL_law_493 : decode cL_law 493 = .ok (.iadd, 1) := by decide +kernel
theorem dL_law_494 : decode cL_law 494 = .ok (.iaload, 1) := by decide +kernel
theorem dL_law_495 : decode cL_law 495 = .ok (.invokevirtual 51, 3) := by decide +kernel
theorem dL_law_498 : decode cL_law 498 = .ok (.if_icmp .eq 1032, 3) := by decide +kernel
theorem dL_law_501 : decode cL_law 501 = .ok (.iconst 0, 1) := by decide +kernel
theorem dL_law_502 : decode cL_law 502 = .ok (.ireturn, 1) := by decide +kernel
theorem dL_law_503 : decode cL_law 503 = .ok (.aload_n 1, 1) := by decide +kernel
theorem dL_law_504 : decode cL_law 504 = .ok (.aload_n 0, 1) := by decide +kernel
theorem dL_law_505 : decode cL_law 505 = .ok (.iload_n 3, 1) := by decide +kernel
theorem dL_law_506 : decode cL_law 506 = .ok (.iconst 1, 1) := by decide +kernel
theorem dL_law_507 : decode cL_law 507 = .ok (.iadd, 1) := by decide +kernel
theorem dL_law_508 : decode cL_law 508 = .ok (.iaload, 1) := by decide +kernel
theorem dL_law_509 : decode cL_law 509 = .ok (.aload_n 0, 1) := by decide +kernel
theorem dL_law_510 : decode cL_law 510 = .ok (.iload_n 3, 1) := by decide +kernel
theorem dL_law_511 : decode cL_law 511 = .ok (.iconst 2, 1) := by decide +kernel
theorem dL_law_512 : decode cL_law 512 = .ok (.iadd, 1) := by decide +kernel
theorem dL_law_513 : decode cL_law 513 = .ok (.iaload, 1) := by decide +kernel
theorem dL_law_514 : decode cL_law 514 = .ok (.aload_n 0, 1) := by decide +kernel
theorem dL_law_515 : decode cL_law 515 = .ok (.iload_n 3, 1) := by decide +kernel
theorem dL_law_516 : decode cL_law 516 = .ok (.iconst 3, 1) := by decide +kernel
theorem dL_law_517 : decode cL_law 517 = .ok (.iadd, 1) := by decide +kernel
theorem dL_law_518 : decode cL_law 518 = .ok (.iaload, 1) := by decide +kernel
theorem dL_law_519 : decode cL_law 519 = .ok (.aload_n 0, 1) := by decide +kernel
theorem dL_law_520 : decode cL_law 520 = .ok (.iload_n 3, 1) := by decide +kernel
theorem dL_law_521 : decode cL_law 521 = .ok (.iconst 4, 1) := by decide +kernel
theorem dL_law_522 : decode cL_law 522 = .ok (.iadd, 1) := by decide +kernel
theorem dL_law_523 : decode cL_law 523 = .ok (.iaload, 1) := by decide +kernel
theorem dL_law_524 : decode cL_law 524 = .ok (.aload_n 0, 1) := by decide +kernel
theorem dL_law_525 : decode cL_law 525 = .ok (.iload_n 3, 1) := by decide +kernel
theorem dL_law_526 : decode cL_law 526 = .ok (.iconst 5, 1) := by decide +kernel
theorem dL_law_527 : decode cL_law 527 = .ok (.iadd, 1) := by decide +kernel
theorem dL_law_528 : decode cL_law 528 = .ok (.iaload, 1) := by decide +kernel
theorem dL_law_529 : decode cL_law 529 = .ok (.invokevirtual 52, 3) := by decide +kernel
theorem dL_law_532 : decode cL_law 532 = .ok (.aload_n 2, 1) := by decide +kernel
theorem dL_law_533 : decode cL_law 533 = .ok (.aload_n 0, 1) := by decide +kernel
theorem dL_law_534 : decode cL_law 534 = .ok (.iload_n 3, 1) := by decide +kernel
theorem dL_law_535 : decode cL_law 535 = .ok (.iconst 1, 1) := by decide +kernel
theorem dL_law_536 : decode cL_law 536 = .ok (.iadd, 1) := by decide +kernel
theorem dL_law_537 : decode cL_law 537 = .ok (.iaload, 1) := by decide +kernel
theorem dL_law_538 : decode cL_law 538 = .ok (.aload_n 0, 1) := by decide +kernel
theorem dL_law_539 : decode cL_law 539 = .ok (.iload_n 3, 1) := by decide +kernel
theorem dL_law_540 : decode cL_law 540 = .ok (.iconst 2, 1) := by decide +kernel
theorem dL_law_541 : decode cL_law 541 = .ok (.iadd, 1) := by decide +kernel
theorem dL_law_542 : decode cL_law 542 = .ok (.iaload, 1) := by decide +kernel
theorem dL_law_543 : decode cL_law 543 = .ok (.aload_n 0, 1) := by decide +kernel
theorem dL_law_544 : decode cL_law 544 = .ok (.iload_n 3, 1) := by decide +kernel
theorem dL_law_545 : decode cL_law 545 = .ok (.iconst 3, 1) := by decide +kernel
theorem dL_law_546 : decode cL_law 546 = .ok (.iadd, 1) := by decide +kernel
theorem dL_law_547 : decode cL_law 547 = .ok (.iaload, 1) := by decide +kernel
theorem dL_law_548 : decode cL_law 548 = .ok (.aload_n 0, 1) := by decide +kernel
theorem dL_law_549 : decode cL_law 549 = .ok (.iload_n 3, 1) := by decide +kernel
theorem dL_law_550 : decode cL_law 550 = .ok (.iconst 4, 1) := by decide +kernel
theorem dL_law_551 : decode cL_law 551 = .ok (.iadd, 1) := by decide +kernel
theorem dL_law_552 : decode cL_law 552 = .ok (.iaload, 1) := by decide +kernel
theorem dL_law_553 : decode cL_law 553 = .ok (.aload_n 0, 1) := by decide +kernel
theorem dL_law_554 : decode cL_law 554 = .ok (.iload_n 3, 1) := by decide +kernel
theorem dL_law_555 : decode cL_law 555 = .ok (.iconst 5, 1) := by decide +kernel
theorem dL_law_556 : decode cL_law 556 = .ok (.iadd, 1) := by decide +kernel
theorem dL_law_557 : decode cL_law 557 = .ok (.iaload, 1) := by decide +kernel
theorem dL_law_558 : decode cL_law 558 = .ok (.invokevirtual 56, 3) := by decide +kernel
theorem dL_law_561 : decode cL_law 561 = .ok (.lcmp, 1) := by decide +kernel
theorem dL_law_562 : decode cL_law 562 = .ok (.ifCond .eq 968, 3) := by decide +kernel
theorem dL_law_565 : decode cL_law 565 = .ok (.iconst 0, 1) := by decide +kernel
theorem dL_law_566 : decode cL_law 566 = .ok (.ireturn, 1) := by decide +kernel
theorem dL_law_567 : decode cL_law 567 = .ok (.aload_n 1, 1) := by decide +kernel
theorem dL_law_568 : decode cL_law 568 = .ok (.aload_n 0, 1) := by decide +kernel
theorem dL_law_569 : decode cL_law 569 = .ok (.iload_n 3, 1) := by decide +kernel
theorem dL_law_570 : decode cL_law 570 = .ok (.iconst 1, 1) := by decide +kernel
theorem dL_law_571 : decode cL_law 571 = .ok (.iadd, 1) := by decide +kernel
theorem dL_law_572 : decode cL_law 572 = .ok (.iaload, 1) := by decide +kernel
theorem dL_law_573 : decode cL_law 573 = .ok (.aload_n 0, 1) := by decide +kernel
theorem dL_law_574 : decode cL_law 574 = .ok (.iload_n 3, 1) := by decide +kernel
theorem dL_law_575 : decode cL_law 575 = .ok (.iconst 2, 1) := by decide +kernel
theorem dL_law_576 : decode cL_law 576 = .ok (.iadd, 1) := by decide +kernel
theorem dL_law_577 : decode cL_law 577 = .ok (.iaload, 1) := by decide +kernel
theorem dL_law_578 : decode cL_law 578 = .ok (.invokevirtual 57, 3) := by decide +kernel
theorem dL_law_581 : decode cL_law 581 = .ok (.aload_n 2, 1) := by decide +kernel
theorem dL_law_582 : decode cL_law 582 = .ok (.aload_n 0, 1) := by decide +kernel
theorem dL_law_583 : decode cL_law 583 = .ok (.iload_n 3, 1) := by decide +kernel
theorem dL_law_584 : decode cL_law 584 = .ok (.iconst 1, 1) := by decide +kernel
theorem dL_law_585 : decode cL_law 585 = .ok (.iadd, 1) := by decide +kernel
theorem dL_law_586 : decode cL_law 586 = .ok (.iaload, 1) := by decide +kernel
theorem dL_law_587 : decode cL_law 587 = .ok (.aload_n 0, 1) := by decide +kernel
theorem dL_law_588 : decode cL_law 588 = .ok (.iload_n 3, 1) := by decide +kernel
theorem dL_law_589 : decode cL_law 589 = .ok (.iconst 2, 1) := by decide +kernel
theorem dL_law_590 : decode cL_law 590 = .ok (.iadd, 1) := by decide +kernel
theorem dL_law_591 : decode cL_law 591 = .ok (.iaload, 1) := by decide +kernel
theorem dL_law_592 : decode cL_law 592 = .ok (.invokevirtual 60, 3) := by decide +kernel
theorem dL_law_595 : decode cL_law 595 = .ok (.if_icmp .eq 935, 3) := by decide +kernel
theorem dL_law_598 : decode cL_law 598 = .ok (.iconst 0, 1) := by decide +kernel
theorem dL_law_599 : decode cL_law 599 = .ok (.ireturn, 1) := by decide +kernel
theorem dL_law_600 : decode cL_law 600 = .ok (.aload_n 1, 1) := by decide +kernel
theorem dL_law_601 : decode cL_law 601 = .ok (.aload_n 0, 1) := by decide +kernel
theorem dL_law_602 : decode cL_law 602 = .ok (.iload_n 3, 1) := by decide +kernel
theorem dL_law_603 : decode cL_law 603 = .ok (.iconst 1, 1) := by decide +kernel
theorem dL_law_604 : decode cL_law 604 = .ok (.iadd, 1) := by decide +kernel
theorem dL_law_605 : decode cL_law 605 = .ok (.iaload, 1) := by decide +kernel
theorem dL_law_606 : decode cL_law 606 = .ok (.aload_n 0, 1) := by decide +kernel
theorem dL_law_607 : decode cL_law 607 = .ok (.iload_n 3, 1) := by decide +kernel
theorem dL_law_608 : decode cL_law 608 = .ok (.iconst 2, 1) := by decide +kernel
theorem dL_law_609 : decode cL_law 609 = .ok (.iadd, 1) := by decide +kernel
theorem dL_law_610 : decode cL_law 610 = .ok (.iaload, 1) := by decide +kernel
theorem dL_law_611 : decode cL_law 611 = .ok (.invokevirtual 61, 3) := by decide +kernel
theorem dL_law_614 : decode cL_law 614 = .ok (.aload_n 2, 1) := by decide +kernel
theorem dL_law_615 : decode cL_law 615 = .ok (.aload_n 0, 1) := by decide +kernel
theorem dL_law_616 : decode cL_law 616 = .ok (.iload_n 3, 1) := by decide +kernel
theorem dL_law_617 : decode cL_law 617 = .ok (.iconst 1, 1) := by decide +kernel
theorem dL_law_618 : decode cL_law 618 = .ok (.iadd, 1) := by decide +kernel
theorem dL_law_619 : decode cL_law 619 = .ok (.iaload, 1) := by decide +kernel
theorem dL_law_620 : decode cL_law 620 = .ok (.aload_n 0, 1) := by decide +kernel
theorem dL_law_621 : decode cL_law 621 = .ok (.iload_n 3, 1) := by decide +kernel
theorem dL_law_622 : decode cL_law 622 = .ok (.iconst 2, 1) := by decide +kernel
theorem dL_law_623 : decode cL_law 623 = .ok (.iadd, 1) := by decide +kernel
theorem dL_law_624 : decode cL_law 624 = .ok (.iaload, 1) := by decide +kernel
theorem dL_law_625 : decode cL_law 625 = .ok (.invokevirtual 64, 3) := by decide +kernel
theorem dL_law_628 : decode cL_law 628 = .ok (.if_icmp .eq 902, 3) := by decide +kernel
theorem dL_law_631 : decode cL_law 631 = .ok (.iconst 0, 1) := by decide +kernel
theorem dL_law_632 : decode cL_law 632 = .ok (.ireturn, 1) := by decide +kernel
theorem dL_law_633 : decode cL_law 633 = .ok (.aload_n 1, 1) := by decide +kernel
theorem dL_law_634 : decode cL_law 634 = .ok (.aload_n 0, 1) := by decide +kernel
theorem dL_law_635 : decode cL_law 635 = .ok (.iload_n 3, 1) := by decide +kernel
theorem dL_law_636 : decode cL_law 636 = .ok (.iconst 1, 1) := by decide +kernel
theorem dL_law_637 : decode cL_law 637 = .ok (.iadd, 1) := by decide +kernel
theorem dL_law_638 : decode cL_law 638 = .ok (.iaload, 1) := by decide +kernel
theorem dL_law_639 : decode cL_law 639 = .ok (.aload_n 0, 1) := by decide +kernel
theorem dL_law_640 : decode cL_law 640 = .ok (.iload_n 3, 1) := by decide +kernel
theorem dL_law_641 : decode cL_law 641 = .ok (.iconst 2, 1) := by decide +kernel
theorem dL_law_642 : decode cL_law 642 = .ok (.iadd, 1) := by decide +kernel
theorem dL_law_643 : decode cL_law 643 = .ok (.iaload, 1) := by decide +kernel
theorem dL_law_644 : decode cL_law 644 = .ok (.invokevirtual 65, 3) := by decide +kernel
theorem dL_law_647 : decode cL_law 647 = .ok (.aload_n 2, 1) := by decide +kernel
theorem dL_law_648 : decode cL_law 648 = .ok (.aload_n 0, 1) := by decide +kernel
theorem dL_law_649 : decode cL_law 649 = .ok (.iload_n 3, 1) := by decide +kernel
theorem dL_law_650 : decode cL_law 650 = .ok (.iconst 1, 1) := by decide +kernel
theorem dL_law_651 : decode cL_law 651 = .ok (.iadd, 1) := by decide +kernel
theorem dL_law_652 : decode cL_law 652 = .ok (.iaload, 1) := by decide +kernel
theorem dL_law_653 : decode cL_law 653 = .ok (.aload_n 0, 1) := by decide +kernel
theorem dL_law_654 : decode cL_law 654 = .ok (.iload_n 3, 1) := by decide +kernel
theorem dL_law_655 : decode cL_law 655 = .ok (.iconst 2, 1) := by decide +kernel
theorem dL_law_656 : decode cL_law 656 = .ok (.iadd, 1) := by decide +kernel
theorem dL_law_657 : decode cL_law 657 = .ok (.iaload, 1) := by decide +kernel
theorem dL_law_658 : decode cL_law 658 = .ok (.invokevirtual 68, 3) := by decide +kernel
theorem dL_law_661 : decode cL_law 661 = .ok (.if_icmp .eq 869, 3) := by decide +kernel
theorem dL_law_664 : decode cL_law 664 = .ok (.iconst 0, 1) := by decide +kernel
theorem dL_law_665 : decode cL_law 665 = .ok (.ireturn, 1) := by decide +kernel
theorem dL_law_666 : decode cL_law 666 = .ok (.aload_n 1, 1) := by decide +kernel
theorem dL_law_667 : decode cL_law 667 = .ok (.aload_n 0, 1) := by decide +kernel
theorem dL_law_668 : decode cL_law 668 = .ok (.iload_n 3, 1) := by decide +kernel
theorem dL_law_669 : decode cL_law 669 = .ok (.iconst 1, 1) := by decide +kernel
theorem dL_law_670 : decode cL_law 670 = .ok (.iadd, 1) := by decide +kernel
theorem dL_law_671 : decode cL_law 671 = .ok (.iaload, 1) := by decide +kernel
theorem dL_law_672 : decode cL_law 672 = .ok (.aload_n 0, 1) := by decide +kernel
theorem dL_law_673 : decode cL_law 673 = .ok (.iload_n 3, 1) := by decide +kernel
theorem dL_law_674 : decode cL_law 674 = .ok (.iconst 2, 1) := by decide +kernel
theorem dL_law_675 : decode cL_law 675 = .ok (.iadd, 1) := by decide +kernel
theorem dL_law_676 : decode cL_law 676 = .ok (.iaload, 1) := by decide +kernel
theorem dL_law_677 : decode cL_law 677 = .ok (.invokevirtual 69, 3) := by decide +kernel
theorem dL_law_680 : decode cL_law 680 = .ok (.aload_n 2, 1) := by decide +kernel
theorem dL_law_681 : decode cL_law 681 = .ok (.aload_n 0, 1) := by decide +kernel
theorem dL_law_682 : decode cL_law 682 = .ok (.iload_n 3, 1) := by decide +kernel
theorem dL_law_683 : decode cL_law 683 = .ok (.iconst 1, 1) := by decide +kernel
theorem dL_law_684 : decode cL_law 684 = .ok (.iadd, 1) := by decide +kernel
theorem dL_law_685 : decode cL_law 685 = .ok (.iaload, 1) := by decide +kernel
theorem dL_law_686 : decode cL_law 686 = .ok (.aload_n 0, 1) := by decide +kernel
theorem dL_law_687 : decode cL_law 687 = .ok (.iload_n 3, 1) := by decide +kernel
theorem dL_law_688 : decode cL_law 688 = .ok (.iconst 2, 1) := by decide +kernel
theorem dL_law_689 : decode cL_law 689 = .ok (.iadd, 1) := by decide +kernel
theorem dL_law_690 : decode cL_law 690 = .ok (.iaload, 1) := by decide +kernel
theorem dL_law_691 : decode cL_law 691 = .ok (.invokevirtual 72, 3) := by decide +kernel
theorem dL_law_694 : decode cL_law 694 = .ok (.if_icmp .eq 836, 3) := by decide +kernel
theorem dL_law_697 : decode cL_law 697 = .ok (.iconst 0, 1) := by decide +kernel
theorem dL_law_698 : decode cL_law 698 = .ok (.ireturn, 1) := by decide +kernel
theorem dL_law_699 : decode cL_law 699 = .ok (.aload_n 1, 1) := by decide +kernel
theorem dL_law_700 : decode cL_law 700 = .ok (.aload_n 0, 1) := by decide +kernel
theorem dL_law_701 : decode cL_law 701 = .ok (.iload_n 3, 1) := by decide +kernel
theorem dL_law_702 : decode cL_law 702 = .ok (.iconst 1, 1) := by decide +kernel
theorem dL_law_703 : decode cL_law 703 = .ok (.iadd, 1) := by decide +kernel
theorem dL_law_704 : decode cL_law 704 = .ok (.iaload, 1) := by decide +kernel
theorem dL_law_705 : decode cL_law 705 = .ok (.invokevirtual 73, 3) := by decide +kernel
theorem dL_law_708 : decode cL_law 708 = .ok (.aload_n 2, 1) := by decide +kernel
theorem dL_law_709 : decode cL_law 709 = .ok (.aload_n 0, 1) := by decide +kernel
theorem dL_law_710 : decode cL_law 710 = .ok (.iload_n 3, 1) := by decide +kernel
theorem dL_law_711 : decode cL_law 711 = .ok (.iconst 1, 1) := by decide +kernel
theorem dL_law_712 : decode cL_law 712 = .ok (.iadd, 1) := by decide +kernel
theorem dL_law_713 : decode cL_law 713 = .ok (.iaload, 1) := by decide +kernel
theorem dL_law_714 : decode cL_law 714 = .ok (.invokevirtual 76, 3) := by decide +kernel
theorem dL_law_717 : decode cL_law 717 = .ok (.if_icmp .eq 813, 3) := by decide +kernel
theorem dL_law_720 : decode cL_law 720 = .ok (.iconst 0, 1) := by decide +kernel
theorem dL_law_721 : decode cL_law 721 = .ok (.ireturn, 1) := by decide +kernel
theorem dL_law_722 : decode cL_law 722 = .ok (.aload_n 1, 1) := by decide +kernel
theorem dL_law_723 : decode cL_law 723 = .ok (.aload_n 0, 1) := by decide +kernel
theorem dL_law_724 : decode cL_law 724 = .ok (.iload_n 3, 1) := by decide +kernel
theorem dL_law_725 : decode cL_law 725 = .ok (.iconst 1, 1) := by decide +kernel
theorem dL_law_726 : decode cL_law 726 = .ok (.iadd, 1) := by decide +kernel
theorem dL_law_727 : decode cL_law 727 = .ok (.iaload, 1) := by decide +kernel
theorem dL_law_728 : decode cL_law 728 = .ok (.invokevirtual 77, 3) := by decide +kernel
theorem dL_law_731 : decode cL_law 731 = .ok (.aload_n 2, 1) := by decide +kernel
theorem dL_law_732 : decode cL_law 732 = .ok (.aload_n 0, 1) := by decide +kernel
theorem dL_law_733 : decode cL_law 733 = .ok (.iload_n 3, 1) := by decide +kernel
theorem dL_law_734 : decode cL_law 734 = .ok (.iconst 1, 1) := by decide +kernel
theorem dL_law_735 : decode cL_law 735 = .ok (.iadd, 1) := by decide +kernel
theorem dL_law_736 : decode cL_law 736 = .ok (.iaload, 1) := by decide +kernel
theorem dL_law_737 : decode cL_law 737 = .ok (.invokevirtual 80, 3) := by decide +kernel
theorem dL_law_740 : decode cL_law 740 = .ok (.if_icmp .eq 790, 3) := by decide +kernel
theorem dL_law_743 : decode cL_law 743 = .ok (.iconst 0, 1) := by decide +kernel
theorem dL_law_744 : decode cL_law 744 = .ok (.ireturn, 1) := by decide +kernel
theorem dL_law_745 : decode cL_law 745 = .ok (.aload_n 1, 1) := by decide +kernel
theorem dL_law_746 : decode cL_law 746 = .ok (.aload_n 0, 1) := by decide +kernel
theorem dL_law_747 : decode cL_law 747 = .ok (.iload_n 3, 1) := by decide +kernel
theorem dL_law_748 : decode cL_law 748 = .ok (.iconst 1, 1) := by decide +kernel
theorem dL_law_749 : decode cL_law 749 = .ok (.iadd, 1) := by decide +kernel
theorem dL_law_750 : decode cL_law 750 = .ok (.iaload, 1) := by decide +kernel
theorem dL_law_751 : decode cL_law 751 = .ok (.aload_n 0, 1) := by decide +kernel
theorem dL_law_752 : decode cL_law 752 = .ok (.iload_n 3, 1) := by decide +kernel
theorem dL_law_753 : decode cL_law 753 = .ok (.iconst 2, 1) := by decide +kernel
theorem dL_law_754 : decode cL_law 754 = .ok (.iadd, 1) := by decide +kernel
theorem dL_law_755 : decode cL_law 755 = .ok (.iaload, 1) := by decide +kernel
theorem dL_law_756 : decode cL_law 756 = .ok (.invokevirtual 81, 3) := by decide +kernel
theorem dL_law_759 : decode cL_law 759 = .ok (.aload_n 2, 1) := by decide +kernel
theorem dL_law_760 : decode cL_law 760 = .ok (.aload_n 0, 1) := by decide +kernel
theorem dL_law_761 : decode cL_law 761 = .ok (.iload_n 3, 1) := by decide +kernel
theorem dL_law_762 : decode cL_law 762 = .ok (.iconst 1, 1) := by decide +kernel
theorem dL_law_763 : decode cL_law 763 = .ok (.iadd, 1) := by decide +kernel
theorem dL_law_764 : decode cL_law 764 = .ok (.iaload, 1) := by decide +kernel
theorem dL_law_765 : decode cL_law 765 = .ok (.aload_n 0, 1) := by decide +kernel
theorem dL_law_766 : decode cL_law 766 = .ok (.iload_n 3, 1) := by decide +kernel
theorem dL_law_767 : decode cL_law 767 = .ok (.iconst 2, 1) := by decide +kernel
theorem dL_law_768 : decode cL_law 768 = .ok (.iadd, 1) := by decide +kernel
theorem dL_law_769 : decode cL_law 769 = .ok (.iaload, 1) := by decide +kernel
theorem dL_law_770 : decode cL_law 770 = .ok (.invokevirtual 84, 3) := by decide +kernel
theorem dL_law_773 : decode cL_law 773 = .ok (.if_icmp .eq 757, 3) := by decide +kernel
theorem dL_law_776 : decode cL_law 776 = .ok (.iconst 0, 1) := by decide +kernel
theorem dL_law_777 : decode cL_law 777 = .ok (.ireturn, 1) := by decide +kernel
theorem dL_law_778 : decode cL_law 778 = .ok (.aload_n 1, 1) := by decide +kernel
theorem dL_law_779 : decode cL_law 779 = .ok (.aload_n 0, 1) := by decide +kernel
theorem dL_law_780 : decode cL_law 780 = .ok (.iload_n 3, 1) := by decide +kernel
theorem dL_law_781 : decode cL_law 781 = .ok (.iconst 1, 1) := by decide +kernel
theorem dL_law_782 : decode cL_law 782 = .ok (.iadd, 1) := by decide +kernel
theorem dL_law_783 : decode cL_law 783 = .ok (.iaload, 1) := by decide +kernel
theorem dL_law_784 : decode cL_law 784 = .ok (.aload_n 0, 1) := by decide +kernel
theorem dL_law_785 : decode cL_law 785 = .ok (.iload_n 3, 1) := by decide +kernel
theorem dL_law_786 : decode cL_law 786 = .ok (.iconst 2, 1) := by decide +kernel
theorem dL_law_787 : decode cL_law 787 = .ok (.iadd, 1) := by decide +kernel
theorem dL_law_788 : decode cL_law 788 = .ok (.iaload, 1) := by decide +kernel
theorem dL_law_789 : decode cL_law 789 = .ok (.invokevirtual 85, 3) := by decide +kernel
theorem dL_law_792 : decode cL_law 792 = .ok (.aload_n 2, 1) := by decide +kernel
theorem dL_law_793 : decode cL_law 793 = .ok (.aload_n 0, 1) := by decide +kernel
theorem dL_law_794 : decode cL_law 794 = .ok (.iload_n 3, 1) := by decide +kernel
theorem dL_law_795 : decode cL_law 795 = .ok (.iconst 1, 1) := by decide +kernel
theorem dL_law_796 : decode cL_law 796 = .ok (.iadd, 1) := by decide +kernel
theorem dL_law_797 : decode cL_law 797 = .ok (.iaload, 1) := by decide +kernel
theorem dL_law_798 : decode cL_law 798 = .ok (.aload_n 0, 1) := by decide +kernel
theorem dL_law_799 : decode cL_law 799 = .ok (.iload_n 3, 1) := by decide +kernel
theorem dL_law_800 : decode cL_law 800 = .ok (.iconst 2, 1) := by decide +kernel
theorem dL_law_801 : decode cL_law 801 = .ok (.iadd, 1) := by decide +kernel
theorem dL_law_802 : decode cL_law 802 = .ok (.iaload, 1) := by decide +kernel
theorem dL_law_803 : decode cL_law 803 = .ok (.invokevirtual 88, 3) := by decide +kernel
theorem dL_law_806 : decode cL_law 806 = .ok (.if_icmp .eq 724, 3) := by decide +kernel
theorem dL_law_809 : decode cL_law 809 = .ok (.iconst 0, 1) := by decide +kernel
theorem dL_law_810 : decode cL_law 810 = .ok (.ireturn, 1) := by decide +kernel
theorem dL_law_811 : decode cL_law 811 = .ok (.aload_n 1, 1) := by decide +kernel
theorem dL_law_812 : decode cL_law 812 = .ok (.aload_n 0, 1) := by decide +kernel
theorem dL_law_813 : decode cL_law 813 = .ok (.iload_n 3, 1) := by decide +kernel
theorem dL_law_814 : decode cL_law 814 = .ok (.iconst 1, 1) := by decide +kernel
theorem dL_law_815 : decode cL_law 815 = .ok (.iadd, 1) := by decide +kernel
theorem dL_law_816 : decode cL_law 816 = .ok (.iaload, 1) := by decide +kernel
theorem dL_law_817 : decode cL_law 817 = .ok (.aload_n 0, 1) := by decide +kernel
theorem dL_law_818 : decode cL_law 818 = .ok (.iload_n 3, 1) := by decide +kernel
theorem dL_law_819 : decode cL_law 819 = .ok (.iconst 2, 1) := by decide +kernel
theorem dL_law_820 : decode cL_law 820 = .ok (.iadd, 1) := by decide +kernel
theorem dL_law_821 : decode cL_law 821 = .ok (.iaload, 1) := by decide +kernel
theorem dL_law_822 : decode cL_law 822 = .ok (.aload_n 0, 1) := by decide +kernel
theorem dL_law_823 : decode cL_law 823 = .ok (.iload_n 3, 1) := by decide +kernel
theorem dL_law_824 : decode cL_law 824 = .ok (.iconst 3, 1) := by decide +kernel
theorem dL_law_825 : decode cL_law 825 = .ok (.iadd, 1) := by decide +kernel
theorem dL_law_826 : decode cL_law 826 = .ok (.iaload, 1) := by decide +kernel
theorem dL_law_827 : decode cL_law 827 = .ok (.invokevirtual 89, 3) := by decide +kernel
theorem dL_law_830 : decode cL_law 830 = .ok (.aload_n 2, 1) := by decide +kernel
theorem dL_law_831 : decode cL_law 831 = .ok (.aload_n 0, 1) := by decide +kernel
theorem dL_law_832 : decode cL_law 832 = .ok (.iload_n 3, 1) := by decide +kernel
theorem dL_law_833 : decode cL_law 833 = .ok (.iconst 1, 1) := by decide +kernel
theorem dL_law_834 : decode cL_law 834 = .ok (.iadd, 1) := by decide +kernel
theorem dL_law_835 : decode cL_law 835 = .ok (.iaload, 1) := by decide +kernel
theorem dL_law_836 : decode cL_law 836 = .ok (.aload_n 0, 1) := by decide +kernel
theorem dL_law_837 : decode cL_law 837 = .ok (.iload_n 3, 1) := by decide +kernel
theorem dL_law_838 : decode cL_law 838 = .ok (.iconst 2, 1) := by decide +kernel
theorem dL_law_839 : decode cL_law 839 = .ok (.iadd, 1) := by decide +kernel
theorem dL_law_840 : decode cL_law 840 = .ok (.iaload, 1) := by decide +kernel
theorem dL_law_841 : decode cL_law 841 = .ok (.aload_n 0, 1) := by decide +kernel
theorem dL_law_842 : decode cL_law 842 = .ok (.iload_n 3, 1) := by decide +kernel
theorem dL_law_843 : decode cL_law 843 = .ok (.iconst 3, 1) := by decide +kernel
theorem dL_law_844 : decode cL_law 844 = .ok (.iadd, 1) := by decide +kernel
theorem dL_law_845 : decode cL_law 845 = .ok (.iaload, 1) := by decide +kernel
theorem dL_law_846 : decode cL_law 846 = .ok (.invokevirtual 92, 3) := by decide +kernel
theorem dL_law_849 : decode cL_law 849 = .ok (.if_icmp .eq 681, 3) := by decide +kernel
theorem dL_law_852 : decode cL_law 852 = .ok (.iconst 0, 1) := by decide +kernel
theorem dL_law_853 : decode cL_law 853 = .ok (.ireturn, 1) := by decide +kernel
theorem dL_law_854 : decode cL_law 854 = .ok (.aload_n 1, 1) := by decide +kernel
theorem dL_law_855 : decode cL_law 855 = .ok (.aload_n 0, 1) := by decide +kernel
theorem dL_law_856 : decode cL_law 856 = .ok (.iload_n 3, 1) := by decide +kernel
theorem dL_law_857 : decode cL_law 857 = .ok (.iconst 1, 1) := by decide +kernel
theorem dL_law_858 : decode cL_law 858 = .ok (.iadd, 1) := by decide +kernel
theorem dL_law_859 : decode cL_law 859 = .ok (.iaload, 1) := by decide +kernel
theorem dL_law_860 : decode cL_law 860 = .ok (.invokevirtual 93, 3) := by decide +kernel
theorem dL_law_863 : decode cL_law 863 = .ok (.aload_n 2, 1) := by decide +kernel
theorem dL_law_864 : decode cL_law 864 = .ok (.aload_n 0, 1) := by decide +kernel
theorem dL_law_865 : decode cL_law 865 = .ok (.iload_n 3, 1) := by decide +kernel
theorem dL_law_866 : decode cL_law 866 = .ok (.iconst 1, 1) := by decide +kernel
theorem dL_law_867 : decode cL_law 867 = .ok (.iadd, 1) := by decide +kernel
theorem dL_law_868 : decode cL_law 868 = .ok (.iaload, 1) := by decide +kernel
theorem dL_law_869 : decode cL_law 869 = .ok (.invokevirtual 96, 3) := by decide +kernel
theorem dL_law_872 : decode cL_law 872 = .ok (.if_icmp .eq 658, 3) := by decide +kernel
theorem dL_law_875 : decode cL_law 875 = .ok (.iconst 0, 1) := by decide +kernel
theorem dL_law_876 : decode cL_law 876 = .ok (.ireturn, 1) := by decide +kernel
theorem dL_law_877 : decode cL_law 877 = .ok (.aload_n 1, 1) := by decide +kernel
theorem dL_law_878 : decode cL_law 878 = .ok (.aload_n 0, 1) := by decide +kernel
theorem dL_law_879 : decode cL_law 879 = .ok (.iload_n 3, 1) := by decide +kernel
theorem dL_law_880 : decode cL_law 880 = .ok (.iconst 1, 1) := by decide +kernel
theorem dL_law_881 : decode cL_law 881 = .ok (.iadd, 1) := by decide +kernel
theorem dL_law_882 : decode cL_law 882 = .ok (.iaload, 1) := by decide +kernel
theorem dL_law_883 : decode cL_law 883 = .ok (.invokevirtual 97, 3) := by decide +kernel
theorem dL_law_886 : decode cL_law 886 = .ok (.aload_n 2, 1) := by decide +kernel
theorem dL_law_887 : decode cL_law 887 = .ok (.aload_n 0, 1) := by decide +kernel
theorem dL_law_888 : decode cL_law 888 = .ok (.iload_n 3, 1) := by decide +kernel
theorem dL_law_889 : decode cL_law 889 = .ok (.iconst 1, 1) := by decide +kernel
theorem dL_law_890 : decode cL_law 890 = .ok (.iadd, 1) := by decide +kernel
theorem dL_law_891 : decode cL_law 891 = .ok (.iaload, 1) := by decide +kernel
theorem dL_law_892 : decode cL_law 892 = .ok (.invokevirtual 100, 3) := by decide +kernel
theorem dL_law_895 : decode cL_law 895 = .ok (.if_icmp .eq 635, 3) := by decide +kernel
theorem dL_law_898 : decode cL_law 898 = .ok (.iconst 0, 1) := by decide +kernel
theorem dL_law_899 : decode cL_law 899 = .ok (.ireturn, 1) := by decide +kernel
theorem dL_law_900 : decode cL_law 900 = .ok (.aload_n 1, 1) := by decide +kernel
theorem dL_law_901 : decode cL_law 901 = .ok (.aload_n 0, 1) := by decide +kernel
theorem dL_law_902 : decode cL_law 902 = .ok (.iload_n 3, 1) := by decide +kernel
theorem dL_law_903 : decode cL_law 903 = .ok (.iconst 1, 1) := by decide +kernel
theorem dL_law_904 : decode cL_law 904 = .ok (.iadd, 1) := by decide +kernel
theorem dL_law_905 : decode cL_law 905 = .ok (.iaload, 1) := by decide +kernel
theorem dL_law_906 : decode cL_law 906 = .ok (.invokevirtual 101, 3) := by decide +kernel
theorem dL_law_909 : decode cL_law 909 = .ok (.aload_n 2, 1) := by decide +kernel
theorem dL_law_910 : decode cL_law 910 = .ok (.aload_n 0, 1) := by decide +kernel
theorem dL_law_911 : decode cL_law 911 = .ok (.iload_n 3, 1) := by decide +kernel
theorem dL_law_912 : decode cL_law 912 = .ok (.iconst 1, 1) := by decide +kernel
theorem dL_law_913 : decode cL_law 913 = .ok (.iadd, 1) := by decide +kernel
theorem dL_law_914 : decode cL_law 914 = .ok (.iaload, 1) := by decide +kernel
theorem dL_law_915 : decode cL_law 915 = .ok (.invokevirtual 104, 3) := by decide +kernel
theorem dL_law_918 : decode cL_law 918 = .ok (.if_icmp .eq 612, 3) := by decide +kernel
theorem dL_law_921 : decode cL_law 921 = .ok (.iconst 0, 1) := by decide +kernel
theorem dL_law_922 : decode cL_law 922 = .ok (.ireturn, 1) := by decide +kernel
theorem dL_law_923 : decode cL_law 923 = .ok (.aload_n 1, 1) := by decide +kernel
theorem dL_law_924 : decode cL_law 924 = .ok (.aload_n 0, 1) := by decide +kernel
theorem dL_law_925 : decode cL_law 925 = .ok (.iload_n 3, 1) := by decide +kernel
theorem dL_law_926 : decode cL_law 926 = .ok (.iconst 1, 1) := by decide +kernel
theorem dL_law_927 : decode cL_law 927 = .ok (.iadd, 1) := by decide +kernel
theorem dL_law_928 : decode cL_law 928 = .ok (.iaload, 1) := by decide +kernel
theorem dL_law_929 : decode cL_law 929 = .ok (.invokevirtual 105, 3) := by decide +kernel
theorem dL_law_932 : decode cL_law 932 = .ok (.aload_n 2, 1) := by decide +kernel
theorem dL_law_933 : decode cL_law 933 = .ok (.aload_n 0, 1) := by decide +kernel
theorem dL_law_934 : decode cL_law 934 = .ok (.iload_n 3, 1) := by decide +kernel
theorem dL_law_935 : decode cL_law 935 = .ok (.iconst 1, 1) := by decide +kernel
theorem dL_law_936 : decode cL_law 936 = .ok (.iadd, 1) := by decide +kernel
theorem dL_law_937 : decode cL_law 937 = .ok (.iaload, 1) := by decide +kernel
theorem dL_law_938 : decode cL_law 938 = .ok (.invokevirtual 108, 3) := by decide +kernel
theorem dL_law_941 : decode cL_law 941 = .ok (.if_icmp .eq 589, 3) := by decide +kernel
theorem dL_law_944 : decode cL_law 944 = .ok (.iconst 0, 1) := by decide +kernel
theorem dL_law_945 : decode cL_law 945 = .ok (.ireturn, 1) := by decide +kernel
theorem dL_law_946 : decode cL_law 946 = .ok (.aload_n 1, 1) := by decide +kernel
theorem dL_law_947 : decode cL_law 947 = .ok (.aload_n 0, 1) := by decide +kernel
theorem dL_law_948 : decode cL_law 948 = .ok (.iload_n 3, 1) := by decide +kernel
theorem dL_law_949 : decode cL_law 949 = .ok (.iconst 1, 1) := by decide +kernel
theorem dL_law_950 : decode cL_law 950 = .ok (.iadd, 1) := by decide +kernel
theorem dL_law_951 : decode cL_law 951 = .ok (.iaload, 1) := by decide +kernel
theorem dL_law_952 : decode cL_law 952 = .ok (.aload_n 0, 1) := by decide +kernel
theorem dL_law_953 : decode cL_law 953 = .ok (.iload_n 3, 1) := by decide +kernel
theorem dL_law_954 : decode cL_law 954 = .ok (.iconst 2, 1) := by decide +kernel
theorem dL_law_955 : decode cL_law 955 = .ok (.iadd, 1) := by decide +kernel
theorem dL_law_956 : decode cL_law 956 = .ok (.iaload, 1) := by decide +kernel
theorem dL_law_957 : decode cL_law 957 = .ok (.aload_n 0, 1) := by decide +kernel
theorem dL_law_958 : decode cL_law 958 = .ok (.iload_n 3, 1) := by decide +kernel
theorem dL_law_959 : decode cL_law 959 = .ok (.iconst 3, 1) := by decide +kernel
theorem dL_law_960 : decode cL_law 960 = .ok (.iadd, 1) := by decide +kernel
theorem dL_law_961 : decode cL_law 961 = .ok (.iaload, 1) := by decide +kernel
theorem dL_law_962 : decode cL_law 962 = .ok (.invokevirtual 109, 3) := by decide +kernel
theorem dL_law_965 : decode cL_law 965 = .ok (.aload_n 2, 1) := by decide +kernel
theorem dL_law_966 : decode cL_law 966 = .ok (.aload_n 0, 1) := by decide +kernel
theorem dL_law_967 : decode cL_law 967 = .ok (.iload_n 3, 1) := by decide +kernel
theorem dL_law_968 : decode cL_law 968 = .ok (.iconst 1, 1) := by decide +kernel
theorem dL_law_969 : decode cL_law 969 = .ok (.iadd, 1) := by decide +kernel
theorem dL_law_970 : decode cL_law 970 = .ok (.iaload, 1) := by decide +kernel
theorem dL_law_971 : decode cL_law 971 = .ok (.aload_n 0, 1) := by decide +kernel
theorem dL_law_972 : decode cL_law 972 = .ok (.iload_n 3, 1) := by decide +kernel
theorem dL_law_973 : decode cL_law 973 = .ok (.iconst 2, 1) := by decide +kernel
theorem dL_law_974 : decode cL_law 974 = .ok (.iadd, 1) := by decide +kernel
theorem dL_law_975 : decode cL_law 975 = .ok (.iaload, 1) := by decide +kernel
theorem dL_law_976 : decode cL_law 976 = .ok (.aload_n 0, 1) := by decide +kernel
theorem dL_law_977 : decode cL_law 977 = .ok (.iload_n 3, 1) := by decide +kernel
theorem dL_law_978 : decode cL_law 978 = .ok (.iconst 3, 1) := by decide +kernel
theorem dL_law_979 : decode cL_law 979 = .ok (.iadd, 1) := by decide +kernel
theorem dL_law_980 : decode cL_law 980 = .ok (.iaload, 1) := by decide +kernel
theorem dL_law_981 : decode cL_law 981 = .ok (.invokevirtual 112, 3) := by decide +kernel
theorem dL_law_984 : decode cL_law 984 = .ok (.if_icmp .eq 546, 3) := by decide +kernel
theorem dL_law_987 : decode cL_law 987 = .ok (.iconst 0, 1) := by decide +kernel
theorem dL_law_988 : decode cL_law 988 = .ok (.ireturn, 1) := by decide +kernel
theorem dL_law_989 : decode cL_law 989 = .ok (.aload_n 1, 1) := by decide +kernel
theorem dL_law_990 : decode cL_law 990 = .ok (.aload_n 0, 1) := by decide +kernel
theorem dL_law_991 : decode cL_law 991 = .ok (.iload_n 3, 1) := by decide +kernel
theorem dL_law_992 : decode cL_law 992 = .ok (.iconst 1, 1) := by decide +kernel
theorem dL_law_993 : decode cL_law 993 = .ok (.iadd, 1) := by decide +kernel
theorem dL_law_994 : decode cL_law 994 = .ok (.iaload, 1) := by decide +kernel
theorem dL_law_995 : decode cL_law 995 = .ok (.aload_n 0, 1) := by decide +kernel
theorem dL_law_996 : decode cL_law 996 = .ok (.iload_n 3, 1) := by decide +kernel
theorem dL_law_997 : decode cL_law 997 = .ok (.iconst 2, 1) := by decide +kernel
theorem dL_law_998 : decode cL_law 998 = .ok (.iadd, 1) := by decide +kernel
theorem dL_law_999 : decode cL_law 999 = .ok (.iaload, 1) := by decide +kernel
theorem dL_law_1000 : decode cL_law 1000 = .ok (.invokevirtual 113, 3) := by decide +kernel
theorem dL_law_1003 : decode cL_law 1003 = .ok (.aload_n 2, 1) := by decide +kernel
theorem dL_law_1004 : decode cL_law 1004 = .ok (.aload_n 0, 1) := by decide +kernel
theorem dL_law_1005 : decode cL_law 1005 = .ok (.iload_n 3, 1) := by decide +kernel
theorem dL_law_1006 : decode cL_law 1006 = .ok (.iconst 1, 1) := by decide +kernel
theorem dL_law_1007 : decode cL_law 1007 = .ok (.iadd, 1) := by decide +kernel
theorem dL_law_1008 : decode cL_law 1008 = .ok (.iaload, 1) := by decide +kernel
theorem dL_law_1009 : decode cL_law 1009 = .ok (.aload_n 0, 1) := by decide +kernel
theorem dL_law_1010 : decode cL_law 1010 = .ok (.iload_n 3, 1) := by decide +kernel
theorem dL_law_1011 : decode cL_law 1011 = .ok (.iconst 2, 1) := by decide +kernel
theorem dL_law_1012 : decode cL_law 1012 = .ok (.iadd, 1) := by decide +kernel
theorem dL_law_1013 : decode cL_law 1013 = .ok (.iaload, 1) := by decide +kernel
theorem dL_law_1014 : decode cL_law 1014 = .ok (.invokevirtual 117, 3) := by decide +kernel
theorem dL_law_1017 : decode cL_law 1017 = .ok (.lcmp, 1) := by decide +kernel
theorem dL_law_1018 : decode cL_law 1018 = .ok (.ifCond .eq 512, 3) := by decide +kernel
theorem dL_law_1021 : decode cL_law 1021 = .ok (.iconst 0, 1) := by decide +kernel
theorem dL_law_1022 : decode cL_law 1022 = .ok (.ireturn, 1) := by decide +kernel
theorem dL_law_1023 : decode cL_law 1023 = .ok (.aload_n 1, 1) := by decide +kernel
theorem dL_law_1024 : decode cL_law 1024 = .ok (.aload_n 0, 1) := by decide +kernel
theorem dL_law_1025 : decode cL_law 1025 = .ok (.iload_n 3, 1) := by decide +kernel
theorem dL_law_1026 : decode cL_law 1026 = .ok (.iconst 1, 1) := by decide +kernel
theorem dL_law_1027 : decode cL_law 1027 = .ok (.iadd, 1) := by decide +kernel
theorem dL_law_1028 : decode cL_law 1028 = .ok (.iaload, 1) := by decide +kernel
theorem dL_law_1029 : decode cL_law 1029 = .ok (.aload_n 0, 1) := by decide +kernel
theorem dL_law_1030 : decode cL_law 1030 = .ok (.iload_n 3, 1) := by decide +kernel
theorem dL_law_1031 : decode cL_law 1031 = .ok (.iconst 2, 1) := by decide +kernel
theorem dL_law_1032 : decode cL_law 1032 = .ok (.iadd, 1) := by decide +kernel
theorem dL_law_1033 : decode cL_law 1033 = .ok (.iaload, 1) := by decide +kernel
theorem dL_law_1034 : decode cL_law 1034 = .ok (.invokevirtual 118, 3) := by decide +kernel
theorem dL_law_1037 : decode cL_law 1037 = .ok (.aload_n 2, 1) := by decide +kernel
theorem dL_law_1038 : decode cL_law 1038 = .ok (.aload_n 0, 1) := by decide +kernel
theorem dL_law_1039 : decode cL_law 1039 = .ok (.iload_n 3, 1) := by decide +kernel
theorem dL_law_1040 : decode cL_law 1040 = .ok (.iconst 1, 1) := by decide +kernel
theorem dL_law_1041 : decode cL_law 1041 = .ok (.iadd, 1) := by decide +kernel
theorem dL_law_1042 : decode cL_law 1042 = .ok (.iaload, 1) := by decide +kernel
theorem dL_law_1043 : decode cL_law 1043 = .ok (.aload_n 0, 1) := by decide +kernel
theorem dL_law_1044 : decode cL_law 1044 = .ok (.iload_n 3, 1) := by decide +kernel
theorem dL_law_1045 : decode cL_law 1045 = .ok (.iconst 2, 1) := by decide +kernel
theorem dL_law_1046 : decode cL_law 1046 = .ok (.iadd, 1) := by decide +kernel
theorem dL_law_1047 : decode cL_law 1047 = .ok (.iaload, 1) := by decide +kernel
theorem dL_law_1048 : decode cL_law 1048 = .ok (.invokevirtual 121, 3) := by decide +kernel
theorem dL_law_1051 : decode cL_law 1051 = .ok (.if_icmp .eq 479, 3) := by decide +kernel
theorem dL_law_1054 : decode cL_law 1054 = .ok (.iconst 0, 1) := by decide +kernel
theorem dL_law_1055 : decode cL_law 1055 = .ok (.ireturn, 1) := by decide +kernel
theorem dL_law_1056 : decode cL_law 1056 = .ok (.aload_n 1, 1) := by decide +kernel
theorem dL_law_1057 : decode cL_law 1057 = .ok (.aload_n 0, 1) := by decide +kernel
theorem dL_law_1058 : decode cL_law 1058 = .ok (.iload_n 3, 1) := by decide +kernel
theorem dL_law_1059 : decode cL_law 1059 = .ok (.iconst 1, 1) := by decide +kernel
theorem dL_law_1060 : decode cL_law 1060 = .ok (.iadd, 1) := by decide +kernel
theorem dL_law_1061 : decode cL_law 1061 = .ok (.iaload, 1) := by decide +kernel
theorem dL_law_1062 : decode cL_law 1062 = .ok (.aload_n 0, 1) := by decide +kernel
theorem dL_law_1063 : decode cL_law 1063 = .ok (.iload_n 3, 1) := by decide +kernel
theorem dL_law_1064 : decode cL_law 1064 = .ok (.iconst 2, 1) := by decide +kernel
theorem dL_law_1065 : decode cL_law 1065 = .ok (.iadd, 1) := by decide +kernel
theorem dL_law_1066 : decode cL_law 1066 = .ok (.iaload, 1) := by decide +kernel
theorem dL_law_1067 : decode cL_law 1067 = .ok (.aload_n 0, 1) := by decide +kernel
theorem dL_law_1068 : decode cL_law 1068 = .ok (.iload_n 3, 1) := by decide +kernel
theorem dL_law_1069 : decode cL_law 1069 = .ok (.iconst 3, 1) := by decide +kernel
theorem dL_law_1070 : decode cL_law 1070 = .ok (.iadd, 1) := by decide +kernel
theorem dL_law_1071 : decode cL_law 1071 = .ok (.iaload, 1) := by decide +kernel
theorem dL_law_1072 : decode cL_law 1072 = .ok (.invokevirtual 122, 3) := by decide +kernel
theorem dL_law_1075 : decode cL_law 1075 = .ok (.aload_n 2, 1) := by decide +kernel
theorem dL_law_1076 : decode cL_law 1076 = .ok (.aload_n 0, 1) := by decide +kernel
theorem dL_law_1077 : decode cL_law 1077 = .ok (.iload_n 3, 1) := by decide +kernel
theorem dL_law_1078 : decode cL_law 1078 = .ok (.iconst 1, 1) := by decide +kernel
theorem dL_law_1079 : decode cL_law 1079 = .ok (.iadd, 1) := by decide +kernel
theorem dL_law_1080 : decode cL_law 1080 = .ok (.iaload, 1) := by decide +kernel
theorem dL_law_1081 : decode cL_law 1081 = .ok (.aload_n 0, 1) := by decide +kernel
theorem dL_law_1082 : decode cL_law 1082 = .ok (.iload_n 3, 1) := by decide +kernel
theorem dL_law_1083 : decode cL_law 1083 = .ok (.iconst 2, 1) := by decide +kernel
theorem dL_law_1084 : decode cL_law 1084 = .ok (.iadd, 1) := by decide +kernel
theorem dL_law_1085 : decode cL_law 1085 = .ok (.iaload, 1) := by decide +kernel
theorem dL_law_1086 : decode cL_law 1086 = .ok (.aload_n 0, 1) := by decide +kernel
theorem dL_law_1087 : decode cL_law 1087 = .ok (.iload_n 3, 1) := by decide +kernel
theorem dL_law_1088 : decode cL_law 1088 = .ok (.iconst 3, 1) := by decide +kernel
theorem dL_law_1089 : decode cL_law 1089 = .ok (.iadd, 1) := by decide +kernel
theorem dL_law_1090 : decode cL_law 1090 = .ok (.iaload, 1) := by decide +kernel
theorem dL_law_1091 : decode cL_law 1091 = .ok (.invokevirtual 125, 3) := by decide +kernel
theorem dL_law_1094 : decode cL_law 1094 = .ok (.if_icmp .eq 436, 3) := by decide +kernel
theorem dL_law_1097 : decode cL_law 1097 = .ok (.iconst 0, 1) := by decide +kernel
theorem dL_law_1098 : decode cL_law 1098 = .ok (.ireturn, 1) := by decide +kernel
theorem dL_law_1099 : decode cL_law 1099 = .ok (.aload_n 1, 1) := by decide +kernel
theorem dL_law_1100 : decode cL_law 1100 = .ok (.aload_n 0, 1) := by decide +kernel
theorem dL_law_1101 : decode cL_law 1101 = .ok (.iload_n 3, 1) := by decide +kernel
theorem dL_law_1102 : decode cL_law 1102 = .ok (.iconst 1, 1) := by decide +kernel
theorem dL_law_1103 : decode cL_law 1103 = .ok (.iadd, 1) := by decide +kernel
theorem dL_law_1104 : decode cL_law 1104 = .ok (.iaload, 1) := by decide +kernel
theorem dL_law_1105 : decode cL_law 1105 = .ok (.aload_n 0, 1) := by decide +kernel
theorem dL_law_1106 : decode cL_law 1106 = .ok (.iload_n 3, 1) := by decide +kernel
theorem dL_law_1107 : decode cL_law 1107 = .ok (.iconst 2, 1) := by decide +kernel
theorem dL_law_1108 : decode cL_law 1108 = .ok (.iadd, 1) := by decide +kernel
theorem dL_law_1109 : decode cL_law 1109 = .ok (.iaload, 1) := by decide +kernel
theorem dL_law_1110 : decode cL_law 1110 = .ok (.aload_n 0, 1) := by decide +kernel
theorem dL_law_1111 : decode cL_law 1111 = .ok (.iload_n 3, 1) := by decide +kernel
theorem dL_law_1112 : decode cL_law 1112 = .ok (.iconst 3, 1) := by decide +kernel
theorem dL_law_1113 : decode cL_law 1113 = .ok (.iadd, 1) := by decide +kernel
theorem dL_law_1114 : decode cL_law 1114 = .ok (.iaload, 1) := by decide +kernel
theorem dL_law_1115 : decode cL_law 1115 = .ok (.invokevirtual 126, 3) := by decide +kernel
theorem dL_law_1118 : decode cL_law 1118 = .ok (.aload_n 2, 1) := by decide +kernel
theorem dL_law_1119 : decode cL_law 1119 = .ok (.aload_n 0, 1) := by decide +kernel
theorem dL_law_1120 : decode cL_law 1120 = .ok (.iload_n 3, 1) := by decide +kernel
theorem dL_law_1121 : decode cL_law 1121 = .ok (.iconst 1, 1) := by decide +kernel
theorem dL_law_1122 : decode cL_law 1122 = .ok (.iadd, 1) := by decide +kernel
theorem dL_law_1123 : decode cL_law 1123 = .ok (.iaload, 1) := by decide +kernel
theorem dL_law_1124 : decode cL_law 1124 = .ok (.aload_n 0, 1) := by decide +kernel
theorem dL_law_1125 : decode cL_law 1125 = .ok (.iload_n 3, 1) := by decide +kernel
theorem dL_law_1126 : decode cL_law 1126 = .ok (.iconst 2, 1) := by decide +kernel
theorem dL_law_1127 : decode cL_law 1127 = .ok (.iadd, 1) := by decide +kernel
theorem dL_law_1128 : decode cL_law 1128 = .ok (.iaload, 1) := by decide +kernel
theorem dL_law_1129 : decode cL_law 1129 = .ok (.aload_n 0, 1) := by decide +kernel
theorem dL_law_1130 : decode cL_law 1130 = .ok (.iload_n 3, 1) := by decide +kernel
theorem dL_law_1131 : decode cL_law 1131 = .ok (.iconst 3, 1) := by decide +kernel
theorem dL_law_1132 : decode cL_law 1132 = .ok (.iadd, 1) := by decide +kernel
theorem dL_law_1133 : decode cL_law 1133 = .ok (.iaload, 1) := by decide +kernel
theorem dL_law_1134 : decode cL_law 1134 = .ok (.invokevirtual 129, 3) := by decide +kernel
theorem dL_law_1137 : decode cL_law 1137 = .ok (.if_icmp .eq 393, 3) := by decide +kernel
theorem dL_law_1140 : decode cL_law 1140 = .ok (.iconst 0, 1) := by decide +kernel
theorem dL_law_1141 : decode cL_law 1141 = .ok (.ireturn, 1) := by decide +kernel
theorem dL_law_1142 : decode cL_law 1142 = .ok (.aload_n 1, 1) := by decide +kernel
theorem dL_law_1143 : decode cL_law 1143 = .ok (.aload_n 0, 1) := by decide +kernel
theorem dL_law_1144 : decode cL_law 1144 = .ok (.iload_n 3, 1) := by decide +kernel
theorem dL_law_1145 : decode cL_law 1145 = .ok (.iconst 1, 1) := by decide +kernel
theorem dL_law_1146 : decode cL_law 1146 = .ok (.iadd, 1) := by decide +kernel
theorem dL_law_1147 : decode cL_law 1147 = .ok (.iaload, 1) := by decide +kernel
theorem dL_law_1148 : decode cL_law 1148 = .ok (.aload_n 0, 1) := by decide +kernel
theorem dL_law_1149 : decode cL_law 1149 = .ok (.iload_n 3, 1) := by decide +kernel
theorem dL_law_1150 : decode cL_law 1150 = .ok (.iconst 2, 1) := by decide +kernel
theorem dL_law_1151 : decode cL_law 1151 = .ok (.iadd, 1) := by decide +kernel
theorem dL_law_1152 : decode cL_law 1152 = .ok (.iaload, 1) := by decide +kernel
theorem dL_law_1153 : decode cL_law 1153 = .ok (.aload_n 0, 1) := by decide +kernel
theorem dL_law_1154 : decode cL_law 1154 = .ok (.iload_n 3, 1) := by decide +kernel
theorem dL_law_1155 : decode cL_law 1155 = .ok (.iconst 3, 1) := by decide +kernel
theorem dL_law_1156 : decode cL_law 1156 = .ok (.iadd, 1) := by decide +kernel
theorem dL_law_1157 : decode cL_law 1157 = .ok (.iaload, 1) := by decide +kernel
theorem dL_law_1158 : decode cL_law 1158 = .ok (.invokevirtual 130, 3) := by decide +kernel
theorem dL_law_1161 : decode cL_law 1161 = .ok (.aload_n 2, 1) := by decide +kernel
theorem dL_law_1162 : decode cL_law 1162 = .ok (.aload_n 0, 1) := by decide +kernel
theorem dL_law_1163 : decode cL_law 1163 = .ok (.iload_n 3, 1) := by decide +kernel
theorem dL_law_1164 : decode cL_law 1164 = .ok (.iconst 1, 1) := by decide +kernel
theorem dL_law_1165 : decode cL_law 1165 = .ok (.iadd, 1) := by decide +kernel
theorem dL_law_1166 : decode cL_law 1166 = .ok (.iaload, 1) := by decide +kernel
theorem dL_law_1167 : decode cL_law 1167 = .ok (.aload_n 0, 1) := by decide +kernel
theorem dL_law_1168 : decode cL_law 1168 = .ok (.iload_n 3, 1) := by decide +kernel
theorem dL_law_1169 : decode cL_law 1169 = .ok (.iconst 2, 1) := by decide +kernel
theorem dL_law_1170 : decode cL_law 1170 = .ok (.iadd, 1) := by decide +kernel
theorem dL_law_1171 : decode cL_law 1171 = .ok (.iaload, 1) := by decide +kernel
theorem dL_law_1172 : decode cL_law 1172 = .ok (.aload_n 0, 1) := by decide +kernel
theorem dL_law_1173 : decode cL_law 1173 = .ok (.iload_n 3, 1) := by decide +kernel
theorem dL_law_1174 : decode cL_law 1174 = .ok (.iconst 3, 1) := by decide +kernel
theorem dL_law_1175 : decode cL_law 1175 = .ok (.iadd, 1) := by decide +kernel
theorem dL_law_1176 : decode cL_law 1176 = .ok (.iaload, 1) := by decide +kernel
theorem dL_law_1177 : decode cL_law 1177 = .ok (.invokevirtual 133, 3) := by decide +kernel
theorem dL_law_1180 : decode cL_law 1180 = .ok (.if_icmp .eq 350, 3) := by decide +kernel
theorem dL_law_1183 : decode cL_law 1183 = .ok (.iconst 0, 1) := by decide +kernel
theorem dL_law_1184 : decode cL_law 1184 = .ok (.ireturn, 1) := by decide +kernel
theorem dL_law_1185 : decode cL_law 1185 = .ok (.aload_n 1, 1) := by decide +kernel
theorem dL_law_1186 : decode cL_law 1186 = .ok (.aload_n 0, 1) := by decide +kernel
theorem dL_law_1187 : decode cL_law 1187 = .ok (.iload_n 3, 1) := by decide +kernel
theorem dL_law_1188 : decode cL_law 1188 = .ok (.iconst 1, 1) := by decide +kernel
theorem dL_law_1189 : decode cL_law 1189 = .ok (.iadd, 1) := by decide +kernel
theorem dL_law_1190 : decode cL_law 1190 = .ok (.iaload, 1) := by decide +kernel
theorem dL_law_1191 : decode cL_law 1191 = .ok (.invokevirtual 134, 3) := by decide +kernel
theorem dL_law_1194 : decode cL_law 1194 = .ok (.aload_n 2, 1) := by decide +kernel
theorem dL_law_1195 : decode cL_law 1195 = .ok (.aload_n 0, 1) := by decide +kernel
theorem dL_law_1196 : decode cL_law 1196 = .ok (.iload_n 3, 1) := by decide +kernel
theorem dL_law_1197 : decode cL_law 1197 = .ok (.iconst 1, 1) := by decide +kernel
theorem dL_law_1198 : decode cL_law 1198 = .ok (.iadd, 1) := by decide +kernel
theorem dL_law_1199 : decode cL_law 1199 = .ok (.iaload, 1) := by decide +kernel
theorem dL_law_1200 : decode cL_law 1200 = .ok (.invokevirtual 137, 3) := by decide +kernel
theorem dL_law_1203 : decode cL_law 1203 = .ok (.if_icmp .eq 327, 3) := by decide +kernel
theorem dL_law_1206 : decode cL_law 1206 = .ok (.iconst 0, 1) := by decide +kernel
theorem dL_law_1207 : decode cL_law 1207 = .ok (.ireturn, 1) := by decide +kernel
theorem dL_law_1208 : decode cL_law 1208 = .ok (.aload_n 1, 1) := by decide +kernel
theorem dL_law_1209 : decode cL_law 1209 = .ok (.aload_n 0, 1) := by decide +kernel
theorem dL_law_1210 : decode cL_law 1210 = .ok (.iload_n 3, 1) := by decide +kernel
theorem dL_law_1211 : decode cL_law 1211 = .ok (.iconst 1, 1) := by decide +kernel
theorem dL_law_1212 : decode cL_law 1212 = .ok (.iadd, 1) := by decide +kernel
theorem dL_law_1213 : decode cL_law 1213 = .ok (.iaload, 1) := by decide +kernel
theorem dL_law_1214 : decode cL_law 1214 = .ok (.aload_n 0, 1) := by decide +kernel
theorem dL_law_1215 : decode cL_law 1215 = .ok (.iload_n 3, 1) := by decide +kernel
theorem dL_law_1216 : decode cL_law 1216 = .ok (.iconst 2, 1) := by decide +kernel
theorem dL_law_1217 : decode cL_law 1217 = .ok (.iadd, 1) := by decide +kernel
theorem dL_law_1218 : decode cL_law 1218 = .ok (.iaload, 1) := by decide +kernel
theorem dL_law_1219 : decode cL_law 1219 = .ok (.invokevirtual 138, 3) := by decide +kernel
theorem dL_law_1222 : decode cL_law 1222 = .ok (.aload_n 2, 1) := by decide +kernel
theorem dL_law_1223 : decode cL_law 1223 = .ok (.aload_n 0, 1) := by decide +kernel
theorem dL_law_1224 : decode cL_law 1224 = .ok (.iload_n 3, 1) := by decide +kernel
theorem dL_law_1225 : decode cL_law 1225 = .ok (.iconst 1, 1) := by decide +kernel
theorem dL_law_1226 : decode cL_law 1226 = .ok (.iadd, 1) := by decide +kernel
theorem dL_law_1227 : decode cL_law 1227 = .ok (.iaload, 1) := by decide +kernel
theorem dL_law_1228 : decode cL_law 1228 = .ok (.aload_n 0, 1) := by decide +kernel
theorem dL_law_1229 : decode cL_law 1229 = .ok (.iload_n 3, 1) := by decide +kernel
theorem dL_law_1230 : decode cL_law 1230 = .ok (.iconst 2, 1) := by decide +kernel
theorem dL_law_1231 : decode cL_law 1231 = .ok (.iadd, 1) := by decide +kernel
theorem dL_law_1232 : decode cL_law 1232 = .ok (.iaload, 1) := by decide +kernel
theorem dL_law_1233 : decode cL_law 1233 = .ok (.invokevirtual 141, 3) := by decide +kernel
theorem dL_law_1236 : decode cL_law 1236 = .ok (.if_icmp .eq 294, 3) := by decide +kernel
theorem dL_law_1239 : decode cL_law 1239 = .ok (.iconst 0, 1) := by decide +kernel
theorem dL_law_1240 : decode cL_law 1240 = .ok (.ireturn, 1) := by decide +kernel
theorem dL_law_1241 : decode cL_law 1241 = .ok (.aload_n 1, 1) := by decide +kernel
theorem dL_law_1242 : decode cL_law 1242 = .ok (.aload_n 0, 1) := by decide +kernel
theorem dL_law_1243 : decode cL_law 1243 = .ok (.iload_n 3, 1) := by decide +kernel
theorem dL_law_1244 : decode cL_law 1244 = .ok (.iconst 1, 1) := by decide +kernel
theorem dL_law_1245 : decode cL_law 1245 = .ok (.iadd, 1) := by decide +kernel
theorem dL_law_1246 : decode cL_law 1246 = .ok (.iaload, 1) := by decide +kernel
theorem dL_law_1247 : decode cL_law 1247 = .ok (.aload_n 0, 1) := by decide +kernel
theorem dL_law_1248 : decode cL_law 1248 = .ok (.iload_n 3, 1) := by decide +kernel
theorem dL_law_1249 : decode cL_law 1249 = .ok (.iconst 2, 1) := by decide +kernel
theorem dL_law_1250 : decode cL_law 1250 = .ok (.iadd, 1) := by decide +kernel
theorem dL_law_1251 : decode cL_law 1251 = .ok (.iaload, 1) := by decide +kernel
theorem dL_law_1252 : decode cL_law 1252 = .ok (.aload_n 0, 1) := by decide +kernel
theorem dL_law_1253 : decode cL_law 1253 = .ok (.iload_n 3, 1) := by decide +kernel
theorem dL_law_1254 : decode cL_law 1254 = .ok (.iconst 3, 1) := by decide +kernel
theorem dL_law_1255 : decode cL_law 1255 = .ok (.iadd, 1) := by decide +kernel
theorem dL_law_1256 : decode cL_law 1256 = .ok (.iaload, 1) := by decide +kernel
theorem dL_law_1257 : decode cL_law 1257 = .ok (.aload_n 0, 1) := by decide +kernel
theorem dL_law_1258 : decode cL_law 1258 = .ok (.iload_n 3, 1) := by decide +kernel
theorem dL_law_1259 : decode cL_law 1259 = .ok (.iconst 4, 1) := by decide +kernel
theorem dL_law_1260 : decode cL_law 1260 = .ok (.iadd, 1) := by decide +kernel
theorem dL_law_1261 : decode cL_law 1261 = .ok (.iaload, 1) := by decide +kernel
theorem dL_law_1262 : decode cL_law 1262 = .ok (.invokevirtual 142, 3) := by decide +kernel
theorem dL_law_1265 : decode cL_law 1265 = .ok (.aload_n 2, 1) := by decide +kernel
theorem dL_law_1266 : decode cL_law 1266 = .ok (.aload_n 0, 1) := by decide +kernel
theorem dL_law_1267 : decode cL_law 1267 = .ok (.iload_n 3, 1) := by decide +kernel
theorem dL_law_1268 : decode cL_law 1268 = .ok (.iconst 1, 1) := by decide +kernel
theorem dL_law_1269 : decode cL_law 1269 = .ok (.iadd, 1) := by decide +kernel
theorem dL_law_1270 : decode cL_law 1270 = .ok (.iaload, 1) := by decide +kernel
theorem dL_law_1271 : decode cL_law 1271 = .ok (.aload_n 0, 1) := by decide +kernel
theorem dL_law_1272 : decode cL_law 1272 = .ok (.iload_n 3, 1) := by decide +kernel
theorem dL_law_1273 : decode cL_law 1273 = .ok (.iconst 2, 1) := by decide +kernel
theorem dL_law_1274 : decode cL_law 1274 = .ok (.iadd, 1) := by decide +kernel
theorem dL_law_1275 : decode cL_law 1275 = .ok (.iaload, 1) := by decide +kernel
theorem dL_law_1276 : decode cL_law 1276 = .ok (.aload_n 0, 1) := by decide +kernel
theorem dL_law_1277 : decode cL_law 1277 = .ok (.iload_n 3, 1) := by decide +kernel
theorem dL_law_1278 : decode cL_law 1278 = .ok (.iconst 3, 1) := by decide +kernel
theorem dL_law_1279 : decode cL_law 1279 = .ok (.iadd, 1) := by decide +kernel
theorem dL_law_1280 : decode cL_law 1280 = .ok (.iaload, 1) := by decide +kernel
theorem dL_law_1281 : decode cL_law 1281 = .ok (.aload_n 0, 1) := by decide +kernel
theorem dL_law_1282 : decode cL_law 1282 = .ok (.iload_n 3, 1) := by decide +kernel
theorem dL_law_1283 : decode cL_law 1283 = .ok (.iconst 4, 1) := by decide +kernel
theorem dL_law_1284 : decode cL_law 1284 = .ok (.iadd, 1) := by decide +kernel
theorem dL_law_1285 : decode cL_law 1285 = .ok (.iaload, 1) := by decide +kernel
theorem dL_law_1286 : decode cL_law 1286 = .ok (.invokevirtual 146, 3) := by decide +kernel
theorem dL_law_1289 : decode cL_law 1289 = .ok (.if_icmp .eq 241, 3) := by decide +kernel
theorem dL_law_1292 : decode cL_law 1292 = .ok (.iconst 0, 1) := by decide +kernel
theorem dL_law_1293 : decode cL_law 1293 = .ok (.ireturn, 1) := by decide +kernel
theorem dL_law_1294 : decode cL_law 1294 = .ok (.aload_n 1, 1) := by decide +kernel
theorem dL_law_1295 : decode cL_law 1295 = .ok (.aload_n 0, 1) := by decide +kernel
theorem dL_law_1296 : decode cL_law 1296 = .ok (.iload_n 3, 1) := by decide +kernel
theorem dL_law_1297 : decode cL_law 1297 = .ok (.iconst 1, 1) := by decide +kernel
theorem dL_law_1298 : decode cL_law 1298 = .ok (.iadd, 1) := by decide +kernel
theorem dL_law_1299 : decode cL_law 1299 = .ok (.iaload, 1) := by decide +kernel
theorem dL_law_1300 : decode cL_law 1300 = .ok (.invokevirtual 147, 3) := by decide +kernel
theorem dL_law_1303 : decode cL_law 1303 = .ok (.aload_n 2, 1) := by decide +kernel
theorem dL_law_1304 : decode cL_law 1304 = .ok (.aload_n 0, 1) := by decide +kernel
theorem dL_law_1305 : decode cL_law 1305 = .ok (.iload_n 3, 1) := by decide +kernel
theorem dL_law_1306 : decode cL_law 1306 = .ok (.iconst 1, 1) := by decide +kernel
theorem dL_law_1307 : decode cL_law 1307 = .ok (.iadd, 1) := by decide +kernel
theorem dL_law_1308 : decode cL_law 1308 = .ok (.iaload, 1) := by decide +kernel
theorem dL_law_1309 : decode cL_law 1309 = .ok (.invokevirtual 150, 3) := by decide +kernel
theorem dL_law_1312 : decode cL_law 1312 = .ok (.if_icmp .eq 218, 3) := by decide +kernel
theorem dL_law_1315 : decode cL_law 1315 = .ok (.iconst 0, 1) := by decide +kernel
theorem dL_law_1316 : decode cL_law 1316 = .ok (.ireturn, 1) := by decide +kernel
theorem dL_law_1317 : decode cL_law 1317 = .ok (.aload_n 1, 1) := by decide +kernel
theorem dL_law_1318 : decode cL_law 1318 = .ok (.aload_n 0, 1) := by decide +kernel
theorem dL_law_1319 : decode cL_law 1319 = .ok (.iload_n 3, 1) := by decide +kernel
theorem dL_law_1320 : decode cL_law 1320 = .ok (.iconst 1, 1) := by decide +kernel
theorem dL_law_1321 : decode cL_law 1321 = .ok (.iadd, 1) := by decide +kernel
theorem dL_law_1322 : decode cL_law 1322 = .ok (.iaload, 1) := by decide +kernel
theorem dL_law_1323 : decode cL_law 1323 = .ok (.aload_n 0, 1) := by decide +kernel
theorem dL_law_1324 : decode cL_law 1324 = .ok (.iload_n 3, 1) := by decide +kernel
theorem dL_law_1325 : decode cL_law 1325 = .ok (.iconst 2, 1) := by decide +kernel
theorem dL_law_1326 : decode cL_law 1326 = .ok (.iadd, 1) := by decide +kernel
theorem dL_law_1327 : decode cL_law 1327 = .ok (.iaload, 1) := by decide +kernel
theorem dL_law_1328 : decode cL_law 1328 = .ok (.aload_n 0, 1) := by decide +kernel
theorem dL_law_1329 : decode cL_law 1329 = .ok (.iload_n 3, 1) := by decide +kernel
theorem dL_law_1330 : decode cL_law 1330 = .ok (.iconst 3, 1) := by decide +kernel
theorem dL_law_1331 : decode cL_law 1331 = .ok (.iadd, 1) := by decide +kernel
theorem dL_law_1332 : decode cL_law 1332 = .ok (.iaload, 1) := by decide +kernel
theorem dL_law_1333 : decode cL_law 1333 = .ok (.invokevirtual 151, 3) := by decide +kernel
theorem dL_law_1336 : decode cL_law 1336 = .ok (.aload_n 2, 1) := by decide +kernel
theorem dL_law_1337 : decode cL_law 1337 = .ok (.aload_n 0, 1) := by decide +kernel
theorem dL_law_1338 : decode cL_law 1338 = .ok (.iload_n 3, 1) := by decide +kernel
theorem dL_law_1339 : decode cL_law 1339 = .ok (.iconst 1, 1) := by decide +kernel
theorem dL_law_1340 : decode cL_law 1340 = .ok (.iadd, 1) := by decide +kernel
theorem dL_law_1341 : decode cL_law 1341 = .ok (.iaload, 1) := by decide +kernel
theorem dL_law_1342 : decode cL_law 1342 = .ok (.aload_n 0, 1) := by decide +kernel
theorem dL_law_1343 : decode cL_law 1343 = .ok (.iload_n 3, 1) := by decide +kernel
theorem dL_law_1344 : decode cL_law 1344 = .ok (.iconst 2, 1) := by decide +kernel
theorem dL_law_1345 : decode cL_law 1345 = .ok (.iadd, 1) := by decide +kernel
theorem dL_law_1346 : decode cL_law 1346 = .ok (.iaload, 1) := by decide +kernel
theorem dL_law_1347 : decode cL_law 1347 = .ok (.aload_n 0, 1) := by decide +kernel
theorem dL_law_1348 : decode cL_law 1348 = .ok (.iload_n 3, 1) := by decide +kernel
theorem dL_law_1349 : decode cL_law 1349 = .ok (.iconst 3, 1) := by decide +kernel
theorem dL_law_1350 : decode cL_law 1350 = .ok (.iadd, 1) := by decide +kernel
theorem dL_law_1351 : decode cL_law 1351 = .ok (.iaload, 1) := by decide +kernel
theorem dL_law_1352 : decode cL_law 1352 = .ok (.invokevirtual 154, 3) := by decide +kernel
theorem dL_law_1355 : decode cL_law 1355 = .ok (.if_icmp .eq 175, 3) := by decide +kernel
theorem dL_law_1358 : decode cL_law 1358 = .ok (.iconst 0, 1) := by decide +kernel
theorem dL_law_1359 : decode cL_law 1359 = .ok (.ireturn, 1) := by decide +kernel
theorem dL_law_1360 : decode cL_law 1360 = .ok (.aload_n 1, 1) := by decide +kernel
theorem dL_law_1361 : decode cL_law 1361 = .ok (.aload_n 0, 1) := by decide +kernel
theorem dL_law_1362 : decode cL_law 1362 = .ok (.iload_n 3, 1) := by decide +kernel
theorem dL_law_1363 : decode cL_law 1363 = .ok (.iconst 1, 1) := by decide +kernel
theorem dL_law_1364 : decode cL_law 1364 = .ok (.iadd, 1) := by decide +kernel
theorem dL_law_1365 : decode cL_law 1365 = .ok (.iaload, 1) := by decide +kernel
theorem dL_law_1366 : decode cL_law 1366 = .ok (.aload_n 0, 1) := by decide +kernel
theorem dL_law_1367 : decode cL_law 1367 = .ok (.iload_n 3, 1) := by decide +kernel
theorem dL_law_1368 : decode cL_law 1368 = .ok (.iconst 2, 1) := by decide +kernel
theorem dL_law_1369 : decode cL_law 1369 = .ok (.iadd, 1) := by decide +kernel
theorem dL_law_1370 : decode cL_law 1370 = .ok (.iaload, 1) := by decide +kernel
theorem dL_law_1371 : decode cL_law 1371 = .ok (.aload_n 0, 1) := by decide +kernel
theorem dL_law_1372 : decode cL_law 1372 = .ok (.iload_n 3, 1) := by decide +kernel
theorem dL_law_1373 : decode cL_law 1373 = .ok (.iconst 3, 1) := by decide +kernel
theorem dL_law_1374 : decode cL_law 1374 = .ok (.iadd, 1) := by decide +kernel
theorem dL_law_1375 : decode cL_law 1375 = .ok (.iaload, 1) := by decide +kernel
theorem dL_law_1376 : decode cL_law 1376 = .ok (.i2l, 1) := by decide +kernel
theorem dL_law_1377 : decode cL_law 1377 = .ok (.bipush 32, 2) := by decide +kernel
theorem dL_law_1379 : decode cL_law 1379 = .ok (.lshl, 1) := by decide +kernel
theorem dL_law_1380 : decode cL_law 1380 = .ok (.aload_n 0, 1) := by decide +kernel
theorem dL_law_1381 : decode cL_law 1381 = .ok (.iload_n 3, 1) := by decide +kernel
theorem dL_law_1382 : decode cL_law 1382 = .ok (.iconst 4, 1) := by decide +kernel
theorem dL_law_1383 : decode cL_law 1383 = .ok (.iadd, 1) := by decide +kernel
theorem dL_law_1384 : decode cL_law 1384 = .ok (.iaload, 1) := by decide +kernel
theorem dL_law_1385 : decode cL_law 1385 = .ok (.i2l, 1) := by decide +kernel
theorem dL_law_1386 : decode cL_law 1386 = .ok (.ldc2_w 155, 3) := by decide +kernel
theorem dL_law_1389 : decode cL_law 1389 = .ok (.land, 1) := by decide +kernel
theorem dL_law_1390 : decode cL_law 1390 = .ok (.lor, 1) := by decide +kernel
theorem dL_law_1391 : decode cL_law 1391 = .ok (.invokevirtual 157, 3) := by decide +kernel
theorem dL_law_1394 : decode cL_law 1394 = .ok (.aload_n 2, 1) := by decide +kernel
theorem dL_law_1395 : decode cL_law 1395 = .ok (.aload_n 0, 1) := by decide +kernel
theorem dL_law_1396 : decode cL_law 1396 = .ok (.iload_n 3, 1) := by decide +kernel
theorem dL_law_1397 : decode cL_law 1397 = .ok (.iconst 1, 1) := by decide +kernel
theorem dL_law_1398 : decode cL_law 1398 = .ok (.iadd, 1) := by decide +kernel
theorem dL_law_1399 : decode cL_law 1399 = .ok (.iaload, 1) := by decide +kernel
theorem dL_law_1400 : decode cL_law 1400 = .ok (.aload_n 0, 1) := by decide +kernel
theorem dL_law_1401 : decode cL_law 1401 = .ok (.iload_n 3, 1) := by decide +kernel
theorem dL_law_1402 : decode cL_law 1402 = .ok (.iconst 2, 1) := by decide +kernel
theorem dL_law_1403 : decode cL_law 1403 = .ok (.iadd, 1) := by decide +kernel
theorem dL_law_1404 : decode cL_law 1404 = .ok (.iaload, 1) := by decide +kernel
theorem dL_law_1405 : decode cL_law 1405 = .ok (.aload_n 0, 1) := by decide +kernel
theorem dL_law_1406 : decode cL_law 1406 = .ok (.iload_n 3, 1) := by decide +kernel
theorem dL_law_1407 : decode cL_law 1407 = .ok (.iconst 3, 1) := by decide +kernel
theorem dL_law_1408 : decode cL_law 1408 = .ok (.iadd, 1) := by decide +kernel
theorem dL_law_1409 : decode cL_law 1409 = .ok (.iaload, 1) := by decide +kernel
theorem dL_law_1410 : decode cL_law 1410 = .ok (.i2l, 1) := by decide +kernel
theorem dL_law_1411 : decode cL_law 1411 = .ok (.bipush 32, 2) := by decide +kernel
theorem dL_law_1413 : decode cL_law 1413 = .ok (.lshl, 1) := by decide +kernel
theorem dL_law_1414 : decode cL_law 1414 = .ok (.aload_n 0, 1) := by decide +kernel
theorem dL_law_1415 : decode cL_law 1415 = .ok (.iload_n 3, 1) := by decide +kernel
theorem dL_law_1416 : decode cL_law 1416 = .ok (.iconst 4, 1) := by decide +kernel
theorem dL_law_1417 : decode cL_law 1417 = .ok (.iadd, 1) := by decide +kernel
theorem dL_law_1418 : decode cL_law 1418 = .ok (.iaload, 1) := by decide +kernel
theorem dL_law_1419 : decode cL_law 1419 = .ok (.i2l, 1) := by decide +kernel
theorem dL_law_1420 : decode cL_law 1420 = .ok (.ldc2_w 155, 3) := by decide +kernel
theorem dL_law_1423 : decode cL_law 1423 = .ok (.land, 1) := by decide +kernel
theorem dL_law_1424 : decode cL_law 1424 = .ok (.lor, 1) := by decide +kernel
theorem dL_law_1425 : decode cL_law 1425 = .ok (.invokevirtual 161, 3) := by decide +kernel
theorem dL_law_1428 : decode cL_law 1428 = .ok (.if_icmp .eq 102, 3) := by decide +kernel
theorem dL_law_1431 : decode cL_law 1431 = .ok (.iconst 0, 1) := by decide +kernel
theorem dL_law_1432 : decode cL_law 1432 = .ok (.ireturn, 1) := by decide +kernel
theorem dL_law_1433 : decode cL_law 1433 = .ok (.aload_n 1, 1) := by decide +kernel
theorem dL_law_1434 : decode cL_law 1434 = .ok (.aload_n 0, 1) := by decide +kernel
theorem dL_law_1435 : decode cL_law 1435 = .ok (.iload_n 3, 1) := by decide +kernel
theorem dL_law_1436 : decode cL_law 1436 = .ok (.iconst 1, 1) := by decide +kernel
theorem dL_law_1437 : decode cL_law 1437 = .ok (.iadd, 1) := by decide +kernel
theorem dL_law_1438 : decode cL_law 1438 = .ok (.iaload, 1) := by decide +kernel
theorem dL_law_1439 : decode cL_law 1439 = .ok (.aload_n 0, 1) := by decide +kernel
theorem dL_law_1440 : decode cL_law 1440 = .ok (.iload_n 3, 1) := by decide +kernel
theorem dL_law_1441 : decode cL_law 1441 = .ok (.iconst 2, 1) := by decide +kernel
theorem dL_law_1442 : decode cL_law 1442 = .ok (.iadd, 1) := by decide +kernel
theorem dL_law_1443 : decode cL_law 1443 = .ok (.iaload, 1) := by decide +kernel
theorem dL_law_1444 : decode cL_law 1444 = .ok (.invokevirtual 162, 3) := by decide +kernel
theorem dL_law_1447 : decode cL_law 1447 = .ok (.aload_n 2, 1) := by decide +kernel
theorem dL_law_1448 : decode cL_law 1448 = .ok (.aload_n 0, 1) := by decide +kernel
theorem dL_law_1449 : decode cL_law 1449 = .ok (.iload_n 3, 1) := by decide +kernel
theorem dL_law_1450 : decode cL_law 1450 = .ok (.iconst 1, 1) := by decide +kernel
theorem dL_law_1451 : decode cL_law 1451 = .ok (.iadd, 1) := by decide +kernel
theorem dL_law_1452 : decode cL_law 1452 = .ok (.iaload, 1) := by decide +kernel
theorem dL_law_1453 : decode cL_law 1453 = .ok (.aload_n 0, 1) := by decide +kernel
theorem dL_law_1454 : decode cL_law 1454 = .ok (.iload_n 3, 1) := by decide +kernel
theorem dL_law_1455 : decode cL_law 1455 = .ok (.iconst 2, 1) := by decide +kernel
theorem dL_law_1456 : decode cL_law 1456 = .ok (.iadd, 1) := by decide +kernel
theorem dL_law_1457 : decode cL_law 1457 = .ok (.iaload, 1) := by decide +kernel
theorem dL_law_1458 : decode cL_law 1458 = .ok (.invokevirtual 165, 3) := by decide +kernel
theorem dL_law_1461 : decode cL_law 1461 = .ok (.lcmp, 1) := by decide +kernel
theorem dL_law_1462 : decode cL_law 1462 = .ok (.ifCond .eq 68, 3) := by decide +kernel
theorem dL_law_1465 : decode cL_law 1465 = .ok (.iconst 0, 1) := by decide +kernel
theorem dL_law_1466 : decode cL_law 1466 = .ok (.ireturn, 1) := by decide +kernel
theorem dL_law_1467 : decode cL_law 1467 = .ok (.aload_n 1, 1) := by decide +kernel
theorem dL_law_1468 : decode cL_law 1468 = .ok (.aload_n 0, 1) := by decide +kernel
theorem dL_law_1469 : decode cL_law 1469 = .ok (.iload_n 3, 1) := by decide +kernel
theorem dL_law_1470 : decode cL_law 1470 = .ok (.iconst 1, 1) := by decide +kernel
theorem dL_law_1471 : decode cL_law 1471 = .ok (.iadd, 1) := by decide +kernel
theorem dL_law_1472 : decode cL_law 1472 = .ok (.iaload, 1) := by decide +kernel
theorem dL_law_1473 : decode cL_law 1473 = .ok (.aload_n 0, 1) := by decide +kernel
theorem dL_law_1474 : decode cL_law 1474 = .ok (.iload_n 3, 1) := by decide +kernel
theorem dL_law_1475 : decode cL_law 1475 = .ok (.iconst 2, 1) := by decide +kernel
theorem dL_law_1476 : decode cL_law 1476 = .ok (.iadd, 1) := by decide +kernel
theorem dL_law_1477 : decode cL_law 1477 = .ok (.iaload, 1) := by decide +kernel
theorem dL_law_1478 : decode cL_law 1478 = .ok (.aload_n 0, 1) := by decide +kernel
theorem dL_law_1479 : decode cL_law 1479 = .ok (.iload_n 3, 1) := by decide +kernel
theorem dL_law_1480 : decode cL_law 1480 = .ok (.iconst 3, 1) := by decide +kernel
theorem dL_law_1481 : decode cL_law 1481 = .ok (.iadd, 1) := by decide +kernel
theorem dL_law_1482 : decode cL_law 1482 = .ok (.iaload, 1) := by decide +kernel
theorem dL_law_1483 : decode cL_law 1483 = .ok (.aload_n 0, 1) := by decide +kernel
theorem dL_law_1484 : decode cL_law 1484 = .ok (.iload_n 3, 1) := by decide +kernel
theorem dL_law_1485 : decode cL_law 1485 = .ok (.iconst 4, 1) := by decide +kernel
theorem dL_law_1486 : decode cL_law 1486 = .ok (.iadd, 1) := by decide +kernel
theorem dL_law_1487 : decode cL_law 1487 = .ok (.iaload, 1) := by decide +kernel
theorem dL_law_1488 : decode cL_law 1488 = .ok (.aload_n 0, 1) := by decide +kernel
theorem dL_law_1489 : decode cL_law 1489 = .ok (.iload_n 3, 1) := by decide +kernel
theorem dL_law_1490 : decode cL_law 1490 = .ok (.iconst 5, 1) := by decide +kernel
theorem dL_law_1491 : decode cL_law 1491 = .ok (.iadd, 1) := by decide +kernel
theorem dL_law_1492 : decode cL_law 1492 = .ok (.iaload, 1) := by decide +kernel
theorem dL_law_1493 : decode cL_law 1493 = .ok (.invokevirtual 166, 3) := by decide +kernel
theorem dL_law_1496 : decode cL_law 1496 = .ok (.aload_n 2, 1) := by decide +kernel
theorem dL_law_1497 : decode cL_law 1497 = .ok (.aload_n 0, 1) := by decide +kernel
theorem dL_law_1498 : decode cL_law 1498 = .ok (.iload_n 3, 1) := by decide +kernel
theorem dL_law_1499 : decode cL_law 1499 = .ok (.iconst 1, 1) := by decide +kernel
theorem dL_law_1500 : decode cL_law 1500 = .ok (.iadd, 1) := by decide +kernel
theorem dL_law_1501 : decode cL_law 1501 = .ok (.iaload, 1) := by decide +kernel
theorem dL_law_1502 : decode cL_law 1502 = .ok (.aload_n 0, 1) := by decide +kernel
theorem dL_law_1503 : decode cL_law 1503 = .ok (.iload_n 3, 1) := by decide +kernel
theorem dL_law_1504 : decode cL_law 1504 = .ok (.iconst 2, 1) := by decide +kernel
theorem dL_law_1505 : decode cL_law 1505 = .ok (.iadd, 1) := by decide +kernel
theorem dL_law_1506 : decode cL_law 1506 = .ok (.iaload, 1) := by decide +kernel
theorem dL_law_1507 : decode cL_law 1507 = .ok (.aload_n 0, 1) := by decide +kernel
theorem dL_law_1508 : decode cL_law 1508 = .ok (.iload_n 3, 1) := by decide +kernel
theorem dL_law_1509 : decode cL_law 1509 = .ok (.iconst 3, 1) := by decide +kernel
theorem dL_law_1510 : decode cL_law 1510 = .ok (.iadd, 1) := by decide +kernel
theorem dL_law_1511 : decode cL_law 1511 = .ok (.iaload, 1) := by decide +kernel
theorem dL_law_1512 : decode cL_law 1512 = .ok (.aload_n 0, 1) := by decide +kernel
theorem dL_law_1513 : decode cL_law 1513 = .ok (.iload_n 3, 1) := by decide +kernel
theorem dL_law_1514 : decode cL_law 1514 = .ok (.iconst 4, 1) := by decide +kernel
theorem dL_law_1515 : decode cL_law 1515 = .ok (.iadd, 1) := by decide +kernel
theorem dL_law_1516 : decode cL_law 1516 = .ok (.iaload, 1) := by decide +kernel
theorem dL_law_1517 : decode cL_law 1517 = .ok (.aload_n 0, 1) := by decide +kernel
theorem dL_law_1518 : decode cL_law 1518 = .ok (.iload_n 3, 1) := by decide +kernel
theorem dL_law_1519 : decode cL_law 1519 = .ok (.iconst 5, 1) := by decide +kernel
theorem dL_law_1520 : decode cL_law 1520 = .ok (.iadd, 1) := by decide +kernel
theorem dL_law_1521 : decode cL_law 1521 = .ok (.iaload, 1) := by decide +kernel
theorem dL_law_1522 : decode cL_law 1522 = .ok (.invokevirtual 170, 3) := by decide +kernel
theorem dL_law_1525 : decode cL_law 1525 = .ok (.if_icmp .eq 5, 3) := by decide +kernel
theorem dL_law_1528 : decode cL_law 1528 = .ok (.iconst 0, 1) := by decide +kernel
theorem dL_law_1529 : decode cL_law 1529 = .ok (.ireturn, 1) := by decide +kernel
theorem dL_law_1530 : decode cL_law 1530 = .ok (.iinc 3 6, 3) := by decide +kernel
theorem dL_law_1533 : decode cL_law 1533 = .ok (.goto (-1515), 3) := by decide +kernel
theorem dL_law_1536 : decode cL_law 1536 = .ok (.iconst 1, 1) := by decide +kernel
theorem dL_law_1537 : decode cL_law 1537 = .ok (.ireturn, 1) := by decide +kernel
