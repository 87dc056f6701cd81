theorem dX0_init_0 : decode cX0_init 0 = .ok (.aload_n 0, 1) := by decide +kernel
theorem dX0_init_1 : decode cX0_init 1 = .ok (.invokespecial 3, 3) := by decide +kernel
theorem dX0_init_4 : decode cX0_init 4 = .ok (.aload_n 0, 1) := by decide +kernel
theorem dX0_init_5 : decode cX0_init 5 = .ok (.bipush 6, 2) := by decide +kernel
theorem dX0_init_7 : decode cX0_init 7 = .ok (.newarray .int, 2) := by decide +kernel
theorem dX0_init_9 : decode cX0_init 9 = .ok (.putfield 9, 3) := by decide +kernel
theorem dX0_init_12 : decode cX0_init 12 = .ok (.aload_n 0, 1) := by decide +kernel
theorem dX0_init_13 : decode cX0_init 13 = .ok (.sipush 150, 3) := by decide +kernel
theorem dX0_init_16 : decode cX0_init 16 = .ok (.newarray .int, 2) := by decide +kernel
theorem dX0_init_18 : decode cX0_init 18 = .ok (.putfield 15, 3) := by decide +kernel
theorem dX0_init_21 : decode cX0_init 21 = .ok (.aload_n 0, 1) := by decide +kernel
theorem dX0_init_22 : decode cX0_init 22 = .ok (.sipush 150, 3) := by decide +kernel
theorem dX0_init_25 : decode cX0_init 25 = .ok (.newarray .boolean, 2) := by decide +kernel
theorem dX0_init_27 : decode cX0_init 27 = .ok (.putfield 18, 3) := by decide +kernel
theorem dX0_init_30 : decode cX0_init 30 = .ok (.aload_n 0, 1) := by decide +kernel
theorem dX0_init_31 : decode cX0_init 31 = .ok (.sipush 900, 3) := by decide +kernel
theorem dX0_init_34 : decode cX0_init 34 = .ok (.newarray .int, 2) := by decide +kernel
theorem dX0_init_36 : decode cX0_init 36 = .ok (.putfield 22, 3) := by decide +kernel
theorem dX0_init_39 : decode cX0_init 39 = .ok (.aload_n 0, 1) := by decide +kernel
theorem dX0_init_40 : decode cX0_init 40 = .ok (.iconst 4, 1) := by decide +kernel
theorem dX0_init_41 : decode cX0_init 41 = .ok (.newarray .int, 2) := by decide +kernel
theorem dX0_init_43 : decode cX0_init 43 = .ok (.putfield 25, 3) := by decide +kernel
theorem dX0_init_46 : decode cX0_init 46 = .ok (.return_, 1) := by decide +kernel
theorem dX0_tell_0 : decode cX0_tell 0 = .ok (.aload_n 0, 1) := by decide +kernel
theorem dX0_tell_1 : decode cX0_tell 1 = .ok (.getfield 9, 3) := by decide +kernel
theorem dX0_tell_4 : decode cX0_tell 4 = .ok (.iload_n 1, 1) := by decide +kernel
theorem dX0_tell_5 : decode cX0_tell 5 = .ok (.iaload, 1) := by decide +kernel
theorem dX0_tell_6 : decode cX0_tell 6 = .ok (.istore_n 3, 1) := by decide +kernel
theorem dX0_tell_7 : decode cX0_tell 7 = .ok (.aload_n 0, 1) := by decide +kernel
theorem dX0_tell_8 : decode cX0_tell 8 = .ok (.getfield 9, 3) := by decide +kernel
theorem dX0_tell_11 : decode cX0_tell 11 = .ok (.iload_n 1, 1) := by decide +kernel
theorem dX0_tell_12 : decode cX0_tell 12 = .ok (.iload_n 2, 1) := by decide +kernel
theorem dX0_tell_13 : decode cX0_tell 13 = .ok (.iastore, 1) := by decide +kernel
theorem dX0_tell_14 : decode cX0_tell 14 = .ok (.iload_n 3, 1) := by decide +kernel
theorem dX0_tell_15 : decode cX0_tell 15 = .ok (.ireturn, 1) := by decide +kernel
theorem dX0_add_0 : decode cX0_add 0 = .ok (.aload_n 0, 1) := by decide +kernel
theorem dX0_add_1 : decode cX0_add 1 = .ok (.getfield 15, 3) := by decide +kernel
theorem dX0_add_4 : decode cX0_add 4 = .ok (.aload_n 0, 1) := by decide +kernel
theorem dX0_add_5 : decode cX0_add 5 = .ok (.getfield 28, 3) := by decide +kernel
theorem dX0_add_8 : decode cX0_add 8 = .ok (.iload_n 1, 1) := by decide +kernel
theorem dX0_add_9 : decode cX0_add 9 = .ok (.iastore, 1) := by decide +kernel
theorem dX0_add_10 : decode cX0_add 10 = .ok (.iconst 0, 1) := by decide +kernel
theorem dX0_add_11 : decode cX0_add 11 = .ok (.istore_n 2, 1) := by decide +kernel
theorem dX0_add_12 : decode cX0_add 12 = .ok (.iload_n 2, 1) := by decide +kernel
theorem dX0_add_13 : decode cX0_add 13 = .ok (.bipush 6, 2) := by decide +kernel
theorem dX0_add_15 : decode cX0_add 15 = .ok (.if_icmp .ge 36, 3) := by decide +kernel
theorem dX0_add_18 : decode cX0_add 18 = .ok (.aload_n 0, 1) := by decide +kernel
theorem dX0_add_19 : decode cX0_add 19 = .ok (.getfield 22, 3) := by decide +kernel
theorem dX0_add_22 : decode cX0_add 22 = .ok (.aload_n 0, 1) := by decide +kernel
theorem dX0_add_23 : decode cX0_add 23 = .ok (.getfield 28, 3) := by decide +kernel
theorem dX0_add_26 : decode cX0_add 26 = .ok (.bipush 6, 2) := by decide +kernel
theorem dX0_add_28 : decode cX0_add 28 = .ok (.imul, 1) := by decide +kernel
theorem dX0_add_29 : decode cX0_add 29 = .ok (.iload_n 2, 1) := by decide +kernel
theorem dX0_add_30 : decode cX0_add 30 = .ok (.iadd, 1) := by decide +kernel
theorem dX0_add_31 : decode cX0_add 31 = .ok (.aload_n 0, 1) := by decide +kernel
theorem dX0_add_32 : decode cX0_add 32 = .ok (.getfield 9, 3) := by decide +kernel
theorem dX0_add_35 : decode cX0_add 35 = .ok (.iload_n 2, 1) := by decide +kernel
theorem dX0_add_36 : decode cX0_add 36 = .ok (.iaload, 1) := by decide +kernel
theorem dX0_add_37 : decode cX0_add 37 = .ok (.iastore, 1) := by decide +kernel
theorem dX0_add_38 : decode cX0_add 38 = .ok (.aload_n 0, 1) := by decide +kernel
theorem dX0_add_39 : decode cX0_add 39 = .ok (.getfield 9, 3) := by decide +kernel
theorem dX0_add_42 : decode cX0_add 42 = .ok (.iload_n 2, 1) := by decide +kernel
theorem dX0_add_43 : decode cX0_add 43 = .ok (.iconst 0, 1) := by decide +kernel
theorem dX0_add_44 : decode cX0_add 44 = .ok (.iastore, 1) := by decide +kernel
theorem dX0_add_45 : decode cX0_add 45 = .ok (.iinc 2 1, 3) := by decide +kernel
theorem dX0_add_48 : decode cX0_add 48 = .ok (.goto (-36), 3) := by decide +kernel
theorem dX0_add_51 : decode cX0_add 51 = .ok (.aload_n 0, 1) := by decide +kernel
theorem dX0_add_52 : decode cX0_add 52 = .ok (.dup, 1) := by decide +kernel
theorem dX0_add_53 : decode cX0_add 53 = .ok (.getfield 28, 3) := by decide +kernel
theorem dX0_add_56 : decode cX0_add 56 = .ok (.iconst 1, 1) := by decide +kernel
theorem dX0_add_57 : decode cX0_add 57 = .ok (.iadd, 1) := by decide +kernel
theorem dX0_add_58 : decode cX0_add 58 = .ok (.putfield 28, 3) := by decide +kernel
theorem dX0_add_61 : decode cX0_add 61 = .ok (.aload_n 0, 1) := by decide +kernel
theorem dX0_add_62 : decode cX0_add 62 = .ok (.getfield 28, 3) := by decide +kernel
theorem dX0_add_65 : decode cX0_add 65 = .ok (.iconst 1, 1) := by decide +kernel
theorem dX0_add_66 : decode cX0_add 66 = .ok (.isub, 1) := by decide +kernel
theorem dX0_add_67 : decode cX0_add 67 = .ok (.ireturn, 1) := by decide +kernel
theorem dX0_takeAway_0 : decode cX0_takeAway 0 = .ok (.aload_n 0, 1) := by decide +kernel
theorem dX0_takeAway_1 : decode cX0_takeAway 1 = .ok (.getfield 18, 3) := by decide +kernel
theorem dX0_takeAway_4 : decode cX0_takeAway 4 = .ok (.iload_n 1, 1) := by decide +kernel
theorem dX0_takeAway_5 : decode cX0_takeAway 5 = .ok (.baload, 1) := by decide +kernel
theorem dX0_takeAway_6 : decode cX0_takeAway 6 = .ok (.ifCond .eq 5, 3) := by decide +kernel
theorem dX0_takeAway_9 : decode cX0_takeAway 9 = .ok (.iconst 0, 1) := by decide +kernel
theorem dX0_takeAway_10 : decode cX0_takeAway 10 = .ok (.ireturn, 1) := by decide +kernel
theorem dX0_takeAway_11 : decode cX0_takeAway 11 = .ok (.aload_n 0, 1) := by decide +kernel
theorem dX0_takeAway_12 : decode cX0_takeAway 12 = .ok (.getfield 18, 3) := by decide +kernel
theorem dX0_takeAway_15 : decode cX0_takeAway 15 = .ok (.iload_n 1, 1) := by decide +kernel
theorem dX0_takeAway_16 : decode cX0_takeAway 16 = .ok (.iconst 1, 1) := by decide +kernel
theorem dX0_takeAway_17 : decode cX0_takeAway 17 = .ok (.bastore, 1) := by decide +kernel
theorem dX0_takeAway_18 : decode cX0_takeAway 18 = .ok (.aload_n 0, 1) := by decide +kernel
theorem dX0_takeAway_19 : decode cX0_takeAway 19 = .ok (.dup, 1) := by decide +kernel
theorem dX0_takeAway_20 : decode cX0_takeAway 20 = .ok (.getfield 32, 3) := by decide +kernel
theorem dX0_takeAway_23 : decode cX0_takeAway 23 = .ok (.iconst 1, 1) := by decide +kernel
theorem dX0_takeAway_24 : decode cX0_takeAway 24 = .ok (.iadd, 1) := by decide +kernel
theorem dX0_takeAway_25 : decode cX0_takeAway 25 = .ok (.putfield 32, 3) := by decide +kernel
theorem dX0_takeAway_28 : decode cX0_takeAway 28 = .ok (.iconst 1, 1) := by decide +kernel
theorem dX0_takeAway_29 : decode cX0_takeAway 29 = .ok (.ireturn, 1) := by decide +kernel
theorem dX0_isInKnot_0 : decode cX0_isInKnot 0 = .ok (.aload_n 0, 1) := by decide +kernel
theorem dX0_isInKnot_1 : decode cX0_isInKnot 1 = .ok (.getfield 18, 3) := by decide +kernel
theorem dX0_isInKnot_4 : decode cX0_isInKnot 4 = .ok (.iload_n 1, 1) := by decide +kernel
theorem dX0_isInKnot_5 : decode cX0_isInKnot 5 = .ok (.baload, 1) := by decide +kernel
theorem dX0_isInKnot_6 : decode cX0_isInKnot 6 = .ok (.ifCond .ne 20, 3) := by decide +kernel
theorem dX0_isInKnot_9 : decode cX0_isInKnot 9 = .ok (.aload_n 0, 1) := by decide +kernel
theorem dX0_isInKnot_10 : decode cX0_isInKnot 10 = .ok (.getfield 15, 3) := by decide +kernel
theorem dX0_isInKnot_13 : decode cX0_isInKnot 13 = .ok (.iload_n 1, 1) := by decide +kernel
theorem dX0_isInKnot_14 : decode cX0_isInKnot 14 = .ok (.iaload, 1) := by decide +kernel
theorem dX0_isInKnot_15 : decode cX0_isInKnot 15 = .ok (.iload_n 3, 1) := by decide +kernel
theorem dX0_isInKnot_16 : decode cX0_isInKnot 16 = .ok (.ixor, 1) := by decide +kernel
theorem dX0_isInKnot_17 : decode cX0_isInKnot 17 = .ok (.iload_n 2, 1) := by decide +kernel
theorem dX0_isInKnot_18 : decode cX0_isInKnot 18 = .ok (.iand, 1) := by decide +kernel
theorem dX0_isInKnot_19 : decode cX0_isInKnot 19 = .ok (.ifCond .ne 7, 3) := by decide +kernel
theorem dX0_isInKnot_22 : decode cX0_isInKnot 22 = .ok (.iconst 1, 1) := by decide +kernel
theorem dX0_isInKnot_23 : decode cX0_isInKnot 23 = .ok (.goto 4, 3) := by decide +kernel
theorem dX0_isInKnot_26 : decode cX0_isInKnot 26 = .ok (.iconst 0, 1) := by decide +kernel
theorem dX0_isInKnot_27 : decode cX0_isInKnot 27 = .ok (.ireturn, 1) := by decide +kernel
theorem dX0_eatenOn_0 : decode cX0_eatenOn 0 = .ok (.aload_n 0, 1) := by decide +kernel
theorem dX0_eatenOn_1 : decode cX0_eatenOn 1 = .ok (.getfield 22, 3) := by decide +kernel
theorem dX0_eatenOn_4 : decode cX0_eatenOn 4 = .ok (.iload_n 1, 1) := by decide +kernel
theorem dX0_eatenOn_5 : decode cX0_eatenOn 5 = .ok (.bipush 6, 2) := by decide +kernel
theorem dX0_eatenOn_7 : decode cX0_eatenOn 7 = .ok (.imul, 1) := by decide +kernel
theorem dX0_eatenOn_8 : decode cX0_eatenOn 8 = .ok (.iload_n 2, 1) := by decide +kernel
theorem dX0_eatenOn_9 : decode cX0_eatenOn 9 = .ok (.iadd, 1) := by decide +kernel
theorem dX0_eatenOn_10 : decode cX0_eatenOn 10 = .ok (.iaload, 1) := by decide +kernel
theorem dX0_eatenOn_11 : decode cX0_eatenOn 11 = .ok (.ireturn, 1) := by decide +kernel
theorem dX0_factOf_0 : decode cX0_factOf 0 = .ok (.aload_n 0, 1) := by decide +kernel
theorem dX0_factOf_1 : decode cX0_factOf 1 = .ok (.getfield 25, 3) := by decide +kernel
theorem dX0_factOf_4 : decode cX0_factOf 4 = .ok (.iconst 0, 1) := by decide +kernel
theorem dX0_factOf_5 : decode cX0_factOf 5 = .ok (.invokestatic 35, 3) := by decide +kernel
theorem dX0_factOf_8 : decode cX0_factOf 8 = .ok (.iconst 0, 1) := by decide +kernel
theorem dX0_factOf_9 : decode cX0_factOf 9 = .ok (.istore 5, 2) := by decide +kernel
theorem dX0_factOf_11 : decode cX0_factOf 11 = .ok (.iload 5, 2) := by decide +kernel
theorem dX0_factOf_13 : decode cX0_factOf 13 = .ok (.aload_n 0, 1) := by decide +kernel
theorem dX0_factOf_14 : decode cX0_factOf 14 = .ok (.getfield 28, 3) := by decide +kernel
theorem dX0_factOf_17 : decode cX0_factOf 17 = .ok (.if_icmp .ge 31, 3) := by decide +kernel
theorem dX0_factOf_20 : decode cX0_factOf 20 = .ok (.aload_n 0, 1) := by decide +kernel
theorem dX0_factOf_21 : decode cX0_factOf 21 = .ok (.iload 5, 2) := by decide +kernel
theorem dX0_factOf_23 : decode cX0_factOf 23 = .ok (.iload_n 2, 1) := by decide +kernel
theorem dX0_factOf_24 : decode cX0_factOf 24 = .ok (.iload_n 3, 1) := by decide +kernel
theorem dX0_factOf_25 : decode cX0_factOf 25 = .ok (.invokevirtual 41, 3) := by decide +kernel
theorem dX0_factOf_28 : decode cX0_factOf 28 = .ok (.ifCond .eq 14, 3) := by decide +kernel
theorem dX0_factOf_31 : decode cX0_factOf 31 = .ok (.aload_n 0, 1) := by decide +kernel
theorem dX0_factOf_32 : decode cX0_factOf 32 = .ok (.aload_n 0, 1) := by decide +kernel
theorem dX0_factOf_33 : decode cX0_factOf 33 = .ok (.iload 5, 2) := by decide +kernel
theorem dX0_factOf_35 : decode cX0_factOf 35 = .ok (.iload_n 1, 1) := by decide +kernel
theorem dX0_factOf_36 : decode cX0_factOf 36 = .ok (.invokevirtual 45, 3) := by decide +kernel
theorem dX0_factOf_39 : decode cX0_factOf 39 = .ok (.invokevirtual 49, 3) := by decide +kernel
theorem dX0_factOf_42 : decode cX0_factOf 42 = .ok (.iinc 5 1, 3) := by decide +kernel
theorem dX0_factOf_45 : decode cX0_factOf 45 = .ok (.goto (-34), 3) := by decide +kernel
theorem dX0_factOf_48 : decode cX0_factOf 48 = .ok (.aload_n 0, 1) := by decide +kernel
theorem dX0_factOf_49 : decode cX0_factOf 49 = .ok (.getfield 25, 3) := by decide +kernel
theorem dX0_factOf_52 : decode cX0_factOf 52 = .ok (.iload 4, 2) := by decide +kernel
theorem dX0_factOf_54 : decode cX0_factOf 54 = .ok (.iaload, 1) := by decide +kernel
theorem dX0_factOf_55 : decode cX0_factOf 55 = .ok (.ireturn, 1) := by decide +kernel
theorem dX0_noteFacts_0 : decode cX0_noteFacts 0 = .ok (.aload_n 0, 1) := by decide +kernel
theorem dX0_noteFacts_1 : decode cX0_noteFacts 1 = .ok (.getfield 25, 3) := by decide +kernel
theorem dX0_noteFacts_4 : decode cX0_noteFacts 4 = .ok (.iconst 0, 1) := by decide +kernel
theorem dX0_noteFacts_5 : decode cX0_noteFacts 5 = .ok (.iaload, 1) := by decide +kernel
theorem dX0_noteFacts_6 : decode cX0_noteFacts 6 = .ok (.ifCond .ne 7, 3) := by decide +kernel
theorem dX0_noteFacts_9 : decode cX0_noteFacts 9 = .ok (.iconst 1, 1) := by decide +kernel
theorem dX0_noteFacts_10 : decode cX0_noteFacts 10 = .ok (.goto 4, 3) := by decide +kernel
theorem dX0_noteFacts_13 : decode cX0_noteFacts 13 = .ok (.iconst 0, 1) := by decide +kernel
theorem dX0_noteFacts_14 : decode cX0_noteFacts 14 = .ok (.istore_n 2, 1) := by decide +kernel
theorem dX0_noteFacts_15 : decode cX0_noteFacts 15 = .ok (.aload_n 0, 1) := by decide +kernel
theorem dX0_noteFacts_16 : decode cX0_noteFacts 16 = .ok (.getfield 25, 3) := by decide +kernel
theorem dX0_noteFacts_19 : decode cX0_noteFacts 19 = .ok (.iconst 0, 1) := by decide +kernel
theorem dX0_noteFacts_20 : decode cX0_noteFacts 20 = .ok (.dup2, 1) := by decide +kernel
theorem dX0_noteFacts_21 : decode cX0_noteFacts 21 = .ok (.iaload, 1) := by decide +kernel
theorem dX0_noteFacts_22 : decode cX0_noteFacts 22 = .ok (.iconst 1, 1) := by decide +kernel
theorem dX0_noteFacts_23 : decode cX0_noteFacts 23 = .ok (.iadd, 1) := by decide +kernel
theorem dX0_noteFacts_24 : decode cX0_noteFacts 24 = .ok (.iastore, 1) := by decide +kernel
theorem dX0_noteFacts_25 : decode cX0_noteFacts 25 = .ok (.aload_n 0, 1) := by decide +kernel
theorem dX0_noteFacts_26 : decode cX0_noteFacts 26 = .ok (.getfield 25, 3) := by decide +kernel
theorem dX0_noteFacts_29 : decode cX0_noteFacts 29 = .ok (.iconst 1, 1) := by decide +kernel
theorem dX0_noteFacts_30 : decode cX0_noteFacts 30 = .ok (.dup2, 1) := by decide +kernel
theorem dX0_noteFacts_31 : decode cX0_noteFacts 31 = .ok (.iaload, 1) := by decide +kernel
theorem dX0_noteFacts_32 : decode cX0_noteFacts 32 = .ok (.iload_n 1, 1) := by decide +kernel
theorem dX0_noteFacts_33 : decode cX0_noteFacts 33 = .ok (.iadd, 1) := by decide +kernel
theorem dX0_noteFacts_34 : decode cX0_noteFacts 34 = .ok (.iastore, 1) := by decide +kernel
theorem dX0_noteFacts_35 : decode cX0_noteFacts 35 = .ok (.aload_n 0, 1) := by decide +kernel
theorem dX0_noteFacts_36 : decode cX0_noteFacts 36 = .ok (.getfield 25, 3) := by decide +kernel
theorem dX0_noteFacts_39 : decode cX0_noteFacts 39 = .ok (.iconst 2, 1) := by decide +kernel
theorem dX0_noteFacts_40 : decode cX0_noteFacts 40 = .ok (.iload_n 2, 1) := by decide +kernel
theorem dX0_noteFacts_41 : decode cX0_noteFacts 41 = .ok (.ifCond .eq 7, 3) := by decide +kernel
theorem dX0_noteFacts_44 : decode cX0_noteFacts 44 = .ok (.iload_n 1, 1) := by decide +kernel
theorem dX0_noteFacts_45 : decode cX0_noteFacts 45 = .ok (.goto 13, 3) := by decide +kernel
theorem dX0_noteFacts_48 : decode cX0_noteFacts 48 = .ok (.aload_n 0, 1) := by decide +kernel
theorem dX0_noteFacts_49 : decode cX0_noteFacts 49 = .ok (.getfield 25, 3) := by decide +kernel
theorem dX0_noteFacts_52 : decode cX0_noteFacts 52 = .ok (.iconst 2, 1) := by decide +kernel
theorem dX0_noteFacts_53 : decode cX0_noteFacts 53 = .ok (.iaload, 1) := by decide +kernel
theorem dX0_noteFacts_54 : decode cX0_noteFacts 54 = .ok (.iload_n 1, 1) := by decide +kernel
theorem dX0_noteFacts_55 : decode cX0_noteFacts 55 = .ok (.invokestatic 53, 3) := by decide +kernel
theorem dX0_noteFacts_58 : decode cX0_noteFacts 58 = .ok (.iastore, 1) := by decide +kernel
theorem dX0_noteFacts_59 : decode cX0_noteFacts 59 = .ok (.aload_n 0, 1) := by decide +kernel
theorem dX0_noteFacts_60 : decode cX0_noteFacts 60 = .ok (.getfield 25, 3) := by decide +kernel
theorem dX0_noteFacts_63 : decode cX0_noteFacts 63 = .ok (.iconst 3, 1) := by decide +kernel
theorem dX0_noteFacts_64 : decode cX0_noteFacts 64 = .ok (.aload_n 0, 1) := by decide +kernel
theorem dX0_noteFacts_65 : decode cX0_noteFacts 65 = .ok (.getfield 25, 3) := by decide +kernel
theorem dX0_noteFacts_68 : decode cX0_noteFacts 68 = .ok (.iconst 3, 1) := by decide +kernel
theorem dX0_noteFacts_69 : decode cX0_noteFacts 69 = .ok (.iaload, 1) := by decide +kernel
theorem dX0_noteFacts_70 : decode cX0_noteFacts 70 = .ok (.iload_n 1, 1) := by decide +kernel
theorem dX0_noteFacts_71 : decode cX0_noteFacts 71 = .ok (.invokestatic 58, 3) := by decide +kernel
theorem dX0_noteFacts_74 : decode cX0_noteFacts 74 = .ok (.iastore, 1) := by decide +kernel
theorem dX0_noteFacts_75 : decode cX0_noteFacts 75 = .ok (.return_, 1) := by decide +kernel
theorem dX1_init_0 : decode cX1_init 0 = .ok (.aload_n 0, 1) := by decide +kernel
theorem dX1_init_1 : decode cX1_init 1 = .ok (.invokespecial 3, 3) := by decide +kernel
theorem dX1_init_4 : decode cX1_init 4 = .ok (.aload_n 0, 1) := by decide +kernel
theorem dX1_init_5 : decode cX1_init 5 = .ok (.bipush 60, 2) := by decide +kernel
theorem dX1_init_7 : decode cX1_init 7 = .ok (.newarray .int, 2) := by decide +kernel
theorem dX1_init_9 : decode cX1_init 9 = .ok (.putfield 9, 3) := by decide +kernel
theorem dX1_init_12 : decode cX1_init 12 = .ok (.aload_n 0, 1) := by decide +kernel
theorem dX1_init_13 : decode cX1_init 13 = .ok (.iconst 4, 1) := by decide +kernel
theorem dX1_init_14 : decode cX1_init 14 = .ok (.newarray .int, 2) := by decide +kernel
theorem dX1_init_16 : decode cX1_init 16 = .ok (.putfield 15, 3) := by decide +kernel
theorem dX1_init_19 : decode cX1_init 19 = .ok (.return_, 1) := by decide +kernel
theorem dX1_add_0 : decode cX1_add 0 = .ok (.aload_n 0, 1) := by decide +kernel
theorem dX1_add_1 : decode cX1_add 1 = .ok (.getfield 9, 3) := by decide +kernel
theorem dX1_add_4 : decode cX1_add 4 = .ok (.aload_n 0, 1) := by decide +kernel
theorem dX1_add_5 : decode cX1_add 5 = .ok (.getfield 18, 3) := by decide +kernel
theorem dX1_add_8 : decode cX1_add 8 = .ok (.iload_n 1, 1) := by decide +kernel
theorem dX1_add_9 : decode cX1_add 9 = .ok (.iastore, 1) := by decide +kernel
theorem dX1_add_10 : decode cX1_add 10 = .ok (.aload_n 0, 1) := by decide +kernel
theorem dX1_add_11 : decode cX1_add 11 = .ok (.dup, 1) := by decide +kernel
theorem dX1_add_12 : decode cX1_add 12 = .ok (.getfield 18, 3) := by decide +kernel
theorem dX1_add_15 : decode cX1_add 15 = .ok (.iconst 1, 1) := by decide +kernel
theorem dX1_add_16 : decode cX1_add 16 = .ok (.iadd, 1) := by decide +kernel
theorem dX1_add_17 : decode cX1_add 17 = .ok (.putfield 18, 3) := by decide +kernel
theorem dX1_add_20 : decode cX1_add 20 = .ok (.aload_n 0, 1) := by decide +kernel
theorem dX1_add_21 : decode cX1_add 21 = .ok (.getfield 18, 3) := by decide +kernel
theorem dX1_add_24 : decode cX1_add 24 = .ok (.ireturn, 1) := by decide +kernel
theorem dX1_clear_0 : decode cX1_clear 0 = .ok (.aload_n 0, 1) := by decide +kernel
theorem dX1_clear_1 : decode cX1_clear 1 = .ok (.getfield 18, 3) := by decide +kernel
theorem dX1_clear_4 : decode cX1_clear 4 = .ok (.istore_n 1, 1) := by decide +kernel
theorem dX1_clear_5 : decode cX1_clear 5 = .ok (.aload_n 0, 1) := by decide +kernel
theorem dX1_clear_6 : decode cX1_clear 6 = .ok (.iconst 0, 1) := by decide +kernel
theorem dX1_clear_7 : decode cX1_clear 7 = .ok (.putfield 18, 3) := by decide +kernel
theorem dX1_clear_10 : decode cX1_clear 10 = .ok (.iload_n 1, 1) := by decide +kernel
theorem dX1_clear_11 : decode cX1_clear 11 = .ok (.ireturn, 1) := by decide +kernel
theorem dX1_leastServed_0 : decode cX1_leastServed 0 = .ok (.iconst 1, 1) := by decide +kernel
theorem dX1_leastServed_1 : decode cX1_leastServed 1 = .ok (.istore_n 2, 1) := by decide +kernel
theorem dX1_leastServed_2 : decode cX1_leastServed 2 = .ok (.iload_n 2, 1) := by decide +kernel
theorem dX1_leastServed_3 : decode cX1_leastServed 3 = .ok (.bipush 100, 2) := by decide +kernel
theorem dX1_leastServed_5 : decode cX1_leastServed 5 = .ok (.if_icmp .ge 21, 3) := by decide +kernel
theorem dX1_leastServed_8 : decode cX1_leastServed 8 = .ok (.aload_n 0, 1) := by decide +kernel
theorem dX1_leastServed_9 : decode cX1_leastServed 9 = .ok (.iload_n 2, 1) := by decide +kernel
theorem dX1_leastServed_10 : decode cX1_leastServed 10 = .ok (.iconst 0, 1) := by decide +kernel
theorem dX1_leastServed_11 : decode cX1_leastServed 11 = .ok (.invokevirtual 22, 3) := by decide +kernel
theorem dX1_leastServed_14 : decode cX1_leastServed 14 = .ok (.iload_n 1, 1) := by decide +kernel
theorem dX1_leastServed_15 : decode cX1_leastServed 15 = .ok (.if_icmp .gt 5, 3) := by decide +kernel
theorem dX1_leastServed_18 : decode cX1_leastServed 18 = .ok (.iload_n 2, 1) := by decide +kernel
theorem dX1_leastServed_19 : decode cX1_leastServed 19 = .ok (.ireturn, 1) := by decide +kernel
theorem dX1_leastServed_20 : decode cX1_leastServed 20 = .ok (.iinc 2 1, 3) := by decide +kernel
theorem dX1_leastServed_23 : decode cX1_leastServed 23 = .ok (.goto (-21), 3) := by decide +kernel
theorem dX1_leastServed_26 : decode cX1_leastServed 26 = .ok (.bipush 100, 2) := by decide +kernel
theorem dX1_leastServed_28 : decode cX1_leastServed 28 = .ok (.ireturn, 1) := by decide +kernel
theorem dX1_factOf_0 : decode cX1_factOf 0 = .ok (.aload_n 0, 1) := by decide +kernel
theorem dX1_factOf_1 : decode cX1_factOf 1 = .ok (.getfield 15, 3) := by decide +kernel
theorem dX1_factOf_4 : decode cX1_factOf 4 = .ok (.iconst 0, 1) := by decide +kernel
theorem dX1_factOf_5 : decode cX1_factOf 5 = .ok (.invokestatic 26, 3) := by decide +kernel
theorem dX1_factOf_8 : decode cX1_factOf 8 = .ok (.aload_n 0, 1) := by decide +kernel
theorem dX1_factOf_9 : decode cX1_factOf 9 = .ok (.getfield 15, 3) := by decide +kernel
theorem dX1_factOf_12 : decode cX1_factOf 12 = .ok (.iconst 2, 1) := by decide +kernel
theorem dX1_factOf_13 : decode cX1_factOf 13 = .ok (.iconst (-1), 1) := by decide +kernel
theorem dX1_factOf_14 : decode cX1_factOf 14 = .ok (.iastore, 1) := by decide +kernel
theorem dX1_factOf_15 : decode cX1_factOf 15 = .ok (.iconst 0, 1) := by decide +kernel
theorem dX1_factOf_16 : decode cX1_factOf 16 = .ok (.istore_n 3, 1) := by decide +kernel
theorem dX1_factOf_17 : decode cX1_factOf 17 = .ok (.iconst 0, 1) := by decide +kernel
theorem dX1_factOf_18 : decode cX1_factOf 18 = .ok (.istore 4, 2) := by decide +kernel
theorem dX1_factOf_20 : decode cX1_factOf 20 = .ok (.iload 4, 2) := by decide +kernel
theorem dX1_factOf_22 : decode cX1_factOf 22 = .ok (.aload_n 0, 1) := by decide +kernel
theorem dX1_factOf_23 : decode cX1_factOf 23 = .ok (.getfield 18, 3) := by decide +kernel
theorem dX1_factOf_26 : decode cX1_factOf 26 = .ok (.if_icmp .ge 59, 3) := by decide +kernel
theorem dX1_factOf_29 : decode cX1_factOf 29 = .ok (.aload_n 0, 1) := by decide +kernel
theorem dX1_factOf_30 : decode cX1_factOf 30 = .ok (.getfield 9, 3) := by decide +kernel
theorem dX1_factOf_33 : decode cX1_factOf 33 = .ok (.iload 4, 2) := by decide +kernel
theorem dX1_factOf_35 : decode cX1_factOf 35 = .ok (.iaload, 1) := by decide +kernel
theorem dX1_factOf_36 : decode cX1_factOf 36 = .ok (.ifCond .le 11, 3) := by decide +kernel
theorem dX1_factOf_39 : decode cX1_factOf 39 = .ok (.aload_n 0, 1) := by decide +kernel
theorem dX1_factOf_40 : decode cX1_factOf 40 = .ok (.iload 4, 2) := by decide +kernel
theorem dX1_factOf_42 : decode cX1_factOf 42 = .ok (.iload_n 3, 1) := by decide +kernel
theorem dX1_factOf_43 : decode cX1_factOf 43 = .ok (.iload_n 1, 1) := by decide +kernel
theorem dX1_factOf_44 : decode cX1_factOf 44 = .ok (.invokevirtual 32, 3) := by decide +kernel
theorem dX1_factOf_47 : decode cX1_factOf 47 = .ok (.iload_n 3, 1) := by decide +kernel
theorem dX1_factOf_48 : decode cX1_factOf 48 = .ok (.aload_n 0, 1) := by decide +kernel
theorem dX1_factOf_49 : decode cX1_factOf 49 = .ok (.getfield 9, 3) := by decide +kernel
theorem dX1_factOf_52 : decode cX1_factOf 52 = .ok (.iload 4, 2) := by decide +kernel
theorem dX1_factOf_54 : decode cX1_factOf 54 = .ok (.iaload, 1) := by decide +kernel
theorem dX1_factOf_55 : decode cX1_factOf 55 = .ok (.iadd, 1) := by decide +kernel
theorem dX1_factOf_56 : decode cX1_factOf 56 = .ok (.iload_n 1, 1) := by decide +kernel
theorem dX1_factOf_57 : decode cX1_factOf 57 = .ok (.isub, 1) := by decide +kernel
theorem dX1_factOf_58 : decode cX1_factOf 58 = .ok (.iconst 0, 1) := by decide +kernel
theorem dX1_factOf_59 : decode cX1_factOf 59 = .ok (.invokestatic 36, 3) := by decide +kernel
theorem dX1_factOf_62 : decode cX1_factOf 62 = .ok (.istore_n 3, 1) := by decide +kernel
theorem dX1_factOf_63 : decode cX1_factOf 63 = .ok (.aload_n 0, 1) := by decide +kernel
theorem dX1_factOf_64 : decode cX1_factOf 64 = .ok (.getfield 15, 3) := by decide +kernel
theorem dX1_factOf_67 : decode cX1_factOf 67 = .ok (.iconst 3, 1) := by decide +kernel
theorem dX1_factOf_68 : decode cX1_factOf 68 = .ok (.aload_n 0, 1) := by decide +kernel
theorem dX1_factOf_69 : decode cX1_factOf 69 = .ok (.getfield 15, 3) := by decide +kernel
theorem dX1_factOf_72 : decode cX1_factOf 72 = .ok (.iconst 3, 1) := by decide +kernel
theorem dX1_factOf_73 : decode cX1_factOf 73 = .ok (.iaload, 1) := by decide +kernel
theorem dX1_factOf_74 : decode cX1_factOf 74 = .ok (.iload_n 3, 1) := by decide +kernel
theorem dX1_factOf_75 : decode cX1_factOf 75 = .ok (.invokestatic 36, 3) := by decide +kernel
theorem dX1_factOf_78 : decode cX1_factOf 78 = .ok (.iastore, 1) := by decide +kernel
theorem dX1_factOf_79 : decode cX1_factOf 79 = .ok (.iinc 4 1, 3) := by decide +kernel
theorem dX1_factOf_82 : decode cX1_factOf 82 = .ok (.goto (-62), 3) := by decide +kernel
theorem dX1_factOf_85 : decode cX1_factOf 85 = .ok (.aload_n 0, 1) := by decide +kernel
theorem dX1_factOf_86 : decode cX1_factOf 86 = .ok (.getfield 15, 3) := by decide +kernel
theorem dX1_factOf_89 : decode cX1_factOf 89 = .ok (.iload_n 2, 1) := by decide +kernel
theorem dX1_factOf_90 : decode cX1_factOf 90 = .ok (.iaload, 1) := by decide +kernel
theorem dX1_factOf_91 : decode cX1_factOf 91 = .ok (.ireturn, 1) := by decide +kernel
theorem dX1_noteWaits_0 : decode cX1_noteWaits 0 = .ok (.iload_n 2, 1) := by decide +kernel
theorem dX1_noteWaits_1 : decode cX1_noteWaits 1 = .ok (.aload_n 0, 1) := by decide +kernel
theorem dX1_noteWaits_2 : decode cX1_noteWaits 2 = .ok (.getfield 9, 3) := by decide +kernel
theorem dX1_noteWaits_5 : decode cX1_noteWaits 5 = .ok (.iload_n 1, 1) := by decide +kernel
theorem dX1_noteWaits_6 : decode cX1_noteWaits 6 = .ok (.iaload, 1) := by decide +kernel
theorem dX1_noteWaits_7 : decode cX1_noteWaits 7 = .ok (.iadd, 1) := by decide +kernel
theorem dX1_noteWaits_8 : decode cX1_noteWaits 8 = .ok (.istore 4, 2) := by decide +kernel
theorem dX1_noteWaits_10 : decode cX1_noteWaits 10 = .ok (.iload_n 3, 1) := by decide +kernel
theorem dX1_noteWaits_11 : decode cX1_noteWaits 11 = .ok (.ifCond .le 12, 3) := by decide +kernel
theorem dX1_noteWaits_14 : decode cX1_noteWaits 14 = .ok (.iload 4, 2) := by decide +kernel
theorem dX1_noteWaits_16 : decode cX1_noteWaits 16 = .ok (.iconst 1, 1) := by decide +kernel
theorem dX1_noteWaits_17 : decode cX1_noteWaits 17 = .ok (.isub, 1) := by decide +kernel
theorem dX1_noteWaits_18 : decode cX1_noteWaits 18 = .ok (.iload_n 3, 1) := by decide +kernel
theorem dX1_noteWaits_19 : decode cX1_noteWaits 19 = .ok (.idiv, 1) := by decide +kernel
theorem dX1_noteWaits_20 : decode cX1_noteWaits 20 = .ok (.goto 4, 3) := by decide +kernel
theorem dX1_noteWaits_23 : decode cX1_noteWaits 23 = .ok (.iconst 0, 1) := by decide +kernel
theorem dX1_noteWaits_24 : decode cX1_noteWaits 24 = .ok (.istore 5, 2) := by decide +kernel
theorem dX1_noteWaits_26 : decode cX1_noteWaits 26 = .ok (.aload_n 0, 1) := by decide +kernel
theorem dX1_noteWaits_27 : decode cX1_noteWaits 27 = .ok (.getfield 15, 3) := by decide +kernel
theorem dX1_noteWaits_30 : decode cX1_noteWaits 30 = .ok (.iconst 0, 1) := by decide +kernel
theorem dX1_noteWaits_31 : decode cX1_noteWaits 31 = .ok (.aload_n 0, 1) := by decide +kernel
theorem dX1_noteWaits_32 : decode cX1_noteWaits 32 = .ok (.getfield 15, 3) := by decide +kernel
theorem dX1_noteWaits_35 : decode cX1_noteWaits 35 = .ok (.iconst 0, 1) := by decide +kernel
theorem dX1_noteWaits_36 : decode cX1_noteWaits 36 = .ok (.iaload, 1) := by decide +kernel
theorem dX1_noteWaits_37 : decode cX1_noteWaits 37 = .ok (.iload 5, 2) := by decide +kernel
theorem dX1_noteWaits_39 : decode cX1_noteWaits 39 = .ok (.invokestatic 36, 3) := by decide +kernel
theorem dX1_noteWaits_42 : decode cX1_noteWaits 42 = .ok (.iastore, 1) := by decide +kernel
theorem dX1_noteWaits_43 : decode cX1_noteWaits 43 = .ok (.aload_n 0, 1) := by decide +kernel
theorem dX1_noteWaits_44 : decode cX1_noteWaits 44 = .ok (.getfield 15, 3) := by decide +kernel
theorem dX1_noteWaits_47 : decode cX1_noteWaits 47 = .ok (.iconst 1, 1) := by decide +kernel
theorem dX1_noteWaits_48 : decode cX1_noteWaits 48 = .ok (.dup2, 1) := by decide +kernel
theorem dX1_noteWaits_49 : decode cX1_noteWaits 49 = .ok (.iaload, 1) := by decide +kernel
theorem dX1_noteWaits_50 : decode cX1_noteWaits 50 = .ok (.iload 4, 2) := by decide +kernel
theorem dX1_noteWaits_52 : decode cX1_noteWaits 52 = .ok (.iload_n 3, 1) := by decide +kernel
theorem dX1_noteWaits_53 : decode cX1_noteWaits 53 = .ok (.invokestatic 41, 3) := by decide +kernel
theorem dX1_noteWaits_56 : decode cX1_noteWaits 56 = .ok (.iload_n 2, 1) := by decide +kernel
theorem dX1_noteWaits_57 : decode cX1_noteWaits 57 = .ok (.iload_n 3, 1) := by decide +kernel
theorem dX1_noteWaits_58 : decode cX1_noteWaits 58 = .ok (.invokestatic 41, 3) := by decide +kernel
theorem dX1_noteWaits_61 : decode cX1_noteWaits 61 = .ok (.isub, 1) := by decide +kernel
theorem dX1_noteWaits_62 : decode cX1_noteWaits 62 = .ok (.iadd, 1) := by decide +kernel
theorem dX1_noteWaits_63 : decode cX1_noteWaits 63 = .ok (.iastore, 1) := by decide +kernel
theorem dX1_noteWaits_64 : decode cX1_noteWaits 64 = .ok (.aload_n 0, 1) := by decide +kernel
theorem dX1_noteWaits_65 : decode cX1_noteWaits 65 = .ok (.getfield 15, 3) := by decide +kernel
theorem dX1_noteWaits_68 : decode cX1_noteWaits 68 = .ok (.iconst 2, 1) := by decide +kernel
theorem dX1_noteWaits_69 : decode cX1_noteWaits 69 = .ok (.iload_n 1, 1) := by decide +kernel
theorem dX1_noteWaits_70 : decode cX1_noteWaits 70 = .ok (.iload 5, 2) := by decide +kernel
theorem dX1_noteWaits_72 : decode cX1_noteWaits 72 = .ok (.iadd, 1) := by decide +kernel
theorem dX1_noteWaits_73 : decode cX1_noteWaits 73 = .ok (.iastore, 1) := by decide +kernel
theorem dX1_noteWaits_74 : decode cX1_noteWaits 74 = .ok (.return_, 1) := by decide +kernel
theorem dX1_waitsOfFirst_0 : decode cX1_waitsOfFirst 0 = .ok (.iload_n 1, 1) := by decide +kernel
theorem dX1_waitsOfFirst_1 : decode cX1_waitsOfFirst 1 = .ok (.ifCond .le 9, 3) := by decide +kernel
theorem dX1_waitsOfFirst_4 : decode cX1_waitsOfFirst 4 = .ok (.iload_n 0, 1) := by decide +kernel
theorem dX1_waitsOfFirst_5 : decode cX1_waitsOfFirst 5 = .ok (.iload_n 1, 1) := by decide +kernel
theorem dX1_waitsOfFirst_6 : decode cX1_waitsOfFirst 6 = .ok (.idiv, 1) := by decide +kernel
theorem dX1_waitsOfFirst_7 : decode cX1_waitsOfFirst 7 = .ok (.goto 4, 3) := by decide +kernel
theorem dX1_waitsOfFirst_10 : decode cX1_waitsOfFirst 10 = .ok (.iconst 0, 1) := by decide +kernel
theorem dX1_waitsOfFirst_11 : decode cX1_waitsOfFirst 11 = .ok (.istore_n 2, 1) := by decide +kernel
theorem dX1_waitsOfFirst_12 : decode cX1_waitsOfFirst 12 = .ok (.iload_n 0, 1) := by decide +kernel
theorem dX1_waitsOfFirst_13 : decode cX1_waitsOfFirst 13 = .ok (.iload_n 2, 1) := by decide +kernel
theorem dX1_waitsOfFirst_14 : decode cX1_waitsOfFirst 14 = .ok (.iload_n 1, 1) := by decide +kernel
theorem dX1_waitsOfFirst_15 : decode cX1_waitsOfFirst 15 = .ok (.imul, 1) := by decide +kernel
theorem dX1_waitsOfFirst_16 : decode cX1_waitsOfFirst 16 = .ok (.isub, 1) := by decide +kernel
theorem dX1_waitsOfFirst_17 : decode cX1_waitsOfFirst 17 = .ok (.istore_n 3, 1) := by decide +kernel
theorem dX1_waitsOfFirst_18 : decode cX1_waitsOfFirst 18 = .ok (.iload_n 1, 1) := by decide +kernel
theorem dX1_waitsOfFirst_19 : decode cX1_waitsOfFirst 19 = .ok (.iload_n 2, 1) := by decide +kernel
theorem dX1_waitsOfFirst_20 : decode cX1_waitsOfFirst 20 = .ok (.iload_n 2, 1) := by decide +kernel
theorem dX1_waitsOfFirst_21 : decode cX1_waitsOfFirst 21 = .ok (.iconst 1, 1) := by decide +kernel
theorem dX1_waitsOfFirst_22 : decode cX1_waitsOfFirst 22 = .ok (.isub, 1) := by decide +kernel
theorem dX1_waitsOfFirst_23 : decode cX1_waitsOfFirst 23 = .ok (.imul, 1) := by decide +kernel
theorem dX1_waitsOfFirst_24 : decode cX1_waitsOfFirst 24 = .ok (.iconst 2, 1) := by decide +kernel
theorem dX1_waitsOfFirst_25 : decode cX1_waitsOfFirst 25 = .ok (.idiv, 1) := by decide +kernel
theorem dX1_waitsOfFirst_26 : decode cX1_waitsOfFirst 26 = .ok (.imul, 1) := by decide +kernel
theorem dX1_waitsOfFirst_27 : decode cX1_waitsOfFirst 27 = .ok (.iload_n 3, 1) := by decide +kernel
theorem dX1_waitsOfFirst_28 : decode cX1_waitsOfFirst 28 = .ok (.iload_n 2, 1) := by decide +kernel
theorem dX1_waitsOfFirst_29 : decode cX1_waitsOfFirst 29 = .ok (.imul, 1) := by decide +kernel
theorem dX1_waitsOfFirst_30 : decode cX1_waitsOfFirst 30 = .ok (.iadd, 1) := by decide +kernel
theorem dX1_waitsOfFirst_31 : decode cX1_waitsOfFirst 31 = .ok (.ireturn, 1) := by decide +kernel
theorem dX2_init_0 : decode cX2_init 0 = .ok (.aload_n 0, 1) := by decide +kernel
theorem dX2_init_1 : decode cX2_init 1 = .ok (.invokespecial 3, 3) := by decide +kernel
theorem dX2_init_4 : decode cX2_init 4 = .ok (.aload_n 0, 1) := by decide +kernel
theorem dX2_init_5 : decode cX2_init 5 = .ok (.iconst 4, 1) := by decide +kernel
theorem dX2_init_6 : decode cX2_init 6 = .ok (.newarray .int, 2) := by decide +kernel
theorem dX2_init_8 : decode cX2_init 8 = .ok (.putfield 9, 3) := by decide +kernel
theorem dX2_init_11 : decode cX2_init 11 = .ok (.aload_n 0, 1) := by decide +kernel
theorem dX2_init_12 : decode cX2_init 12 = .ok (.iconst 4, 1) := by decide +kernel
theorem dX2_init_13 : decode cX2_init 13 = .ok (.newarray .int, 2) := by decide +kernel
theorem dX2_init_15 : decode cX2_init 15 = .ok (.putfield 15, 3) := by decide +kernel
theorem dX2_init_18 : decode cX2_init 18 = .ok (.aload_n 0, 1) := by decide +kernel
theorem dX2_init_19 : decode cX2_init 19 = .ok (.iconst 1, 1) := by decide +kernel
theorem dX2_init_20 : decode cX2_init 20 = .ok (.putfield 18, 3) := by decide +kernel
theorem dX2_init_23 : decode cX2_init 23 = .ok (.aload_n 0, 1) := by decide +kernel
theorem dX2_init_24 : decode cX2_init 24 = .ok (.iconst 3, 1) := by decide +kernel
theorem dX2_init_25 : decode cX2_init 25 = .ok (.putfield 22, 3) := by decide +kernel
theorem dX2_init_28 : decode cX2_init 28 = .ok (.aload_n 0, 1) := by decide +kernel
theorem dX2_init_29 : decode cX2_init 29 = .ok (.sipush 1001, 3) := by decide +kernel
theorem dX2_init_32 : decode cX2_init 32 = .ok (.newarray .int, 2) := by decide +kernel
theorem dX2_init_34 : decode cX2_init 34 = .ok (.putfield 25, 3) := by decide +kernel
theorem dX2_init_37 : decode cX2_init 37 = .ok (.aload_n 0, 1) := by decide +kernel
theorem dX2_init_38 : decode cX2_init 38 = .ok (.sipush 1001, 3) := by decide +kernel
theorem dX2_init_41 : decode cX2_init 41 = .ok (.newarray .int, 2) := by decide +kernel
theorem dX2_init_43 : decode cX2_init 43 = .ok (.putfield 28, 3) := by decide +kernel
theorem dX2_init_46 : decode cX2_init 46 = .ok (.aload_n 0, 1) := by decide +kernel
theorem dX2_init_47 : decode cX2_init 47 = .ok (.iconst 4, 1) := by decide +kernel
theorem dX2_init_48 : decode cX2_init 48 = .ok (.newarray .int, 2) := by decide +kernel
theorem dX2_init_50 : decode cX2_init 50 = .ok (.putfield 31, 3) := by decide +kernel
theorem dX2_init_53 : decode cX2_init 53 = .ok (.aload_n 0, 1) := by decide +kernel
theorem dX2_init_54 : decode cX2_init 54 = .ok (.iconst 4, 1) := by decide +kernel
theorem dX2_init_55 : decode cX2_init 55 = .ok (.newarray .int, 2) := by decide +kernel
theorem dX2_init_57 : decode cX2_init 57 = .ok (.putfield 34, 3) := by decide +kernel
theorem dX2_init_60 : decode cX2_init 60 = .ok (.return_, 1) := by decide +kernel
theorem dX2_add_0 : decode cX2_add 0 = .ok (.aload_n 0, 1) := by decide +kernel
theorem dX2_add_1 : decode cX2_add 1 = .ok (.getfield 9, 3) := by decide +kernel
theorem dX2_add_4 : decode cX2_add 4 = .ok (.aload_n 0, 1) := by decide +kernel
theorem dX2_add_5 : decode cX2_add 5 = .ok (.getfield 37, 3) := by decide +kernel
theorem dX2_add_8 : decode cX2_add 8 = .ok (.iload_n 1, 1) := by decide +kernel
theorem dX2_add_9 : decode cX2_add 9 = .ok (.iastore, 1) := by decide +kernel
theorem dX2_add_10 : decode cX2_add 10 = .ok (.aload_n 0, 1) := by decide +kernel
theorem dX2_add_11 : decode cX2_add 11 = .ok (.getfield 15, 3) := by decide +kernel
theorem dX2_add_14 : decode cX2_add 14 = .ok (.aload_n 0, 1) := by decide +kernel
theorem dX2_add_15 : decode cX2_add 15 = .ok (.getfield 37, 3) := by decide +kernel
theorem dX2_add_18 : decode cX2_add 18 = .ok (.iload_n 2, 1) := by decide +kernel
theorem dX2_add_19 : decode cX2_add 19 = .ok (.iastore, 1) := by decide +kernel
theorem dX2_add_20 : decode cX2_add 20 = .ok (.aload_n 0, 1) := by decide +kernel
theorem dX2_add_21 : decode cX2_add 21 = .ok (.dup, 1) := by decide +kernel
theorem dX2_add_22 : decode cX2_add 22 = .ok (.getfield 37, 3) := by decide +kernel
theorem dX2_add_25 : decode cX2_add 25 = .ok (.iconst 1, 1) := by decide +kernel
theorem dX2_add_26 : decode cX2_add 26 = .ok (.iadd, 1) := by decide +kernel
theorem dX2_add_27 : decode cX2_add 27 = .ok (.putfield 37, 3) := by decide +kernel
theorem dX2_add_30 : decode cX2_add 30 = .ok (.aload_n 0, 1) := by decide +kernel
theorem dX2_add_31 : decode cX2_add 31 = .ok (.getfield 37, 3) := by decide +kernel
theorem dX2_add_34 : decode cX2_add 34 = .ok (.iconst 1, 1) := by decide +kernel
theorem dX2_add_35 : decode cX2_add 35 = .ok (.isub, 1) := by decide +kernel
theorem dX2_add_36 : decode cX2_add 36 = .ok (.ireturn, 1) := by decide +kernel
theorem dX2_bestPotsOf_0 : decode cX2_bestPotsOf 0 = .ok (.iload_n 1, 1) := by decide +kernel
theorem dX2_bestPotsOf_1 : decode cX2_bestPotsOf 1 = .ok (.ifCond .lt 11, 3) := by decide +kernel
theorem dX2_bestPotsOf_4 : decode cX2_bestPotsOf 4 = .ok (.iload_n 1, 1) := by decide +kernel
theorem dX2_bestPotsOf_5 : decode cX2_bestPotsOf 5 = .ok (.aload_n 0, 1) := by decide +kernel
theorem dX2_bestPotsOf_6 : decode cX2_bestPotsOf 6 = .ok (.getfield 37, 3) := by decide +kernel
theorem dX2_bestPotsOf_9 : decode cX2_bestPotsOf 9 = .ok (.if_icmp .lt 7, 3) := by decide +kernel
theorem dX2_bestPotsOf_12 : decode cX2_bestPotsOf 12 = .ok (.iconst 0, 1) := by decide +kernel
theorem dX2_bestPotsOf_13 : decode cX2_bestPotsOf 13 = .ok (.goto 9, 3) := by decide +kernel
theorem dX2_bestPotsOf_16 : decode cX2_bestPotsOf 16 = .ok (.aload_n 0, 1) := by decide +kernel
theorem dX2_bestPotsOf_17 : decode cX2_bestPotsOf 17 = .ok (.getfield 34, 3) := by decide +kernel
theorem dX2_bestPotsOf_20 : decode cX2_bestPotsOf 20 = .ok (.iload_n 1, 1) := by decide +kernel
theorem dX2_bestPotsOf_21 : decode cX2_bestPotsOf 21 = .ok (.iaload, 1) := by decide +kernel
theorem dX2_bestPotsOf_22 : decode cX2_bestPotsOf 22 = .ok (.ireturn, 1) := by decide +kernel
theorem dX2_readLeaf_0 : decode cX2_readLeaf 0 = .ok (.aload_n 0, 1) := by decide +kernel
theorem dX2_readLeaf_1 : decode cX2_readLeaf 1 = .ok (.getfield 25, 3) := by decide +kernel
theorem dX2_readLeaf_4 : decode cX2_readLeaf 4 = .ok (.iconst 0, 1) := by decide +kernel
theorem dX2_readLeaf_5 : decode cX2_readLeaf 5 = .ok (.invokestatic 40, 3) := by decide +kernel
theorem dX2_readLeaf_8 : decode cX2_readLeaf 8 = .ok (.iconst 0, 1) := by decide +kernel
theorem dX2_readLeaf_9 : decode cX2_readLeaf 9 = .ok (.istore 5, 2) := by decide +kernel
theorem dX2_readLeaf_11 : decode cX2_readLeaf 11 = .ok (.iload 5, 2) := by decide +kernel
theorem dX2_readLeaf_13 : decode cX2_readLeaf 13 = .ok (.aload_n 1, 1) := by decide +kernel
theorem dX2_readLeaf_14 : decode cX2_readLeaf 14 = .ok (.getfield 46, 3) := by decide +kernel
theorem dX2_readLeaf_17 : decode cX2_readLeaf 17 = .ok (.if_icmp .ge 37, 3) := by decide +kernel
theorem dX2_readLeaf_20 : decode cX2_readLeaf 20 = .ok (.aload_n 1, 1) := by decide +kernel
theorem dX2_readLeaf_21 : decode cX2_readLeaf 21 = .ok (.iload 5, 2) := by decide +kernel
theorem dX2_readLeaf_23 : decode cX2_readLeaf 23 = .ok (.iload_n 3, 1) := by decide +kernel
theorem dX2_readLeaf_24 : decode cX2_readLeaf 24 = .ok (.iload 4, 2) := by decide +kernel
theorem dX2_readLeaf_26 : decode cX2_readLeaf 26 = .ok (.invokevirtual 51, 3) := by decide +kernel
theorem dX2_readLeaf_29 : decode cX2_readLeaf 29 = .ok (.ifCond .eq 19, 3) := by decide +kernel
theorem dX2_readLeaf_32 : decode cX2_readLeaf 32 = .ok (.aload_n 0, 1) := by decide +kernel
theorem dX2_readLeaf_33 : decode cX2_readLeaf 33 = .ok (.getfield 25, 3) := by decide +kernel
theorem dX2_readLeaf_36 : decode cX2_readLeaf 36 = .ok (.aload_n 1, 1) := by decide +kernel
theorem dX2_readLeaf_37 : decode cX2_readLeaf 37 = .ok (.iload 5, 2) := by decide +kernel
theorem dX2_readLeaf_39 : decode cX2_readLeaf 39 = .ok (.iload_n 2, 1) := by decide +kernel
theorem dX2_readLeaf_40 : decode cX2_readLeaf 40 = .ok (.invokevirtual 55, 3) := by decide +kernel
theorem dX2_readLeaf_43 : decode cX2_readLeaf 43 = .ok (.dup2, 1) := by decide +kernel
theorem dX2_readLeaf_44 : decode cX2_readLeaf 44 = .ok (.iaload, 1) := by decide +kernel
theorem dX2_readLeaf_45 : decode cX2_readLeaf 45 = .ok (.iconst 1, 1) := by decide +kernel
theorem dX2_readLeaf_46 : decode cX2_readLeaf 46 = .ok (.iadd, 1) := by decide +kernel
theorem dX2_readLeaf_47 : decode cX2_readLeaf 47 = .ok (.iastore, 1) := by decide +kernel
theorem dX2_readLeaf_48 : decode cX2_readLeaf 48 = .ok (.iinc 5 1, 3) := by decide +kernel
theorem dX2_readLeaf_51 : decode cX2_readLeaf 51 = .ok (.goto (-40), 3) := by decide +kernel
theorem dX2_readLeaf_54 : decode cX2_readLeaf 54 = .ok (.aload_n 0, 1) := by decide +kernel
theorem dX2_readLeaf_55 : decode cX2_readLeaf 55 = .ok (.iconst 0, 1) := by decide +kernel
theorem dX2_readLeaf_56 : decode cX2_readLeaf 56 = .ok (.putfield 59, 3) := by decide +kernel
theorem dX2_readLeaf_59 : decode cX2_readLeaf 59 = .ok (.aload_n 0, 1) := by decide +kernel
theorem dX2_readLeaf_60 : decode cX2_readLeaf 60 = .ok (.iconst 0, 1) := by decide +kernel
theorem dX2_readLeaf_61 : decode cX2_readLeaf 61 = .ok (.putfield 62, 3) := by decide +kernel
theorem dX2_readLeaf_64 : decode cX2_readLeaf 64 = .ok (.iconst 0, 1) := by decide +kernel
theorem dX2_readLeaf_65 : decode cX2_readLeaf 65 = .ok (.istore 5, 2) := by decide +kernel
theorem dX2_readLeaf_67 : decode cX2_readLeaf 67 = .ok (.iload 5, 2) := by decide +kernel
theorem dX2_readLeaf_69 : decode cX2_readLeaf 69 = .ok (.sipush 1000, 3) := by decide +kernel
theorem dX2_readLeaf_72 : decode cX2_readLeaf 72 = .ok (.if_icmp .gt 66, 3) := by decide +kernel
theorem dX2_readLeaf_75 : decode cX2_readLeaf 75 = .ok (.aload_n 0, 1) := by decide +kernel
theorem dX2_readLeaf_76 : decode cX2_readLeaf 76 = .ok (.dup, 1) := by decide +kernel
theorem dX2_readLeaf_77 : decode cX2_readLeaf 77 = .ok (.getfield 59, 3) := by decide +kernel
theorem dX2_readLeaf_80 : decode cX2_readLeaf 80 = .ok (.aload_n 0, 1) := by decide +kernel
theorem dX2_readLeaf_81 : decode cX2_readLeaf 81 = .ok (.getfield 25, 3) := by decide +kernel
theorem dX2_readLeaf_84 : decode cX2_readLeaf 84 = .ok (.iload 5, 2) := by decide +kernel
theorem dX2_readLeaf_86 : decode cX2_readLeaf 86 = .ok (.iaload, 1) := by decide +kernel
theorem dX2_readLeaf_87 : decode cX2_readLeaf 87 = .ok (.iadd, 1) := by decide +kernel
theorem dX2_readLeaf_88 : decode cX2_readLeaf 88 = .ok (.putfield 59, 3) := by decide +kernel
theorem dX2_readLeaf_91 : decode cX2_readLeaf 91 = .ok (.aload_n 0, 1) := by decide +kernel
theorem dX2_readLeaf_92 : decode cX2_readLeaf 92 = .ok (.dup, 1) := by decide +kernel
theorem dX2_readLeaf_93 : decode cX2_readLeaf 93 = .ok (.getfield 62, 3) := by decide +kernel
theorem dX2_readLeaf_96 : decode cX2_readLeaf 96 = .ok (.aload_n 0, 1) := by decide +kernel
theorem dX2_readLeaf_97 : decode cX2_readLeaf 97 = .ok (.getfield 25, 3) := by decide +kernel
theorem dX2_readLeaf_100 : decode cX2_readLeaf 100 = .ok (.iload 5, 2) := by decide +kernel
theorem dX2_readLeaf_102 : decode cX2_readLeaf 102 = .ok (.iaload, 1) := by decide +kernel
theorem dX2_readLeaf_103 : decode cX2_readLeaf 103 = .ok (.iload 5, 2) := by decide +kernel
theorem dX2_readLeaf_105 : decode cX2_readLeaf 105 = .ok (.imul, 1) := by decide +kernel
theorem dX2_readLeaf_106 : decode cX2_readLeaf 106 = .ok (.iadd, 1) := by decide +kernel
theorem dX2_readLeaf_107 : decode cX2_readLeaf 107 = .ok (.putfield 62, 3) := by decide +kernel
theorem dX2_readLeaf_110 : decode cX2_readLeaf 110 = .ok (.aload_n 0, 1) := by decide +kernel
theorem dX2_readLeaf_111 : decode cX2_readLeaf 111 = .ok (.getfield 25, 3) := by decide +kernel
theorem dX2_readLeaf_114 : decode cX2_readLeaf 114 = .ok (.iload 5, 2) := by decide +kernel
theorem dX2_readLeaf_116 : decode cX2_readLeaf 116 = .ok (.aload_n 0, 1) := by decide +kernel
theorem dX2_readLeaf_117 : decode cX2_readLeaf 117 = .ok (.getfield 59, 3) := by decide +kernel
theorem dX2_readLeaf_120 : decode cX2_readLeaf 120 = .ok (.iastore, 1) := by decide +kernel
theorem dX2_readLeaf_121 : decode cX2_readLeaf 121 = .ok (.aload_n 0, 1) := by decide +kernel
theorem dX2_readLeaf_122 : decode cX2_readLeaf 122 = .ok (.getfield 28, 3) := by decide +kernel
theorem dX2_readLeaf_125 : decode cX2_readLeaf 125 = .ok (.iload 5, 2) := by decide +kernel
theorem dX2_readLeaf_127 : decode cX2_readLeaf 127 = .ok (.aload_n 0, 1) := by decide +kernel
theorem dX2_readLeaf_128 : decode cX2_readLeaf 128 = .ok (.getfield 62, 3) := by decide +kernel
theorem dX2_readLeaf_131 : decode cX2_readLeaf 131 = .ok (.iastore, 1) := by decide +kernel
theorem dX2_readLeaf_132 : decode cX2_readLeaf 132 = .ok (.iinc 5 1, 3) := by decide +kernel
theorem dX2_readLeaf_135 : decode cX2_readLeaf 135 = .ok (.goto (-68), 3) := by decide +kernel
theorem dX2_readLeaf_138 : decode cX2_readLeaf 138 = .ok (.return_, 1) := by decide +kernel
theorem dX2_findBest_0 : decode cX2_findBest 0 = .ok (.aload_n 0, 1) := by decide +kernel
theorem dX2_findBest_1 : decode cX2_findBest 1 = .ok (.iconst 0, 1) := by decide +kernel
theorem dX2_findBest_2 : decode cX2_findBest 2 = .ok (.putfield 65, 3) := by decide +kernel
theorem dX2_findBest_5 : decode cX2_findBest 5 = .ok (.aload_n 0, 1) := by decide +kernel
theorem dX2_findBest_6 : decode cX2_findBest 6 = .ok (.iconst 0, 1) := by decide +kernel
theorem dX2_findBest_7 : decode cX2_findBest 7 = .ok (.bipush 12, 2) := by decide +kernel
theorem dX2_findBest_9 : decode cX2_findBest 9 = .ok (.invokevirtual 69, 3) := by decide +kernel
theorem dX2_findBest_12 : decode cX2_findBest 12 = .ok (.istore_n 2, 1) := by decide +kernel
theorem dX2_findBest_13 : decode cX2_findBest 13 = .ok (.iload_n 2, 1) := by decide +kernel
theorem dX2_findBest_14 : decode cX2_findBest 14 = .ok (.ifCond .lt 115, 3) := by decide +kernel
theorem dX2_findBest_17 : decode cX2_findBest 17 = .ok (.aload_n 0, 1) := by decide +kernel
theorem dX2_findBest_18 : decode cX2_findBest 18 = .ok (.getfield 31, 3) := by decide +kernel
theorem dX2_findBest_21 : decode cX2_findBest 21 = .ok (.iconst 0, 1) := by decide +kernel
theorem dX2_findBest_22 : decode cX2_findBest 22 = .ok (.iload_n 2, 1) := by decide +kernel
theorem dX2_findBest_23 : decode cX2_findBest 23 = .ok (.iastore, 1) := by decide +kernel
theorem dX2_findBest_24 : decode cX2_findBest 24 = .ok (.aload_n 0, 1) := by decide +kernel
theorem dX2_findBest_25 : decode cX2_findBest 25 = .ok (.iconst 1, 1) := by decide +kernel
theorem dX2_findBest_26 : decode cX2_findBest 26 = .ok (.bipush 12, 2) := by decide +kernel
theorem dX2_findBest_28 : decode cX2_findBest 28 = .ok (.iload_n 2, 1) := by decide +kernel
theorem dX2_findBest_29 : decode cX2_findBest 29 = .ok (.isub, 1) := by decide +kernel
theorem dX2_findBest_30 : decode cX2_findBest 30 = .ok (.invokevirtual 69, 3) := by decide +kernel
theorem dX2_findBest_33 : decode cX2_findBest 33 = .ok (.istore_n 3, 1) := by decide +kernel
theorem dX2_findBest_34 : decode cX2_findBest 34 = .ok (.iload_n 3, 1) := by decide +kernel
theorem dX2_findBest_35 : decode cX2_findBest 35 = .ok (.ifCond .lt 88, 3) := by decide +kernel
theorem dX2_findBest_38 : decode cX2_findBest 38 = .ok (.aload_n 0, 1) := by decide +kernel
theorem dX2_findBest_39 : decode cX2_findBest 39 = .ok (.getfield 31, 3) := by decide +kernel
theorem dX2_findBest_42 : decode cX2_findBest 42 = .ok (.iconst 1, 1) := by decide +kernel
theorem dX2_findBest_43 : decode cX2_findBest 43 = .ok (.iload_n 3, 1) := by decide +kernel
theorem dX2_findBest_44 : decode cX2_findBest 44 = .ok (.iastore, 1) := by decide +kernel
theorem dX2_findBest_45 : decode cX2_findBest 45 = .ok (.aload_n 0, 1) := by decide +kernel
theorem dX2_findBest_46 : decode cX2_findBest 46 = .ok (.iconst 2, 1) := by decide +kernel
theorem dX2_findBest_47 : decode cX2_findBest 47 = .ok (.bipush 12, 2) := by decide +kernel
theorem dX2_findBest_49 : decode cX2_findBest 49 = .ok (.iload_n 2, 1) := by decide +kernel
theorem dX2_findBest_50 : decode cX2_findBest 50 = .ok (.isub, 1) := by decide +kernel
theorem dX2_findBest_51 : decode cX2_findBest 51 = .ok (.iload_n 3, 1) := by decide +kernel
theorem dX2_findBest_52 : decode cX2_findBest 52 = .ok (.isub, 1) := by decide +kernel
theorem dX2_findBest_53 : decode cX2_findBest 53 = .ok (.invokevirtual 69, 3) := by decide +kernel
theorem dX2_findBest_56 : decode cX2_findBest 56 = .ok (.istore 4, 2) := by decide +kernel
theorem dX2_findBest_58 : decode cX2_findBest 58 = .ok (.iload 4, 2) := by decide +kernel
theorem dX2_findBest_60 : decode cX2_findBest 60 = .ok (.ifCond .lt 57, 3) := by decide +kernel
theorem dX2_findBest_63 : decode cX2_findBest 63 = .ok (.aload_n 0, 1) := by decide +kernel
theorem dX2_findBest_64 : decode cX2_findBest 64 = .ok (.getfield 31, 3) := by decide +kernel
theorem dX2_findBest_67 : decode cX2_findBest 67 = .ok (.iconst 2, 1) := by decide +kernel
theorem dX2_findBest_68 : decode cX2_findBest 68 = .ok (.iload 4, 2) := by decide +kernel
theorem dX2_findBest_70 : decode cX2_findBest 70 = .ok (.iastore, 1) := by decide +kernel
theorem dX2_findBest_71 : decode cX2_findBest 71 = .ok (.aload_n 0, 1) := by decide +kernel
theorem dX2_findBest_72 : decode cX2_findBest 72 = .ok (.iconst 3, 1) := by decide +kernel
theorem dX2_findBest_73 : decode cX2_findBest 73 = .ok (.bipush 12, 2) := by decide +kernel
theorem dX2_findBest_75 : decode cX2_findBest 75 = .ok (.iload_n 2, 1) := by decide +kernel
theorem dX2_findBest_76 : decode cX2_findBest 76 = .ok (.isub, 1) := by decide +kernel
theorem dX2_findBest_77 : decode cX2_findBest 77 = .ok (.iload_n 3, 1) := by decide +kernel
theorem dX2_findBest_78 : decode cX2_findBest 78 = .ok (.isub, 1) := by decide +kernel
theorem dX2_findBest_79 : decode cX2_findBest 79 = .ok (.iload 4, 2) := by decide +kernel
theorem dX2_findBest_81 : decode cX2_findBest 81 = .ok (.isub, 1) := by decide +kernel
theorem dX2_findBest_82 : decode cX2_findBest 82 = .ok (.invokevirtual 69, 3) := by decide +kernel
theorem dX2_findBest_85 : decode cX2_findBest 85 = .ok (.istore 5, 2) := by decide +kernel
theorem dX2_findBest_87 : decode cX2_findBest 87 = .ok (.iload 5, 2) := by decide +kernel
theorem dX2_findBest_89 : decode cX2_findBest 89 = .ok (.ifCond .lt 22, 3) := by decide +kernel
theorem dX2_findBest_92 : decode cX2_findBest 92 = .ok (.aload_n 0, 1) := by decide +kernel
theorem dX2_findBest_93 : decode cX2_findBest 93 = .ok (.getfield 31, 3) := by decide +kernel
theorem dX2_findBest_96 : decode cX2_findBest 96 = .ok (.iconst 3, 1) := by decide +kernel
theorem dX2_findBest_97 : decode cX2_findBest 97 = .ok (.iload 5, 2) := by decide +kernel
theorem dX2_findBest_99 : decode cX2_findBest 99 = .ok (.iastore, 1) := by decide +kernel
theorem dX2_findBest_100 : decode cX2_findBest 100 = .ok (.aload_n 0, 1) := by decide +kernel
theorem dX2_findBest_101 : decode cX2_findBest 101 = .ok (.iload_n 1, 1) := by decide +kernel
theorem dX2_findBest_102 : decode cX2_findBest 102 = .ok (.invokevirtual 72, 3) := by decide +kernel
theorem dX2_findBest_105 : decode cX2_findBest 105 = .ok (.iinc 5 (-1), 3) := by decide +kernel
theorem dX2_findBest_108 : decode cX2_findBest 108 = .ok (.goto (-21), 3) := by decide +kernel
theorem dX2_findBest_111 : decode cX2_findBest 111 = .ok (.iinc 4 (-1), 3) := by decide +kernel
theorem dX2_findBest_114 : decode cX2_findBest 114 = .ok (.goto (-56), 3) := by decide +kernel
theorem dX2_findBest_117 : decode cX2_findBest 117 = .ok (.iinc 3 (-1), 3) := by decide +kernel
theorem dX2_findBest_120 : decode cX2_findBest 120 = .ok (.goto (-86), 3) := by decide +kernel
theorem dX2_findBest_123 : decode cX2_findBest 123 = .ok (.iinc 2 (-1), 3) := by decide +kernel
theorem dX2_findBest_126 : decode cX2_findBest 126 = .ok (.goto (-113), 3) := by decide +kernel
theorem dX2_findBest_129 : decode cX2_findBest 129 = .ok (.return_, 1) := by decide +kernel
theorem dX2_mostPots_0 : decode cX2_mostPots 0 = .ok (.iload_n 1, 1) := by decide +kernel
theorem dX2_mostPots_1 : decode cX2_mostPots 1 = .ok (.aload_n 0, 1) := by decide +kernel
theorem dX2_mostPots_2 : decode cX2_mostPots 2 = .ok (.getfield 37, 3) := by decide +kernel
theorem dX2_mostPots_5 : decode cX2_mostPots 5 = .ok (.if_icmp .ge 7, 3) := by decide +kernel
theorem dX2_mostPots_8 : decode cX2_mostPots 8 = .ok (.iload_n 2, 1) := by decide +kernel
theorem dX2_mostPots_9 : decode cX2_mostPots 9 = .ok (.goto 4, 3) := by decide +kernel
theorem dX2_mostPots_12 : decode cX2_mostPots 12 = .ok (.iconst 0, 1) := by decide +kernel
theorem dX2_mostPots_13 : decode cX2_mostPots 13 = .ok (.ireturn, 1) := by decide +kernel
theorem dX2_weighTried_0 : decode cX2_weighTried 0 = .ok (.iconst 0, 1) := by decide +kernel
theorem dX2_weighTried_1 : decode cX2_weighTried 1 = .ok (.istore_n 2, 1) := by decide +kernel
theorem dX2_weighTried_2 : decode cX2_weighTried 2 = .ok (.iconst 0, 1) := by decide +kernel
theorem dX2_weighTried_3 : decode cX2_weighTried 3 = .ok (.istore_n 3, 1) := by decide +kernel
theorem dX2_weighTried_4 : decode cX2_weighTried 4 = .ok (.lconst 0, 1) := by decide +kernel
theorem dX2_weighTried_5 : decode cX2_weighTried 5 = .ok (.lstore 4, 2) := by decide +kernel
theorem dX2_weighTried_7 : decode cX2_weighTried 7 = .ok (.iconst 0, 1) := by decide +kernel
theorem dX2_weighTried_8 : decode cX2_weighTried 8 = .ok (.istore 6, 2) := by decide +kernel
theorem dX2_weighTried_10 : decode cX2_weighTried 10 = .ok (.iload 6, 2) := by decide +kernel
theorem dX2_weighTried_12 : decode cX2_weighTried 12 = .ok (.aload_n 0, 1) := by decide +kernel
theorem dX2_weighTried_13 : decode cX2_weighTried 13 = .ok (.getfield 37, 3) := by decide +kernel
theorem dX2_weighTried_16 : decode cX2_weighTried 16 = .ok (.if_icmp .ge 59, 3) := by decide +kernel
theorem dX2_weighTried_19 : decode cX2_weighTried 19 = .ok (.iload_n 2, 1) := by decide +kernel
theorem dX2_weighTried_20 : decode cX2_weighTried 20 = .ok (.aload_n 0, 1) := by decide +kernel
theorem dX2_weighTried_21 : decode cX2_weighTried 21 = .ok (.getfield 31, 3) := by decide +kernel
theorem dX2_weighTried_24 : decode cX2_weighTried 24 = .ok (.iload 6, 2) := by decide +kernel
theorem dX2_weighTried_26 : decode cX2_weighTried 26 = .ok (.iaload, 1) := by decide +kernel
theorem dX2_weighTried_27 : decode cX2_weighTried 27 = .ok (.iadd, 1) := by decide +kernel
theorem dX2_weighTried_28 : decode cX2_weighTried 28 = .ok (.istore_n 2, 1) := by decide +kernel
theorem dX2_weighTried_29 : decode cX2_weighTried 29 = .ok (.iload_n 3, 1) := by decide +kernel
theorem dX2_weighTried_30 : decode cX2_weighTried 30 = .ok (.aload_n 0, 1) := by decide +kernel
theorem dX2_weighTried_31 : decode cX2_weighTried 31 = .ok (.getfield 31, 3) := by decide +kernel
theorem dX2_weighTried_34 : decode cX2_weighTried 34 = .ok (.iload 6, 2) := by decide +kernel
theorem dX2_weighTried_36 : decode cX2_weighTried 36 = .ok (.iaload, 1) := by decide +kernel
theorem dX2_weighTried_37 : decode cX2_weighTried 37 = .ok (.aload_n 0, 1) := by decide +kernel
theorem dX2_weighTried_38 : decode cX2_weighTried 38 = .ok (.getfield 9, 3) := by decide +kernel
theorem dX2_weighTried_41 : decode cX2_weighTried 41 = .ok (.iload 6, 2) := by decide +kernel
theorem dX2_weighTried_43 : decode cX2_weighTried 43 = .ok (.iaload, 1) := by decide +kernel
theorem dX2_weighTried_44 : decode cX2_weighTried 44 = .ok (.imul, 1) := by decide +kernel
theorem dX2_weighTried_45 : decode cX2_weighTried 45 = .ok (.iadd, 1) := by decide +kernel
theorem dX2_weighTried_46 : decode cX2_weighTried 46 = .ok (.istore_n 3, 1) := by decide +kernel
theorem dX2_weighTried_47 : decode cX2_weighTried 47 = .ok (.lload 4, 2) := by decide +kernel
theorem dX2_weighTried_49 : decode cX2_weighTried 49 = .ok (.aload_n 0, 1) := by decide +kernel
theorem dX2_weighTried_50 : decode cX2_weighTried 50 = .ok (.getfield 31, 3) := by decide +kernel
theorem dX2_weighTried_53 : decode cX2_weighTried 53 = .ok (.iload 6, 2) := by decide +kernel
theorem dX2_weighTried_55 : decode cX2_weighTried 55 = .ok (.iaload, 1) := by decide +kernel
theorem dX2_weighTried_56 : decode cX2_weighTried 56 = .ok (.i2l, 1) := by decide +kernel
theorem dX2_weighTried_57 : decode cX2_weighTried 57 = .ok (.aload_n 0, 1) := by decide +kernel
theorem dX2_weighTried_58 : decode cX2_weighTried 58 = .ok (.getfield 15, 3) := by decide +kernel
theorem dX2_weighTried_61 : decode cX2_weighTried 61 = .ok (.iload 6, 2) := by decide +kernel
theorem dX2_weighTried_63 : decode cX2_weighTried 63 = .ok (.iaload, 1) := by decide +kernel
theorem dX2_weighTried_64 : decode cX2_weighTried 64 = .ok (.i2l, 1) := by decide +kernel
theorem dX2_weighTried_65 : decode cX2_weighTried 65 = .ok (.lmul, 1) := by decide +kernel
theorem dX2_weighTried_66 : decode cX2_weighTried 66 = .ok (.ladd, 1) := by decide +kernel
theorem dX2_weighTried_67 : decode cX2_weighTried 67 = .ok (.lstore 4, 2) := by decide +kernel
theorem dX2_weighTried_69 : decode cX2_weighTried 69 = .ok (.iinc 6 1, 3) := by decide +kernel
theorem dX2_weighTried_72 : decode cX2_weighTried 72 = .ok (.goto (-62), 3) := by decide +kernel
theorem dX2_weighTried_75 : decode cX2_weighTried 75 = .ok (.lload 4, 2) := by decide +kernel
theorem dX2_weighTried_77 : decode cX2_weighTried 77 = .ok (.aload_n 0, 1) := by decide +kernel
theorem dX2_weighTried_78 : decode cX2_weighTried 78 = .ok (.getfield 59, 3) := by decide +kernel
theorem dX2_weighTried_81 : decode cX2_weighTried 81 = .ok (.i2l, 1) := by decide +kernel
theorem dX2_weighTried_82 : decode cX2_weighTried 82 = .ok (.lmul, 1) := by decide +kernel
theorem dX2_weighTried_83 : decode cX2_weighTried 83 = .ok (.aload_n 0, 1) := by decide +kernel
theorem dX2_weighTried_84 : decode cX2_weighTried 84 = .ok (.iload_n 3, 1) := by decide +kernel
theorem dX2_weighTried_85 : decode cX2_weighTried 85 = .ok (.iload_n 1, 1) := by decide +kernel
theorem dX2_weighTried_86 : decode cX2_weighTried 86 = .ok (.iadd, 1) := by decide +kernel
theorem dX2_weighTried_87 : decode cX2_weighTried 87 = .ok (.invokevirtual 76, 3) := by decide +kernel
theorem dX2_weighTried_90 : decode cX2_weighTried 90 = .ok (.ladd, 1) := by decide +kernel
theorem dX2_weighTried_91 : decode cX2_weighTried 91 = .ok (.lstore 6, 2) := by decide +kernel
theorem dX2_weighTried_93 : decode cX2_weighTried 93 = .ok (.aload_n 0, 1) := by decide +kernel
theorem dX2_weighTried_94 : decode cX2_weighTried 94 = .ok (.getfield 65, 3) := by decide +kernel
theorem dX2_weighTried_97 : decode cX2_weighTried 97 = .ok (.ifCond .eq 14, 3) := by decide +kernel
theorem dX2_weighTried_100 : decode cX2_weighTried 100 = .ok (.aload_n 0, 1) := by decide +kernel
theorem dX2_weighTried_101 : decode cX2_weighTried 101 = .ok (.lload 6, 2) := by decide +kernel
theorem dX2_weighTried_103 : decode cX2_weighTried 103 = .ok (.iload_n 3, 1) := by decide +kernel
theorem dX2_weighTried_104 : decode cX2_weighTried 104 = .ok (.iload_n 2, 1) := by decide +kernel
theorem dX2_weighTried_105 : decode cX2_weighTried 105 = .ok (.invokevirtual 80, 3) := by decide +kernel
theorem dX2_weighTried_108 : decode cX2_weighTried 108 = .ok (.ifCond .eq 38, 3) := by decide +kernel
theorem dX2_weighTried_111 : decode cX2_weighTried 111 = .ok (.aload_n 0, 1) := by decide +kernel
theorem dX2_weighTried_112 : decode cX2_weighTried 112 = .ok (.iconst 1, 1) := by decide +kernel
theorem dX2_weighTried_113 : decode cX2_weighTried 113 = .ok (.putfield 65, 3) := by decide +kernel
theorem dX2_weighTried_116 : decode cX2_weighTried 116 = .ok (.aload_n 0, 1) := by decide +kernel
theorem dX2_weighTried_117 : decode cX2_weighTried 117 = .ok (.lload 6, 2) := by decide +kernel
theorem dX2_weighTried_119 : decode cX2_weighTried 119 = .ok (.putfield 84, 3) := by decide +kernel
theorem dX2_weighTried_122 : decode cX2_weighTried 122 = .ok (.aload_n 0, 1) := by decide +kernel
theorem dX2_weighTried_123 : decode cX2_weighTried 123 = .ok (.iload_n 3, 1) := by decide +kernel
theorem dX2_weighTried_124 : decode cX2_weighTried 124 = .ok (.putfield 88, 3) := by decide +kernel
theorem dX2_weighTried_127 : decode cX2_weighTried 127 = .ok (.aload_n 0, 1) := by decide +kernel
theorem dX2_weighTried_128 : decode cX2_weighTried 128 = .ok (.iload_n 2, 1) := by decide +kernel
theorem dX2_weighTried_129 : decode cX2_weighTried 129 = .ok (.putfield 91, 3) := by decide +kernel
theorem dX2_weighTried_132 : decode cX2_weighTried 132 = .ok (.aload_n 0, 1) := by decide +kernel
theorem dX2_weighTried_133 : decode cX2_weighTried 133 = .ok (.getfield 31, 3) := by decide +kernel
theorem dX2_weighTried_136 : decode cX2_weighTried 136 = .ok (.iconst 0, 1) := by decide +kernel
theorem dX2_weighTried_137 : decode cX2_weighTried 137 = .ok (.aload_n 0, 1) := by decide +kernel
theorem dX2_weighTried_138 : decode cX2_weighTried 138 = .ok (.getfield 34, 3) := by decide +kernel
theorem dX2_weighTried_141 : decode cX2_weighTried 141 = .ok (.iconst 0, 1) := by decide +kernel
theorem dX2_weighTried_142 : decode cX2_weighTried 142 = .ok (.iconst 4, 1) := by decide +kernel
theorem dX2_weighTried_143 : decode cX2_weighTried 143 = .ok (.invokestatic 94, 3) := by decide +kernel
theorem dX2_weighTried_146 : decode cX2_weighTried 146 = .ok (.return_, 1) := by decide +kernel
theorem dX2_isBetter_0 : decode cX2_isBetter 0 = .ok (.lload_n 1, 1) := by decide +kernel
theorem dX2_isBetter_1 : decode cX2_isBetter 1 = .ok (.aload_n 0, 1) := by decide +kernel
theorem dX2_isBetter_2 : decode cX2_isBetter 2 = .ok (.getfield 84, 3) := by decide +kernel
theorem dX2_isBetter_5 : decode cX2_isBetter 5 = .ok (.lcmp, 1) := by decide +kernel
theorem dX2_isBetter_6 : decode cX2_isBetter 6 = .ok (.ifCond .eq 18, 3) := by decide +kernel
theorem dX2_isBetter_9 : decode cX2_isBetter 9 = .ok (.lload_n 1, 1) := by decide +kernel
theorem dX2_isBetter_10 : decode cX2_isBetter 10 = .ok (.aload_n 0, 1) := by decide +kernel
theorem dX2_isBetter_11 : decode cX2_isBetter 11 = .ok (.getfield 84, 3) := by decide +kernel
theorem dX2_isBetter_14 : decode cX2_isBetter 14 = .ok (.lcmp, 1) := by decide +kernel
theorem dX2_isBetter_15 : decode cX2_isBetter 15 = .ok (.ifCond .ge 7, 3) := by decide +kernel
theorem dX2_isBetter_18 : decode cX2_isBetter 18 = .ok (.iconst 1, 1) := by decide +kernel
theorem dX2_isBetter_19 : decode cX2_isBetter 19 = .ok (.goto 4, 3) := by decide +kernel
theorem dX2_isBetter_22 : decode cX2_isBetter 22 = .ok (.iconst 0, 1) := by decide +kernel
theorem dX2_isBetter_23 : decode cX2_isBetter 23 = .ok (.ireturn, 1) := by decide +kernel
theorem dX2_isBetter_24 : decode cX2_isBetter 24 = .ok (.iload_n 3, 1) := by decide +kernel
theorem dX2_isBetter_25 : decode cX2_isBetter 25 = .ok (.aload_n 0, 1) := by decide +kernel
theorem dX2_isBetter_26 : decode cX2_isBetter 26 = .ok (.getfield 88, 3) := by decide +kernel
theorem dX2_isBetter_29 : decode cX2_isBetter 29 = .ok (.if_icmp .eq 19, 3) := by decide +kernel
theorem dX2_isBetter_32 : decode cX2_isBetter 32 = .ok (.iload_n 3, 1) := by decide +kernel
theorem dX2_isBetter_33 : decode cX2_isBetter 33 = .ok (.aload_n 0, 1) := by decide +kernel
theorem dX2_isBetter_34 : decode cX2_isBetter 34 = .ok (.getfield 88, 3) := by decide +kernel
theorem dX2_isBetter_37 : decode cX2_isBetter 37 = .ok (.if_icmp .ge 7, 3) := by decide +kernel
theorem dX2_isBetter_40 : decode cX2_isBetter 40 = .ok (.iconst 1, 1) := by decide +kernel
theorem dX2_isBetter_41 : decode cX2_isBetter 41 = .ok (.goto 21, 3) := by decide +kernel
theorem dX2_isBetter_44 : decode cX2_isBetter 44 = .ok (.iconst 0, 1) := by decide +kernel
theorem dX2_isBetter_45 : decode cX2_isBetter 45 = .ok (.goto 17, 3) := by decide +kernel
theorem dX2_isBetter_48 : decode cX2_isBetter 48 = .ok (.iload 4, 2) := by decide +kernel
theorem dX2_isBetter_50 : decode cX2_isBetter 50 = .ok (.aload_n 0, 1) := by decide +kernel
theorem dX2_isBetter_51 : decode cX2_isBetter 51 = .ok (.getfield 91, 3) := by decide +kernel
theorem dX2_isBetter_54 : decode cX2_isBetter 54 = .ok (.if_icmp .ge 7, 3) := by decide +kernel
theorem dX2_isBetter_57 : decode cX2_isBetter 57 = .ok (.iconst 1, 1) := by decide +kernel
theorem dX2_isBetter_58 : decode cX2_isBetter 58 = .ok (.goto 4, 3) := by decide +kernel
theorem dX2_isBetter_61 : decode cX2_isBetter 61 = .ok (.iconst 0, 1) := by decide +kernel
theorem dX2_isBetter_62 : decode cX2_isBetter 62 = .ok (.ireturn, 1) := by decide +kernel
theorem dX2_wasteAndWant_0 : decode cX2_wasteAndWant 0 = .ok (.iload_n 1, 1) := by decide +kernel
theorem dX2_wasteAndWant_1 : decode cX2_wasteAndWant 1 = .ok (.sipush 1000, 3) := by decide +kernel
theorem dX2_wasteAndWant_4 : decode cX2_wasteAndWant 4 = .ok (.invokestatic 100, 3) := by decide +kernel
theorem dX2_wasteAndWant_7 : decode cX2_wasteAndWant 7 = .ok (.istore_n 2, 1) := by decide +kernel
theorem dX2_wasteAndWant_8 : decode cX2_wasteAndWant 8 = .ok (.iload_n 1, 1) := by decide +kernel
theorem dX2_wasteAndWant_9 : decode cX2_wasteAndWant 9 = .ok (.i2l, 1) := by decide +kernel
theorem dX2_wasteAndWant_10 : decode cX2_wasteAndWant 10 = .ok (.aload_n 0, 1) := by decide +kernel
theorem dX2_wasteAndWant_11 : decode cX2_wasteAndWant 11 = .ok (.getfield 25, 3) := by decide +kernel
theorem dX2_wasteAndWant_14 : decode cX2_wasteAndWant 14 = .ok (.iload_n 2, 1) := by decide +kernel
theorem dX2_wasteAndWant_15 : decode cX2_wasteAndWant 15 = .ok (.iaload, 1) := by decide +kernel
theorem dX2_wasteAndWant_16 : decode cX2_wasteAndWant 16 = .ok (.i2l, 1) := by decide +kernel
theorem dX2_wasteAndWant_17 : decode cX2_wasteAndWant 17 = .ok (.lmul, 1) := by decide +kernel
theorem dX2_wasteAndWant_18 : decode cX2_wasteAndWant 18 = .ok (.aload_n 0, 1) := by decide +kernel
theorem dX2_wasteAndWant_19 : decode cX2_wasteAndWant 19 = .ok (.getfield 28, 3) := by decide +kernel
theorem dX2_wasteAndWant_22 : decode cX2_wasteAndWant 22 = .ok (.iload_n 2, 1) := by decide +kernel
theorem dX2_wasteAndWant_23 : decode cX2_wasteAndWant 23 = .ok (.iaload, 1) := by decide +kernel
theorem dX2_wasteAndWant_24 : decode cX2_wasteAndWant 24 = .ok (.i2l, 1) := by decide +kernel
theorem dX2_wasteAndWant_25 : decode cX2_wasteAndWant 25 = .ok (.lsub, 1) := by decide +kernel
theorem dX2_wasteAndWant_26 : decode cX2_wasteAndWant 26 = .ok (.lstore_n 3, 1) := by decide +kernel
theorem dX2_wasteAndWant_27 : decode cX2_wasteAndWant 27 = .ok (.aload_n 0, 1) := by decide +kernel
theorem dX2_wasteAndWant_28 : decode cX2_wasteAndWant 28 = .ok (.getfield 62, 3) := by decide +kernel
theorem dX2_wasteAndWant_31 : decode cX2_wasteAndWant 31 = .ok (.aload_n 0, 1) := by decide +kernel
theorem dX2_wasteAndWant_32 : decode cX2_wasteAndWant 32 = .ok (.getfield 28, 3) := by decide +kernel
theorem dX2_wasteAndWant_35 : decode cX2_wasteAndWant 35 = .ok (.iload_n 2, 1) := by decide +kernel
theorem dX2_wasteAndWant_36 : decode cX2_wasteAndWant 36 = .ok (.iaload, 1) := by decide +kernel
theorem dX2_wasteAndWant_37 : decode cX2_wasteAndWant 37 = .ok (.isub, 1) := by decide +kernel
theorem dX2_wasteAndWant_38 : decode cX2_wasteAndWant 38 = .ok (.i2l, 1) := by decide +kernel
theorem dX2_wasteAndWant_39 : decode cX2_wasteAndWant 39 = .ok (.iload_n 1, 1) := by decide +kernel
theorem dX2_wasteAndWant_40 : decode cX2_wasteAndWant 40 = .ok (.i2l, 1) := by decide +kernel
theorem dX2_wasteAndWant_41 : decode cX2_wasteAndWant 41 = .ok (.aload_n 0, 1) := by decide +kernel
theorem dX2_wasteAndWant_42 : decode cX2_wasteAndWant 42 = .ok (.getfield 59, 3) := by decide +kernel
theorem dX2_wasteAndWant_45 : decode cX2_wasteAndWant 45 = .ok (.aload_n 0, 1) := by decide +kernel
theorem dX2_wasteAndWant_46 : decode cX2_wasteAndWant 46 = .ok (.getfield 25, 3) := by decide +kernel
theorem dX2_wasteAndWant_49 : decode cX2_wasteAndWant 49 = .ok (.iload_n 2, 1) := by decide +kernel
theorem dX2_wasteAndWant_50 : decode cX2_wasteAndWant 50 = .ok (.iaload, 1) := by decide +kernel
theorem dX2_wasteAndWant_51 : decode cX2_wasteAndWant 51 = .ok (.isub, 1) := by decide +kernel
theorem dX2_wasteAndWant_52 : decode cX2_wasteAndWant 52 = .ok (.i2l, 1) := by decide +kernel
theorem dX2_wasteAndWant_53 : decode cX2_wasteAndWant 53 = .ok (.lmul, 1) := by decide +kernel
theorem dX2_wasteAndWant_54 : decode cX2_wasteAndWant 54 = .ok (.lsub, 1) := by decide +kernel
theorem dX2_wasteAndWant_55 : decode cX2_wasteAndWant 55 = .ok (.lstore 5, 2) := by decide +kernel
theorem dX2_wasteAndWant_57 : decode cX2_wasteAndWant 57 = .ok (.aload_n 0, 1) := by decide +kernel
theorem dX2_wasteAndWant_58 : decode cX2_wasteAndWant 58 = .ok (.getfield 18, 3) := by decide +kernel
theorem dX2_wasteAndWant_61 : decode cX2_wasteAndWant 61 = .ok (.i2l, 1) := by decide +kernel
theorem dX2_wasteAndWant_62 : decode cX2_wasteAndWant 62 = .ok (.lload_n 3, 1) := by decide +kernel
theorem dX2_wasteAndWant_63 : decode cX2_wasteAndWant 63 = .ok (.lmul, 1) := by decide +kernel
theorem dX2_wasteAndWant_64 : decode cX2_wasteAndWant 64 = .ok (.aload_n 0, 1) := by decide +kernel
theorem dX2_wasteAndWant_65 : decode cX2_wasteAndWant 65 = .ok (.getfield 22, 3) := by decide +kernel
theorem dX2_wasteAndWant_68 : decode cX2_wasteAndWant 68 = .ok (.i2l, 1) := by decide +kernel
theorem dX2_wasteAndWant_69 : decode cX2_wasteAndWant 69 = .ok (.lload 5, 2) := by decide +kernel
theorem dX2_wasteAndWant_71 : decode cX2_wasteAndWant 71 = .ok (.lmul, 1) := by decide +kernel
theorem dX2_wasteAndWant_72 : decode cX2_wasteAndWant 72 = .ok (.ladd, 1) := by decide +kernel
theorem dX2_wasteAndWant_73 : decode cX2_wasteAndWant 73 = .ok (.lreturn, 1) := by decide +kernel
theorem dX3_init_0 : decode cX3_init 0 = .ok (.aload_n 0, 1) := by decide +kernel
theorem dX3_init_1 : decode cX3_init 1 = .ok (.invokespecial 3, 3) := by decide +kernel
theorem dX3_init_4 : decode cX3_init 4 = .ok (.aload_n 0, 1) := by decide +kernel
theorem dX3_init_5 : decode cX3_init 5 = .ok (.bipush 6, 2) := by decide +kernel
theorem dX3_init_7 : decode cX3_init 7 = .ok (.newarray .int, 2) := by decide +kernel
theorem dX3_init_9 : decode cX3_init 9 = .ok (.putfield 9, 3) := by decide +kernel
theorem dX3_init_12 : decode cX3_init 12 = .ok (.aload_n 0, 1) := by decide +kernel
theorem dX3_init_13 : decode cX3_init 13 = .ok (.bipush 6, 2) := by decide +kernel
theorem dX3_init_15 : decode cX3_init 15 = .ok (.newarray .int, 2) := by decide +kernel
theorem dX3_init_17 : decode cX3_init 17 = .ok (.putfield 15, 3) := by decide +kernel
theorem dX3_init_20 : decode cX3_init 20 = .ok (.aload_n 0, 1) := by decide +kernel
theorem dX3_init_21 : decode cX3_init 21 = .ok (.bipush 6, 2) := by decide +kernel
theorem dX3_init_23 : decode cX3_init 23 = .ok (.newarray .int, 2) := by decide +kernel
theorem dX3_init_25 : decode cX3_init 25 = .ok (.putfield 18, 3) := by decide +kernel
theorem dX3_init_28 : decode cX3_init 28 = .ok (.return_, 1) := by decide +kernel
theorem dX3_add_0 : decode cX3_add 0 = .ok (.aload_n 0, 1) := by decide +kernel
theorem dX3_add_1 : decode cX3_add 1 = .ok (.getfield 9, 3) := by decide +kernel
theorem dX3_add_4 : decode cX3_add 4 = .ok (.aload_n 0, 1) := by decide +kernel
theorem dX3_add_5 : decode cX3_add 5 = .ok (.getfield 21, 3) := by decide +kernel
theorem dX3_add_8 : decode cX3_add 8 = .ok (.iload_n 1, 1) := by decide +kernel
theorem dX3_add_9 : decode cX3_add 9 = .ok (.iastore, 1) := by decide +kernel
theorem dX3_add_10 : decode cX3_add 10 = .ok (.aload_n 0, 1) := by decide +kernel
theorem dX3_add_11 : decode cX3_add 11 = .ok (.getfield 15, 3) := by decide +kernel
theorem dX3_add_14 : decode cX3_add 14 = .ok (.aload_n 0, 1) := by decide +kernel
theorem dX3_add_15 : decode cX3_add 15 = .ok (.getfield 21, 3) := by decide +kernel
theorem dX3_add_18 : decode cX3_add 18 = .ok (.iload_n 2, 1) := by decide +kernel
theorem dX3_add_19 : decode cX3_add 19 = .ok (.iastore, 1) := by decide +kernel
theorem dX3_add_20 : decode cX3_add 20 = .ok (.aload_n 0, 1) := by decide +kernel
theorem dX3_add_21 : decode cX3_add 21 = .ok (.dup, 1) := by decide +kernel
theorem dX3_add_22 : decode cX3_add 22 = .ok (.getfield 21, 3) := by decide +kernel
theorem dX3_add_25 : decode cX3_add 25 = .ok (.iconst 1, 1) := by decide +kernel
theorem dX3_add_26 : decode cX3_add 26 = .ok (.iadd, 1) := by decide +kernel
theorem dX3_add_27 : decode cX3_add 27 = .ok (.putfield 21, 3) := by decide +kernel
theorem dX3_add_30 : decode cX3_add 30 = .ok (.aload_n 0, 1) := by decide +kernel
theorem dX3_add_31 : decode cX3_add 31 = .ok (.getfield 21, 3) := by decide +kernel
theorem dX3_add_34 : decode cX3_add 34 = .ok (.iconst 1, 1) := by decide +kernel
theorem dX3_add_35 : decode cX3_add 35 = .ok (.isub, 1) := by decide +kernel
theorem dX3_add_36 : decode cX3_add 36 = .ok (.ireturn, 1) := by decide +kernel
theorem dX3_deal_0 : decode cX3_deal 0 = .ok (.iconst 0, 1) := by decide +kernel
theorem dX3_deal_1 : decode cX3_deal 1 = .ok (.istore_n 1, 1) := by decide +kernel
theorem dX3_deal_2 : decode cX3_deal 2 = .ok (.iload_n 1, 1) := by decide +kernel
theorem dX3_deal_3 : decode cX3_deal 3 = .ok (.aload_n 0, 1) := by decide +kernel
theorem dX3_deal_4 : decode cX3_deal 4 = .ok (.getfield 21, 3) := by decide +kernel
theorem dX3_deal_7 : decode cX3_deal 7 = .ok (.if_icmp .ge 20, 3) := by decide +kernel
theorem dX3_deal_10 : decode cX3_deal 10 = .ok (.aload_n 0, 1) := by decide +kernel
theorem dX3_deal_11 : decode cX3_deal 11 = .ok (.iload_n 1, 1) := by decide +kernel
theorem dX3_deal_12 : decode cX3_deal 12 = .ok (.iload_n 1, 1) := by decide +kernel
theorem dX3_deal_13 : decode cX3_deal 13 = .ok (.invokevirtual 25, 3) := by decide +kernel
theorem dX3_deal_16 : decode cX3_deal 16 = .ok (.ifCond .ne 5, 3) := by decide +kernel
theorem dX3_deal_19 : decode cX3_deal 19 = .ok (.iconst (-1), 1) := by decide +kernel
theorem dX3_deal_20 : decode cX3_deal 20 = .ok (.ireturn, 1) := by decide +kernel
theorem dX3_deal_21 : decode cX3_deal 21 = .ok (.iinc 1 1, 3) := by decide +kernel
theorem dX3_deal_24 : decode cX3_deal 24 = .ok (.goto (-22), 3) := by decide +kernel
theorem dX3_deal_27 : decode cX3_deal 27 = .ok (.iconst 0, 1) := by decide +kernel
theorem dX3_deal_28 : decode cX3_deal 28 = .ok (.istore_n 1, 1) := by decide +kernel
theorem dX3_deal_29 : decode cX3_deal 29 = .ok (.iload_n 1, 1) := by decide +kernel
theorem dX3_deal_30 : decode cX3_deal 30 = .ok (.aload_n 0, 1) := by decide +kernel
theorem dX3_deal_31 : decode cX3_deal 31 = .ok (.getfield 21, 3) := by decide +kernel
theorem dX3_deal_34 : decode cX3_deal 34 = .ok (.if_icmp .gt 21, 3) := by decide +kernel
theorem dX3_deal_37 : decode cX3_deal 37 = .ok (.aload_n 0, 1) := by decide +kernel
theorem dX3_deal_38 : decode cX3_deal 38 = .ok (.iconst 0, 1) := by decide +kernel
theorem dX3_deal_39 : decode cX3_deal 39 = .ok (.iconst 0, 1) := by decide +kernel
theorem dX3_deal_40 : decode cX3_deal 40 = .ok (.iload_n 1, 1) := by decide +kernel
theorem dX3_deal_41 : decode cX3_deal 41 = .ok (.invokevirtual 29, 3) := by decide +kernel
theorem dX3_deal_44 : decode cX3_deal 44 = .ok (.ifCond .eq 5, 3) := by decide +kernel
theorem dX3_deal_47 : decode cX3_deal 47 = .ok (.iload_n 1, 1) := by decide +kernel
theorem dX3_deal_48 : decode cX3_deal 48 = .ok (.ireturn, 1) := by decide +kernel
theorem dX3_deal_49 : decode cX3_deal 49 = .ok (.iinc 1 1, 3) := by decide +kernel
theorem dX3_deal_52 : decode cX3_deal 52 = .ok (.goto (-23), 3) := by decide +kernel
theorem dX3_deal_55 : decode cX3_deal 55 = .ok (.iconst (-1), 1) := by decide +kernel
theorem dX3_deal_56 : decode cX3_deal 56 = .ok (.ireturn, 1) := by decide +kernel
theorem dX3_dealFrom_0 : decode cX3_dealFrom 0 = .ok (.iload_n 1, 1) := by decide +kernel
theorem dX3_dealFrom_1 : decode cX3_dealFrom 1 = .ok (.aload_n 0, 1) := by decide +kernel
theorem dX3_dealFrom_2 : decode cX3_dealFrom 2 = .ok (.getfield 21, 3) := by decide +kernel
theorem dX3_dealFrom_5 : decode cX3_dealFrom 5 = .ok (.if_icmp .lt 5, 3) := by decide +kernel
theorem dX3_dealFrom_8 : decode cX3_dealFrom 8 = .ok (.iconst 1, 1) := by decide +kernel
theorem dX3_dealFrom_9 : decode cX3_dealFrom 9 = .ok (.ireturn, 1) := by decide +kernel
theorem dX3_dealFrom_10 : decode cX3_dealFrom 10 = .ok (.iconst 0, 1) := by decide +kernel
theorem dX3_dealFrom_11 : decode cX3_dealFrom 11 = .ok (.istore 4, 2) := by decide +kernel
theorem dX3_dealFrom_13 : decode cX3_dealFrom 13 = .ok (.iload 4, 2) := by decide +kernel
theorem dX3_dealFrom_15 : decode cX3_dealFrom 15 = .ok (.iload_n 2, 1) := by decide +kernel
theorem dX3_dealFrom_16 : decode cX3_dealFrom 16 = .ok (.if_icmp .gt 54, 3) := by decide +kernel
theorem dX3_dealFrom_19 : decode cX3_dealFrom 19 = .ok (.iload 4, 2) := by decide +kernel
theorem dX3_dealFrom_21 : decode cX3_dealFrom 21 = .ok (.iload_n 3, 1) := by decide +kernel
theorem dX3_dealFrom_22 : decode cX3_dealFrom 22 = .ok (.if_icmp .ge 48, 3) := by decide +kernel
theorem dX3_dealFrom_25 : decode cX3_dealFrom 25 = .ok (.aload_n 0, 1) := by decide +kernel
theorem dX3_dealFrom_26 : decode cX3_dealFrom 26 = .ok (.iload_n 1, 1) := by decide +kernel
theorem dX3_dealFrom_27 : decode cX3_dealFrom 27 = .ok (.iload 4, 2) := by decide +kernel
theorem dX3_dealFrom_29 : decode cX3_dealFrom 29 = .ok (.invokevirtual 33, 3) := by decide +kernel
theorem dX3_dealFrom_32 : decode cX3_dealFrom 32 = .ok (.ifCond .eq 32, 3) := by decide +kernel
theorem dX3_dealFrom_35 : decode cX3_dealFrom 35 = .ok (.aload_n 0, 1) := by decide +kernel
theorem dX3_dealFrom_36 : decode cX3_dealFrom 36 = .ok (.getfield 18, 3) := by decide +kernel
theorem dX3_dealFrom_39 : decode cX3_dealFrom 39 = .ok (.iload_n 1, 1) := by decide +kernel
theorem dX3_dealFrom_40 : decode cX3_dealFrom 40 = .ok (.iload 4, 2) := by decide +kernel
theorem dX3_dealFrom_42 : decode cX3_dealFrom 42 = .ok (.iastore, 1) := by decide +kernel
theorem dX3_dealFrom_43 : decode cX3_dealFrom 43 = .ok (.aload_n 0, 1) := by decide +kernel
theorem dX3_dealFrom_44 : decode cX3_dealFrom 44 = .ok (.iload_n 1, 1) := by decide +kernel
theorem dX3_dealFrom_45 : decode cX3_dealFrom 45 = .ok (.iconst 1, 1) := by decide +kernel
theorem dX3_dealFrom_46 : decode cX3_dealFrom 46 = .ok (.iadd, 1) := by decide +kernel
theorem dX3_dealFrom_47 : decode cX3_dealFrom 47 = .ok (.iload_n 2, 1) := by decide +kernel
theorem dX3_dealFrom_48 : decode cX3_dealFrom 48 = .ok (.iload 4, 2) := by decide +kernel
theorem dX3_dealFrom_50 : decode cX3_dealFrom 50 = .ok (.iconst 1, 1) := by decide +kernel
theorem dX3_dealFrom_51 : decode cX3_dealFrom 51 = .ok (.iadd, 1) := by decide +kernel
theorem dX3_dealFrom_52 : decode cX3_dealFrom 52 = .ok (.invokestatic 36, 3) := by decide +kernel
theorem dX3_dealFrom_55 : decode cX3_dealFrom 55 = .ok (.iload_n 3, 1) := by decide +kernel
theorem dX3_dealFrom_56 : decode cX3_dealFrom 56 = .ok (.invokevirtual 29, 3) := by decide +kernel
theorem dX3_dealFrom_59 : decode cX3_dealFrom 59 = .ok (.ifCond .eq 5, 3) := by decide +kernel
theorem dX3_dealFrom_62 : decode cX3_dealFrom 62 = .ok (.iconst 1, 1) := by decide +kernel
theorem dX3_dealFrom_63 : decode cX3_dealFrom 63 = .ok (.ireturn, 1) := by decide +kernel
theorem dX3_dealFrom_64 : decode cX3_dealFrom 64 = .ok (.iinc 4 1, 3) := by decide +kernel
theorem dX3_dealFrom_67 : decode cX3_dealFrom 67 = .ok (.goto (-54), 3) := by decide +kernel
theorem dX3_dealFrom_70 : decode cX3_dealFrom 70 = .ok (.iconst 0, 1) := by decide +kernel
theorem dX3_dealFrom_71 : decode cX3_dealFrom 71 = .ok (.ireturn, 1) := by decide +kernel
theorem dX3_canTake_0 : decode cX3_canTake 0 = .ok (.iconst 0, 1) := by decide +kernel
theorem dX3_canTake_1 : decode cX3_canTake 1 = .ok (.istore_n 3, 1) := by decide +kernel
theorem dX3_canTake_2 : decode cX3_canTake 2 = .ok (.iload_n 3, 1) := by decide +kernel
theorem dX3_canTake_3 : decode cX3_canTake 3 = .ok (.iload_n 1, 1) := by decide +kernel
theorem dX3_canTake_4 : decode cX3_canTake 4 = .ok (.if_icmp .ge 30, 3) := by decide +kernel
theorem dX3_canTake_7 : decode cX3_canTake 7 = .ok (.aload_n 0, 1) := by decide +kernel
theorem dX3_canTake_8 : decode cX3_canTake 8 = .ok (.getfield 18, 3) := by decide +kernel
theorem dX3_canTake_11 : decode cX3_canTake 11 = .ok (.iload_n 3, 1) := by decide +kernel
theorem dX3_canTake_12 : decode cX3_canTake 12 = .ok (.iaload, 1) := by decide +kernel
theorem dX3_canTake_13 : decode cX3_canTake 13 = .ok (.iload_n 2, 1) := by decide +kernel
theorem dX3_canTake_14 : decode cX3_canTake 14 = .ok (.if_icmp .ne 14, 3) := by decide +kernel
theorem dX3_canTake_17 : decode cX3_canTake 17 = .ok (.aload_n 0, 1) := by decide +kernel
theorem dX3_canTake_18 : decode cX3_canTake 18 = .ok (.iload_n 1, 1) := by decide +kernel
theorem dX3_canTake_19 : decode cX3_canTake 19 = .ok (.iload_n 3, 1) := by decide +kernel
theorem dX3_canTake_20 : decode cX3_canTake 20 = .ok (.invokevirtual 25, 3) := by decide +kernel
theorem dX3_canTake_23 : decode cX3_canTake 23 = .ok (.ifCond .ne 5, 3) := by decide +kernel
theorem dX3_canTake_26 : decode cX3_canTake 26 = .ok (.iconst 0, 1) := by decide +kernel
theorem dX3_canTake_27 : decode cX3_canTake 27 = .ok (.ireturn, 1) := by decide +kernel
theorem dX3_canTake_28 : decode cX3_canTake 28 = .ok (.iinc 3 1, 3) := by decide +kernel
theorem dX3_canTake_31 : decode cX3_canTake 31 = .ok (.goto (-29), 3) := by decide +kernel
theorem dX3_canTake_34 : decode cX3_canTake 34 = .ok (.iconst 1, 1) := by decide +kernel
theorem dX3_canTake_35 : decode cX3_canTake 35 = .ok (.ireturn, 1) := by decide +kernel
theorem dX3_canMeet_0 : decode cX3_canMeet 0 = .ok (.aload_n 0, 1) := by decide +kernel
theorem dX3_canMeet_1 : decode cX3_canMeet 1 = .ok (.getfield 9, 3) := by decide +kernel
theorem dX3_canMeet_4 : decode cX3_canMeet 4 = .ok (.iload_n 1, 1) := by decide +kernel
theorem dX3_canMeet_5 : decode cX3_canMeet 5 = .ok (.iaload, 1) := by decide +kernel
theorem dX3_canMeet_6 : decode cX3_canMeet 6 = .ok (.aload_n 0, 1) := by decide +kernel
theorem dX3_canMeet_7 : decode cX3_canMeet 7 = .ok (.getfield 15, 3) := by decide +kernel
theorem dX3_canMeet_10 : decode cX3_canMeet 10 = .ok (.iload_n 2, 1) := by decide +kernel
theorem dX3_canMeet_11 : decode cX3_canMeet 11 = .ok (.iaload, 1) := by decide +kernel
theorem dX3_canMeet_12 : decode cX3_canMeet 12 = .ok (.iand, 1) := by decide +kernel
theorem dX3_canMeet_13 : decode cX3_canMeet 13 = .ok (.ifCond .ne 23, 3) := by decide +kernel
theorem dX3_canMeet_16 : decode cX3_canMeet 16 = .ok (.aload_n 0, 1) := by decide +kernel
theorem dX3_canMeet_17 : decode cX3_canMeet 17 = .ok (.getfield 9, 3) := by decide +kernel
theorem dX3_canMeet_20 : decode cX3_canMeet 20 = .ok (.iload_n 2, 1) := by decide +kernel
theorem dX3_canMeet_21 : decode cX3_canMeet 21 = .ok (.iaload, 1) := by decide +kernel
theorem dX3_canMeet_22 : decode cX3_canMeet 22 = .ok (.aload_n 0, 1) := by decide +kernel
theorem dX3_canMeet_23 : decode cX3_canMeet 23 = .ok (.getfield 15, 3) := by decide +kernel
theorem dX3_canMeet_26 : decode cX3_canMeet 26 = .ok (.iload_n 1, 1) := by decide +kernel
theorem dX3_canMeet_27 : decode cX3_canMeet 27 = .ok (.iaload, 1) := by decide +kernel
theorem dX3_canMeet_28 : decode cX3_canMeet 28 = .ok (.iand, 1) := by decide +kernel
theorem dX3_canMeet_29 : decode cX3_canMeet 29 = .ok (.ifCond .ne 7, 3) := by decide +kernel
theorem dX3_canMeet_32 : decode cX3_canMeet 32 = .ok (.iconst 1, 1) := by decide +kernel
theorem dX3_canMeet_33 : decode cX3_canMeet 33 = .ok (.goto 4, 3) := by decide +kernel
theorem dX3_canMeet_36 : decode cX3_canMeet 36 = .ok (.iconst 0, 1) := by decide +kernel
theorem dX3_canMeet_37 : decode cX3_canMeet 37 = .ok (.ireturn, 1) := by decide +kernel
theorem dX4_init_0 : decode cX4_init 0 = .ok (.aload_n 0, 1) := by decide +kernel
theorem dX4_init_1 : decode cX4_init 1 = .ok (.invokespecial 3, 3) := by decide +kernel
theorem dX4_init_4 : decode cX4_init 4 = .ok (.aload_n 0, 1) := by decide +kernel
theorem dX4_init_5 : decode cX4_init 5 = .ok (.bipush 8, 2) := by decide +kernel
theorem dX4_init_7 : decode cX4_init 7 = .ok (.newarray .int, 2) := by decide +kernel
theorem dX4_init_9 : decode cX4_init 9 = .ok (.putfield 9, 3) := by decide +kernel
theorem dX4_init_12 : decode cX4_init 12 = .ok (.aload_n 0, 1) := by decide +kernel
theorem dX4_init_13 : decode cX4_init 13 = .ok (.bipush 8, 2) := by decide +kernel
theorem dX4_init_15 : decode cX4_init 15 = .ok (.newarray .int, 2) := by decide +kernel
theorem dX4_init_17 : decode cX4_init 17 = .ok (.putfield 15, 3) := by decide +kernel
theorem dX4_init_20 : decode cX4_init 20 = .ok (.aload_n 0, 1) := by decide +kernel
theorem dX4_init_21 : decode cX4_init 21 = .ok (.aload_n 1, 1) := by decide +kernel
theorem dX4_init_22 : decode cX4_init 22 = .ok (.putfield 18, 3) := by decide +kernel
theorem dX4_init_25 : decode cX4_init 25 = .ok (.return_, 1) := by decide +kernel
theorem dX4_leavesBelow_0 : decode cX4_leavesBelow 0 = .ok (.iload 4, 2) := by decide +kernel
theorem dX4_leavesBelow_2 : decode cX4_leavesBelow 2 = .ok (.iconst 4, 1) := by decide +kernel
theorem dX4_leavesBelow_3 : decode cX4_leavesBelow 3 = .ok (.if_icmp .ge 13, 3) := by decide +kernel
theorem dX4_leavesBelow_6 : decode cX4_leavesBelow 6 = .ok (.aload_n 0, 1) := by decide +kernel
theorem dX4_leavesBelow_7 : decode cX4_leavesBelow 7 = .ok (.iload_n 1, 1) := by decide +kernel
theorem dX4_leavesBelow_8 : decode cX4_leavesBelow 8 = .ok (.iload_n 2, 1) := by decide +kernel
theorem dX4_leavesBelow_9 : decode cX4_leavesBelow 9 = .ok (.iload_n 3, 1) := by decide +kernel
theorem dX4_leavesBelow_10 : decode cX4_leavesBelow 10 = .ok (.invokevirtual 22, 3) := by decide +kernel
theorem dX4_leavesBelow_13 : decode cX4_leavesBelow 13 = .ok (.goto 4, 3) := by decide +kernel
theorem dX4_leavesBelow_16 : decode cX4_leavesBelow 16 = .ok (.iconst (-1), 1) := by decide +kernel
theorem dX4_leavesBelow_17 : decode cX4_leavesBelow 17 = .ok (.istore 5, 2) := by decide +kernel
theorem dX4_leavesBelow_19 : decode cX4_leavesBelow 19 = .ok (.iload 5, 2) := by decide +kernel
theorem dX4_leavesBelow_21 : decode cX4_leavesBelow 21 = .ok (.iconst (-1), 1) := by decide +kernel
theorem dX4_leavesBelow_22 : decode cX4_leavesBelow 22 = .ok (.if_icmp .ne 5, 3) := by decide +kernel
theorem dX4_leavesBelow_25 : decode cX4_leavesBelow 25 = .ok (.iconst 1, 1) := by decide +kernel
theorem dX4_leavesBelow_26 : decode cX4_leavesBelow 26 = .ok (.ireturn, 1) := by decide +kernel
theorem dX4_leavesBelow_27 : decode cX4_leavesBelow 27 = .ok (.iconst 1, 1) := by decide +kernel
theorem dX4_leavesBelow_28 : decode cX4_leavesBelow 28 = .ok (.iload 5, 2) := by decide +kernel
theorem dX4_leavesBelow_30 : decode cX4_leavesBelow 30 = .ok (.ishl, 1) := by decide +kernel
theorem dX4_leavesBelow_31 : decode cX4_leavesBelow 31 = .ok (.istore 6, 2) := by decide +kernel
theorem dX4_leavesBelow_33 : decode cX4_leavesBelow 33 = .ok (.aload_n 0, 1) := by decide +kernel
theorem dX4_leavesBelow_34 : decode cX4_leavesBelow 34 = .ok (.iload_n 1, 1) := by decide +kernel
theorem dX4_leavesBelow_35 : decode cX4_leavesBelow 35 = .ok (.iload_n 2, 1) := by decide +kernel
theorem dX4_leavesBelow_36 : decode cX4_leavesBelow 36 = .ok (.iload 6, 2) := by decide +kernel
theorem dX4_leavesBelow_38 : decode cX4_leavesBelow 38 = .ok (.ior, 1) := by decide +kernel
theorem dX4_leavesBelow_39 : decode cX4_leavesBelow 39 = .ok (.iload_n 3, 1) := by decide +kernel
theorem dX4_leavesBelow_40 : decode cX4_leavesBelow 40 = .ok (.iload 4, 2) := by decide +kernel
theorem dX4_leavesBelow_42 : decode cX4_leavesBelow 42 = .ok (.iconst 1, 1) := by decide +kernel
theorem dX4_leavesBelow_43 : decode cX4_leavesBelow 43 = .ok (.iadd, 1) := by decide +kernel
theorem dX4_leavesBelow_44 : decode cX4_leavesBelow 44 = .ok (.invokevirtual 26, 3) := by decide +kernel
theorem dX4_leavesBelow_47 : decode cX4_leavesBelow 47 = .ok (.aload_n 0, 1) := by decide +kernel
theorem dX4_leavesBelow_48 : decode cX4_leavesBelow 48 = .ok (.iload_n 1, 1) := by decide +kernel
theorem dX4_leavesBelow_49 : decode cX4_leavesBelow 49 = .ok (.iload_n 2, 1) := by decide +kernel
theorem dX4_leavesBelow_50 : decode cX4_leavesBelow 50 = .ok (.iload 6, 2) := by decide +kernel
theorem dX4_leavesBelow_52 : decode cX4_leavesBelow 52 = .ok (.ior, 1) := by decide +kernel
theorem dX4_leavesBelow_53 : decode cX4_leavesBelow 53 = .ok (.iload_n 3, 1) := by decide +kernel
theorem dX4_leavesBelow_54 : decode cX4_leavesBelow 54 = .ok (.iload 6, 2) := by decide +kernel
theorem dX4_leavesBelow_56 : decode cX4_leavesBelow 56 = .ok (.ior, 1) := by decide +kernel
theorem dX4_leavesBelow_57 : decode cX4_leavesBelow 57 = .ok (.iload 4, 2) := by decide +kernel
theorem dX4_leavesBelow_59 : decode cX4_leavesBelow 59 = .ok (.iconst 1, 1) := by decide +kernel
theorem dX4_leavesBelow_60 : decode cX4_leavesBelow 60 = .ok (.iadd, 1) := by decide +kernel
theorem dX4_leavesBelow_61 : decode cX4_leavesBelow 61 = .ok (.invokevirtual 26, 3) := by decide +kernel
theorem dX4_leavesBelow_64 : decode cX4_leavesBelow 64 = .ok (.iadd, 1) := by decide +kernel
theorem dX4_leavesBelow_65 : decode cX4_leavesBelow 65 = .ok (.ireturn, 1) := by decide +kernel
theorem dX4_markOnTheWay_0 : decode cX4_markOnTheWay 0 = .ok (.iload_n 3, 1) := by decide +kernel
theorem dX4_markOnTheWay_1 : decode cX4_markOnTheWay 1 = .ok (.ifCond .lt 8, 3) := by decide +kernel
theorem dX4_markOnTheWay_4 : decode cX4_markOnTheWay 4 = .ok (.iload_n 3, 1) := by decide +kernel
theorem dX4_markOnTheWay_5 : decode cX4_markOnTheWay 5 = .ok (.iconst 4, 1) := by decide +kernel
theorem dX4_markOnTheWay_6 : decode cX4_markOnTheWay 6 = .ok (.if_icmp .lt 5, 3) := by decide +kernel
theorem dX4_markOnTheWay_9 : decode cX4_markOnTheWay 9 = .ok (.iconst (-1), 1) := by decide +kernel
theorem dX4_markOnTheWay_10 : decode cX4_markOnTheWay 10 = .ok (.ireturn, 1) := by decide +kernel
theorem dX4_markOnTheWay_11 : decode cX4_markOnTheWay 11 = .ok (.iconst 0, 1) := by decide +kernel
theorem dX4_markOnTheWay_12 : decode cX4_markOnTheWay 12 = .ok (.istore 4, 2) := by decide +kernel
theorem dX4_markOnTheWay_14 : decode cX4_markOnTheWay 14 = .ok (.iconst 0, 1) := by decide +kernel
theorem dX4_markOnTheWay_15 : decode cX4_markOnTheWay 15 = .ok (.istore 5, 2) := by decide +kernel
theorem dX4_markOnTheWay_17 : decode cX4_markOnTheWay 17 = .ok (.iload 5, 2) := by decide +kernel
theorem dX4_markOnTheWay_19 : decode cX4_markOnTheWay 19 = .ok (.iload_n 3, 1) := by decide +kernel
theorem dX4_markOnTheWay_20 : decode cX4_markOnTheWay 20 = .ok (.if_icmp .ge 36, 3) := by decide +kernel
theorem dX4_markOnTheWay_23 : decode cX4_markOnTheWay 23 = .ok (.aload_n 0, 1) := by decide +kernel
theorem dX4_markOnTheWay_24 : decode cX4_markOnTheWay 24 = .ok (.iload_n 1, 1) := by decide +kernel
theorem dX4_markOnTheWay_25 : decode cX4_markOnTheWay 25 = .ok (.iload 4, 2) := by decide +kernel
theorem dX4_markOnTheWay_27 : decode cX4_markOnTheWay 27 = .ok (.iload_n 2, 1) := by decide +kernel
theorem dX4_markOnTheWay_28 : decode cX4_markOnTheWay 28 = .ok (.invokevirtual 22, 3) := by decide +kernel
theorem dX4_markOnTheWay_31 : decode cX4_markOnTheWay 31 = .ok (.istore 6, 2) := by decide +kernel
theorem dX4_markOnTheWay_33 : decode cX4_markOnTheWay 33 = .ok (.iload 6, 2) := by decide +kernel
theorem dX4_markOnTheWay_35 : decode cX4_markOnTheWay 35 = .ok (.iconst (-1), 1) := by decide +kernel
theorem dX4_markOnTheWay_36 : decode cX4_markOnTheWay 36 = .ok (.if_icmp .ne 5, 3) := by decide +kernel
theorem dX4_markOnTheWay_39 : decode cX4_markOnTheWay 39 = .ok (.iconst (-1), 1) := by decide +kernel
theorem dX4_markOnTheWay_40 : decode cX4_markOnTheWay 40 = .ok (.ireturn, 1) := by decide +kernel
theorem dX4_markOnTheWay_41 : decode cX4_markOnTheWay 41 = .ok (.iload 4, 2) := by decide +kernel
theorem dX4_markOnTheWay_43 : decode cX4_markOnTheWay 43 = .ok (.iconst 1, 1) := by decide +kernel
theorem dX4_markOnTheWay_44 : decode cX4_markOnTheWay 44 = .ok (.iload 6, 2) := by decide +kernel
theorem dX4_markOnTheWay_46 : decode cX4_markOnTheWay 46 = .ok (.ishl, 1) := by decide +kernel
theorem dX4_markOnTheWay_47 : decode cX4_markOnTheWay 47 = .ok (.ior, 1) := by decide +kernel
theorem dX4_markOnTheWay_48 : decode cX4_markOnTheWay 48 = .ok (.istore 4, 2) := by decide +kernel
theorem dX4_markOnTheWay_50 : decode cX4_markOnTheWay 50 = .ok (.iinc 5 1, 3) := by decide +kernel
theorem dX4_markOnTheWay_53 : decode cX4_markOnTheWay 53 = .ok (.goto (-36), 3) := by decide +kernel
theorem dX4_markOnTheWay_56 : decode cX4_markOnTheWay 56 = .ok (.aload_n 0, 1) := by decide +kernel
theorem dX4_markOnTheWay_57 : decode cX4_markOnTheWay 57 = .ok (.iload_n 1, 1) := by decide +kernel
theorem dX4_markOnTheWay_58 : decode cX4_markOnTheWay 58 = .ok (.iload 4, 2) := by decide +kernel
theorem dX4_markOnTheWay_60 : decode cX4_markOnTheWay 60 = .ok (.iload_n 2, 1) := by decide +kernel
theorem dX4_markOnTheWay_61 : decode cX4_markOnTheWay 61 = .ok (.invokevirtual 22, 3) := by decide +kernel
theorem dX4_markOnTheWay_64 : decode cX4_markOnTheWay 64 = .ok (.ireturn, 1) := by decide +kernel
theorem dX4_askedOnTheWay_0 : decode cX4_askedOnTheWay 0 = .ok (.iconst 0, 1) := by decide +kernel
theorem dX4_askedOnTheWay_1 : decode cX4_askedOnTheWay 1 = .ok (.istore_n 3, 1) := by decide +kernel
theorem dX4_askedOnTheWay_2 : decode cX4_askedOnTheWay 2 = .ok (.iconst 0, 1) := by decide +kernel
theorem dX4_askedOnTheWay_3 : decode cX4_askedOnTheWay 3 = .ok (.istore 4, 2) := by decide +kernel
theorem dX4_askedOnTheWay_5 : decode cX4_askedOnTheWay 5 = .ok (.iload 4, 2) := by decide +kernel
theorem dX4_askedOnTheWay_7 : decode cX4_askedOnTheWay 7 = .ok (.iconst 4, 1) := by decide +kernel
theorem dX4_askedOnTheWay_8 : decode cX4_askedOnTheWay 8 = .ok (.if_icmp .ge 33, 3) := by decide +kernel
theorem dX4_askedOnTheWay_11 : decode cX4_askedOnTheWay 11 = .ok (.aload_n 0, 1) := by decide +kernel
theorem dX4_askedOnTheWay_12 : decode cX4_askedOnTheWay 12 = .ok (.iload_n 1, 1) := by decide +kernel
theorem dX4_askedOnTheWay_13 : decode cX4_askedOnTheWay 13 = .ok (.iload_n 3, 1) := by decide +kernel
theorem dX4_askedOnTheWay_14 : decode cX4_askedOnTheWay 14 = .ok (.iload_n 2, 1) := by decide +kernel
theorem dX4_askedOnTheWay_15 : decode cX4_askedOnTheWay 15 = .ok (.invokevirtual 22, 3) := by decide +kernel
theorem dX4_askedOnTheWay_18 : decode cX4_askedOnTheWay 18 = .ok (.istore 5, 2) := by decide +kernel
theorem dX4_askedOnTheWay_20 : decode cX4_askedOnTheWay 20 = .ok (.iload 5, 2) := by decide +kernel
theorem dX4_askedOnTheWay_22 : decode cX4_askedOnTheWay 22 = .ok (.iconst (-1), 1) := by decide +kernel
theorem dX4_askedOnTheWay_23 : decode cX4_askedOnTheWay 23 = .ok (.if_icmp .ne 5, 3) := by decide +kernel
theorem dX4_askedOnTheWay_26 : decode cX4_askedOnTheWay 26 = .ok (.iload_n 3, 1) := by decide +kernel
theorem dX4_askedOnTheWay_27 : decode cX4_askedOnTheWay 27 = .ok (.ireturn, 1) := by decide +kernel
theorem dX4_askedOnTheWay_28 : decode cX4_askedOnTheWay 28 = .ok (.iload_n 3, 1) := by decide +kernel
theorem dX4_askedOnTheWay_29 : decode cX4_askedOnTheWay 29 = .ok (.iconst 1, 1) := by decide +kernel
theorem dX4_askedOnTheWay_30 : decode cX4_askedOnTheWay 30 = .ok (.iload 5, 2) := by decide +kernel
theorem dX4_askedOnTheWay_32 : decode cX4_askedOnTheWay 32 = .ok (.ishl, 1) := by decide +kernel
theorem dX4_askedOnTheWay_33 : decode cX4_askedOnTheWay 33 = .ok (.ior, 1) := by decide +kernel
theorem dX4_askedOnTheWay_34 : decode cX4_askedOnTheWay 34 = .ok (.istore_n 3, 1) := by decide +kernel
theorem dX4_askedOnTheWay_35 : decode cX4_askedOnTheWay 35 = .ok (.iinc 4 1, 3) := by decide +kernel
theorem dX4_askedOnTheWay_38 : decode cX4_askedOnTheWay 38 = .ok (.goto (-33), 3) := by decide +kernel
theorem dX4_askedOnTheWay_41 : decode cX4_askedOnTheWay 41 = .ok (.iload_n 3, 1) := by decide +kernel
theorem dX4_askedOnTheWay_42 : decode cX4_askedOnTheWay 42 = .ok (.ireturn, 1) := by decide +kernel
theorem dX4_markThatParts_0 : decode cX4_markThatParts 0 = .ok (.aload_n 0, 1) := by decide +kernel
theorem dX4_markThatParts_1 : decode cX4_markThatParts 1 = .ok (.iload_n 1, 1) := by decide +kernel
theorem dX4_markThatParts_2 : decode cX4_markThatParts 2 = .ok (.iload_n 2, 1) := by decide +kernel
theorem dX4_markThatParts_3 : decode cX4_markThatParts 3 = .ok (.iload_n 3, 1) := by decide +kernel
theorem dX4_markThatParts_4 : decode cX4_markThatParts 4 = .ok (.invokevirtual 30, 3) := by decide +kernel
theorem dX4_markThatParts_7 : decode cX4_markThatParts 7 = .ok (.iconst (-1), 1) := by decide +kernel
theorem dX4_markThatParts_8 : decode cX4_markThatParts 8 = .ok (.istore 4, 2) := by decide +kernel
theorem dX4_markThatParts_10 : decode cX4_markThatParts 10 = .ok (.lconst 0, 1) := by decide +kernel
theorem dX4_markThatParts_11 : decode cX4_markThatParts 11 = .ok (.lstore 5, 2) := by decide +kernel
theorem dX4_markThatParts_13 : decode cX4_markThatParts 13 = .ok (.lconst 1, 1) := by decide +kernel
theorem dX4_markThatParts_14 : decode cX4_markThatParts 14 = .ok (.lstore 7, 2) := by decide +kernel
theorem dX4_markThatParts_16 : decode cX4_markThatParts 16 = .ok (.iconst 0, 1) := by decide +kernel
theorem dX4_markThatParts_17 : decode cX4_markThatParts 17 = .ok (.istore 9, 2) := by decide +kernel
theorem dX4_markThatParts_19 : decode cX4_markThatParts 19 = .ok (.iload 9, 2) := by decide +kernel
theorem dX4_markThatParts_21 : decode cX4_markThatParts 21 = .ok (.bipush 8, 2) := by decide +kernel
theorem dX4_markThatParts_23 : decode cX4_markThatParts 23 = .ok (.if_icmp .ge 144, 3) := by decide +kernel
theorem dX4_markThatParts_26 : decode cX4_markThatParts 26 = .ok (.aload_n 0, 1) := by decide +kernel
theorem dX4_markThatParts_27 : decode cX4_markThatParts 27 = .ok (.getfield 34, 3) := by decide +kernel
theorem dX4_markThatParts_30 : decode cX4_markThatParts 30 = .ok (.aload_n 0, 1) := by decide +kernel
theorem dX4_markThatParts_31 : decode cX4_markThatParts 31 = .ok (.getfield 9, 3) := by decide +kernel
theorem dX4_markThatParts_34 : decode cX4_markThatParts 34 = .ok (.iload 9, 2) := by decide +kernel
theorem dX4_markThatParts_36 : decode cX4_markThatParts 36 = .ok (.iaload, 1) := by decide +kernel
theorem dX4_markThatParts_37 : decode cX4_markThatParts 37 = .ok (.isub, 1) := by decide +kernel
theorem dX4_markThatParts_38 : decode cX4_markThatParts 38 = .ok (.istore 10, 2) := by decide +kernel
theorem dX4_markThatParts_40 : decode cX4_markThatParts 40 = .ok (.iload_n 2, 1) := by decide +kernel
theorem dX4_markThatParts_41 : decode cX4_markThatParts 41 = .ok (.iload 9, 2) := by decide +kernel
theorem dX4_markThatParts_43 : decode cX4_markThatParts 43 = .ok (.ishr, 1) := by decide +kernel
theorem dX4_markThatParts_44 : decode cX4_markThatParts 44 = .ok (.iconst 1, 1) := by decide +kernel
theorem dX4_markThatParts_45 : decode cX4_markThatParts 45 = .ok (.iand, 1) := by decide +kernel
theorem dX4_markThatParts_46 : decode cX4_markThatParts 46 = .ok (.ifCond .eq 7, 3) := by decide +kernel
theorem dX4_markThatParts_49 : decode cX4_markThatParts 49 = .ok (.iconst 1, 1) := by decide +kernel
theorem dX4_markThatParts_50 : decode cX4_markThatParts 50 = .ok (.goto 4, 3) := by decide +kernel
theorem dX4_markThatParts_53 : decode cX4_markThatParts 53 = .ok (.iconst 0, 1) := by decide +kernel
theorem dX4_markThatParts_54 : decode cX4_markThatParts 54 = .ok (.istore 11, 2) := by decide +kernel
theorem dX4_markThatParts_56 : decode cX4_markThatParts 56 = .ok (.iload 11, 2) := by decide +kernel
theorem dX4_markThatParts_58 : decode cX4_markThatParts 58 = .ok (.ifCond .ne 103, 3) := by decide +kernel
theorem dX4_markThatParts_61 : decode cX4_markThatParts 61 = .ok (.aload_n 0, 1) := by decide +kernel
theorem dX4_markThatParts_62 : decode cX4_markThatParts 62 = .ok (.getfield 9, 3) := by decide +kernel
theorem dX4_markThatParts_65 : decode cX4_markThatParts 65 = .ok (.iload 9, 2) := by decide +kernel
theorem dX4_markThatParts_67 : decode cX4_markThatParts 67 = .ok (.iaload, 1) := by decide +kernel
theorem dX4_markThatParts_68 : decode cX4_markThatParts 68 = .ok (.iload 10, 2) := by decide +kernel
theorem dX4_markThatParts_70 : decode cX4_markThatParts 70 = .ok (.invokestatic 38, 3) := by decide +kernel
theorem dX4_markThatParts_73 : decode cX4_markThatParts 73 = .ok (.iconst 2, 1) := by decide +kernel
theorem dX4_markThatParts_74 : decode cX4_markThatParts 74 = .ok (.if_icmp .lt 87, 3) := by decide +kernel
theorem dX4_markThatParts_77 : decode cX4_markThatParts 77 = .ok (.aload_n 0, 1) := by decide +kernel
theorem dX4_markThatParts_78 : decode cX4_markThatParts 78 = .ok (.getfield 15, 3) := by decide +kernel
theorem dX4_markThatParts_81 : decode cX4_markThatParts 81 = .ok (.iload 9, 2) := by decide +kernel
theorem dX4_markThatParts_83 : decode cX4_markThatParts 83 = .ok (.iaload, 1) := by decide +kernel
theorem dX4_markThatParts_84 : decode cX4_markThatParts 84 = .ok (.i2l, 1) := by decide +kernel
theorem dX4_markThatParts_85 : decode cX4_markThatParts 85 = .ok (.iload 10, 2) := by decide +kernel
theorem dX4_markThatParts_87 : decode cX4_markThatParts 87 = .ok (.i2l, 1) := by decide +kernel
theorem dX4_markThatParts_88 : decode cX4_markThatParts 88 = .ok (.lmul, 1) := by decide +kernel
theorem dX4_markThatParts_89 : decode cX4_markThatParts 89 = .ok (.aload_n 0, 1) := by decide +kernel
theorem dX4_markThatParts_90 : decode cX4_markThatParts 90 = .ok (.getfield 44, 3) := by decide +kernel
theorem dX4_markThatParts_93 : decode cX4_markThatParts 93 = .ok (.aload_n 0, 1) := by decide +kernel
theorem dX4_markThatParts_94 : decode cX4_markThatParts 94 = .ok (.getfield 15, 3) := by decide +kernel
theorem dX4_markThatParts_97 : decode cX4_markThatParts 97 = .ok (.iload 9, 2) := by decide +kernel
theorem dX4_markThatParts_99 : decode cX4_markThatParts 99 = .ok (.iaload, 1) := by decide +kernel
theorem dX4_markThatParts_100 : decode cX4_markThatParts 100 = .ok (.isub, 1) := by decide +kernel
theorem dX4_markThatParts_101 : decode cX4_markThatParts 101 = .ok (.i2l, 1) := by decide +kernel
theorem dX4_markThatParts_102 : decode cX4_markThatParts 102 = .ok (.aload_n 0, 1) := by decide +kernel
theorem dX4_markThatParts_103 : decode cX4_markThatParts 103 = .ok (.getfield 9, 3) := by decide +kernel
theorem dX4_markThatParts_106 : decode cX4_markThatParts 106 = .ok (.iload 9, 2) := by decide +kernel
theorem dX4_markThatParts_108 : decode cX4_markThatParts 108 = .ok (.iaload, 1) := by decide +kernel
theorem dX4_markThatParts_109 : decode cX4_markThatParts 109 = .ok (.i2l, 1) := by decide +kernel
theorem dX4_markThatParts_110 : decode cX4_markThatParts 110 = .ok (.lmul, 1) := by decide +kernel
theorem dX4_markThatParts_111 : decode cX4_markThatParts 111 = .ok (.lsub, 1) := by decide +kernel
theorem dX4_markThatParts_112 : decode cX4_markThatParts 112 = .ok (.lstore 12, 2) := by decide +kernel
theorem dX4_markThatParts_114 : decode cX4_markThatParts 114 = .ok (.lload 12, 2) := by decide +kernel
theorem dX4_markThatParts_116 : decode cX4_markThatParts 116 = .ok (.lload 12, 2) := by decide +kernel
theorem dX4_markThatParts_118 : decode cX4_markThatParts 118 = .ok (.lmul, 1) := by decide +kernel
theorem dX4_markThatParts_119 : decode cX4_markThatParts 119 = .ok (.lstore 14, 2) := by decide +kernel
theorem dX4_markThatParts_121 : decode cX4_markThatParts 121 = .ok (.aload_n 0, 1) := by decide +kernel
theorem dX4_markThatParts_122 : decode cX4_markThatParts 122 = .ok (.getfield 9, 3) := by decide +kernel
theorem dX4_markThatParts_125 : decode cX4_markThatParts 125 = .ok (.iload 9, 2) := by decide +kernel
theorem dX4_markThatParts_127 : decode cX4_markThatParts 127 = .ok (.iaload, 1) := by decide +kernel
theorem dX4_markThatParts_128 : decode cX4_markThatParts 128 = .ok (.i2l, 1) := by decide +kernel
theorem dX4_markThatParts_129 : decode cX4_markThatParts 129 = .ok (.iload 10, 2) := by decide +kernel
theorem dX4_markThatParts_131 : decode cX4_markThatParts 131 = .ok (.i2l, 1) := by decide +kernel
theorem dX4_markThatParts_132 : decode cX4_markThatParts 132 = .ok (.lmul, 1) := by decide +kernel
theorem dX4_markThatParts_133 : decode cX4_markThatParts 133 = .ok (.lstore 16, 2) := by decide +kernel
theorem dX4_markThatParts_135 : decode cX4_markThatParts 135 = .ok (.lload 14, 2) := by decide +kernel
theorem dX4_markThatParts_137 : decode cX4_markThatParts 137 = .ok (.lload 7, 2) := by decide +kernel
theorem dX4_markThatParts_139 : decode cX4_markThatParts 139 = .ok (.lmul, 1) := by decide +kernel
theorem dX4_markThatParts_140 : decode cX4_markThatParts 140 = .ok (.lload 5, 2) := by decide +kernel
theorem dX4_markThatParts_142 : decode cX4_markThatParts 142 = .ok (.lload 16, 2) := by decide +kernel
theorem dX4_markThatParts_144 : decode cX4_markThatParts 144 = .ok (.lmul, 1) := by decide +kernel
theorem dX4_markThatParts_145 : decode cX4_markThatParts 145 = .ok (.lcmp, 1) := by decide +kernel
theorem dX4_markThatParts_146 : decode cX4_markThatParts 146 = .ok (.ifCond .le 15, 3) := by decide +kernel
theorem dX4_markThatParts_149 : decode cX4_markThatParts 149 = .ok (.iload 9, 2) := by decide +kernel
theorem dX4_markThatParts_151 : decode cX4_markThatParts 151 = .ok (.istore 4, 2) := by decide +kernel
theorem dX4_markThatParts_153 : decode cX4_markThatParts 153 = .ok (.lload 14, 2) := by decide +kernel
theorem dX4_markThatParts_155 : decode cX4_markThatParts 155 = .ok (.lstore 5, 2) := by decide +kernel
theorem dX4_markThatParts_157 : decode cX4_markThatParts 157 = .ok (.lload 16, 2) := by decide +kernel
theorem dX4_markThatParts_159 : decode cX4_markThatParts 159 = .ok (.lstore 7, 2) := by decide +kernel
theorem dX4_markThatParts_161 : decode cX4_markThatParts 161 = .ok (.iinc 9 1, 3) := by decide +kernel
theorem dX4_markThatParts_164 : decode cX4_markThatParts 164 = .ok (.goto (-145), 3) := by decide +kernel
theorem dX4_markThatParts_167 : decode cX4_markThatParts 167 = .ok (.iload 4, 2) := by decide +kernel
theorem dX4_markThatParts_169 : decode cX4_markThatParts 169 = .ok (.ireturn, 1) := by decide +kernel
theorem dX4_readKnot_0 : decode cX4_readKnot 0 = .ok (.aload_n 0, 1) := by decide +kernel
theorem dX4_readKnot_1 : decode cX4_readKnot 1 = .ok (.iconst 0, 1) := by decide +kernel
theorem dX4_readKnot_2 : decode cX4_readKnot 2 = .ok (.putfield 34, 3) := by decide +kernel
theorem dX4_readKnot_5 : decode cX4_readKnot 5 = .ok (.aload_n 0, 1) := by decide +kernel
theorem dX4_readKnot_6 : decode cX4_readKnot 6 = .ok (.iconst 0, 1) := by decide +kernel
theorem dX4_readKnot_7 : decode cX4_readKnot 7 = .ok (.putfield 44, 3) := by decide +kernel
theorem dX4_readKnot_10 : decode cX4_readKnot 10 = .ok (.aload_n 0, 1) := by decide +kernel
theorem dX4_readKnot_11 : decode cX4_readKnot 11 = .ok (.getfield 9, 3) := by decide +kernel
theorem dX4_readKnot_14 : decode cX4_readKnot 14 = .ok (.iconst 0, 1) := by decide +kernel
theorem dX4_readKnot_15 : decode cX4_readKnot 15 = .ok (.invokestatic 47, 3) := by decide +kernel
theorem dX4_readKnot_18 : decode cX4_readKnot 18 = .ok (.aload_n 0, 1) := by decide +kernel
theorem dX4_readKnot_19 : decode cX4_readKnot 19 = .ok (.getfield 15, 3) := by decide +kernel
theorem dX4_readKnot_22 : decode cX4_readKnot 22 = .ok (.iconst 0, 1) := by decide +kernel
theorem dX4_readKnot_23 : decode cX4_readKnot 23 = .ok (.invokestatic 47, 3) := by decide +kernel
theorem dX4_readKnot_26 : decode cX4_readKnot 26 = .ok (.iconst 0, 1) := by decide +kernel
theorem dX4_readKnot_27 : decode cX4_readKnot 27 = .ok (.istore 4, 2) := by decide +kernel
theorem dX4_readKnot_29 : decode cX4_readKnot 29 = .ok (.iload 4, 2) := by decide +kernel
theorem dX4_readKnot_31 : decode cX4_readKnot 31 = .ok (.aload_n 0, 1) := by decide +kernel
theorem dX4_readKnot_32 : decode cX4_readKnot 32 = .ok (.getfield 18, 3) := by decide +kernel
theorem dX4_readKnot_35 : decode cX4_readKnot 35 = .ok (.getfield 53, 3) := by decide +kernel
theorem dX4_readKnot_38 : decode cX4_readKnot 38 = .ok (.if_icmp .ge 47, 3) := by decide +kernel
theorem dX4_readKnot_41 : decode cX4_readKnot 41 = .ok (.aload_n 0, 1) := by decide +kernel
theorem dX4_readKnot_42 : decode cX4_readKnot 42 = .ok (.getfield 18, 3) := by decide +kernel
theorem dX4_readKnot_45 : decode cX4_readKnot 45 = .ok (.iload 4, 2) := by decide +kernel
theorem dX4_readKnot_47 : decode cX4_readKnot 47 = .ok (.iload_n 2, 1) := by decide +kernel
theorem dX4_readKnot_48 : decode cX4_readKnot 48 = .ok (.iload_n 3, 1) := by decide +kernel
theorem dX4_readKnot_49 : decode cX4_readKnot 49 = .ok (.invokevirtual 58, 3) := by decide +kernel
theorem dX4_readKnot_52 : decode cX4_readKnot 52 = .ok (.ifCond .eq 27, 3) := by decide +kernel
theorem dX4_readKnot_55 : decode cX4_readKnot 55 = .ok (.aload_n 0, 1) := by decide +kernel
theorem dX4_readKnot_56 : decode cX4_readKnot 56 = .ok (.aload_n 0, 1) := by decide +kernel
theorem dX4_readKnot_57 : decode cX4_readKnot 57 = .ok (.getfield 18, 3) := by decide +kernel
theorem dX4_readKnot_60 : decode cX4_readKnot 60 = .ok (.getfield 62, 3) := by decide +kernel
theorem dX4_readKnot_63 : decode cX4_readKnot 63 = .ok (.iload 4, 2) := by decide +kernel
theorem dX4_readKnot_65 : decode cX4_readKnot 65 = .ok (.iaload, 1) := by decide +kernel
theorem dX4_readKnot_66 : decode cX4_readKnot 66 = .ok (.aload_n 0, 1) := by decide +kernel
theorem dX4_readKnot_67 : decode cX4_readKnot 67 = .ok (.getfield 18, 3) := by decide +kernel
theorem dX4_readKnot_70 : decode cX4_readKnot 70 = .ok (.iload 4, 2) := by decide +kernel
theorem dX4_readKnot_72 : decode cX4_readKnot 72 = .ok (.iload_n 1, 1) := by decide +kernel
theorem dX4_readKnot_73 : decode cX4_readKnot 73 = .ok (.invokevirtual 65, 3) := by decide +kernel
theorem dX4_readKnot_76 : decode cX4_readKnot 76 = .ok (.invokevirtual 68, 3) := by decide +kernel
theorem dX4_readKnot_79 : decode cX4_readKnot 79 = .ok (.iinc 4 1, 3) := by decide +kernel
theorem dX4_readKnot_82 : decode cX4_readKnot 82 = .ok (.goto (-53), 3) := by decide +kernel
theorem dX4_readKnot_85 : decode cX4_readKnot 85 = .ok (.return_, 1) := by decide +kernel
theorem dX4_readDay_0 : decode cX4_readDay 0 = .ok (.aload_n 0, 1) := by decide +kernel
theorem dX4_readDay_1 : decode cX4_readDay 1 = .ok (.dup, 1) := by decide +kernel
theorem dX4_readDay_2 : decode cX4_readDay 2 = .ok (.getfield 34, 3) := by decide +kernel
theorem dX4_readDay_5 : decode cX4_readDay 5 = .ok (.iconst 1, 1) := by decide +kernel
theorem dX4_readDay_6 : decode cX4_readDay 6 = .ok (.iadd, 1) := by decide +kernel
theorem dX4_readDay_7 : decode cX4_readDay 7 = .ok (.putfield 34, 3) := by decide +kernel
theorem dX4_readDay_10 : decode cX4_readDay 10 = .ok (.aload_n 0, 1) := by decide +kernel
theorem dX4_readDay_11 : decode cX4_readDay 11 = .ok (.dup, 1) := by decide +kernel
theorem dX4_readDay_12 : decode cX4_readDay 12 = .ok (.getfield 44, 3) := by decide +kernel
theorem dX4_readDay_15 : decode cX4_readDay 15 = .ok (.iload_n 2, 1) := by decide +kernel
theorem dX4_readDay_16 : decode cX4_readDay 16 = .ok (.iadd, 1) := by decide +kernel
theorem dX4_readDay_17 : decode cX4_readDay 17 = .ok (.putfield 44, 3) := by decide +kernel
theorem dX4_readDay_20 : decode cX4_readDay 20 = .ok (.iconst 0, 1) := by decide +kernel
theorem dX4_readDay_21 : decode cX4_readDay 21 = .ok (.istore_n 3, 1) := by decide +kernel
theorem dX4_readDay_22 : decode cX4_readDay 22 = .ok (.iload_n 3, 1) := by decide +kernel
theorem dX4_readDay_23 : decode cX4_readDay 23 = .ok (.bipush 8, 2) := by decide +kernel
theorem dX4_readDay_25 : decode cX4_readDay 25 = .ok (.if_icmp .ge 37, 3) := by decide +kernel
theorem dX4_readDay_28 : decode cX4_readDay 28 = .ok (.iload_n 1, 1) := by decide +kernel
theorem dX4_readDay_29 : decode cX4_readDay 29 = .ok (.iload_n 3, 1) := by decide +kernel
theorem dX4_readDay_30 : decode cX4_readDay 30 = .ok (.ishr, 1) := by decide +kernel
theorem dX4_readDay_31 : decode cX4_readDay 31 = .ok (.iconst 1, 1) := by decide +kernel
theorem dX4_readDay_32 : decode cX4_readDay 32 = .ok (.iand, 1) := by decide +kernel
theorem dX4_readDay_33 : decode cX4_readDay 33 = .ok (.ifCond .eq 23, 3) := by decide +kernel
theorem dX4_readDay_36 : decode cX4_readDay 36 = .ok (.aload_n 0, 1) := by decide +kernel
theorem dX4_readDay_37 : decode cX4_readDay 37 = .ok (.getfield 9, 3) := by decide +kernel
theorem dX4_readDay_40 : decode cX4_readDay 40 = .ok (.iload_n 3, 1) := by decide +kernel
theorem dX4_readDay_41 : decode cX4_readDay 41 = .ok (.dup2, 1) := by decide +kernel
theorem dX4_readDay_42 : decode cX4_readDay 42 = .ok (.iaload, 1) := by decide +kernel
theorem dX4_readDay_43 : decode cX4_readDay 43 = .ok (.iconst 1, 1) := by decide +kernel
theorem dX4_readDay_44 : decode cX4_readDay 44 = .ok (.iadd, 1) := by decide +kernel
theorem dX4_readDay_45 : decode cX4_readDay 45 = .ok (.iastore, 1) := by decide +kernel
theorem dX4_readDay_46 : decode cX4_readDay 46 = .ok (.aload_n 0, 1) := by decide +kernel
theorem dX4_readDay_47 : decode cX4_readDay 47 = .ok (.getfield 15, 3) := by decide +kernel
theorem dX4_readDay_50 : decode cX4_readDay 50 = .ok (.iload_n 3, 1) := by decide +kernel
theorem dX4_readDay_51 : decode cX4_readDay 51 = .ok (.dup2, 1) := by decide +kernel
theorem dX4_readDay_52 : decode cX4_readDay 52 = .ok (.iaload, 1) := by decide +kernel
theorem dX4_readDay_53 : decode cX4_readDay 53 = .ok (.iload_n 2, 1) := by decide +kernel
theorem dX4_readDay_54 : decode cX4_readDay 54 = .ok (.iadd, 1) := by decide +kernel
theorem dX4_readDay_55 : decode cX4_readDay 55 = .ok (.iastore, 1) := by decide +kernel
theorem dX4_readDay_56 : decode cX4_readDay 56 = .ok (.iinc 3 1, 3) := by decide +kernel
theorem dX4_readDay_59 : decode cX4_readDay 59 = .ok (.goto (-37), 3) := by decide +kernel
theorem dX4_readDay_62 : decode cX4_readDay 62 = .ok (.return_, 1) := by decide +kernel
theorem dX5_init_0 : decode cX5_init 0 = .ok (.aload_n 0, 1) := by decide +kernel
theorem dX5_init_1 : decode cX5_init 1 = .ok (.invokespecial 1, 3) := by decide +kernel
theorem dX5_init_4 : decode cX5_init 4 = .ok (.aload_n 0, 1) := by decide +kernel
theorem dX5_init_5 : decode cX5_init 5 = .ok (.new 7, 3) := by decide +kernel
theorem dX5_init_8 : decode cX5_init 8 = .ok (.dup, 1) := by decide +kernel
theorem dX5_init_9 : decode cX5_init 9 = .ok (.invokespecial 9, 3) := by decide +kernel
theorem dX5_init_12 : decode cX5_init 12 = .ok (.putfield 10, 3) := by decide +kernel
theorem dX5_init_15 : decode cX5_init 15 = .ok (.aload_n 0, 1) := by decide +kernel
theorem dX5_init_16 : decode cX5_init 16 = .ok (.new 16, 3) := by decide +kernel
theorem dX5_init_19 : decode cX5_init 19 = .ok (.dup, 1) := by decide +kernel
theorem dX5_init_20 : decode cX5_init 20 = .ok (.invokespecial 18, 3) := by decide +kernel
theorem dX5_init_23 : decode cX5_init 23 = .ok (.putfield 19, 3) := by decide +kernel
theorem dX5_init_26 : decode cX5_init 26 = .ok (.aload_n 0, 1) := by decide +kernel
theorem dX5_init_27 : decode cX5_init 27 = .ok (.new 23, 3) := by decide +kernel
theorem dX5_init_30 : decode cX5_init 30 = .ok (.dup, 1) := by decide +kernel
theorem dX5_init_31 : decode cX5_init 31 = .ok (.aload_n 0, 1) := by decide +kernel
theorem dX5_init_32 : decode cX5_init 32 = .ok (.getfield 19, 3) := by decide +kernel
theorem dX5_init_35 : decode cX5_init 35 = .ok (.invokespecial 25, 3) := by decide +kernel
theorem dX5_init_38 : decode cX5_init 38 = .ok (.putfield 28, 3) := by decide +kernel
theorem dX5_init_41 : decode cX5_init 41 = .ok (.aload_n 0, 1) := by decide +kernel
theorem dX5_init_42 : decode cX5_init 42 = .ok (.new 32, 3) := by decide +kernel
theorem dX5_init_45 : decode cX5_init 45 = .ok (.dup, 1) := by decide +kernel
theorem dX5_init_46 : decode cX5_init 46 = .ok (.invokespecial 34, 3) := by decide +kernel
theorem dX5_init_49 : decode cX5_init 49 = .ok (.putfield 35, 3) := by decide +kernel
theorem dX5_init_52 : decode cX5_init 52 = .ok (.aload_n 0, 1) := by decide +kernel
theorem dX5_init_53 : decode cX5_init 53 = .ok (.new 39, 3) := by decide +kernel
theorem dX5_init_56 : decode cX5_init 56 = .ok (.dup, 1) := by decide +kernel
theorem dX5_init_57 : decode cX5_init 57 = .ok (.invokespecial 41, 3) := by decide +kernel
theorem dX5_init_60 : decode cX5_init 60 = .ok (.putfield 42, 3) := by decide +kernel
theorem dX5_init_63 : decode cX5_init 63 = .ok (.return_, 1) := by decide +kernel
theorem dX5_meal_0 : decode cX5_meal 0 = .ok (.iload_n 1, 1) := by decide +kernel
theorem dX5_meal_1 : decode cX5_meal 1 = .ok (.iconst 0, 1) := by decide +kernel
theorem dX5_meal_2 : decode cX5_meal 2 = .ok (.sipush 255, 3) := by decide +kernel
theorem dX5_meal_5 : decode cX5_meal 5 = .ok (.invokestatic 46, 3) := by decide +kernel
theorem dX5_meal_8 : decode cX5_meal 8 = .ok (.iload_n 2, 1) := by decide +kernel
theorem dX5_meal_9 : decode cX5_meal 9 = .ok (.iconst 0, 1) := by decide +kernel
theorem dX5_meal_10 : decode cX5_meal 10 = .ok (.sipush 255, 3) := by decide +kernel
theorem dX5_meal_13 : decode cX5_meal 13 = .ok (.invokestatic 46, 3) := by decide +kernel
theorem dX5_meal_16 : decode cX5_meal 16 = .ok (.aload_n 0, 1) := by decide +kernel
theorem dX5_meal_17 : decode cX5_meal 17 = .ok (.getfield 10, 3) := by decide +kernel
theorem dX5_meal_20 : decode cX5_meal 20 = .ok (.getfield 50, 3) := by decide +kernel
theorem dX5_meal_23 : decode cX5_meal 23 = .ok (.bipush 6, 2) := by decide +kernel
theorem dX5_meal_25 : decode cX5_meal 25 = .ok (.if_icmp .lt 13, 3) := by decide +kernel
theorem dX5_meal_28 : decode cX5_meal 28 = .ok (.new 54, 3) := by decide +kernel
theorem dX5_meal_31 : decode cX5_meal 31 = .ok (.dup, 1) := by decide +kernel
theorem dX5_meal_32 : decode cX5_meal 32 = .ok (.ldc 56, 2) := by decide +kernel
theorem dX5_meal_34 : decode cX5_meal 34 = .ok (.invokespecial 58, 3) := by decide +kernel
theorem dX5_meal_37 : decode cX5_meal 37 = .ok (.athrow, 1) := by decide +kernel
theorem dX5_meal_38 : decode cX5_meal 38 = .ok (.aload_n 0, 1) := by decide +kernel
theorem dX5_meal_39 : decode cX5_meal 39 = .ok (.getfield 10, 3) := by decide +kernel
theorem dX5_meal_42 : decode cX5_meal 42 = .ok (.iload_n 1, 1) := by decide +kernel
theorem dX5_meal_43 : decode cX5_meal 43 = .ok (.iload_n 2, 1) := by decide +kernel
theorem dX5_meal_44 : decode cX5_meal 44 = .ok (.invokevirtual 61, 3) := by decide +kernel
theorem dX5_meal_47 : decode cX5_meal 47 = .ok (.ireturn, 1) := by decide +kernel
theorem dX5_ate_0 : decode cX5_ate 0 = .ok (.aload_n 0, 1) := by decide +kernel
theorem dX5_ate_1 : decode cX5_ate 1 = .ok (.iload_n 1, 1) := by decide +kernel
theorem dX5_ate_2 : decode cX5_ate 2 = .ok (.invokevirtual 65, 3) := by decide +kernel
theorem dX5_ate_5 : decode cX5_ate 5 = .ok (.iload_n 2, 1) := by decide +kernel
theorem dX5_ate_6 : decode cX5_ate 6 = .ok (.iconst 0, 1) := by decide +kernel
theorem dX5_ate_7 : decode cX5_ate 7 = .ok (.sipush 1000, 3) := by decide +kernel
theorem dX5_ate_10 : decode cX5_ate 10 = .ok (.invokestatic 46, 3) := by decide +kernel
theorem dX5_ate_13 : decode cX5_ate 13 = .ok (.aload_n 0, 1) := by decide +kernel
theorem dX5_ate_14 : decode cX5_ate 14 = .ok (.getfield 19, 3) := by decide +kernel
theorem dX5_ate_17 : decode cX5_ate 17 = .ok (.iload_n 1, 1) := by decide +kernel
theorem dX5_ate_18 : decode cX5_ate 18 = .ok (.iload_n 2, 1) := by decide +kernel
theorem dX5_ate_19 : decode cX5_ate 19 = .ok (.invokevirtual 69, 3) := by decide +kernel
theorem dX5_ate_22 : decode cX5_ate 22 = .ok (.ireturn, 1) := by decide +kernel
theorem dX5_day_0 : decode cX5_day 0 = .ok (.iload_n 1, 1) := by decide +kernel
theorem dX5_day_1 : decode cX5_day 1 = .ok (.iconst 0, 1) := by decide +kernel
theorem dX5_day_2 : decode cX5_day 2 = .ok (.sipush 255, 3) := by decide +kernel
theorem dX5_day_5 : decode cX5_day 5 = .ok (.invokestatic 46, 3) := by decide +kernel
theorem dX5_day_8 : decode cX5_day 8 = .ok (.aload_n 0, 1) := by decide +kernel
theorem dX5_day_9 : decode cX5_day 9 = .ok (.getfield 19, 3) := by decide +kernel
theorem dX5_day_12 : decode cX5_day 12 = .ok (.getfield 72, 3) := by decide +kernel
theorem dX5_day_15 : decode cX5_day 15 = .ok (.sipush 150, 3) := by decide +kernel
theorem dX5_day_18 : decode cX5_day 18 = .ok (.if_icmp .lt 13, 3) := by decide +kernel
theorem dX5_day_21 : decode cX5_day 21 = .ok (.new 54, 3) := by decide +kernel
theorem dX5_day_24 : decode cX5_day 24 = .ok (.dup, 1) := by decide +kernel
theorem dX5_day_25 : decode cX5_day 25 = .ok (.ldc 75, 2) := by decide +kernel
theorem dX5_day_27 : decode cX5_day 27 = .ok (.invokespecial 58, 3) := by decide +kernel
theorem dX5_day_30 : decode cX5_day 30 = .ok (.athrow, 1) := by decide +kernel
theorem dX5_day_31 : decode cX5_day 31 = .ok (.aload_n 0, 1) := by decide +kernel
theorem dX5_day_32 : decode cX5_day 32 = .ok (.getfield 19, 3) := by decide +kernel
theorem dX5_day_35 : decode cX5_day 35 = .ok (.iload_n 1, 1) := by decide +kernel
theorem dX5_day_36 : decode cX5_day 36 = .ok (.invokevirtual 77, 3) := by decide +kernel
theorem dX5_day_39 : decode cX5_day 39 = .ok (.ireturn, 1) := by decide +kernel
theorem dX5_drop_0 : decode cX5_drop 0 = .ok (.iload_n 1, 1) := by decide +kernel
theorem dX5_drop_1 : decode cX5_drop 1 = .ok (.ifCond .lt 14, 3) := by decide +kernel
theorem dX5_drop_4 : decode cX5_drop 4 = .ok (.iload_n 1, 1) := by decide +kernel
theorem dX5_drop_5 : decode cX5_drop 5 = .ok (.aload_n 0, 1) := by decide +kernel
theorem dX5_drop_6 : decode cX5_drop 6 = .ok (.getfield 19, 3) := by decide +kernel
theorem dX5_drop_9 : decode cX5_drop 9 = .ok (.getfield 72, 3) := by decide +kernel
theorem dX5_drop_12 : decode cX5_drop 12 = .ok (.if_icmp .lt 13, 3) := by decide +kernel
theorem dX5_drop_15 : decode cX5_drop 15 = .ok (.new 80, 3) := by decide +kernel
theorem dX5_drop_18 : decode cX5_drop 18 = .ok (.dup, 1) := by decide +kernel
theorem dX5_drop_19 : decode cX5_drop 19 = .ok (.ldc 82, 2) := by decide +kernel
theorem dX5_drop_21 : decode cX5_drop 21 = .ok (.invokespecial 84, 3) := by decide +kernel
theorem dX5_drop_24 : decode cX5_drop 24 = .ok (.athrow, 1) := by decide +kernel
theorem dX5_drop_25 : decode cX5_drop 25 = .ok (.aload_n 0, 1) := by decide +kernel
theorem dX5_drop_26 : decode cX5_drop 26 = .ok (.getfield 19, 3) := by decide +kernel
theorem dX5_drop_29 : decode cX5_drop 29 = .ok (.iload_n 1, 1) := by decide +kernel
theorem dX5_drop_30 : decode cX5_drop 30 = .ok (.invokevirtual 85, 3) := by decide +kernel
theorem dX5_drop_33 : decode cX5_drop 33 = .ok (.ireturn, 1) := by decide +kernel
theorem dX5_leaves_0 : decode cX5_leaves 0 = .ok (.aload_n 0, 1) := by decide +kernel
theorem dX5_leaves_1 : decode cX5_leaves 1 = .ok (.iload_n 1, 1) := by decide +kernel
theorem dX5_leaves_2 : decode cX5_leaves 2 = .ok (.invokevirtual 65, 3) := by decide +kernel
theorem dX5_leaves_5 : decode cX5_leaves 5 = .ok (.aload_n 0, 1) := by decide +kernel
theorem dX5_leaves_6 : decode cX5_leaves 6 = .ok (.getfield 28, 3) := by decide +kernel
theorem dX5_leaves_9 : decode cX5_leaves 9 = .ok (.iload_n 1, 1) := by decide +kernel
theorem dX5_leaves_10 : decode cX5_leaves 10 = .ok (.iconst 0, 1) := by decide +kernel
theorem dX5_leaves_11 : decode cX5_leaves 11 = .ok (.iconst 0, 1) := by decide +kernel
theorem dX5_leaves_12 : decode cX5_leaves 12 = .ok (.iconst 0, 1) := by decide +kernel
theorem dX5_leaves_13 : decode cX5_leaves 13 = .ok (.invokevirtual 89, 3) := by decide +kernel
theorem dX5_leaves_16 : decode cX5_leaves 16 = .ok (.ireturn, 1) := by decide +kernel
theorem dX5_split_0 : decode cX5_split 0 = .ok (.aload_n 0, 1) := by decide +kernel
theorem dX5_split_1 : decode cX5_split 1 = .ok (.iload_n 1, 1) := by decide +kernel
theorem dX5_split_2 : decode cX5_split 2 = .ok (.invokevirtual 65, 3) := by decide +kernel
theorem dX5_split_5 : decode cX5_split 5 = .ok (.iload_n 2, 1) := by decide +kernel
theorem dX5_split_6 : decode cX5_split 6 = .ok (.iconst 0, 1) := by decide +kernel
theorem dX5_split_7 : decode cX5_split 7 = .ok (.sipush 255, 3) := by decide +kernel
theorem dX5_split_10 : decode cX5_split 10 = .ok (.invokestatic 46, 3) := by decide +kernel
theorem dX5_split_13 : decode cX5_split 13 = .ok (.aload_n 0, 1) := by decide +kernel
theorem dX5_split_14 : decode cX5_split 14 = .ok (.getfield 28, 3) := by decide +kernel
theorem dX5_split_17 : decode cX5_split 17 = .ok (.iload_n 1, 1) := by decide +kernel
theorem dX5_split_18 : decode cX5_split 18 = .ok (.iload_n 2, 1) := by decide +kernel
theorem dX5_split_19 : decode cX5_split 19 = .ok (.iload_n 3, 1) := by decide +kernel
theorem dX5_split_20 : decode cX5_split 20 = .ok (.invokevirtual 93, 3) := by decide +kernel
theorem dX5_split_23 : decode cX5_split 23 = .ok (.ireturn, 1) := by decide +kernel
theorem dX5_leaf_0 : decode cX5_leaf 0 = .ok (.aload_n 0, 1) := by decide +kernel
theorem dX5_leaf_1 : decode cX5_leaf 1 = .ok (.iload_n 1, 1) := by decide +kernel
theorem dX5_leaf_2 : decode cX5_leaf 2 = .ok (.invokevirtual 65, 3) := by decide +kernel
theorem dX5_leaf_5 : decode cX5_leaf 5 = .ok (.iload_n 2, 1) := by decide +kernel
theorem dX5_leaf_6 : decode cX5_leaf 6 = .ok (.iconst 0, 1) := by decide +kernel
theorem dX5_leaf_7 : decode cX5_leaf 7 = .ok (.sipush 255, 3) := by decide +kernel
theorem dX5_leaf_10 : decode cX5_leaf 10 = .ok (.invokestatic 46, 3) := by decide +kernel
theorem dX5_leaf_13 : decode cX5_leaf 13 = .ok (.iload_n 3, 1) := by decide +kernel
theorem dX5_leaf_14 : decode cX5_leaf 14 = .ok (.iconst 0, 1) := by decide +kernel
theorem dX5_leaf_15 : decode cX5_leaf 15 = .ok (.iconst 3, 1) := by decide +kernel
theorem dX5_leaf_16 : decode cX5_leaf 16 = .ok (.invokestatic 46, 3) := by decide +kernel
theorem dX5_leaf_19 : decode cX5_leaf 19 = .ok (.aload_n 0, 1) := by decide +kernel
theorem dX5_leaf_20 : decode cX5_leaf 20 = .ok (.getfield 19, 3) := by decide +kernel
theorem dX5_leaf_23 : decode cX5_leaf 23 = .ok (.iload_n 1, 1) := by decide +kernel
theorem dX5_leaf_24 : decode cX5_leaf 24 = .ok (.aload_n 0, 1) := by decide +kernel
theorem dX5_leaf_25 : decode cX5_leaf 25 = .ok (.getfield 28, 3) := by decide +kernel
theorem dX5_leaf_28 : decode cX5_leaf 28 = .ok (.iload_n 1, 1) := by decide +kernel
theorem dX5_leaf_29 : decode cX5_leaf 29 = .ok (.iload_n 2, 1) := by decide +kernel
theorem dX5_leaf_30 : decode cX5_leaf 30 = .ok (.invokevirtual 97, 3) := by decide +kernel
theorem dX5_leaf_33 : decode cX5_leaf 33 = .ok (.iload_n 2, 1) := by decide +kernel
theorem dX5_leaf_34 : decode cX5_leaf 34 = .ok (.iload_n 3, 1) := by decide +kernel
theorem dX5_leaf_35 : decode cX5_leaf 35 = .ok (.invokevirtual 100, 3) := by decide +kernel
theorem dX5_leaf_38 : decode cX5_leaf 38 = .ok (.ireturn, 1) := by decide +kernel
theorem dX5_size_0 : decode cX5_size 0 = .ok (.iload_n 1, 1) := by decide +kernel
theorem dX5_size_1 : decode cX5_size 1 = .ok (.iconst 1, 1) := by decide +kernel
theorem dX5_size_2 : decode cX5_size 2 = .ok (.sipush 200, 3) := by decide +kernel
theorem dX5_size_5 : decode cX5_size 5 = .ok (.invokestatic 46, 3) := by decide +kernel
theorem dX5_size_8 : decode cX5_size 8 = .ok (.iload_n 2, 1) := by decide +kernel
theorem dX5_size_9 : decode cX5_size 9 = .ok (.iconst 1, 1) := by decide +kernel
theorem dX5_size_10 : decode cX5_size 10 = .ok (.sipush 10000, 3) := by decide +kernel
theorem dX5_size_13 : decode cX5_size 13 = .ok (.invokestatic 46, 3) := by decide +kernel
theorem dX5_size_16 : decode cX5_size 16 = .ok (.aload_n 0, 1) := by decide +kernel
theorem dX5_size_17 : decode cX5_size 17 = .ok (.getfield 35, 3) := by decide +kernel
theorem dX5_size_20 : decode cX5_size 20 = .ok (.getfield 103, 3) := by decide +kernel
theorem dX5_size_23 : decode cX5_size 23 = .ok (.iconst 4, 1) := by decide +kernel
theorem dX5_size_24 : decode cX5_size 24 = .ok (.if_icmp .lt 13, 3) := by decide +kernel
theorem dX5_size_27 : decode cX5_size 27 = .ok (.new 54, 3) := by decide +kernel
theorem dX5_size_30 : decode cX5_size 30 = .ok (.dup, 1) := by decide +kernel
theorem dX5_size_31 : decode cX5_size 31 = .ok (.ldc 106, 2) := by decide +kernel
theorem dX5_size_33 : decode cX5_size 33 = .ok (.invokespecial 58, 3) := by decide +kernel
theorem dX5_size_36 : decode cX5_size 36 = .ok (.athrow, 1) := by decide +kernel
theorem dX5_size_37 : decode cX5_size 37 = .ok (.aload_n 0, 1) := by decide +kernel
theorem dX5_size_38 : decode cX5_size 38 = .ok (.getfield 35, 3) := by decide +kernel
theorem dX5_size_41 : decode cX5_size 41 = .ok (.iload_n 1, 1) := by decide +kernel
theorem dX5_size_42 : decode cX5_size 42 = .ok (.iload_n 2, 1) := by decide +kernel
theorem dX5_size_43 : decode cX5_size 43 = .ok (.invokevirtual 108, 3) := by decide +kernel
theorem dX5_size_46 : decode cX5_size 46 = .ok (.ireturn, 1) := by decide +kernel
theorem dX5_prices_0 : decode cX5_prices 0 = .ok (.iload_n 1, 1) := by decide +kernel
theorem dX5_prices_1 : decode cX5_prices 1 = .ok (.iconst 0, 1) := by decide +kernel
theorem dX5_prices_2 : decode cX5_prices 2 = .ok (.sipush 1000, 3) := by decide +kernel
theorem dX5_prices_5 : decode cX5_prices 5 = .ok (.invokestatic 46, 3) := by decide +kernel
theorem dX5_prices_8 : decode cX5_prices 8 = .ok (.iload_n 2, 1) := by decide +kernel
theorem dX5_prices_9 : decode cX5_prices 9 = .ok (.iconst 0, 1) := by decide +kernel
theorem dX5_prices_10 : decode cX5_prices 10 = .ok (.sipush 1000, 3) := by decide +kernel
theorem dX5_prices_13 : decode cX5_prices 13 = .ok (.invokestatic 46, 3) := by decide +kernel
theorem dX5_prices_16 : decode cX5_prices 16 = .ok (.aload_n 0, 1) := by decide +kernel
theorem dX5_prices_17 : decode cX5_prices 17 = .ok (.getfield 35, 3) := by decide +kernel
theorem dX5_prices_20 : decode cX5_prices 20 = .ok (.iload_n 1, 1) := by decide +kernel
theorem dX5_prices_21 : decode cX5_prices 21 = .ok (.putfield 109, 3) := by decide +kernel
theorem dX5_prices_24 : decode cX5_prices 24 = .ok (.aload_n 0, 1) := by decide +kernel
theorem dX5_prices_25 : decode cX5_prices 25 = .ok (.getfield 35, 3) := by decide +kernel
theorem dX5_prices_28 : decode cX5_prices 28 = .ok (.iload_n 2, 1) := by decide +kernel
theorem dX5_prices_29 : decode cX5_prices 29 = .ok (.putfield 112, 3) := by decide +kernel
theorem dX5_prices_32 : decode cX5_prices 32 = .ok (.return_, 1) := by decide +kernel
theorem dX5_cost_0 : decode cX5_cost 0 = .ok (.aload_n 0, 1) := by decide +kernel
theorem dX5_cost_1 : decode cX5_cost 1 = .ok (.iload_n 1, 1) := by decide +kernel
theorem dX5_cost_2 : decode cX5_cost 2 = .ok (.iload_n 2, 1) := by decide +kernel
theorem dX5_cost_3 : decode cX5_cost 3 = .ok (.iload_n 3, 1) := by decide +kernel
theorem dX5_cost_4 : decode cX5_cost 4 = .ok (.invokevirtual 115, 3) := by decide +kernel
theorem dX5_cost_7 : decode cX5_cost 7 = .ok (.ifCond .eq 13, 3) := by decide +kernel
theorem dX5_cost_10 : decode cX5_cost 10 = .ok (.aload_n 0, 1) := by decide +kernel
theorem dX5_cost_11 : decode cX5_cost 11 = .ok (.getfield 35, 3) := by decide +kernel
theorem dX5_cost_14 : decode cX5_cost 14 = .ok (.getfield 119, 3) := by decide +kernel
theorem dX5_cost_17 : decode cX5_cost 17 = .ok (.goto 6, 3) := by decide +kernel
theorem dX5_cost_20 : decode cX5_cost 20 = .ok (.ldc2_w 123, 3) := by decide +kernel
theorem dX5_cost_23 : decode cX5_cost 23 = .ok (.lreturn, 1) := by decide +kernel
theorem dX5_pots_0 : decode cX5_pots 0 = .ok (.aload_n 0, 1) := by decide +kernel
theorem dX5_pots_1 : decode cX5_pots 1 = .ok (.iload_n 1, 1) := by decide +kernel
theorem dX5_pots_2 : decode cX5_pots 2 = .ok (.iload_n 2, 1) := by decide +kernel
theorem dX5_pots_3 : decode cX5_pots 3 = .ok (.iload_n 3, 1) := by decide +kernel
theorem dX5_pots_4 : decode cX5_pots 4 = .ok (.invokevirtual 115, 3) := by decide +kernel
theorem dX5_pots_7 : decode cX5_pots 7 = .ok (.ifCond .eq 15, 3) := by decide +kernel
theorem dX5_pots_10 : decode cX5_pots 10 = .ok (.aload_n 0, 1) := by decide +kernel
theorem dX5_pots_11 : decode cX5_pots 11 = .ok (.getfield 35, 3) := by decide +kernel
theorem dX5_pots_14 : decode cX5_pots 14 = .ok (.iload 4, 2) := by decide +kernel
theorem dX5_pots_16 : decode cX5_pots 16 = .ok (.invokevirtual 125, 3) := by decide +kernel
theorem dX5_pots_19 : decode cX5_pots 19 = .ok (.goto 4, 3) := by decide +kernel
theorem dX5_pots_22 : decode cX5_pots 22 = .ok (.iconst (-1), 1) := by decide +kernel
theorem dX5_pots_23 : decode cX5_pots 23 = .ok (.ireturn, 1) := by decide +kernel
theorem dX5_ladles_0 : decode cX5_ladles 0 = .ok (.aload_n 0, 1) := by decide +kernel
theorem dX5_ladles_1 : decode cX5_ladles 1 = .ok (.getfield 10, 3) := by decide +kernel
theorem dX5_ladles_4 : decode cX5_ladles 4 = .ok (.invokevirtual 128, 3) := by decide +kernel
theorem dX5_ladles_7 : decode cX5_ladles 7 = .ok (.ireturn, 1) := by decide +kernel
theorem dX5_ladle_0 : decode cX5_ladle 0 = .ok (.aload_n 0, 1) := by decide +kernel
theorem dX5_ladle_1 : decode cX5_ladle 1 = .ok (.iload_n 1, 1) := by decide +kernel
theorem dX5_ladle_2 : decode cX5_ladle 2 = .ok (.invokevirtual 65, 3) := by decide +kernel
theorem dX5_ladle_5 : decode cX5_ladle 5 = .ok (.aload_n 0, 1) := by decide +kernel
theorem dX5_ladle_6 : decode cX5_ladle 6 = .ok (.getfield 10, 3) := by decide +kernel
theorem dX5_ladle_9 : decode cX5_ladle 9 = .ok (.invokevirtual 128, 3) := by decide +kernel
theorem dX5_ladle_12 : decode cX5_ladle 12 = .ok (.iconst (-1), 1) := by decide +kernel
theorem dX5_ladle_13 : decode cX5_ladle 13 = .ok (.if_icmp .ne 7, 3) := by decide +kernel
theorem dX5_ladle_16 : decode cX5_ladle 16 = .ok (.iconst (-1), 1) := by decide +kernel
theorem dX5_ladle_17 : decode cX5_ladle 17 = .ok (.goto 12, 3) := by decide +kernel
theorem dX5_ladle_20 : decode cX5_ladle 20 = .ok (.aload_n 0, 1) := by decide +kernel
theorem dX5_ladle_21 : decode cX5_ladle 21 = .ok (.getfield 10, 3) := by decide +kernel
theorem dX5_ladle_24 : decode cX5_ladle 24 = .ok (.getfield 132, 3) := by decide +kernel
theorem dX5_ladle_27 : decode cX5_ladle 27 = .ok (.iload_n 1, 1) := by decide +kernel
theorem dX5_ladle_28 : decode cX5_ladle 28 = .ok (.iaload, 1) := by decide +kernel
theorem dX5_ladle_29 : decode cX5_ladle 29 = .ok (.ireturn, 1) := by decide +kernel
theorem dX5_come_0 : decode cX5_come 0 = .ok (.iload_n 1, 1) := by decide +kernel
theorem dX5_come_1 : decode cX5_come 1 = .ok (.iconst 0, 1) := by decide +kernel
theorem dX5_come_2 : decode cX5_come 2 = .ok (.bipush 100, 2) := by decide +kernel
theorem dX5_come_4 : decode cX5_come 4 = .ok (.invokestatic 46, 3) := by decide +kernel
theorem dX5_come_7 : decode cX5_come 7 = .ok (.aload_n 0, 1) := by decide +kernel
theorem dX5_come_8 : decode cX5_come 8 = .ok (.getfield 42, 3) := by decide +kernel
theorem dX5_come_11 : decode cX5_come 11 = .ok (.getfield 136, 3) := by decide +kernel
theorem dX5_come_14 : decode cX5_come 14 = .ok (.bipush 60, 2) := by decide +kernel
theorem dX5_come_16 : decode cX5_come 16 = .ok (.if_icmp .lt 7, 3) := by decide +kernel
theorem dX5_come_19 : decode cX5_come 19 = .ok (.iconst (-1), 1) := by decide +kernel
theorem dX5_come_20 : decode cX5_come 20 = .ok (.goto 11, 3) := by decide +kernel
theorem dX5_come_23 : decode cX5_come 23 = .ok (.aload_n 0, 1) := by decide +kernel
theorem dX5_come_24 : decode cX5_come 24 = .ok (.getfield 42, 3) := by decide +kernel
theorem dX5_come_27 : decode cX5_come 27 = .ok (.iload_n 1, 1) := by decide +kernel
theorem dX5_come_28 : decode cX5_come 28 = .ok (.invokevirtual 139, 3) := by decide +kernel
theorem dX5_come_31 : decode cX5_come 31 = .ok (.ireturn, 1) := by decide +kernel
theorem dX5_hatch_0 : decode cX5_hatch 0 = .ok (.iload_n 1, 1) := by decide +kernel
theorem dX5_hatch_1 : decode cX5_hatch 1 = .ok (.iconst 1, 1) := by decide +kernel
theorem dX5_hatch_2 : decode cX5_hatch 2 = .ok (.bipush 100, 2) := by decide +kernel
theorem dX5_hatch_4 : decode cX5_hatch 4 = .ok (.invokestatic 46, 3) := by decide +kernel
theorem dX5_hatch_7 : decode cX5_hatch 7 = .ok (.iload_n 2, 1) := by decide +kernel
theorem dX5_hatch_8 : decode cX5_hatch 8 = .ok (.iconst 0, 1) := by decide +kernel
theorem dX5_hatch_9 : decode cX5_hatch 9 = .ok (.iconst 3, 1) := by decide +kernel
theorem dX5_hatch_10 : decode cX5_hatch 10 = .ok (.invokestatic 46, 3) := by decide +kernel
theorem dX5_hatch_13 : decode cX5_hatch 13 = .ok (.aload_n 0, 1) := by decide +kernel
theorem dX5_hatch_14 : decode cX5_hatch 14 = .ok (.getfield 42, 3) := by decide +kernel
theorem dX5_hatch_17 : decode cX5_hatch 17 = .ok (.iload_n 1, 1) := by decide +kernel
theorem dX5_hatch_18 : decode cX5_hatch 18 = .ok (.iload_n 2, 1) := by decide +kernel
theorem dX5_hatch_19 : decode cX5_hatch 19 = .ok (.invokevirtual 140, 3) := by decide +kernel
theorem dX5_hatch_22 : decode cX5_hatch 22 = .ok (.ireturn, 1) := by decide +kernel
theorem dX5_serve_0 : decode cX5_serve 0 = .ok (.iload_n 1, 1) := by decide +kernel
theorem dX5_serve_1 : decode cX5_serve 1 = .ok (.ifCond .ge 13, 3) := by decide +kernel
theorem dX5_serve_4 : decode cX5_serve 4 = .ok (.new 142, 3) := by decide +kernel
theorem dX5_serve_7 : decode cX5_serve 7 = .ok (.dup, 1) := by decide +kernel
theorem dX5_serve_8 : decode cX5_serve 8 = .ok (.ldc 144, 2) := by decide +kernel
theorem dX5_serve_10 : decode cX5_serve 10 = .ok (.invokespecial 146, 3) := by decide +kernel
theorem dX5_serve_13 : decode cX5_serve 13 = .ok (.athrow, 1) := by decide +kernel
theorem dX5_serve_14 : decode cX5_serve 14 = .ok (.aload_n 0, 1) := by decide +kernel
theorem dX5_serve_15 : decode cX5_serve 15 = .ok (.getfield 42, 3) := by decide +kernel
theorem dX5_serve_18 : decode cX5_serve 18 = .ok (.iload_n 1, 1) := by decide +kernel
theorem dX5_serve_19 : decode cX5_serve 19 = .ok (.invokevirtual 147, 3) := by decide +kernel
theorem dX5_serve_22 : decode cX5_serve 22 = .ok (.ireturn, 1) := by decide +kernel
theorem dX5_empty_0 : decode cX5_empty 0 = .ok (.aload_n 0, 1) := by decide +kernel
theorem dX5_empty_1 : decode cX5_empty 1 = .ok (.getfield 42, 3) := by decide +kernel
theorem dX5_empty_4 : decode cX5_empty 4 = .ok (.invokevirtual 150, 3) := by decide +kernel
theorem dX5_empty_7 : decode cX5_empty 7 = .ok (.ireturn, 1) := by decide +kernel
theorem dX5_count_0 : decode cX5_count 0 = .ok (.iload_n 1, 1) := by decide +kernel
theorem dX5_count_1 : decode cX5_count 1 = .ok (.tableswitch 83 0 4 #[35, 43, 59, 67, 75], 35) := by decide +kernel
theorem dX5_count_36 : decode cX5_count 36 = .ok (.aload_n 0, 1) := by decide +kernel
theorem dX5_count_37 : decode cX5_count 37 = .ok (.getfield 10, 3) := by decide +kernel
theorem dX5_count_40 : decode cX5_count 40 = .ok (.getfield 50, 3) := by decide +kernel
theorem dX5_count_43 : decode cX5_count 43 = .ok (.ireturn, 1) := by decide +kernel
theorem dX5_count_44 : decode cX5_count 44 = .ok (.aload_n 0, 1) := by decide +kernel
theorem dX5_count_45 : decode cX5_count 45 = .ok (.getfield 19, 3) := by decide +kernel
theorem dX5_count_48 : decode cX5_count 48 = .ok (.getfield 72, 3) := by decide +kernel
theorem dX5_count_51 : decode cX5_count 51 = .ok (.aload_n 0, 1) := by decide +kernel
theorem dX5_count_52 : decode cX5_count 52 = .ok (.getfield 19, 3) := by decide +kernel
theorem dX5_count_55 : decode cX5_count 55 = .ok (.getfield 153, 3) := by decide +kernel
theorem dX5_count_58 : decode cX5_count 58 = .ok (.isub, 1) := by decide +kernel
theorem dX5_count_59 : decode cX5_count 59 = .ok (.ireturn, 1) := by decide +kernel
theorem dX5_count_60 : decode cX5_count 60 = .ok (.aload_n 0, 1) := by decide +kernel
theorem dX5_count_61 : decode cX5_count 61 = .ok (.getfield 19, 3) := by decide +kernel
theorem dX5_count_64 : decode cX5_count 64 = .ok (.getfield 72, 3) := by decide +kernel
theorem dX5_count_67 : decode cX5_count 67 = .ok (.ireturn, 1) := by decide +kernel
theorem dX5_count_68 : decode cX5_count 68 = .ok (.aload_n 0, 1) := by decide +kernel
theorem dX5_count_69 : decode cX5_count 69 = .ok (.getfield 35, 3) := by decide +kernel
theorem dX5_count_72 : decode cX5_count 72 = .ok (.getfield 103, 3) := by decide +kernel
theorem dX5_count_75 : decode cX5_count 75 = .ok (.ireturn, 1) := by decide +kernel
theorem dX5_count_76 : decode cX5_count 76 = .ok (.aload_n 0, 1) := by decide +kernel
theorem dX5_count_77 : decode cX5_count 77 = .ok (.getfield 42, 3) := by decide +kernel
theorem dX5_count_80 : decode cX5_count 80 = .ok (.getfield 136, 3) := by decide +kernel
theorem dX5_count_83 : decode cX5_count 83 = .ok (.ireturn, 1) := by decide +kernel
theorem dX5_count_84 : decode cX5_count 84 = .ok (.iconst (-1), 1) := by decide +kernel
theorem dX5_count_85 : decode cX5_count 85 = .ok (.ireturn, 1) := by decide +kernel
theorem dX5_needWithin_0 : decode cX5_needWithin 0 = .ok (.iload_n 0, 1) := by decide +kernel
theorem dX5_needWithin_1 : decode cX5_needWithin 1 = .ok (.iload_n 1, 1) := by decide +kernel
theorem dX5_needWithin_2 : decode cX5_needWithin 2 = .ok (.if_icmp .lt 8, 3) := by decide +kernel
theorem dX5_needWithin_5 : decode cX5_needWithin 5 = .ok (.iload_n 0, 1) := by decide +kernel
theorem dX5_needWithin_6 : decode cX5_needWithin 6 = .ok (.iload_n 2, 1) := by decide +kernel
theorem dX5_needWithin_7 : decode cX5_needWithin 7 = .ok (.if_icmp .le 13, 3) := by decide +kernel
theorem dX5_needWithin_10 : decode cX5_needWithin 10 = .ok (.new 142, 3) := by decide +kernel
theorem dX5_needWithin_13 : decode cX5_needWithin 13 = .ok (.dup, 1) := by decide +kernel
theorem dX5_needWithin_14 : decode cX5_needWithin 14 = .ok (.ldc 156, 2) := by decide +kernel
theorem dX5_needWithin_16 : decode cX5_needWithin 16 = .ok (.invokespecial 146, 3) := by decide +kernel
theorem dX5_needWithin_19 : decode cX5_needWithin 19 = .ok (.athrow, 1) := by decide +kernel
theorem dX5_needWithin_20 : decode cX5_needWithin 20 = .ok (.return_, 1) := by decide +kernel
theorem dX5_needMeal_0 : decode cX5_needMeal 0 = .ok (.iload_n 1, 1) := by decide +kernel
theorem dX5_needMeal_1 : decode cX5_needMeal 1 = .ok (.ifCond .lt 14, 3) := by decide +kernel
theorem dX5_needMeal_4 : decode cX5_needMeal 4 = .ok (.iload_n 1, 1) := by decide +kernel
theorem dX5_needMeal_5 : decode cX5_needMeal 5 = .ok (.aload_n 0, 1) := by decide +kernel
theorem dX5_needMeal_6 : decode cX5_needMeal 6 = .ok (.getfield 10, 3) := by decide +kernel
theorem dX5_needMeal_9 : decode cX5_needMeal 9 = .ok (.getfield 50, 3) := by decide +kernel
theorem dX5_needMeal_12 : decode cX5_needMeal 12 = .ok (.if_icmp .lt 13, 3) := by decide +kernel
theorem dX5_needMeal_15 : decode cX5_needMeal 15 = .ok (.new 80, 3) := by decide +kernel
theorem dX5_needMeal_18 : decode cX5_needMeal 18 = .ok (.dup, 1) := by decide +kernel
theorem dX5_needMeal_19 : decode cX5_needMeal 19 = .ok (.ldc 158, 2) := by decide +kernel
theorem dX5_needMeal_21 : decode cX5_needMeal 21 = .ok (.invokespecial 84, 3) := by decide +kernel
theorem dX5_needMeal_24 : decode cX5_needMeal 24 = .ok (.athrow, 1) := by decide +kernel
theorem dX5_needMeal_25 : decode cX5_needMeal 25 = .ok (.return_, 1) := by decide +kernel
theorem dX5_findBestSet_0 : decode cX5_findBestSet 0 = .ok (.aload_n 0, 1) := by decide +kernel
theorem dX5_findBestSet_1 : decode cX5_findBestSet 1 = .ok (.iload_n 1, 1) := by decide +kernel
theorem dX5_findBestSet_2 : decode cX5_findBestSet 2 = .ok (.invokevirtual 65, 3) := by decide +kernel
theorem dX5_findBestSet_5 : decode cX5_findBestSet 5 = .ok (.iload_n 2, 1) := by decide +kernel
theorem dX5_findBestSet_6 : decode cX5_findBestSet 6 = .ok (.iconst 0, 1) := by decide +kernel
theorem dX5_findBestSet_7 : decode cX5_findBestSet 7 = .ok (.sipush 255, 3) := by decide +kernel
theorem dX5_findBestSet_10 : decode cX5_findBestSet 10 = .ok (.invokestatic 46, 3) := by decide +kernel
theorem dX5_findBestSet_13 : decode cX5_findBestSet 13 = .ok (.iload_n 3, 1) := by decide +kernel
theorem dX5_findBestSet_14 : decode cX5_findBestSet 14 = .ok (.iconst 0, 1) := by decide +kernel
theorem dX5_findBestSet_15 : decode cX5_findBestSet 15 = .ok (.sipush 10000, 3) := by decide +kernel
theorem dX5_findBestSet_18 : decode cX5_findBestSet 18 = .ok (.invokestatic 46, 3) := by decide +kernel
theorem dX5_findBestSet_21 : decode cX5_findBestSet 21 = .ok (.aload_n 0, 1) := by decide +kernel
theorem dX5_findBestSet_22 : decode cX5_findBestSet 22 = .ok (.getfield 35, 3) := by decide +kernel
theorem dX5_findBestSet_25 : decode cX5_findBestSet 25 = .ok (.aload_n 0, 1) := by decide +kernel
theorem dX5_findBestSet_26 : decode cX5_findBestSet 26 = .ok (.getfield 19, 3) := by decide +kernel
theorem dX5_findBestSet_29 : decode cX5_findBestSet 29 = .ok (.iload_n 1, 1) := by decide +kernel
theorem dX5_findBestSet_30 : decode cX5_findBestSet 30 = .ok (.aload_n 0, 1) := by decide +kernel
theorem dX5_findBestSet_31 : decode cX5_findBestSet 31 = .ok (.getfield 28, 3) := by decide +kernel
theorem dX5_findBestSet_34 : decode cX5_findBestSet 34 = .ok (.iload_n 1, 1) := by decide +kernel
theorem dX5_findBestSet_35 : decode cX5_findBestSet 35 = .ok (.iload_n 2, 1) := by decide +kernel
theorem dX5_findBestSet_36 : decode cX5_findBestSet 36 = .ok (.invokevirtual 97, 3) := by decide +kernel
theorem dX5_findBestSet_39 : decode cX5_findBestSet 39 = .ok (.iload_n 2, 1) := by decide +kernel
theorem dX5_findBestSet_40 : decode cX5_findBestSet 40 = .ok (.invokevirtual 160, 3) := by decide +kernel
theorem dX5_findBestSet_43 : decode cX5_findBestSet 43 = .ok (.aload_n 0, 1) := by decide +kernel
theorem dX5_findBestSet_44 : decode cX5_findBestSet 44 = .ok (.getfield 35, 3) := by decide +kernel
theorem dX5_findBestSet_47 : decode cX5_findBestSet 47 = .ok (.getfield 164, 3) := by decide +kernel
theorem dX5_findBestSet_50 : decode cX5_findBestSet 50 = .ok (.ifCond .ne 5, 3) := by decide +kernel
theorem dX5_findBestSet_53 : decode cX5_findBestSet 53 = .ok (.iconst 0, 1) := by decide +kernel
theorem dX5_findBestSet_54 : decode cX5_findBestSet 54 = .ok (.ireturn, 1) := by decide +kernel
theorem dX5_findBestSet_55 : decode cX5_findBestSet 55 = .ok (.aload_n 0, 1) := by decide +kernel
theorem dX5_findBestSet_56 : decode cX5_findBestSet 56 = .ok (.getfield 35, 3) := by decide +kernel
theorem dX5_findBestSet_59 : decode cX5_findBestSet 59 = .ok (.iload_n 3, 1) := by decide +kernel
theorem dX5_findBestSet_60 : decode cX5_findBestSet 60 = .ok (.invokevirtual 167, 3) := by decide +kernel
theorem dX5_findBestSet_63 : decode cX5_findBestSet 63 = .ok (.iconst 1, 1) := by decide +kernel
theorem dX5_findBestSet_64 : decode cX5_findBestSet 64 = .ok (.ireturn, 1) := by decide +kernel
theorem dX6_init_0 : decode cX6_init 0 = .ok (.aload_n 0, 1) := by decide +kernel
theorem dX6_init_1 : decode cX6_init 1 = .ok (.invokespecial 1, 3) := by decide +kernel
theorem dX6_init_4 : decode cX6_init 4 = .ok (.aload_n 0, 1) := by decide +kernel
theorem dX6_init_5 : decode cX6_init 5 = .ok (.bipush 6, 2) := by decide +kernel
theorem dX6_init_7 : decode cX6_init 7 = .ok (.newarray .int, 2) := by decide +kernel
theorem dX6_init_9 : decode cX6_init 9 = .ok (.putfield 9, 3) := by decide +kernel
theorem dX6_init_12 : decode cX6_init 12 = .ok (.aload_n 0, 1) := by decide +kernel
theorem dX6_init_13 : decode cX6_init 13 = .ok (.bipush 6, 2) := by decide +kernel
theorem dX6_init_15 : decode cX6_init 15 = .ok (.newarray .int, 2) := by decide +kernel
theorem dX6_init_17 : decode cX6_init 17 = .ok (.putfield 13, 3) := by decide +kernel
theorem dX6_init_20 : decode cX6_init 20 = .ok (.aload_n 0, 1) := by decide +kernel
theorem dX6_init_21 : decode cX6_init 21 = .ok (.bipush 6, 2) := by decide +kernel
theorem dX6_init_23 : decode cX6_init 23 = .ok (.newarray .int, 2) := by decide +kernel
theorem dX6_init_25 : decode cX6_init 25 = .ok (.putfield 16, 3) := by decide +kernel
theorem dX6_init_28 : decode cX6_init 28 = .ok (.aload_n 0, 1) := by decide +kernel
theorem dX6_init_29 : decode cX6_init 29 = .ok (.sipush 150, 3) := by decide +kernel
theorem dX6_init_32 : decode cX6_init 32 = .ok (.newarray .int, 2) := by decide +kernel
theorem dX6_init_34 : decode cX6_init 34 = .ok (.putfield 19, 3) := by decide +kernel
theorem dX6_init_37 : decode cX6_init 37 = .ok (.aload_n 0, 1) := by decide +kernel
theorem dX6_init_38 : decode cX6_init 38 = .ok (.sipush 900, 3) := by decide +kernel
theorem dX6_init_41 : decode cX6_init 41 = .ok (.newarray .int, 2) := by decide +kernel
theorem dX6_init_43 : decode cX6_init 43 = .ok (.putfield 22, 3) := by decide +kernel
theorem dX6_init_46 : decode cX6_init 46 = .ok (.aload_n 0, 1) := by decide +kernel
theorem dX6_init_47 : decode cX6_init 47 = .ok (.sipush 150, 3) := by decide +kernel
theorem dX6_init_50 : decode cX6_init 50 = .ok (.newarray .boolean, 2) := by decide +kernel
theorem dX6_init_52 : decode cX6_init 52 = .ok (.putfield 25, 3) := by decide +kernel
theorem dX6_init_55 : decode cX6_init 55 = .ok (.aload_n 0, 1) := by decide +kernel
theorem dX6_init_56 : decode cX6_init 56 = .ok (.iconst 5, 1) := by decide +kernel
theorem dX6_init_57 : decode cX6_init 57 = .ok (.newarray .int, 2) := by decide +kernel
theorem dX6_init_59 : decode cX6_init 59 = .ok (.putfield 29, 3) := by decide +kernel
theorem dX6_init_62 : decode cX6_init 62 = .ok (.aload_n 0, 1) := by decide +kernel
theorem dX6_init_63 : decode cX6_init 63 = .ok (.iconst 4, 1) := by decide +kernel
theorem dX6_init_64 : decode cX6_init 64 = .ok (.newarray .int, 2) := by decide +kernel
theorem dX6_init_66 : decode cX6_init 66 = .ok (.putfield 32, 3) := by decide +kernel
theorem dX6_init_69 : decode cX6_init 69 = .ok (.aload_n 0, 1) := by decide +kernel
theorem dX6_init_70 : decode cX6_init 70 = .ok (.iconst 4, 1) := by decide +kernel
theorem dX6_init_71 : decode cX6_init 71 = .ok (.newarray .int, 2) := by decide +kernel
theorem dX6_init_73 : decode cX6_init 73 = .ok (.putfield 35, 3) := by decide +kernel
theorem dX6_init_76 : decode cX6_init 76 = .ok (.aload_n 0, 1) := by decide +kernel
theorem dX6_init_77 : decode cX6_init 77 = .ok (.iconst 1, 1) := by decide +kernel
theorem dX6_init_78 : decode cX6_init 78 = .ok (.putfield 38, 3) := by decide +kernel
theorem dX6_init_81 : decode cX6_init 81 = .ok (.aload_n 0, 1) := by decide +kernel
theorem dX6_init_82 : decode cX6_init 82 = .ok (.iconst 3, 1) := by decide +kernel
theorem dX6_init_83 : decode cX6_init 83 = .ok (.putfield 42, 3) := by decide +kernel
theorem dX6_init_86 : decode cX6_init 86 = .ok (.aload_n 0, 1) := by decide +kernel
theorem dX6_init_87 : decode cX6_init 87 = .ok (.iconst 4, 1) := by decide +kernel
theorem dX6_init_88 : decode cX6_init 88 = .ok (.newarray .int, 2) := by decide +kernel
theorem dX6_init_90 : decode cX6_init 90 = .ok (.putfield 45, 3) := by decide +kernel
theorem dX6_init_93 : decode cX6_init 93 = .ok (.aload_n 0, 1) := by decide +kernel
theorem dX6_init_94 : decode cX6_init 94 = .ok (.iconst 4, 1) := by decide +kernel
theorem dX6_init_95 : decode cX6_init 95 = .ok (.newarray .int, 2) := by decide +kernel
theorem dX6_init_97 : decode cX6_init 97 = .ok (.putfield 48, 3) := by decide +kernel
theorem dX6_init_100 : decode cX6_init 100 = .ok (.aload_n 0, 1) := by decide +kernel
theorem dX6_init_101 : decode cX6_init 101 = .ok (.bipush 6, 2) := by decide +kernel
theorem dX6_init_103 : decode cX6_init 103 = .ok (.newarray .int, 2) := by decide +kernel
theorem dX6_init_105 : decode cX6_init 105 = .ok (.putfield 51, 3) := by decide +kernel
theorem dX6_init_108 : decode cX6_init 108 = .ok (.aload_n 0, 1) := by decide +kernel
theorem dX6_init_109 : decode cX6_init 109 = .ok (.bipush 6, 2) := by decide +kernel
theorem dX6_init_111 : decode cX6_init 111 = .ok (.newarray .int, 2) := by decide +kernel
theorem dX6_init_113 : decode cX6_init 113 = .ok (.putfield 54, 3) := by decide +kernel
theorem dX6_init_116 : decode cX6_init 116 = .ok (.aload_n 0, 1) := by decide +kernel
theorem dX6_init_117 : decode cX6_init 117 = .ok (.bipush 60, 2) := by decide +kernel
theorem dX6_init_119 : decode cX6_init 119 = .ok (.newarray .int, 2) := by decide +kernel
theorem dX6_init_121 : decode cX6_init 121 = .ok (.putfield 57, 3) := by decide +kernel
theorem dX6_init_124 : decode cX6_init 124 = .ok (.return_, 1) := by decide +kernel
theorem dX6_thrown_0 : decode cX6_thrown 0 = .ok (.aload_n 0, 1) := by decide +kernel
theorem dX6_thrown_1 : decode cX6_thrown 1 = .ok (.getfield 60, 3) := by decide +kernel
theorem dX6_thrown_4 : decode cX6_thrown 4 = .ok (.ireturn, 1) := by decide +kernel
theorem dX6_bad_0 : decode cX6_bad 0 = .ok (.iload_n 1, 1) := by decide +kernel
theorem dX6_bad_1 : decode cX6_bad 1 = .ok (.ifCond .eq 8, 3) := by decide +kernel
theorem dX6_bad_4 : decode cX6_bad 4 = .ok (.aload_n 0, 1) := by decide +kernel
theorem dX6_bad_5 : decode cX6_bad 5 = .ok (.iload_n 2, 1) := by decide +kernel
theorem dX6_bad_6 : decode cX6_bad 6 = .ok (.putfield 60, 3) := by decide +kernel
theorem dX6_bad_9 : decode cX6_bad 9 = .ok (.iload_n 1, 1) := by decide +kernel
theorem dX6_bad_10 : decode cX6_bad 10 = .ok (.ireturn, 1) := by decide +kernel
theorem dX6_isBits_0 : decode cX6_isBits 0 = .ok (.iload_n 0, 1) := by decide +kernel
theorem dX6_isBits_1 : decode cX6_isBits 1 = .ok (.ifCond .lt 14, 3) := by decide +kernel
theorem dX6_isBits_4 : decode cX6_isBits 4 = .ok (.iload_n 0, 1) := by decide +kernel
theorem dX6_isBits_5 : decode cX6_isBits 5 = .ok (.sipush 255, 3) := by decide +kernel
theorem dX6_isBits_8 : decode cX6_isBits 8 = .ok (.if_icmp .gt 7, 3) := by decide +kernel
theorem dX6_isBits_11 : decode cX6_isBits 11 = .ok (.iconst 1, 1) := by decide +kernel
theorem dX6_isBits_12 : decode cX6_isBits 12 = .ok (.goto 4, 3) := by decide +kernel
theorem dX6_isBits_15 : decode cX6_isBits 15 = .ok (.iconst 0, 1) := by decide +kernel
theorem dX6_isBits_16 : decode cX6_isBits 16 = .ok (.ireturn, 1) := by decide +kernel
theorem dX6_meal_0 : decode cX6_meal 0 = .ok (.aload_n 0, 1) := by decide +kernel
theorem dX6_meal_1 : decode cX6_meal 1 = .ok (.iconst 0, 1) := by decide +kernel
theorem dX6_meal_2 : decode cX6_meal 2 = .ok (.putfield 60, 3) := by decide +kernel
theorem dX6_meal_5 : decode cX6_meal 5 = .ok (.aload_n 0, 1) := by decide +kernel
theorem dX6_meal_6 : decode cX6_meal 6 = .ok (.iload_n 1, 1) := by decide +kernel
theorem dX6_meal_7 : decode cX6_meal 7 = .ok (.invokestatic 63, 3) := by decide +kernel
theorem dX6_meal_10 : decode cX6_meal 10 = .ok (.ifCond .eq 10, 3) := by decide +kernel
theorem dX6_meal_13 : decode cX6_meal 13 = .ok (.iload_n 2, 1) := by decide +kernel
theorem dX6_meal_14 : decode cX6_meal 14 = .ok (.invokestatic 63, 3) := by decide +kernel
theorem dX6_meal_17 : decode cX6_meal 17 = .ok (.ifCond .ne 7, 3) := by decide +kernel
theorem dX6_meal_20 : decode cX6_meal 20 = .ok (.iconst 1, 1) := by decide +kernel
theorem dX6_meal_21 : decode cX6_meal 21 = .ok (.goto 4, 3) := by decide +kernel
theorem dX6_meal_24 : decode cX6_meal 24 = .ok (.iconst 0, 1) := by decide +kernel
theorem dX6_meal_25 : decode cX6_meal 25 = .ok (.iconst 1, 1) := by decide +kernel
theorem dX6_meal_26 : decode cX6_meal 26 = .ok (.invokevirtual 67, 3) := by decide +kernel
theorem dX6_meal_29 : decode cX6_meal 29 = .ok (.ifCond .ne 25, 3) := by decide +kernel
theorem dX6_meal_32 : decode cX6_meal 32 = .ok (.aload_n 0, 1) := by decide +kernel
theorem dX6_meal_33 : decode cX6_meal 33 = .ok (.aload_n 0, 1) := by decide +kernel
theorem dX6_meal_34 : decode cX6_meal 34 = .ok (.getfield 71, 3) := by decide +kernel
theorem dX6_meal_37 : decode cX6_meal 37 = .ok (.bipush 6, 2) := by decide +kernel
theorem dX6_meal_39 : decode cX6_meal 39 = .ok (.if_icmp .ne 7, 3) := by decide +kernel
theorem dX6_meal_42 : decode cX6_meal 42 = .ok (.iconst 1, 1) := by decide +kernel
theorem dX6_meal_43 : decode cX6_meal 43 = .ok (.goto 4, 3) := by decide +kernel
theorem dX6_meal_46 : decode cX6_meal 46 = .ok (.iconst 0, 1) := by decide +kernel
theorem dX6_meal_47 : decode cX6_meal 47 = .ok (.iconst 2, 1) := by decide +kernel
theorem dX6_meal_48 : decode cX6_meal 48 = .ok (.invokevirtual 67, 3) := by decide +kernel
theorem dX6_meal_51 : decode cX6_meal 51 = .ok (.ifCond .eq 5, 3) := by decide +kernel
theorem dX6_meal_54 : decode cX6_meal 54 = .ok (.iconst 0, 1) := by decide +kernel
theorem dX6_meal_55 : decode cX6_meal 55 = .ok (.ireturn, 1) := by decide +kernel
theorem dX6_meal_56 : decode cX6_meal 56 = .ok (.aload_n 0, 1) := by decide +kernel
theorem dX6_meal_57 : decode cX6_meal 57 = .ok (.getfield 9, 3) := by decide +kernel
theorem dX6_meal_60 : decode cX6_meal 60 = .ok (.aload_n 0, 1) := by decide +kernel
theorem dX6_meal_61 : decode cX6_meal 61 = .ok (.getfield 71, 3) := by decide +kernel
theorem dX6_meal_64 : decode cX6_meal 64 = .ok (.iload_n 1, 1) := by decide +kernel
theorem dX6_meal_65 : decode cX6_meal 65 = .ok (.iastore, 1) := by decide +kernel
theorem dX6_meal_66 : decode cX6_meal 66 = .ok (.aload_n 0, 1) := by decide +kernel
theorem dX6_meal_67 : decode cX6_meal 67 = .ok (.getfield 13, 3) := by decide +kernel
theorem dX6_meal_70 : decode cX6_meal 70 = .ok (.aload_n 0, 1) := by decide +kernel
theorem dX6_meal_71 : decode cX6_meal 71 = .ok (.getfield 71, 3) := by decide +kernel
theorem dX6_meal_74 : decode cX6_meal 74 = .ok (.iload_n 2, 1) := by decide +kernel
theorem dX6_meal_75 : decode cX6_meal 75 = .ok (.iastore, 1) := by decide +kernel
theorem dX6_meal_76 : decode cX6_meal 76 = .ok (.aload_n 0, 1) := by decide +kernel
theorem dX6_meal_77 : decode cX6_meal 77 = .ok (.dup, 1) := by decide +kernel
theorem dX6_meal_78 : decode cX6_meal 78 = .ok (.getfield 71, 3) := by decide +kernel
theorem dX6_meal_81 : decode cX6_meal 81 = .ok (.iconst 1, 1) := by decide +kernel
theorem dX6_meal_82 : decode cX6_meal 82 = .ok (.iadd, 1) := by decide +kernel
theorem dX6_meal_83 : decode cX6_meal 83 = .ok (.putfield 71, 3) := by decide +kernel
theorem dX6_meal_86 : decode cX6_meal 86 = .ok (.aload_n 0, 1) := by decide +kernel
theorem dX6_meal_87 : decode cX6_meal 87 = .ok (.getfield 71, 3) := by decide +kernel
theorem dX6_meal_90 : decode cX6_meal 90 = .ok (.iconst 1, 1) := by decide +kernel
theorem dX6_meal_91 : decode cX6_meal 91 = .ok (.isub, 1) := by decide +kernel
theorem dX6_meal_92 : decode cX6_meal 92 = .ok (.ireturn, 1) := by decide +kernel
theorem dX6_isMeal_0 : decode cX6_isMeal 0 = .ok (.aload_n 0, 1) := by decide +kernel
theorem dX6_isMeal_1 : decode cX6_isMeal 1 = .ok (.iload_n 1, 1) := by decide +kernel
theorem dX6_isMeal_2 : decode cX6_isMeal 2 = .ok (.ifCond .lt 11, 3) := by decide +kernel
theorem dX6_isMeal_5 : decode cX6_isMeal 5 = .ok (.iload_n 1, 1) := by decide +kernel
theorem dX6_isMeal_6 : decode cX6_isMeal 6 = .ok (.aload_n 0, 1) := by decide +kernel
theorem dX6_isMeal_7 : decode cX6_isMeal 7 = .ok (.getfield 71, 3) := by decide +kernel
theorem dX6_isMeal_10 : decode cX6_isMeal 10 = .ok (.if_icmp .lt 7, 3) := by decide +kernel
theorem dX6_isMeal_13 : decode cX6_isMeal 13 = .ok (.iconst 1, 1) := by decide +kernel
theorem dX6_isMeal_14 : decode cX6_isMeal 14 = .ok (.goto 4, 3) := by decide +kernel
theorem dX6_isMeal_17 : decode cX6_isMeal 17 = .ok (.iconst 0, 1) := by decide +kernel
theorem dX6_isMeal_18 : decode cX6_isMeal 18 = .ok (.putfield 60, 3) := by decide +kernel
theorem dX6_isMeal_21 : decode cX6_isMeal 21 = .ok (.aload_n 0, 1) := by decide +kernel
theorem dX6_isMeal_22 : decode cX6_isMeal 22 = .ok (.getfield 60, 3) := by decide +kernel
theorem dX6_isMeal_25 : decode cX6_isMeal 25 = .ok (.ifCond .ne 7, 3) := by decide +kernel
theorem dX6_isMeal_28 : decode cX6_isMeal 28 = .ok (.iconst 1, 1) := by decide +kernel
theorem dX6_isMeal_29 : decode cX6_isMeal 29 = .ok (.goto 4, 3) := by decide +kernel
theorem dX6_isMeal_32 : decode cX6_isMeal 32 = .ok (.iconst 0, 1) := by decide +kernel
theorem dX6_isMeal_33 : decode cX6_isMeal 33 = .ok (.ireturn, 1) := by decide +kernel
theorem dX6_ate_0 : decode cX6_ate 0 = .ok (.aload_n 0, 1) := by decide +kernel
theorem dX6_ate_1 : decode cX6_ate 1 = .ok (.iload_n 1, 1) := by decide +kernel
theorem dX6_ate_2 : decode cX6_ate 2 = .ok (.invokevirtual 74, 3) := by decide +kernel
theorem dX6_ate_5 : decode cX6_ate 5 = .ok (.ifCond .eq 27, 3) := by decide +kernel
theorem dX6_ate_8 : decode cX6_ate 8 = .ok (.aload_n 0, 1) := by decide +kernel
theorem dX6_ate_9 : decode cX6_ate 9 = .ok (.iload_n 2, 1) := by decide +kernel
theorem dX6_ate_10 : decode cX6_ate 10 = .ok (.ifCond .lt 10, 3) := by decide +kernel
theorem dX6_ate_13 : decode cX6_ate 13 = .ok (.iload_n 2, 1) := by decide +kernel
theorem dX6_ate_14 : decode cX6_ate 14 = .ok (.sipush 1000, 3) := by decide +kernel
theorem dX6_ate_17 : decode cX6_ate 17 = .ok (.if_icmp .le 7, 3) := by decide +kernel
theorem dX6_ate_20 : decode cX6_ate 20 = .ok (.iconst 1, 1) := by decide +kernel
theorem dX6_ate_21 : decode cX6_ate 21 = .ok (.goto 4, 3) := by decide +kernel
theorem dX6_ate_24 : decode cX6_ate 24 = .ok (.iconst 0, 1) := by decide +kernel
theorem dX6_ate_25 : decode cX6_ate 25 = .ok (.iconst 2, 1) := by decide +kernel
theorem dX6_ate_26 : decode cX6_ate 26 = .ok (.invokevirtual 67, 3) := by decide +kernel
theorem dX6_ate_29 : decode cX6_ate 29 = .ok (.ifCond .eq 5, 3) := by decide +kernel
theorem dX6_ate_32 : decode cX6_ate 32 = .ok (.iconst 0, 1) := by decide +kernel
theorem dX6_ate_33 : decode cX6_ate 33 = .ok (.ireturn, 1) := by decide +kernel
theorem dX6_ate_34 : decode cX6_ate 34 = .ok (.aload_n 0, 1) := by decide +kernel
theorem dX6_ate_35 : decode cX6_ate 35 = .ok (.getfield 16, 3) := by decide +kernel
theorem dX6_ate_38 : decode cX6_ate 38 = .ok (.iload_n 1, 1) := by decide +kernel
theorem dX6_ate_39 : decode cX6_ate 39 = .ok (.iaload, 1) := by decide +kernel
theorem dX6_ate_40 : decode cX6_ate 40 = .ok (.istore_n 3, 1) := by decide +kernel
theorem dX6_ate_41 : decode cX6_ate 41 = .ok (.aload_n 0, 1) := by decide +kernel
theorem dX6_ate_42 : decode cX6_ate 42 = .ok (.getfield 16, 3) := by decide +kernel
theorem dX6_ate_45 : decode cX6_ate 45 = .ok (.iload_n 1, 1) := by decide +kernel
theorem dX6_ate_46 : decode cX6_ate 46 = .ok (.iload_n 2, 1) := by decide +kernel
theorem dX6_ate_47 : decode cX6_ate 47 = .ok (.iastore, 1) := by decide +kernel
theorem dX6_ate_48 : decode cX6_ate 48 = .ok (.iload_n 3, 1) := by decide +kernel
theorem dX6_ate_49 : decode cX6_ate 49 = .ok (.ireturn, 1) := by decide +kernel
theorem dX6_day_0 : decode cX6_day 0 = .ok (.aload_n 0, 1) := by decide +kernel
theorem dX6_day_1 : decode cX6_day 1 = .ok (.iconst 0, 1) := by decide +kernel
theorem dX6_day_2 : decode cX6_day 2 = .ok (.putfield 60, 3) := by decide +kernel
theorem dX6_day_5 : decode cX6_day 5 = .ok (.aload_n 0, 1) := by decide +kernel
theorem dX6_day_6 : decode cX6_day 6 = .ok (.iload_n 1, 1) := by decide +kernel
theorem dX6_day_7 : decode cX6_day 7 = .ok (.invokestatic 63, 3) := by decide +kernel
theorem dX6_day_10 : decode cX6_day 10 = .ok (.ifCond .ne 7, 3) := by decide +kernel
theorem dX6_day_13 : decode cX6_day 13 = .ok (.iconst 1, 1) := by decide +kernel
theorem dX6_day_14 : decode cX6_day 14 = .ok (.goto 4, 3) := by decide +kernel
theorem dX6_day_17 : decode cX6_day 17 = .ok (.iconst 0, 1) := by decide +kernel
theorem dX6_day_18 : decode cX6_day 18 = .ok (.iconst 1, 1) := by decide +kernel
theorem dX6_day_19 : decode cX6_day 19 = .ok (.invokevirtual 67, 3) := by decide +kernel
theorem dX6_day_22 : decode cX6_day 22 = .ok (.ifCond .ne 26, 3) := by decide +kernel
theorem dX6_day_25 : decode cX6_day 25 = .ok (.aload_n 0, 1) := by decide +kernel
theorem dX6_day_26 : decode cX6_day 26 = .ok (.aload_n 0, 1) := by decide +kernel
theorem dX6_day_27 : decode cX6_day 27 = .ok (.getfield 77, 3) := by decide +kernel
theorem dX6_day_30 : decode cX6_day 30 = .ok (.sipush 150, 3) := by decide +kernel
theorem dX6_day_33 : decode cX6_day 33 = .ok (.if_icmp .ne 7, 3) := by decide +kernel
theorem dX6_day_36 : decode cX6_day 36 = .ok (.iconst 1, 1) := by decide +kernel
theorem dX6_day_37 : decode cX6_day 37 = .ok (.goto 4, 3) := by decide +kernel
theorem dX6_day_40 : decode cX6_day 40 = .ok (.iconst 0, 1) := by decide +kernel
theorem dX6_day_41 : decode cX6_day 41 = .ok (.iconst 2, 1) := by decide +kernel
theorem dX6_day_42 : decode cX6_day 42 = .ok (.invokevirtual 67, 3) := by decide +kernel
theorem dX6_day_45 : decode cX6_day 45 = .ok (.ifCond .eq 5, 3) := by decide +kernel
theorem dX6_day_48 : decode cX6_day 48 = .ok (.iconst 0, 1) := by decide +kernel
theorem dX6_day_49 : decode cX6_day 49 = .ok (.ireturn, 1) := by decide +kernel
theorem dX6_day_50 : decode cX6_day 50 = .ok (.aload_n 0, 1) := by decide +kernel
theorem dX6_day_51 : decode cX6_day 51 = .ok (.getfield 19, 3) := by decide +kernel
theorem dX6_day_54 : decode cX6_day 54 = .ok (.aload_n 0, 1) := by decide +kernel
theorem dX6_day_55 : decode cX6_day 55 = .ok (.getfield 77, 3) := by decide +kernel
theorem dX6_day_58 : decode cX6_day 58 = .ok (.iload_n 1, 1) := by decide +kernel
theorem dX6_day_59 : decode cX6_day 59 = .ok (.iastore, 1) := by decide +kernel
theorem dX6_day_60 : decode cX6_day 60 = .ok (.aload_n 0, 1) := by decide +kernel
theorem dX6_day_61 : decode cX6_day 61 = .ok (.getfield 25, 3) := by decide +kernel
theorem dX6_day_64 : decode cX6_day 64 = .ok (.aload_n 0, 1) := by decide +kernel
theorem dX6_day_65 : decode cX6_day 65 = .ok (.getfield 77, 3) := by decide +kernel
theorem dX6_day_68 : decode cX6_day 68 = .ok (.iconst 1, 1) := by decide +kernel
theorem dX6_day_69 : decode cX6_day 69 = .ok (.bastore, 1) := by decide +kernel
theorem dX6_day_70 : decode cX6_day 70 = .ok (.iconst 0, 1) := by decide +kernel
theorem dX6_day_71 : decode cX6_day 71 = .ok (.istore_n 2, 1) := by decide +kernel
theorem dX6_day_72 : decode cX6_day 72 = .ok (.iload_n 2, 1) := by decide +kernel
theorem dX6_day_73 : decode cX6_day 73 = .ok (.bipush 6, 2) := by decide +kernel
theorem dX6_day_75 : decode cX6_day 75 = .ok (.if_icmp .ge 48, 3) := by decide +kernel
theorem dX6_day_78 : decode cX6_day 78 = .ok (.aload_n 0, 1) := by decide +kernel
theorem dX6_day_79 : decode cX6_day 79 = .ok (.getfield 22, 3) := by decide +kernel
theorem dX6_day_82 : decode cX6_day 82 = .ok (.bipush 6, 2) := by decide +kernel
theorem dX6_day_84 : decode cX6_day 84 = .ok (.aload_n 0, 1) := by decide +kernel
theorem dX6_day_85 : decode cX6_day 85 = .ok (.getfield 77, 3) := by decide +kernel
theorem dX6_day_88 : decode cX6_day 88 = .ok (.imul, 1) := by decide +kernel
theorem dX6_day_89 : decode cX6_day 89 = .ok (.iload_n 2, 1) := by decide +kernel
theorem dX6_day_90 : decode cX6_day 90 = .ok (.iadd, 1) := by decide +kernel
theorem dX6_day_91 : decode cX6_day 91 = .ok (.iload_n 2, 1) := by decide +kernel
theorem dX6_day_92 : decode cX6_day 92 = .ok (.aload_n 0, 1) := by decide +kernel
theorem dX6_day_93 : decode cX6_day 93 = .ok (.getfield 71, 3) := by decide +kernel
theorem dX6_day_96 : decode cX6_day 96 = .ok (.if_icmp .ge 12, 3) := by decide +kernel
theorem dX6_day_99 : decode cX6_day 99 = .ok (.aload_n 0, 1) := by decide +kernel
theorem dX6_day_100 : decode cX6_day 100 = .ok (.getfield 16, 3) := by decide +kernel
theorem dX6_day_103 : decode cX6_day 103 = .ok (.iload_n 2, 1) := by decide +kernel
theorem dX6_day_104 : decode cX6_day 104 = .ok (.iaload, 1) := by decide +kernel
theorem dX6_day_105 : decode cX6_day 105 = .ok (.goto 4, 3) := by decide +kernel
theorem dX6_day_108 : decode cX6_day 108 = .ok (.iconst 0, 1) := by decide +kernel
theorem dX6_day_109 : decode cX6_day 109 = .ok (.iastore, 1) := by decide +kernel
theorem dX6_day_110 : decode cX6_day 110 = .ok (.aload_n 0, 1) := by decide +kernel
theorem dX6_day_111 : decode cX6_day 111 = .ok (.getfield 16, 3) := by decide +kernel
theorem dX6_day_114 : decode cX6_day 114 = .ok (.iload_n 2, 1) := by decide +kernel
theorem dX6_day_115 : decode cX6_day 115 = .ok (.iconst 0, 1) := by decide +kernel
theorem dX6_day_116 : decode cX6_day 116 = .ok (.iastore, 1) := by decide +kernel
theorem dX6_day_117 : decode cX6_day 117 = .ok (.iinc 2 1, 3) := by decide +kernel
theorem dX6_day_120 : decode cX6_day 120 = .ok (.goto (-48), 3) := by decide +kernel
theorem dX6_day_123 : decode cX6_day 123 = .ok (.aload_n 0, 1) := by decide +kernel
theorem dX6_day_124 : decode cX6_day 124 = .ok (.dup, 1) := by decide +kernel
theorem dX6_day_125 : decode cX6_day 125 = .ok (.getfield 77, 3) := by decide +kernel
theorem dX6_day_128 : decode cX6_day 128 = .ok (.iconst 1, 1) := by decide +kernel
theorem dX6_day_129 : decode cX6_day 129 = .ok (.iadd, 1) := by decide +kernel
theorem dX6_day_130 : decode cX6_day 130 = .ok (.putfield 77, 3) := by decide +kernel
theorem dX6_day_133 : decode cX6_day 133 = .ok (.aload_n 0, 1) := by decide +kernel
theorem dX6_day_134 : decode cX6_day 134 = .ok (.getfield 77, 3) := by decide +kernel
theorem dX6_day_137 : decode cX6_day 137 = .ok (.iconst 1, 1) := by decide +kernel
theorem dX6_day_138 : decode cX6_day 138 = .ok (.isub, 1) := by decide +kernel
theorem dX6_day_139 : decode cX6_day 139 = .ok (.ireturn, 1) := by decide +kernel
theorem dX6_drop_0 : decode cX6_drop 0 = .ok (.aload_n 0, 1) := by decide +kernel
theorem dX6_drop_1 : decode cX6_drop 1 = .ok (.iconst 0, 1) := by decide +kernel
theorem dX6_drop_2 : decode cX6_drop 2 = .ok (.putfield 60, 3) := by decide +kernel
theorem dX6_drop_5 : decode cX6_drop 5 = .ok (.aload_n 0, 1) := by decide +kernel
theorem dX6_drop_6 : decode cX6_drop 6 = .ok (.iload_n 1, 1) := by decide +kernel
theorem dX6_drop_7 : decode cX6_drop 7 = .ok (.ifCond .lt 11, 3) := by decide +kernel
theorem dX6_drop_10 : decode cX6_drop 10 = .ok (.iload_n 1, 1) := by decide +kernel
theorem dX6_drop_11 : decode cX6_drop 11 = .ok (.aload_n 0, 1) := by decide +kernel
theorem dX6_drop_12 : decode cX6_drop 12 = .ok (.getfield 77, 3) := by decide +kernel
theorem dX6_drop_15 : decode cX6_drop 15 = .ok (.if_icmp .lt 7, 3) := by decide +kernel
theorem dX6_drop_18 : decode cX6_drop 18 = .ok (.iconst 1, 1) := by decide +kernel
theorem dX6_drop_19 : decode cX6_drop 19 = .ok (.goto 4, 3) := by decide +kernel
theorem dX6_drop_22 : decode cX6_drop 22 = .ok (.iconst 0, 1) := by decide +kernel
theorem dX6_drop_23 : decode cX6_drop 23 = .ok (.iconst 1, 1) := by decide +kernel
theorem dX6_drop_24 : decode cX6_drop 24 = .ok (.invokevirtual 67, 3) := by decide +kernel
theorem dX6_drop_27 : decode cX6_drop 27 = .ok (.ifCond .eq 5, 3) := by decide +kernel
theorem dX6_drop_30 : decode cX6_drop 30 = .ok (.iconst 0, 1) := by decide +kernel
theorem dX6_drop_31 : decode cX6_drop 31 = .ok (.ireturn, 1) := by decide +kernel
theorem dX6_drop_32 : decode cX6_drop 32 = .ok (.aload_n 0, 1) := by decide +kernel
theorem dX6_drop_33 : decode cX6_drop 33 = .ok (.getfield 25, 3) := by decide +kernel
theorem dX6_drop_36 : decode cX6_drop 36 = .ok (.iload_n 1, 1) := by decide +kernel
theorem dX6_drop_37 : decode cX6_drop 37 = .ok (.baload, 1) := by decide +kernel
theorem dX6_drop_38 : decode cX6_drop 38 = .ok (.istore_n 2, 1) := by decide +kernel
theorem dX6_drop_39 : decode cX6_drop 39 = .ok (.aload_n 0, 1) := by decide +kernel
theorem dX6_drop_40 : decode cX6_drop 40 = .ok (.getfield 25, 3) := by decide +kernel
theorem dX6_drop_43 : decode cX6_drop 43 = .ok (.iload_n 1, 1) := by decide +kernel
theorem dX6_drop_44 : decode cX6_drop 44 = .ok (.iconst 0, 1) := by decide +kernel
theorem dX6_drop_45 : decode cX6_drop 45 = .ok (.bastore, 1) := by decide +kernel
theorem dX6_drop_46 : decode cX6_drop 46 = .ok (.iload_n 2, 1) := by decide +kernel
theorem dX6_drop_47 : decode cX6_drop 47 = .ok (.ireturn, 1) := by decide +kernel
theorem dX6_counts_0 : decode cX6_counts 0 = .ok (.aload_n 0, 1) := by decide +kernel
theorem dX6_counts_1 : decode cX6_counts 1 = .ok (.iconst 0, 1) := by decide +kernel
theorem dX6_counts_2 : decode cX6_counts 2 = .ok (.putfield 80, 3) := by decide +kernel
theorem dX6_counts_5 : decode cX6_counts 5 = .ok (.aload_n 0, 1) := by decide +kernel
theorem dX6_counts_6 : decode cX6_counts 6 = .ok (.iconst 0, 1) := by decide +kernel
theorem dX6_counts_7 : decode cX6_counts 7 = .ok (.putfield 83, 3) := by decide +kernel
theorem dX6_counts_10 : decode cX6_counts 10 = .ok (.aload_n 0, 1) := by decide +kernel
theorem dX6_counts_11 : decode cX6_counts 11 = .ok (.lconst 0, 1) := by decide +kernel
theorem dX6_counts_12 : decode cX6_counts 12 = .ok (.putfield 86, 3) := by decide +kernel
theorem dX6_counts_15 : decode cX6_counts 15 = .ok (.aload_n 0, 1) := by decide +kernel
theorem dX6_counts_16 : decode cX6_counts 16 = .ok (.lconst 0, 1) := by decide +kernel
theorem dX6_counts_17 : decode cX6_counts 17 = .ok (.putfield 90, 3) := by decide +kernel
theorem dX6_counts_20 : decode cX6_counts 20 = .ok (.iconst 0, 1) := by decide +kernel
theorem dX6_counts_21 : decode cX6_counts 21 = .ok (.istore 5, 2) := by decide +kernel
theorem dX6_counts_23 : decode cX6_counts 23 = .ok (.iload 5, 2) := by decide +kernel
theorem dX6_counts_25 : decode cX6_counts 25 = .ok (.aload_n 0, 1) := by decide +kernel
theorem dX6_counts_26 : decode cX6_counts 26 = .ok (.getfield 77, 3) := by decide +kernel
theorem dX6_counts_29 : decode cX6_counts 29 = .ok (.if_icmp .ge 111, 3) := by decide +kernel
theorem dX6_counts_32 : decode cX6_counts 32 = .ok (.aload_n 0, 1) := by decide +kernel
theorem dX6_counts_33 : decode cX6_counts 33 = .ok (.getfield 25, 3) := by decide +kernel
theorem dX6_counts_36 : decode cX6_counts 36 = .ok (.iload 5, 2) := by decide +kernel
theorem dX6_counts_38 : decode cX6_counts 38 = .ok (.baload, 1) := by decide +kernel
theorem dX6_counts_39 : decode cX6_counts 39 = .ok (.ifCond .eq 95, 3) := by decide +kernel
theorem dX6_counts_42 : decode cX6_counts 42 = .ok (.aload_n 0, 1) := by decide +kernel
theorem dX6_counts_43 : decode cX6_counts 43 = .ok (.getfield 19, 3) := by decide +kernel
theorem dX6_counts_46 : decode cX6_counts 46 = .ok (.iload 5, 2) := by decide +kernel
theorem dX6_counts_48 : decode cX6_counts 48 = .ok (.iaload, 1) := by decide +kernel
theorem dX6_counts_49 : decode cX6_counts 49 = .ok (.iload_n 2, 1) := by decide +kernel
theorem dX6_counts_50 : decode cX6_counts 50 = .ok (.iand, 1) := by decide +kernel
theorem dX6_counts_51 : decode cX6_counts 51 = .ok (.iload_n 3, 1) := by decide +kernel
theorem dX6_counts_52 : decode cX6_counts 52 = .ok (.if_icmp .eq 6, 3) := by decide +kernel
theorem dX6_counts_55 : decode cX6_counts 55 = .ok (.goto 79, 3) := by decide +kernel
theorem dX6_counts_58 : decode cX6_counts 58 = .ok (.aload_n 0, 1) := by decide +kernel
theorem dX6_counts_59 : decode cX6_counts 59 = .ok (.getfield 22, 3) := by decide +kernel
theorem dX6_counts_62 : decode cX6_counts 62 = .ok (.bipush 6, 2) := by decide +kernel
theorem dX6_counts_64 : decode cX6_counts 64 = .ok (.iload 5, 2) := by decide +kernel
theorem dX6_counts_66 : decode cX6_counts 66 = .ok (.imul, 1) := by decide +kernel
theorem dX6_counts_67 : decode cX6_counts 67 = .ok (.iload_n 1, 1) := by decide +kernel
theorem dX6_counts_68 : decode cX6_counts 68 = .ok (.iadd, 1) := by decide +kernel
theorem dX6_counts_69 : decode cX6_counts 69 = .ok (.iaload, 1) := by decide +kernel
theorem dX6_counts_70 : decode cX6_counts 70 = .ok (.istore 6, 2) := by decide +kernel
theorem dX6_counts_72 : decode cX6_counts 72 = .ok (.aload_n 0, 1) := by decide +kernel
theorem dX6_counts_73 : decode cX6_counts 73 = .ok (.dup, 1) := by decide +kernel
theorem dX6_counts_74 : decode cX6_counts 74 = .ok (.getfield 83, 3) := by decide +kernel
theorem dX6_counts_77 : decode cX6_counts 77 = .ok (.iconst 1, 1) := by decide +kernel
theorem dX6_counts_78 : decode cX6_counts 78 = .ok (.iadd, 1) := by decide +kernel
theorem dX6_counts_79 : decode cX6_counts 79 = .ok (.putfield 83, 3) := by decide +kernel
theorem dX6_counts_82 : decode cX6_counts 82 = .ok (.aload_n 0, 1) := by decide +kernel
theorem dX6_counts_83 : decode cX6_counts 83 = .ok (.dup, 1) := by decide +kernel
theorem dX6_counts_84 : decode cX6_counts 84 = .ok (.getfield 90, 3) := by decide +kernel
theorem dX6_counts_87 : decode cX6_counts 87 = .ok (.iload 6, 2) := by decide +kernel
theorem dX6_counts_89 : decode cX6_counts 89 = .ok (.i2l, 1) := by decide +kernel
theorem dX6_counts_90 : decode cX6_counts 90 = .ok (.ladd, 1) := by decide +kernel
theorem dX6_counts_91 : decode cX6_counts 91 = .ok (.putfield 90, 3) := by decide +kernel
theorem dX6_counts_94 : decode cX6_counts 94 = .ok (.aload_n 0, 1) := by decide +kernel
theorem dX6_counts_95 : decode cX6_counts 95 = .ok (.getfield 19, 3) := by decide +kernel
theorem dX6_counts_98 : decode cX6_counts 98 = .ok (.iload 5, 2) := by decide +kernel
theorem dX6_counts_100 : decode cX6_counts 100 = .ok (.iaload, 1) := by decide +kernel
theorem dX6_counts_101 : decode cX6_counts 101 = .ok (.iload 4, 2) := by decide +kernel
theorem dX6_counts_103 : decode cX6_counts 103 = .ok (.ishr, 1) := by decide +kernel
theorem dX6_counts_104 : decode cX6_counts 104 = .ok (.iconst 1, 1) := by decide +kernel
theorem dX6_counts_105 : decode cX6_counts 105 = .ok (.iand, 1) := by decide +kernel
theorem dX6_counts_106 : decode cX6_counts 106 = .ok (.ifCond .ne 6, 3) := by decide +kernel
theorem dX6_counts_109 : decode cX6_counts 109 = .ok (.goto 25, 3) := by decide +kernel
theorem dX6_counts_112 : decode cX6_counts 112 = .ok (.aload_n 0, 1) := by decide +kernel
theorem dX6_counts_113 : decode cX6_counts 113 = .ok (.dup, 1) := by decide +kernel
theorem dX6_counts_114 : decode cX6_counts 114 = .ok (.getfield 80, 3) := by decide +kernel
theorem dX6_counts_117 : decode cX6_counts 117 = .ok (.iconst 1, 1) := by decide +kernel
theorem dX6_counts_118 : decode cX6_counts 118 = .ok (.iadd, 1) := by decide +kernel
theorem dX6_counts_119 : decode cX6_counts 119 = .ok (.putfield 80, 3) := by decide +kernel
theorem dX6_counts_122 : decode cX6_counts 122 = .ok (.aload_n 0, 1) := by decide +kernel
theorem dX6_counts_123 : decode cX6_counts 123 = .ok (.dup, 1) := by decide +kernel
theorem dX6_counts_124 : decode cX6_counts 124 = .ok (.getfield 86, 3) := by decide +kernel
theorem dX6_counts_127 : decode cX6_counts 127 = .ok (.iload 6, 2) := by decide +kernel
theorem dX6_counts_129 : decode cX6_counts 129 = .ok (.i2l, 1) := by decide +kernel
theorem dX6_counts_130 : decode cX6_counts 130 = .ok (.ladd, 1) := by decide +kernel
theorem dX6_counts_131 : decode cX6_counts 131 = .ok (.putfield 86, 3) := by decide +kernel
theorem dX6_counts_134 : decode cX6_counts 134 = .ok (.iinc 5 1, 3) := by decide +kernel
theorem dX6_counts_137 : decode cX6_counts 137 = .ok (.goto (-114), 3) := by decide +kernel
theorem dX6_counts_140 : decode cX6_counts 140 = .ok (.return_, 1) := by decide +kernel
theorem dX6_markOf_0 : decode cX6_markOf 0 = .ok (.iload 4, 2) := by decide +kernel
theorem dX6_markOf_2 : decode cX6_markOf 2 = .ok (.iconst 4, 1) := by decide +kernel
theorem dX6_markOf_3 : decode cX6_markOf 3 = .ok (.if_icmp .ne 5, 3) := by decide +kernel
theorem dX6_markOf_6 : decode cX6_markOf 6 = .ok (.iconst (-1), 1) := by decide +kernel
theorem dX6_markOf_7 : decode cX6_markOf 7 = .ok (.ireturn, 1) := by decide +kernel
theorem dX6_markOf_8 : decode cX6_markOf 8 = .ok (.iconst (-1), 1) := by decide +kernel
theorem dX6_markOf_9 : decode cX6_markOf 9 = .ok (.istore 5, 2) := by decide +kernel
theorem dX6_markOf_11 : decode cX6_markOf 11 = .ok (.lconst 0, 1) := by decide +kernel
theorem dX6_markOf_12 : decode cX6_markOf 12 = .ok (.lstore 6, 2) := by decide +kernel
theorem dX6_markOf_14 : decode cX6_markOf 14 = .ok (.lconst 1, 1) := by decide +kernel
theorem dX6_markOf_15 : decode cX6_markOf 15 = .ok (.lstore 8, 2) := by decide +kernel
theorem dX6_markOf_17 : decode cX6_markOf 17 = .ok (.iconst 0, 1) := by decide +kernel
theorem dX6_markOf_18 : decode cX6_markOf 18 = .ok (.istore 10, 2) := by decide +kernel
theorem dX6_markOf_20 : decode cX6_markOf 20 = .ok (.iload 10, 2) := by decide +kernel
theorem dX6_markOf_22 : decode cX6_markOf 22 = .ok (.bipush 8, 2) := by decide +kernel
theorem dX6_markOf_24 : decode cX6_markOf 24 = .ok (.if_icmp .ge 175, 3) := by decide +kernel
theorem dX6_markOf_27 : decode cX6_markOf 27 = .ok (.iload_n 2, 1) := by decide +kernel
theorem dX6_markOf_28 : decode cX6_markOf 28 = .ok (.iload 10, 2) := by decide +kernel
theorem dX6_markOf_30 : decode cX6_markOf 30 = .ok (.ishr, 1) := by decide +kernel
theorem dX6_markOf_31 : decode cX6_markOf 31 = .ok (.iconst 1, 1) := by decide +kernel
theorem dX6_markOf_32 : decode cX6_markOf 32 = .ok (.iand, 1) := by decide +kernel
theorem dX6_markOf_33 : decode cX6_markOf 33 = .ok (.iconst 1, 1) := by decide +kernel
theorem dX6_markOf_34 : decode cX6_markOf 34 = .ok (.if_icmp .ne 6, 3) := by decide +kernel
theorem dX6_markOf_37 : decode cX6_markOf 37 = .ok (.goto 156, 3) := by decide +kernel
theorem dX6_markOf_40 : decode cX6_markOf 40 = .ok (.aload_n 0, 1) := by decide +kernel
theorem dX6_markOf_41 : decode cX6_markOf 41 = .ok (.iload_n 1, 1) := by decide +kernel
theorem dX6_markOf_42 : decode cX6_markOf 42 = .ok (.iload_n 2, 1) := by decide +kernel
theorem dX6_markOf_43 : decode cX6_markOf 43 = .ok (.iload_n 3, 1) := by decide +kernel
theorem dX6_markOf_44 : decode cX6_markOf 44 = .ok (.iload 10, 2) := by decide +kernel
theorem dX6_markOf_46 : decode cX6_markOf 46 = .ok (.invokevirtual 93, 3) := by decide +kernel
theorem dX6_markOf_49 : decode cX6_markOf 49 = .ok (.aload_n 0, 1) := by decide +kernel
theorem dX6_markOf_50 : decode cX6_markOf 50 = .ok (.getfield 80, 3) := by decide +kernel
theorem dX6_markOf_53 : decode cX6_markOf 53 = .ok (.i2l, 1) := by decide +kernel
theorem dX6_markOf_54 : decode cX6_markOf 54 = .ok (.lstore 11, 2) := by decide +kernel
theorem dX6_markOf_56 : decode cX6_markOf 56 = .ok (.aload_n 0, 1) := by decide +kernel
theorem dX6_markOf_57 : decode cX6_markOf 57 = .ok (.getfield 83, 3) := by decide +kernel
theorem dX6_markOf_60 : decode cX6_markOf 60 = .ok (.aload_n 0, 1) := by decide +kernel
theorem dX6_markOf_61 : decode cX6_markOf 61 = .ok (.getfield 80, 3) := by decide +kernel
theorem dX6_markOf_64 : decode cX6_markOf 64 = .ok (.isub, 1) := by decide +kernel
theorem dX6_markOf_65 : decode cX6_markOf 65 = .ok (.i2l, 1) := by decide +kernel
theorem dX6_markOf_66 : decode cX6_markOf 66 = .ok (.lstore 13, 2) := by decide +kernel
theorem dX6_markOf_68 : decode cX6_markOf 68 = .ok (.aload_n 0, 1) := by decide +kernel
theorem dX6_markOf_69 : decode cX6_markOf 69 = .ok (.getfield 86, 3) := by decide +kernel
theorem dX6_markOf_72 : decode cX6_markOf 72 = .ok (.lstore 15, 2) := by decide +kernel
theorem dX6_markOf_74 : decode cX6_markOf 74 = .ok (.aload_n 0, 1) := by decide +kernel
theorem dX6_markOf_75 : decode cX6_markOf 75 = .ok (.getfield 90, 3) := by decide +kernel
theorem dX6_markOf_78 : decode cX6_markOf 78 = .ok (.aload_n 0, 1) := by decide +kernel
theorem dX6_markOf_79 : decode cX6_markOf 79 = .ok (.getfield 86, 3) := by decide +kernel
theorem dX6_markOf_82 : decode cX6_markOf 82 = .ok (.lsub, 1) := by decide +kernel
theorem dX6_markOf_83 : decode cX6_markOf 83 = .ok (.lstore 17, 2) := by decide +kernel
theorem dX6_markOf_85 : decode cX6_markOf 85 = .ok (.lload 11, 2) := by decide +kernel
theorem dX6_markOf_87 : decode cX6_markOf 87 = .ok (.ldc2_w 97, 3) := by decide +kernel
theorem dX6_markOf_90 : decode cX6_markOf 90 = .ok (.lcmp, 1) := by decide +kernel
theorem dX6_markOf_91 : decode cX6_markOf 91 = .ok (.ifCond .lt 102, 3) := by decide +kernel
theorem dX6_markOf_94 : decode cX6_markOf 94 = .ok (.lload 13, 2) := by decide +kernel
theorem dX6_markOf_96 : decode cX6_markOf 96 = .ok (.ldc2_w 97, 3) := by decide +kernel
theorem dX6_markOf_99 : decode cX6_markOf 99 = .ok (.lcmp, 1) := by decide +kernel
theorem dX6_markOf_100 : decode cX6_markOf 100 = .ok (.ifCond .ge 6, 3) := by decide +kernel
theorem dX6_markOf_103 : decode cX6_markOf 103 = .ok (.goto 90, 3) := by decide +kernel
theorem dX6_markOf_106 : decode cX6_markOf 106 = .ok (.lload 15, 2) := by decide +kernel
theorem dX6_markOf_108 : decode cX6_markOf 108 = .ok (.lload 15, 2) := by decide +kernel
theorem dX6_markOf_110 : decode cX6_markOf 110 = .ok (.lmul, 1) := by decide +kernel
theorem dX6_markOf_111 : decode cX6_markOf 111 = .ok (.lload 13, 2) := by decide +kernel
theorem dX6_markOf_113 : decode cX6_markOf 113 = .ok (.lmul, 1) := by decide +kernel
theorem dX6_markOf_114 : decode cX6_markOf 114 = .ok (.lload 17, 2) := by decide +kernel
theorem dX6_markOf_116 : decode cX6_markOf 116 = .ok (.lload 17, 2) := by decide +kernel
theorem dX6_markOf_118 : decode cX6_markOf 118 = .ok (.lmul, 1) := by decide +kernel
theorem dX6_markOf_119 : decode cX6_markOf 119 = .ok (.lload 11, 2) := by decide +kernel
theorem dX6_markOf_121 : decode cX6_markOf 121 = .ok (.lmul, 1) := by decide +kernel
theorem dX6_markOf_122 : decode cX6_markOf 122 = .ok (.ladd, 1) := by decide +kernel
theorem dX6_markOf_123 : decode cX6_markOf 123 = .ok (.lstore 19, 2) := by decide +kernel
theorem dX6_markOf_125 : decode cX6_markOf 125 = .ok (.lload 11, 2) := by decide +kernel
theorem dX6_markOf_127 : decode cX6_markOf 127 = .ok (.lload 13, 2) := by decide +kernel
theorem dX6_markOf_129 : decode cX6_markOf 129 = .ok (.lmul, 1) := by decide +kernel
theorem dX6_markOf_130 : decode cX6_markOf 130 = .ok (.lstore 21, 2) := by decide +kernel
theorem dX6_markOf_132 : decode cX6_markOf 132 = .ok (.lload 19, 2) := by decide +kernel
theorem dX6_markOf_134 : decode cX6_markOf 134 = .ok (.lload 11, 2) := by decide +kernel
theorem dX6_markOf_136 : decode cX6_markOf 136 = .ok (.lload 13, 2) := by decide +kernel
theorem dX6_markOf_138 : decode cX6_markOf 138 = .ok (.ladd, 1) := by decide +kernel
theorem dX6_markOf_139 : decode cX6_markOf 139 = .ok (.lmul, 1) := by decide +kernel
theorem dX6_markOf_140 : decode cX6_markOf 140 = .ok (.aload_n 0, 1) := by decide +kernel
theorem dX6_markOf_141 : decode cX6_markOf 141 = .ok (.getfield 90, 3) := by decide +kernel
theorem dX6_markOf_144 : decode cX6_markOf 144 = .ok (.aload_n 0, 1) := by decide +kernel
theorem dX6_markOf_145 : decode cX6_markOf 145 = .ok (.getfield 90, 3) := by decide +kernel
theorem dX6_markOf_148 : decode cX6_markOf 148 = .ok (.lmul, 1) := by decide +kernel
theorem dX6_markOf_149 : decode cX6_markOf 149 = .ok (.lload 21, 2) := by decide +kernel
theorem dX6_markOf_151 : decode cX6_markOf 151 = .ok (.lmul, 1) := by decide +kernel
theorem dX6_markOf_152 : decode cX6_markOf 152 = .ok (.lcmp, 1) := by decide +kernel
theorem dX6_markOf_153 : decode cX6_markOf 153 = .ok (.ifCond .gt 6, 3) := by decide +kernel
theorem dX6_markOf_156 : decode cX6_markOf 156 = .ok (.goto 37, 3) := by decide +kernel
theorem dX6_markOf_159 : decode cX6_markOf 159 = .ok (.iload 5, 2) := by decide +kernel
theorem dX6_markOf_161 : decode cX6_markOf 161 = .ok (.ifCond .lt 20, 3) := by decide +kernel
theorem dX6_markOf_164 : decode cX6_markOf 164 = .ok (.lload 19, 2) := by decide +kernel
theorem dX6_markOf_166 : decode cX6_markOf 166 = .ok (.lload 8, 2) := by decide +kernel
theorem dX6_markOf_168 : decode cX6_markOf 168 = .ok (.lmul, 1) := by decide +kernel
theorem dX6_markOf_169 : decode cX6_markOf 169 = .ok (.lload 6, 2) := by decide +kernel
theorem dX6_markOf_171 : decode cX6_markOf 171 = .ok (.lload 21, 2) := by decide +kernel
theorem dX6_markOf_173 : decode cX6_markOf 173 = .ok (.lmul, 1) := by decide +kernel
theorem dX6_markOf_174 : decode cX6_markOf 174 = .ok (.lcmp, 1) := by decide +kernel
theorem dX6_markOf_175 : decode cX6_markOf 175 = .ok (.ifCond .gt 6, 3) := by decide +kernel
theorem dX6_markOf_178 : decode cX6_markOf 178 = .ok (.goto 15, 3) := by decide +kernel
theorem dX6_markOf_181 : decode cX6_markOf 181 = .ok (.iload 10, 2) := by decide +kernel
theorem dX6_markOf_183 : decode cX6_markOf 183 = .ok (.istore 5, 2) := by decide +kernel
theorem dX6_markOf_185 : decode cX6_markOf 185 = .ok (.lload 19, 2) := by decide +kernel
theorem dX6_markOf_187 : decode cX6_markOf 187 = .ok (.lstore 6, 2) := by decide +kernel
theorem dX6_markOf_189 : decode cX6_markOf 189 = .ok (.lload 21, 2) := by decide +kernel
theorem dX6_markOf_191 : decode cX6_markOf 191 = .ok (.lstore 8, 2) := by decide +kernel
theorem dX6_markOf_193 : decode cX6_markOf 193 = .ok (.iinc 10 1, 3) := by decide +kernel
theorem dX6_markOf_196 : decode cX6_markOf 196 = .ok (.goto (-176), 3) := by decide +kernel
theorem dX6_markOf_199 : decode cX6_markOf 199 = .ok (.iload 5, 2) := by decide +kernel
theorem dX6_markOf_201 : decode cX6_markOf 201 = .ok (.ireturn, 1) := by decide +kernel
theorem dX6_leavesOf_0 : decode cX6_leavesOf 0 = .ok (.aload_n 0, 1) := by decide +kernel
theorem dX6_leavesOf_1 : decode cX6_leavesOf 1 = .ok (.iload_n 1, 1) := by decide +kernel
theorem dX6_leavesOf_2 : decode cX6_leavesOf 2 = .ok (.iload_n 2, 1) := by decide +kernel
theorem dX6_leavesOf_3 : decode cX6_leavesOf 3 = .ok (.iload_n 3, 1) := by decide +kernel
theorem dX6_leavesOf_4 : decode cX6_leavesOf 4 = .ok (.iload 4, 2) := by decide +kernel
theorem dX6_leavesOf_6 : decode cX6_leavesOf 6 = .ok (.invokevirtual 99, 3) := by decide +kernel
theorem dX6_leavesOf_9 : decode cX6_leavesOf 9 = .ok (.istore 5, 2) := by decide +kernel
theorem dX6_leavesOf_11 : decode cX6_leavesOf 11 = .ok (.iload 5, 2) := by decide +kernel
theorem dX6_leavesOf_13 : decode cX6_leavesOf 13 = .ok (.ifCond .ge 5, 3) := by decide +kernel
theorem dX6_leavesOf_16 : decode cX6_leavesOf 16 = .ok (.iconst 1, 1) := by decide +kernel
theorem dX6_leavesOf_17 : decode cX6_leavesOf 17 = .ok (.ireturn, 1) := by decide +kernel
theorem dX6_leavesOf_18 : decode cX6_leavesOf 18 = .ok (.aload_n 0, 1) := by decide +kernel
theorem dX6_leavesOf_19 : decode cX6_leavesOf 19 = .ok (.iload_n 1, 1) := by decide +kernel
theorem dX6_leavesOf_20 : decode cX6_leavesOf 20 = .ok (.iload_n 2, 1) := by decide +kernel
theorem dX6_leavesOf_21 : decode cX6_leavesOf 21 = .ok (.iconst 1, 1) := by decide +kernel
theorem dX6_leavesOf_22 : decode cX6_leavesOf 22 = .ok (.iload 5, 2) := by decide +kernel
theorem dX6_leavesOf_24 : decode cX6_leavesOf 24 = .ok (.ishl, 1) := by decide +kernel
theorem dX6_leavesOf_25 : decode cX6_leavesOf 25 = .ok (.ior, 1) := by decide +kernel
theorem dX6_leavesOf_26 : decode cX6_leavesOf 26 = .ok (.iload_n 3, 1) := by decide +kernel
theorem dX6_leavesOf_27 : decode cX6_leavesOf 27 = .ok (.iload 4, 2) := by decide +kernel
theorem dX6_leavesOf_29 : decode cX6_leavesOf 29 = .ok (.iconst 1, 1) := by decide +kernel
theorem dX6_leavesOf_30 : decode cX6_leavesOf 30 = .ok (.iadd, 1) := by decide +kernel
theorem dX6_leavesOf_31 : decode cX6_leavesOf 31 = .ok (.invokevirtual 103, 3) := by decide +kernel
theorem dX6_leavesOf_34 : decode cX6_leavesOf 34 = .ok (.aload_n 0, 1) := by decide +kernel
theorem dX6_leavesOf_35 : decode cX6_leavesOf 35 = .ok (.iload_n 1, 1) := by decide +kernel
theorem dX6_leavesOf_36 : decode cX6_leavesOf 36 = .ok (.iload_n 2, 1) := by decide +kernel
theorem dX6_leavesOf_37 : decode cX6_leavesOf 37 = .ok (.iconst 1, 1) := by decide +kernel
theorem dX6_leavesOf_38 : decode cX6_leavesOf 38 = .ok (.iload 5, 2) := by decide +kernel
theorem dX6_leavesOf_40 : decode cX6_leavesOf 40 = .ok (.ishl, 1) := by decide +kernel
theorem dX6_leavesOf_41 : decode cX6_leavesOf 41 = .ok (.ior, 1) := by decide +kernel
theorem dX6_leavesOf_42 : decode cX6_leavesOf 42 = .ok (.iload_n 3, 1) := by decide +kernel
theorem dX6_leavesOf_43 : decode cX6_leavesOf 43 = .ok (.iconst 1, 1) := by decide +kernel
theorem dX6_leavesOf_44 : decode cX6_leavesOf 44 = .ok (.iload 5, 2) := by decide +kernel
theorem dX6_leavesOf_46 : decode cX6_leavesOf 46 = .ok (.ishl, 1) := by decide +kernel
