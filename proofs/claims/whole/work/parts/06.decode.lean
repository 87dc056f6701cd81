theorem dX6_leavesOf_47 : decode cX6_leavesOf 47 = .ok (.ior, 1) := by decide +kernel
theorem dX6_leavesOf_48 : decode cX6_leavesOf 48 = .ok (.iload 4, 2) := by decide +kernel
theorem dX6_leavesOf_50 : decode cX6_leavesOf 50 = .ok (.iconst 1, 1) := by decide +kernel
theorem dX6_leavesOf_51 : decode cX6_leavesOf 51 = .ok (.iadd, 1) := by decide +kernel
theorem dX6_leavesOf_52 : decode cX6_leavesOf 52 = .ok (.invokevirtual 103, 3) := by decide +kernel
theorem dX6_leavesOf_55 : decode cX6_leavesOf 55 = .ok (.iadd, 1) := by decide +kernel
theorem dX6_leavesOf_56 : decode cX6_leavesOf 56 = .ok (.ireturn, 1) := by decide +kernel
theorem dX6_leaves_0 : decode cX6_leaves 0 = .ok (.aload_n 0, 1) := by decide +kernel
theorem dX6_leaves_1 : decode cX6_leaves 1 = .ok (.iload_n 1, 1) := by decide +kernel
theorem dX6_leaves_2 : decode cX6_leaves 2 = .ok (.invokevirtual 74, 3) := by decide +kernel
theorem dX6_leaves_5 : decode cX6_leaves 5 = .ok (.ifCond .eq 14, 3) := by decide +kernel
theorem dX6_leaves_8 : decode cX6_leaves 8 = .ok (.aload_n 0, 1) := by decide +kernel
theorem dX6_leaves_9 : decode cX6_leaves 9 = .ok (.iload_n 1, 1) := by decide +kernel
theorem dX6_leaves_10 : decode cX6_leaves 10 = .ok (.iconst 0, 1) := by decide +kernel
theorem dX6_leaves_11 : decode cX6_leaves 11 = .ok (.iconst 0, 1) := by decide +kernel
theorem dX6_leaves_12 : decode cX6_leaves 12 = .ok (.iconst 0, 1) := by decide +kernel
theorem dX6_leaves_13 : decode cX6_leaves 13 = .ok (.invokevirtual 103, 3) := by decide +kernel
theorem dX6_leaves_16 : decode cX6_leaves 16 = .ok (.goto 4, 3) := by decide +kernel
theorem dX6_leaves_19 : decode cX6_leaves 19 = .ok (.iconst 0, 1) := by decide +kernel
theorem dX6_leaves_20 : decode cX6_leaves 20 = .ok (.ireturn, 1) := by decide +kernel
theorem dX6_goes_0 : decode cX6_goes 0 = .ok (.aload_n 0, 1) := by decide +kernel
theorem dX6_goes_1 : decode cX6_goes 1 = .ok (.iconst 0, 1) := by decide +kernel
theorem dX6_goes_2 : decode cX6_goes 2 = .ok (.putfield 106, 3) := by decide +kernel
theorem dX6_goes_5 : decode cX6_goes 5 = .ok (.aload_n 0, 1) := by decide +kernel
theorem dX6_goes_6 : decode cX6_goes 6 = .ok (.iconst 0, 1) := by decide +kernel
theorem dX6_goes_7 : decode cX6_goes 7 = .ok (.putfield 109, 3) := by decide +kernel
theorem dX6_goes_10 : decode cX6_goes 10 = .ok (.aload_n 0, 1) := by decide +kernel
theorem dX6_goes_11 : decode cX6_goes 11 = .ok (.iconst 0, 1) := by decide +kernel
theorem dX6_goes_12 : decode cX6_goes 12 = .ok (.putfield 112, 3) := by decide +kernel
theorem dX6_goes_15 : decode cX6_goes 15 = .ok (.aload_n 0, 1) := by decide +kernel
theorem dX6_goes_16 : decode cX6_goes 16 = .ok (.iload_n 1, 1) := by decide +kernel
theorem dX6_goes_17 : decode cX6_goes 17 = .ok (.iconst 0, 1) := by decide +kernel
theorem dX6_goes_18 : decode cX6_goes 18 = .ok (.iconst 0, 1) := by decide +kernel
theorem dX6_goes_19 : decode cX6_goes 19 = .ok (.iconst 0, 1) := by decide +kernel
theorem dX6_goes_20 : decode cX6_goes 20 = .ok (.invokevirtual 99, 3) := by decide +kernel
theorem dX6_goes_23 : decode cX6_goes 23 = .ok (.istore_n 3, 1) := by decide +kernel
theorem dX6_goes_24 : decode cX6_goes 24 = .ok (.iload_n 3, 1) := by decide +kernel
theorem dX6_goes_25 : decode cX6_goes 25 = .ok (.ifCond .lt 70, 3) := by decide +kernel
theorem dX6_goes_28 : decode cX6_goes 28 = .ok (.aload_n 0, 1) := by decide +kernel
theorem dX6_goes_29 : decode cX6_goes 29 = .ok (.getfield 29, 3) := by decide +kernel
theorem dX6_goes_32 : decode cX6_goes 32 = .ok (.aload_n 0, 1) := by decide +kernel
theorem dX6_goes_33 : decode cX6_goes 33 = .ok (.getfield 112, 3) := by decide +kernel
theorem dX6_goes_36 : decode cX6_goes 36 = .ok (.iload_n 3, 1) := by decide +kernel
theorem dX6_goes_37 : decode cX6_goes 37 = .ok (.iastore, 1) := by decide +kernel
theorem dX6_goes_38 : decode cX6_goes 38 = .ok (.aload_n 0, 1) := by decide +kernel
theorem dX6_goes_39 : decode cX6_goes 39 = .ok (.dup, 1) := by decide +kernel
theorem dX6_goes_40 : decode cX6_goes 40 = .ok (.getfield 112, 3) := by decide +kernel
theorem dX6_goes_43 : decode cX6_goes 43 = .ok (.iconst 1, 1) := by decide +kernel
theorem dX6_goes_44 : decode cX6_goes 44 = .ok (.iadd, 1) := by decide +kernel
theorem dX6_goes_45 : decode cX6_goes 45 = .ok (.putfield 112, 3) := by decide +kernel
theorem dX6_goes_48 : decode cX6_goes 48 = .ok (.aload_n 0, 1) := by decide +kernel
theorem dX6_goes_49 : decode cX6_goes 49 = .ok (.dup, 1) := by decide +kernel
theorem dX6_goes_50 : decode cX6_goes 50 = .ok (.getfield 106, 3) := by decide +kernel
theorem dX6_goes_53 : decode cX6_goes 53 = .ok (.iconst 1, 1) := by decide +kernel
theorem dX6_goes_54 : decode cX6_goes 54 = .ok (.iload_n 3, 1) := by decide +kernel
theorem dX6_goes_55 : decode cX6_goes 55 = .ok (.ishl, 1) := by decide +kernel
theorem dX6_goes_56 : decode cX6_goes 56 = .ok (.ior, 1) := by decide +kernel
theorem dX6_goes_57 : decode cX6_goes 57 = .ok (.putfield 106, 3) := by decide +kernel
theorem dX6_goes_60 : decode cX6_goes 60 = .ok (.aload_n 0, 1) := by decide +kernel
theorem dX6_goes_61 : decode cX6_goes 61 = .ok (.dup, 1) := by decide +kernel
theorem dX6_goes_62 : decode cX6_goes 62 = .ok (.getfield 109, 3) := by decide +kernel
theorem dX6_goes_65 : decode cX6_goes 65 = .ok (.iload_n 2, 1) := by decide +kernel
theorem dX6_goes_66 : decode cX6_goes 66 = .ok (.iconst 1, 1) := by decide +kernel
theorem dX6_goes_67 : decode cX6_goes 67 = .ok (.iload_n 3, 1) := by decide +kernel
theorem dX6_goes_68 : decode cX6_goes 68 = .ok (.ishl, 1) := by decide +kernel
theorem dX6_goes_69 : decode cX6_goes 69 = .ok (.iand, 1) := by decide +kernel
theorem dX6_goes_70 : decode cX6_goes 70 = .ok (.ior, 1) := by decide +kernel
theorem dX6_goes_71 : decode cX6_goes 71 = .ok (.putfield 109, 3) := by decide +kernel
theorem dX6_goes_74 : decode cX6_goes 74 = .ok (.aload_n 0, 1) := by decide +kernel
theorem dX6_goes_75 : decode cX6_goes 75 = .ok (.iload_n 1, 1) := by decide +kernel
theorem dX6_goes_76 : decode cX6_goes 76 = .ok (.aload_n 0, 1) := by decide +kernel
theorem dX6_goes_77 : decode cX6_goes 77 = .ok (.getfield 106, 3) := by decide +kernel
theorem dX6_goes_80 : decode cX6_goes 80 = .ok (.aload_n 0, 1) := by decide +kernel
theorem dX6_goes_81 : decode cX6_goes 81 = .ok (.getfield 109, 3) := by decide +kernel
theorem dX6_goes_84 : decode cX6_goes 84 = .ok (.aload_n 0, 1) := by decide +kernel
theorem dX6_goes_85 : decode cX6_goes 85 = .ok (.getfield 112, 3) := by decide +kernel
theorem dX6_goes_88 : decode cX6_goes 88 = .ok (.invokevirtual 99, 3) := by decide +kernel
theorem dX6_goes_91 : decode cX6_goes 91 = .ok (.istore_n 3, 1) := by decide +kernel
theorem dX6_goes_92 : decode cX6_goes 92 = .ok (.goto (-68), 3) := by decide +kernel
theorem dX6_goes_95 : decode cX6_goes 95 = .ok (.return_, 1) := by decide +kernel
theorem dX6_isLeafOf_0 : decode cX6_isLeafOf 0 = .ok (.aload_n 0, 1) := by decide +kernel
theorem dX6_isLeafOf_1 : decode cX6_isLeafOf 1 = .ok (.getfield 25, 3) := by decide +kernel
theorem dX6_isLeafOf_4 : decode cX6_isLeafOf 4 = .ok (.iload_n 1, 1) := by decide +kernel
theorem dX6_isLeafOf_5 : decode cX6_isLeafOf 5 = .ok (.baload, 1) := by decide +kernel
theorem dX6_isLeafOf_6 : decode cX6_isLeafOf 6 = .ok (.ifCond .eq 25, 3) := by decide +kernel
theorem dX6_isLeafOf_9 : decode cX6_isLeafOf 9 = .ok (.aload_n 0, 1) := by decide +kernel
theorem dX6_isLeafOf_10 : decode cX6_isLeafOf 10 = .ok (.getfield 19, 3) := by decide +kernel
theorem dX6_isLeafOf_13 : decode cX6_isLeafOf 13 = .ok (.iload_n 1, 1) := by decide +kernel
theorem dX6_isLeafOf_14 : decode cX6_isLeafOf 14 = .ok (.iaload, 1) := by decide +kernel
theorem dX6_isLeafOf_15 : decode cX6_isLeafOf 15 = .ok (.aload_n 0, 1) := by decide +kernel
theorem dX6_isLeafOf_16 : decode cX6_isLeafOf 16 = .ok (.getfield 106, 3) := by decide +kernel
theorem dX6_isLeafOf_19 : decode cX6_isLeafOf 19 = .ok (.iand, 1) := by decide +kernel
theorem dX6_isLeafOf_20 : decode cX6_isLeafOf 20 = .ok (.aload_n 0, 1) := by decide +kernel
theorem dX6_isLeafOf_21 : decode cX6_isLeafOf 21 = .ok (.getfield 109, 3) := by decide +kernel
theorem dX6_isLeafOf_24 : decode cX6_isLeafOf 24 = .ok (.if_icmp .ne 7, 3) := by decide +kernel
theorem dX6_isLeafOf_27 : decode cX6_isLeafOf 27 = .ok (.iconst 1, 1) := by decide +kernel
theorem dX6_isLeafOf_28 : decode cX6_isLeafOf 28 = .ok (.goto 4, 3) := by decide +kernel
theorem dX6_isLeafOf_31 : decode cX6_isLeafOf 31 = .ok (.iconst 0, 1) := by decide +kernel
theorem dX6_isLeafOf_32 : decode cX6_isLeafOf 32 = .ok (.ireturn, 1) := by decide +kernel
theorem dX6_split_0 : decode cX6_split 0 = .ok (.aload_n 0, 1) := by decide +kernel
theorem dX6_split_1 : decode cX6_split 1 = .ok (.iload_n 1, 1) := by decide +kernel
theorem dX6_split_2 : decode cX6_split 2 = .ok (.invokevirtual 74, 3) := by decide +kernel
theorem dX6_split_5 : decode cX6_split 5 = .ok (.ifCond .eq 23, 3) := by decide +kernel
theorem dX6_split_8 : decode cX6_split 8 = .ok (.aload_n 0, 1) := by decide +kernel
theorem dX6_split_9 : decode cX6_split 9 = .ok (.iload_n 2, 1) := by decide +kernel
theorem dX6_split_10 : decode cX6_split 10 = .ok (.invokestatic 63, 3) := by decide +kernel
theorem dX6_split_13 : decode cX6_split 13 = .ok (.ifCond .ne 7, 3) := by decide +kernel
theorem dX6_split_16 : decode cX6_split 16 = .ok (.iconst 1, 1) := by decide +kernel
theorem dX6_split_17 : decode cX6_split 17 = .ok (.goto 4, 3) := by decide +kernel
theorem dX6_split_20 : decode cX6_split 20 = .ok (.iconst 0, 1) := by decide +kernel
theorem dX6_split_21 : decode cX6_split 21 = .ok (.iconst 2, 1) := by decide +kernel
theorem dX6_split_22 : decode cX6_split 22 = .ok (.invokevirtual 67, 3) := by decide +kernel
theorem dX6_split_25 : decode cX6_split 25 = .ok (.ifCond .eq 5, 3) := by decide +kernel
theorem dX6_split_28 : decode cX6_split 28 = .ok (.iconst 0, 1) := by decide +kernel
theorem dX6_split_29 : decode cX6_split 29 = .ok (.ireturn, 1) := by decide +kernel
theorem dX6_split_30 : decode cX6_split 30 = .ok (.aload_n 0, 1) := by decide +kernel
theorem dX6_split_31 : decode cX6_split 31 = .ok (.iload_n 1, 1) := by decide +kernel
theorem dX6_split_32 : decode cX6_split 32 = .ok (.iload_n 2, 1) := by decide +kernel
theorem dX6_split_33 : decode cX6_split 33 = .ok (.invokevirtual 115, 3) := by decide +kernel
theorem dX6_split_36 : decode cX6_split 36 = .ok (.iload_n 3, 1) := by decide +kernel
theorem dX6_split_37 : decode cX6_split 37 = .ok (.ifCond .lt 20, 3) := by decide +kernel
theorem dX6_split_40 : decode cX6_split 40 = .ok (.iload_n 3, 1) := by decide +kernel
theorem dX6_split_41 : decode cX6_split 41 = .ok (.aload_n 0, 1) := by decide +kernel
theorem dX6_split_42 : decode cX6_split 42 = .ok (.getfield 112, 3) := by decide +kernel
theorem dX6_split_45 : decode cX6_split 45 = .ok (.if_icmp .ge 12, 3) := by decide +kernel
theorem dX6_split_48 : decode cX6_split 48 = .ok (.aload_n 0, 1) := by decide +kernel
theorem dX6_split_49 : decode cX6_split 49 = .ok (.getfield 29, 3) := by decide +kernel
theorem dX6_split_52 : decode cX6_split 52 = .ok (.iload_n 3, 1) := by decide +kernel
theorem dX6_split_53 : decode cX6_split 53 = .ok (.iaload, 1) := by decide +kernel
theorem dX6_split_54 : decode cX6_split 54 = .ok (.goto 4, 3) := by decide +kernel
theorem dX6_split_57 : decode cX6_split 57 = .ok (.iconst (-1), 1) := by decide +kernel
theorem dX6_split_58 : decode cX6_split 58 = .ok (.ireturn, 1) := by decide +kernel
theorem dX6_leaf_0 : decode cX6_leaf 0 = .ok (.aload_n 0, 1) := by decide +kernel
theorem dX6_leaf_1 : decode cX6_leaf 1 = .ok (.iload_n 1, 1) := by decide +kernel
theorem dX6_leaf_2 : decode cX6_leaf 2 = .ok (.invokevirtual 74, 3) := by decide +kernel
theorem dX6_leaf_5 : decode cX6_leaf 5 = .ok (.ifCond .eq 32, 3) := by decide +kernel
theorem dX6_leaf_8 : decode cX6_leaf 8 = .ok (.aload_n 0, 1) := by decide +kernel
theorem dX6_leaf_9 : decode cX6_leaf 9 = .ok (.iload_n 2, 1) := by decide +kernel
theorem dX6_leaf_10 : decode cX6_leaf 10 = .ok (.invokestatic 63, 3) := by decide +kernel
theorem dX6_leaf_13 : decode cX6_leaf 13 = .ok (.ifCond .eq 12, 3) := by decide +kernel
theorem dX6_leaf_16 : decode cX6_leaf 16 = .ok (.iload_n 3, 1) := by decide +kernel
theorem dX6_leaf_17 : decode cX6_leaf 17 = .ok (.ifCond .lt 8, 3) := by decide +kernel
theorem dX6_leaf_20 : decode cX6_leaf 20 = .ok (.iload_n 3, 1) := by decide +kernel
theorem dX6_leaf_21 : decode cX6_leaf 21 = .ok (.iconst 3, 1) := by decide +kernel
theorem dX6_leaf_22 : decode cX6_leaf 22 = .ok (.if_icmp .le 7, 3) := by decide +kernel
theorem dX6_leaf_25 : decode cX6_leaf 25 = .ok (.iconst 1, 1) := by decide +kernel
theorem dX6_leaf_26 : decode cX6_leaf 26 = .ok (.goto 4, 3) := by decide +kernel
theorem dX6_leaf_29 : decode cX6_leaf 29 = .ok (.iconst 0, 1) := by decide +kernel
theorem dX6_leaf_30 : decode cX6_leaf 30 = .ok (.iconst 2, 1) := by decide +kernel
theorem dX6_leaf_31 : decode cX6_leaf 31 = .ok (.invokevirtual 67, 3) := by decide +kernel
theorem dX6_leaf_34 : decode cX6_leaf 34 = .ok (.ifCond .eq 5, 3) := by decide +kernel
theorem dX6_leaf_37 : decode cX6_leaf 37 = .ok (.iconst 0, 1) := by decide +kernel
theorem dX6_leaf_38 : decode cX6_leaf 38 = .ok (.ireturn, 1) := by decide +kernel
theorem dX6_leaf_39 : decode cX6_leaf 39 = .ok (.aload_n 0, 1) := by decide +kernel
theorem dX6_leaf_40 : decode cX6_leaf 40 = .ok (.iload_n 1, 1) := by decide +kernel
theorem dX6_leaf_41 : decode cX6_leaf 41 = .ok (.iload_n 2, 1) := by decide +kernel
theorem dX6_leaf_42 : decode cX6_leaf 42 = .ok (.invokevirtual 115, 3) := by decide +kernel
theorem dX6_leaf_45 : decode cX6_leaf 45 = .ok (.iconst 0, 1) := by decide +kernel
theorem dX6_leaf_46 : decode cX6_leaf 46 = .ok (.istore 4, 2) := by decide +kernel
theorem dX6_leaf_48 : decode cX6_leaf 48 = .ok (.iconst 0, 1) := by decide +kernel
theorem dX6_leaf_49 : decode cX6_leaf 49 = .ok (.istore 5, 2) := by decide +kernel
theorem dX6_leaf_51 : decode cX6_leaf 51 = .ok (.iconst 0, 1) := by decide +kernel
theorem dX6_leaf_52 : decode cX6_leaf 52 = .ok (.istore 6, 2) := by decide +kernel
theorem dX6_leaf_54 : decode cX6_leaf 54 = .ok (.iconst 0, 1) := by decide +kernel
theorem dX6_leaf_55 : decode cX6_leaf 55 = .ok (.istore 7, 2) := by decide +kernel
theorem dX6_leaf_57 : decode cX6_leaf 57 = .ok (.iconst 0, 1) := by decide +kernel
theorem dX6_leaf_58 : decode cX6_leaf 58 = .ok (.istore 8, 2) := by decide +kernel
theorem dX6_leaf_60 : decode cX6_leaf 60 = .ok (.iload 8, 2) := by decide +kernel
theorem dX6_leaf_62 : decode cX6_leaf 62 = .ok (.aload_n 0, 1) := by decide +kernel
theorem dX6_leaf_63 : decode cX6_leaf 63 = .ok (.getfield 77, 3) := by decide +kernel
theorem dX6_leaf_66 : decode cX6_leaf 66 = .ok (.if_icmp .ge 87, 3) := by decide +kernel
theorem dX6_leaf_69 : decode cX6_leaf 69 = .ok (.aload_n 0, 1) := by decide +kernel
theorem dX6_leaf_70 : decode cX6_leaf 70 = .ok (.iload 8, 2) := by decide +kernel
theorem dX6_leaf_72 : decode cX6_leaf 72 = .ok (.invokevirtual 119, 3) := by decide +kernel
theorem dX6_leaf_75 : decode cX6_leaf 75 = .ok (.ifCond .ne 6, 3) := by decide +kernel
theorem dX6_leaf_78 : decode cX6_leaf 78 = .ok (.goto 69, 3) := by decide +kernel
theorem dX6_leaf_81 : decode cX6_leaf 81 = .ok (.aload_n 0, 1) := by decide +kernel
theorem dX6_leaf_82 : decode cX6_leaf 82 = .ok (.getfield 22, 3) := by decide +kernel
theorem dX6_leaf_85 : decode cX6_leaf 85 = .ok (.bipush 6, 2) := by decide +kernel
theorem dX6_leaf_87 : decode cX6_leaf 87 = .ok (.iload 8, 2) := by decide +kernel
theorem dX6_leaf_89 : decode cX6_leaf 89 = .ok (.imul, 1) := by decide +kernel
theorem dX6_leaf_90 : decode cX6_leaf 90 = .ok (.iload_n 1, 1) := by decide +kernel
theorem dX6_leaf_91 : decode cX6_leaf 91 = .ok (.iadd, 1) := by decide +kernel
theorem dX6_leaf_92 : decode cX6_leaf 92 = .ok (.iaload, 1) := by decide +kernel
theorem dX6_leaf_93 : decode cX6_leaf 93 = .ok (.istore 9, 2) := by decide +kernel
theorem dX6_leaf_95 : decode cX6_leaf 95 = .ok (.iload 4, 2) := by decide +kernel
theorem dX6_leaf_97 : decode cX6_leaf 97 = .ok (.ifCond .eq 10, 3) := by decide +kernel
theorem dX6_leaf_100 : decode cX6_leaf 100 = .ok (.iload 9, 2) := by decide +kernel
theorem dX6_leaf_102 : decode cX6_leaf 102 = .ok (.iload 6, 2) := by decide +kernel
theorem dX6_leaf_104 : decode cX6_leaf 104 = .ok (.if_icmp .ge 8, 3) := by decide +kernel
theorem dX6_leaf_107 : decode cX6_leaf 107 = .ok (.iload 9, 2) := by decide +kernel
theorem dX6_leaf_109 : decode cX6_leaf 109 = .ok (.goto 5, 3) := by decide +kernel
theorem dX6_leaf_112 : decode cX6_leaf 112 = .ok (.iload 6, 2) := by decide +kernel
theorem dX6_leaf_114 : decode cX6_leaf 114 = .ok (.istore 6, 2) := by decide +kernel
theorem dX6_leaf_116 : decode cX6_leaf 116 = .ok (.iload 4, 2) := by decide +kernel
theorem dX6_leaf_118 : decode cX6_leaf 118 = .ok (.ifCond .eq 10, 3) := by decide +kernel
theorem dX6_leaf_121 : decode cX6_leaf 121 = .ok (.iload 9, 2) := by decide +kernel
theorem dX6_leaf_123 : decode cX6_leaf 123 = .ok (.iload 7, 2) := by decide +kernel
theorem dX6_leaf_125 : decode cX6_leaf 125 = .ok (.if_icmp .le 8, 3) := by decide +kernel
theorem dX6_leaf_128 : decode cX6_leaf 128 = .ok (.iload 9, 2) := by decide +kernel
theorem dX6_leaf_130 : decode cX6_leaf 130 = .ok (.goto 5, 3) := by decide +kernel
theorem dX6_leaf_133 : decode cX6_leaf 133 = .ok (.iload 7, 2) := by decide +kernel
theorem dX6_leaf_135 : decode cX6_leaf 135 = .ok (.istore 7, 2) := by decide +kernel
theorem dX6_leaf_137 : decode cX6_leaf 137 = .ok (.iinc 4 1, 3) := by decide +kernel
theorem dX6_leaf_140 : decode cX6_leaf 140 = .ok (.iload 5, 2) := by decide +kernel
theorem dX6_leaf_142 : decode cX6_leaf 142 = .ok (.iload 9, 2) := by decide +kernel
theorem dX6_leaf_144 : decode cX6_leaf 144 = .ok (.iadd, 1) := by decide +kernel
theorem dX6_leaf_145 : decode cX6_leaf 145 = .ok (.istore 5, 2) := by decide +kernel
theorem dX6_leaf_147 : decode cX6_leaf 147 = .ok (.iinc 8 1, 3) := by decide +kernel
theorem dX6_leaf_150 : decode cX6_leaf 150 = .ok (.goto (-90), 3) := by decide +kernel
theorem dX6_leaf_153 : decode cX6_leaf 153 = .ok (.iload_n 3, 1) := by decide +kernel
theorem dX6_leaf_154 : decode cX6_leaf 154 = .ok (.ifCond .ne 8, 3) := by decide +kernel
theorem dX6_leaf_157 : decode cX6_leaf 157 = .ok (.iload 4, 2) := by decide +kernel
theorem dX6_leaf_159 : decode cX6_leaf 159 = .ok (.goto 25, 3) := by decide +kernel
theorem dX6_leaf_162 : decode cX6_leaf 162 = .ok (.iload_n 3, 1) := by decide +kernel
theorem dX6_leaf_163 : decode cX6_leaf 163 = .ok (.iconst 1, 1) := by decide +kernel
theorem dX6_leaf_164 : decode cX6_leaf 164 = .ok (.if_icmp .ne 8, 3) := by decide +kernel
theorem dX6_leaf_167 : decode cX6_leaf 167 = .ok (.iload 5, 2) := by decide +kernel
theorem dX6_leaf_169 : decode cX6_leaf 169 = .ok (.goto 15, 3) := by decide +kernel
theorem dX6_leaf_172 : decode cX6_leaf 172 = .ok (.iload_n 3, 1) := by decide +kernel
theorem dX6_leaf_173 : decode cX6_leaf 173 = .ok (.iconst 2, 1) := by decide +kernel
theorem dX6_leaf_174 : decode cX6_leaf 174 = .ok (.if_icmp .ne 8, 3) := by decide +kernel
theorem dX6_leaf_177 : decode cX6_leaf 177 = .ok (.iload 6, 2) := by decide +kernel
theorem dX6_leaf_179 : decode cX6_leaf 179 = .ok (.goto 5, 3) := by decide +kernel
theorem dX6_leaf_182 : decode cX6_leaf 182 = .ok (.iload 7, 2) := by decide +kernel
theorem dX6_leaf_184 : decode cX6_leaf 184 = .ok (.ireturn, 1) := by decide +kernel
theorem dX6_size_0 : decode cX6_size 0 = .ok (.aload_n 0, 1) := by decide +kernel
theorem dX6_size_1 : decode cX6_size 1 = .ok (.iconst 0, 1) := by decide +kernel
theorem dX6_size_2 : decode cX6_size 2 = .ok (.putfield 60, 3) := by decide +kernel
theorem dX6_size_5 : decode cX6_size 5 = .ok (.aload_n 0, 1) := by decide +kernel
theorem dX6_size_6 : decode cX6_size 6 = .ok (.iload_n 1, 1) := by decide +kernel
theorem dX6_size_7 : decode cX6_size 7 = .ok (.iconst 1, 1) := by decide +kernel
theorem dX6_size_8 : decode cX6_size 8 = .ok (.if_icmp .lt 22, 3) := by decide +kernel
theorem dX6_size_11 : decode cX6_size 11 = .ok (.iload_n 1, 1) := by decide +kernel
theorem dX6_size_12 : decode cX6_size 12 = .ok (.sipush 200, 3) := by decide +kernel
theorem dX6_size_15 : decode cX6_size 15 = .ok (.if_icmp .gt 15, 3) := by decide +kernel
theorem dX6_size_18 : decode cX6_size 18 = .ok (.iload_n 2, 1) := by decide +kernel
theorem dX6_size_19 : decode cX6_size 19 = .ok (.iconst 1, 1) := by decide +kernel
theorem dX6_size_20 : decode cX6_size 20 = .ok (.if_icmp .lt 10, 3) := by decide +kernel
theorem dX6_size_23 : decode cX6_size 23 = .ok (.iload_n 2, 1) := by decide +kernel
theorem dX6_size_24 : decode cX6_size 24 = .ok (.sipush 10000, 3) := by decide +kernel
theorem dX6_size_27 : decode cX6_size 27 = .ok (.if_icmp .le 7, 3) := by decide +kernel
theorem dX6_size_30 : decode cX6_size 30 = .ok (.iconst 1, 1) := by decide +kernel
theorem dX6_size_31 : decode cX6_size 31 = .ok (.goto 4, 3) := by decide +kernel
theorem dX6_size_34 : decode cX6_size 34 = .ok (.iconst 0, 1) := by decide +kernel
theorem dX6_size_35 : decode cX6_size 35 = .ok (.iconst 1, 1) := by decide +kernel
theorem dX6_size_36 : decode cX6_size 36 = .ok (.invokevirtual 67, 3) := by decide +kernel
theorem dX6_size_39 : decode cX6_size 39 = .ok (.ifCond .ne 24, 3) := by decide +kernel
theorem dX6_size_42 : decode cX6_size 42 = .ok (.aload_n 0, 1) := by decide +kernel
theorem dX6_size_43 : decode cX6_size 43 = .ok (.aload_n 0, 1) := by decide +kernel
theorem dX6_size_44 : decode cX6_size 44 = .ok (.getfield 122, 3) := by decide +kernel
theorem dX6_size_47 : decode cX6_size 47 = .ok (.iconst 4, 1) := by decide +kernel
theorem dX6_size_48 : decode cX6_size 48 = .ok (.if_icmp .ne 7, 3) := by decide +kernel
theorem dX6_size_51 : decode cX6_size 51 = .ok (.iconst 1, 1) := by decide +kernel
theorem dX6_size_52 : decode cX6_size 52 = .ok (.goto 4, 3) := by decide +kernel
theorem dX6_size_55 : decode cX6_size 55 = .ok (.iconst 0, 1) := by decide +kernel
theorem dX6_size_56 : decode cX6_size 56 = .ok (.iconst 2, 1) := by decide +kernel
theorem dX6_size_57 : decode cX6_size 57 = .ok (.invokevirtual 67, 3) := by decide +kernel
theorem dX6_size_60 : decode cX6_size 60 = .ok (.ifCond .eq 5, 3) := by decide +kernel
theorem dX6_size_63 : decode cX6_size 63 = .ok (.iconst 0, 1) := by decide +kernel
theorem dX6_size_64 : decode cX6_size 64 = .ok (.ireturn, 1) := by decide +kernel
theorem dX6_size_65 : decode cX6_size 65 = .ok (.aload_n 0, 1) := by decide +kernel
theorem dX6_size_66 : decode cX6_size 66 = .ok (.getfield 32, 3) := by decide +kernel
theorem dX6_size_69 : decode cX6_size 69 = .ok (.aload_n 0, 1) := by decide +kernel
theorem dX6_size_70 : decode cX6_size 70 = .ok (.getfield 122, 3) := by decide +kernel
theorem dX6_size_73 : decode cX6_size 73 = .ok (.iload_n 1, 1) := by decide +kernel
theorem dX6_size_74 : decode cX6_size 74 = .ok (.iastore, 1) := by decide +kernel
theorem dX6_size_75 : decode cX6_size 75 = .ok (.aload_n 0, 1) := by decide +kernel
theorem dX6_size_76 : decode cX6_size 76 = .ok (.getfield 35, 3) := by decide +kernel
theorem dX6_size_79 : decode cX6_size 79 = .ok (.aload_n 0, 1) := by decide +kernel
theorem dX6_size_80 : decode cX6_size 80 = .ok (.getfield 122, 3) := by decide +kernel
theorem dX6_size_83 : decode cX6_size 83 = .ok (.iload_n 2, 1) := by decide +kernel
theorem dX6_size_84 : decode cX6_size 84 = .ok (.iastore, 1) := by decide +kernel
theorem dX6_size_85 : decode cX6_size 85 = .ok (.aload_n 0, 1) := by decide +kernel
theorem dX6_size_86 : decode cX6_size 86 = .ok (.dup, 1) := by decide +kernel
theorem dX6_size_87 : decode cX6_size 87 = .ok (.getfield 122, 3) := by decide +kernel
theorem dX6_size_90 : decode cX6_size 90 = .ok (.iconst 1, 1) := by decide +kernel
theorem dX6_size_91 : decode cX6_size 91 = .ok (.iadd, 1) := by decide +kernel
theorem dX6_size_92 : decode cX6_size 92 = .ok (.putfield 122, 3) := by decide +kernel
theorem dX6_size_95 : decode cX6_size 95 = .ok (.aload_n 0, 1) := by decide +kernel
theorem dX6_size_96 : decode cX6_size 96 = .ok (.getfield 122, 3) := by decide +kernel
theorem dX6_size_99 : decode cX6_size 99 = .ok (.iconst 1, 1) := by decide +kernel
theorem dX6_size_100 : decode cX6_size 100 = .ok (.isub, 1) := by decide +kernel
theorem dX6_size_101 : decode cX6_size 101 = .ok (.ireturn, 1) := by decide +kernel
theorem dX6_prices_0 : decode cX6_prices 0 = .ok (.aload_n 0, 1) := by decide +kernel
theorem dX6_prices_1 : decode cX6_prices 1 = .ok (.iconst 0, 1) := by decide +kernel
theorem dX6_prices_2 : decode cX6_prices 2 = .ok (.putfield 60, 3) := by decide +kernel
theorem dX6_prices_5 : decode cX6_prices 5 = .ok (.aload_n 0, 1) := by decide +kernel
theorem dX6_prices_6 : decode cX6_prices 6 = .ok (.iload_n 1, 1) := by decide +kernel
theorem dX6_prices_7 : decode cX6_prices 7 = .ok (.ifCond .lt 21, 3) := by decide +kernel
theorem dX6_prices_10 : decode cX6_prices 10 = .ok (.iload_n 1, 1) := by decide +kernel
theorem dX6_prices_11 : decode cX6_prices 11 = .ok (.sipush 1000, 3) := by decide +kernel
theorem dX6_prices_14 : decode cX6_prices 14 = .ok (.if_icmp .gt 14, 3) := by decide +kernel
theorem dX6_prices_17 : decode cX6_prices 17 = .ok (.iload_n 2, 1) := by decide +kernel
theorem dX6_prices_18 : decode cX6_prices 18 = .ok (.ifCond .lt 10, 3) := by decide +kernel
theorem dX6_prices_21 : decode cX6_prices 21 = .ok (.iload_n 2, 1) := by decide +kernel
theorem dX6_prices_22 : decode cX6_prices 22 = .ok (.sipush 1000, 3) := by decide +kernel
theorem dX6_prices_25 : decode cX6_prices 25 = .ok (.if_icmp .le 7, 3) := by decide +kernel
theorem dX6_prices_28 : decode cX6_prices 28 = .ok (.iconst 1, 1) := by decide +kernel
theorem dX6_prices_29 : decode cX6_prices 29 = .ok (.goto 4, 3) := by decide +kernel
theorem dX6_prices_32 : decode cX6_prices 32 = .ok (.iconst 0, 1) := by decide +kernel
theorem dX6_prices_33 : decode cX6_prices 33 = .ok (.iconst 1, 1) := by decide +kernel
theorem dX6_prices_34 : decode cX6_prices 34 = .ok (.invokevirtual 67, 3) := by decide +kernel
theorem dX6_prices_37 : decode cX6_prices 37 = .ok (.ifCond .eq 4, 3) := by decide +kernel
theorem dX6_prices_40 : decode cX6_prices 40 = .ok (.return_, 1) := by decide +kernel
theorem dX6_prices_41 : decode cX6_prices 41 = .ok (.aload_n 0, 1) := by decide +kernel
theorem dX6_prices_42 : decode cX6_prices 42 = .ok (.iload_n 1, 1) := by decide +kernel
theorem dX6_prices_43 : decode cX6_prices 43 = .ok (.putfield 38, 3) := by decide +kernel
theorem dX6_prices_46 : decode cX6_prices 46 = .ok (.aload_n 0, 1) := by decide +kernel
theorem dX6_prices_47 : decode cX6_prices 47 = .ok (.iload_n 2, 1) := by decide +kernel
theorem dX6_prices_48 : decode cX6_prices 48 = .ok (.putfield 42, 3) := by decide +kernel
theorem dX6_prices_51 : decode cX6_prices 51 = .ok (.return_, 1) := by decide +kernel
theorem dX6_costOf_0 : decode cX6_costOf 0 = .ok (.lconst 0, 1) := by decide +kernel
theorem dX6_costOf_1 : decode cX6_costOf 1 = .ok (.lstore 5, 2) := by decide +kernel
theorem dX6_costOf_3 : decode cX6_costOf 3 = .ok (.iconst 0, 1) := by decide +kernel
theorem dX6_costOf_4 : decode cX6_costOf 4 = .ok (.istore 7, 2) := by decide +kernel
theorem dX6_costOf_6 : decode cX6_costOf 6 = .ok (.iload 7, 2) := by decide +kernel
theorem dX6_costOf_8 : decode cX6_costOf 8 = .ok (.aload_n 0, 1) := by decide +kernel
theorem dX6_costOf_9 : decode cX6_costOf 9 = .ok (.getfield 77, 3) := by decide +kernel
theorem dX6_costOf_12 : decode cX6_costOf 12 = .ok (.if_icmp .ge 75, 3) := by decide +kernel
theorem dX6_costOf_15 : decode cX6_costOf 15 = .ok (.aload_n 0, 1) := by decide +kernel
theorem dX6_costOf_16 : decode cX6_costOf 16 = .ok (.iload 7, 2) := by decide +kernel
theorem dX6_costOf_18 : decode cX6_costOf 18 = .ok (.invokevirtual 119, 3) := by decide +kernel
theorem dX6_costOf_21 : decode cX6_costOf 21 = .ok (.ifCond .ne 6, 3) := by decide +kernel
theorem dX6_costOf_24 : decode cX6_costOf 24 = .ok (.goto 57, 3) := by decide +kernel
theorem dX6_costOf_27 : decode cX6_costOf 27 = .ok (.iload_n 3, 1) := by decide +kernel
theorem dX6_costOf_28 : decode cX6_costOf 28 = .ok (.iload_n 2, 1) := by decide +kernel
theorem dX6_costOf_29 : decode cX6_costOf 29 = .ok (.iadd, 1) := by decide +kernel
theorem dX6_costOf_30 : decode cX6_costOf 30 = .ok (.aload_n 0, 1) := by decide +kernel
theorem dX6_costOf_31 : decode cX6_costOf 31 = .ok (.getfield 22, 3) := by decide +kernel
theorem dX6_costOf_34 : decode cX6_costOf 34 = .ok (.bipush 6, 2) := by decide +kernel
theorem dX6_costOf_36 : decode cX6_costOf 36 = .ok (.iload 7, 2) := by decide +kernel
theorem dX6_costOf_38 : decode cX6_costOf 38 = .ok (.imul, 1) := by decide +kernel
theorem dX6_costOf_39 : decode cX6_costOf 39 = .ok (.iload_n 1, 1) := by decide +kernel
theorem dX6_costOf_40 : decode cX6_costOf 40 = .ok (.iadd, 1) := by decide +kernel
theorem dX6_costOf_41 : decode cX6_costOf 41 = .ok (.iaload, 1) := by decide +kernel
theorem dX6_costOf_42 : decode cX6_costOf 42 = .ok (.isub, 1) := by decide +kernel
theorem dX6_costOf_43 : decode cX6_costOf 43 = .ok (.istore 8, 2) := by decide +kernel
theorem dX6_costOf_45 : decode cX6_costOf 45 = .ok (.lload 5, 2) := by decide +kernel
theorem dX6_costOf_47 : decode cX6_costOf 47 = .ok (.iload 4, 2) := by decide +kernel
theorem dX6_costOf_49 : decode cX6_costOf 49 = .ok (.i2l, 1) := by decide +kernel
theorem dX6_costOf_50 : decode cX6_costOf 50 = .ok (.iload 8, 2) := by decide +kernel
theorem dX6_costOf_52 : decode cX6_costOf 52 = .ok (.ifCond .le 15, 3) := by decide +kernel
theorem dX6_costOf_55 : decode cX6_costOf 55 = .ok (.iload 8, 2) := by decide +kernel
theorem dX6_costOf_57 : decode cX6_costOf 57 = .ok (.i2l, 1) := by decide +kernel
theorem dX6_costOf_58 : decode cX6_costOf 58 = .ok (.aload_n 0, 1) := by decide +kernel
theorem dX6_costOf_59 : decode cX6_costOf 59 = .ok (.getfield 38, 3) := by decide +kernel
theorem dX6_costOf_62 : decode cX6_costOf 62 = .ok (.i2l, 1) := by decide +kernel
theorem dX6_costOf_63 : decode cX6_costOf 63 = .ok (.lmul, 1) := by decide +kernel
theorem dX6_costOf_64 : decode cX6_costOf 64 = .ok (.goto 13, 3) := by decide +kernel
theorem dX6_costOf_67 : decode cX6_costOf 67 = .ok (.iload 8, 2) := by decide +kernel
theorem dX6_costOf_69 : decode cX6_costOf 69 = .ok (.ineg, 1) := by decide +kernel
theorem dX6_costOf_70 : decode cX6_costOf 70 = .ok (.i2l, 1) := by decide +kernel
theorem dX6_costOf_71 : decode cX6_costOf 71 = .ok (.aload_n 0, 1) := by decide +kernel
theorem dX6_costOf_72 : decode cX6_costOf 72 = .ok (.getfield 42, 3) := by decide +kernel
theorem dX6_costOf_75 : decode cX6_costOf 75 = .ok (.i2l, 1) := by decide +kernel
theorem dX6_costOf_76 : decode cX6_costOf 76 = .ok (.lmul, 1) := by decide +kernel
theorem dX6_costOf_77 : decode cX6_costOf 77 = .ok (.ladd, 1) := by decide +kernel
theorem dX6_costOf_78 : decode cX6_costOf 78 = .ok (.ladd, 1) := by decide +kernel
theorem dX6_costOf_79 : decode cX6_costOf 79 = .ok (.lstore 5, 2) := by decide +kernel
theorem dX6_costOf_81 : decode cX6_costOf 81 = .ok (.iinc 7 1, 3) := by decide +kernel
theorem dX6_costOf_84 : decode cX6_costOf 84 = .ok (.goto (-78), 3) := by decide +kernel
theorem dX6_costOf_87 : decode cX6_costOf 87 = .ok (.lload 5, 2) := by decide +kernel
theorem dX6_costOf_89 : decode cX6_costOf 89 = .ok (.lreturn, 1) := by decide +kernel
theorem dX6_chooses_0 : decode cX6_chooses 0 = .ok (.aload_n 0, 1) := by decide +kernel
theorem dX6_chooses_1 : decode cX6_chooses 1 = .ok (.iload_n 1, 1) := by decide +kernel
theorem dX6_chooses_2 : decode cX6_chooses 2 = .ok (.iload_n 2, 1) := by decide +kernel
theorem dX6_chooses_3 : decode cX6_chooses 3 = .ok (.invokevirtual 115, 3) := by decide +kernel
theorem dX6_chooses_6 : decode cX6_chooses 6 = .ok (.iconst 0, 1) := by decide +kernel
theorem dX6_chooses_7 : decode cX6_chooses 7 = .ok (.istore 4, 2) := by decide +kernel
theorem dX6_chooses_9 : decode cX6_chooses 9 = .ok (.iconst 0, 1) := by decide +kernel
theorem dX6_chooses_10 : decode cX6_chooses 10 = .ok (.istore 5, 2) := by decide +kernel
theorem dX6_chooses_12 : decode cX6_chooses 12 = .ok (.iload 5, 2) := by decide +kernel
theorem dX6_chooses_14 : decode cX6_chooses 14 = .ok (.aload_n 0, 1) := by decide +kernel
theorem dX6_chooses_15 : decode cX6_chooses 15 = .ok (.getfield 77, 3) := by decide +kernel
theorem dX6_chooses_18 : decode cX6_chooses 18 = .ok (.if_icmp .ge 30, 3) := by decide +kernel
theorem dX6_chooses_21 : decode cX6_chooses 21 = .ok (.iload 4, 2) := by decide +kernel
theorem dX6_chooses_23 : decode cX6_chooses 23 = .ok (.ifCond .ne 12, 3) := by decide +kernel
theorem dX6_chooses_26 : decode cX6_chooses 26 = .ok (.aload_n 0, 1) := by decide +kernel
theorem dX6_chooses_27 : decode cX6_chooses 27 = .ok (.iload 5, 2) := by decide +kernel
theorem dX6_chooses_29 : decode cX6_chooses 29 = .ok (.invokevirtual 119, 3) := by decide +kernel
theorem dX6_chooses_32 : decode cX6_chooses 32 = .ok (.ifCond .eq 7, 3) := by decide +kernel
theorem dX6_chooses_35 : decode cX6_chooses 35 = .ok (.iconst 1, 1) := by decide +kernel
theorem dX6_chooses_36 : decode cX6_chooses 36 = .ok (.goto 4, 3) := by decide +kernel
theorem dX6_chooses_39 : decode cX6_chooses 39 = .ok (.iconst 0, 1) := by decide +kernel
theorem dX6_chooses_40 : decode cX6_chooses 40 = .ok (.istore 4, 2) := by decide +kernel
theorem dX6_chooses_42 : decode cX6_chooses 42 = .ok (.iinc 5 1, 3) := by decide +kernel
theorem dX6_chooses_45 : decode cX6_chooses 45 = .ok (.goto (-33), 3) := by decide +kernel
theorem dX6_chooses_48 : decode cX6_chooses 48 = .ok (.iload 4, 2) := by decide +kernel
theorem dX6_chooses_50 : decode cX6_chooses 50 = .ok (.ifCond .ne 5, 3) := by decide +kernel
theorem dX6_chooses_53 : decode cX6_chooses 53 = .ok (.iconst 0, 1) := by decide +kernel
theorem dX6_chooses_54 : decode cX6_chooses 54 = .ok (.ireturn, 1) := by decide +kernel
theorem dX6_chooses_55 : decode cX6_chooses 55 = .ok (.aload_n 0, 1) := by decide +kernel
theorem dX6_chooses_56 : decode cX6_chooses 56 = .ok (.ldc2_w 125, 3) := by decide +kernel
theorem dX6_chooses_59 : decode cX6_chooses 59 = .ok (.putfield 127, 3) := by decide +kernel
theorem dX6_chooses_62 : decode cX6_chooses 62 = .ok (.iconst 0, 1) := by decide +kernel
theorem dX6_chooses_63 : decode cX6_chooses 63 = .ok (.istore 5, 2) := by decide +kernel
theorem dX6_chooses_65 : decode cX6_chooses 65 = .ok (.iload 5, 2) := by decide +kernel
theorem dX6_chooses_67 : decode cX6_chooses 67 = .ok (.iconst 4, 1) := by decide +kernel
theorem dX6_chooses_68 : decode cX6_chooses 68 = .ok (.if_icmp .ge 17, 3) := by decide +kernel
theorem dX6_chooses_71 : decode cX6_chooses 71 = .ok (.aload_n 0, 1) := by decide +kernel
theorem dX6_chooses_72 : decode cX6_chooses 72 = .ok (.getfield 45, 3) := by decide +kernel
theorem dX6_chooses_75 : decode cX6_chooses 75 = .ok (.iload 5, 2) := by decide +kernel
theorem dX6_chooses_77 : decode cX6_chooses 77 = .ok (.iconst 0, 1) := by decide +kernel
theorem dX6_chooses_78 : decode cX6_chooses 78 = .ok (.iastore, 1) := by decide +kernel
theorem dX6_chooses_79 : decode cX6_chooses 79 = .ok (.iinc 5 1, 3) := by decide +kernel
theorem dX6_chooses_82 : decode cX6_chooses 82 = .ok (.goto (-17), 3) := by decide +kernel
theorem dX6_chooses_85 : decode cX6_chooses 85 = .ok (.iconst 1, 1) := by decide +kernel
theorem dX6_chooses_86 : decode cX6_chooses 86 = .ok (.istore 5, 2) := by decide +kernel
theorem dX6_chooses_88 : decode cX6_chooses 88 = .ok (.iload 5, 2) := by decide +kernel
theorem dX6_chooses_90 : decode cX6_chooses 90 = .ok (.ifCond .eq 176, 3) := by decide +kernel
theorem dX6_chooses_93 : decode cX6_chooses 93 = .ok (.iconst 0, 1) := by decide +kernel
theorem dX6_chooses_94 : decode cX6_chooses 94 = .ok (.istore 6, 2) := by decide +kernel
theorem dX6_chooses_96 : decode cX6_chooses 96 = .ok (.iconst 0, 1) := by decide +kernel
theorem dX6_chooses_97 : decode cX6_chooses 97 = .ok (.istore 7, 2) := by decide +kernel
theorem dX6_chooses_99 : decode cX6_chooses 99 = .ok (.iconst 0, 1) := by decide +kernel
theorem dX6_chooses_100 : decode cX6_chooses 100 = .ok (.istore 8, 2) := by decide +kernel
theorem dX6_chooses_102 : decode cX6_chooses 102 = .ok (.iconst 0, 1) := by decide +kernel
theorem dX6_chooses_103 : decode cX6_chooses 103 = .ok (.istore 9, 2) := by decide +kernel
theorem dX6_chooses_105 : decode cX6_chooses 105 = .ok (.iload 9, 2) := by decide +kernel
theorem dX6_chooses_107 : decode cX6_chooses 107 = .ok (.aload_n 0, 1) := by decide +kernel
theorem dX6_chooses_108 : decode cX6_chooses 108 = .ok (.getfield 122, 3) := by decide +kernel
theorem dX6_chooses_111 : decode cX6_chooses 111 = .ok (.if_icmp .ge 61, 3) := by decide +kernel
theorem dX6_chooses_114 : decode cX6_chooses 114 = .ok (.iload 6, 2) := by decide +kernel
theorem dX6_chooses_116 : decode cX6_chooses 116 = .ok (.aload_n 0, 1) := by decide +kernel
theorem dX6_chooses_117 : decode cX6_chooses 117 = .ok (.getfield 45, 3) := by decide +kernel
theorem dX6_chooses_120 : decode cX6_chooses 120 = .ok (.iload 9, 2) := by decide +kernel
theorem dX6_chooses_122 : decode cX6_chooses 122 = .ok (.iaload, 1) := by decide +kernel
theorem dX6_chooses_123 : decode cX6_chooses 123 = .ok (.iadd, 1) := by decide +kernel
theorem dX6_chooses_124 : decode cX6_chooses 124 = .ok (.istore 6, 2) := by decide +kernel
theorem dX6_chooses_126 : decode cX6_chooses 126 = .ok (.iload 7, 2) := by decide +kernel
theorem dX6_chooses_128 : decode cX6_chooses 128 = .ok (.aload_n 0, 1) := by decide +kernel
theorem dX6_chooses_129 : decode cX6_chooses 129 = .ok (.getfield 45, 3) := by decide +kernel
theorem dX6_chooses_132 : decode cX6_chooses 132 = .ok (.iload 9, 2) := by decide +kernel
theorem dX6_chooses_134 : decode cX6_chooses 134 = .ok (.iaload, 1) := by decide +kernel
theorem dX6_chooses_135 : decode cX6_chooses 135 = .ok (.aload_n 0, 1) := by decide +kernel
theorem dX6_chooses_136 : decode cX6_chooses 136 = .ok (.getfield 32, 3) := by decide +kernel
theorem dX6_chooses_139 : decode cX6_chooses 139 = .ok (.iload 9, 2) := by decide +kernel
theorem dX6_chooses_141 : decode cX6_chooses 141 = .ok (.iaload, 1) := by decide +kernel
theorem dX6_chooses_142 : decode cX6_chooses 142 = .ok (.imul, 1) := by decide +kernel
theorem dX6_chooses_143 : decode cX6_chooses 143 = .ok (.iadd, 1) := by decide +kernel
theorem dX6_chooses_144 : decode cX6_chooses 144 = .ok (.istore 7, 2) := by decide +kernel
theorem dX6_chooses_146 : decode cX6_chooses 146 = .ok (.iload 8, 2) := by decide +kernel
theorem dX6_chooses_148 : decode cX6_chooses 148 = .ok (.aload_n 0, 1) := by decide +kernel
theorem dX6_chooses_149 : decode cX6_chooses 149 = .ok (.getfield 45, 3) := by decide +kernel
theorem dX6_chooses_152 : decode cX6_chooses 152 = .ok (.iload 9, 2) := by decide +kernel
theorem dX6_chooses_154 : decode cX6_chooses 154 = .ok (.iaload, 1) := by decide +kernel
theorem dX6_chooses_155 : decode cX6_chooses 155 = .ok (.aload_n 0, 1) := by decide +kernel
theorem dX6_chooses_156 : decode cX6_chooses 156 = .ok (.getfield 35, 3) := by decide +kernel
theorem dX6_chooses_159 : decode cX6_chooses 159 = .ok (.iload 9, 2) := by decide +kernel
theorem dX6_chooses_161 : decode cX6_chooses 161 = .ok (.iaload, 1) := by decide +kernel
theorem dX6_chooses_162 : decode cX6_chooses 162 = .ok (.imul, 1) := by decide +kernel
theorem dX6_chooses_163 : decode cX6_chooses 163 = .ok (.iadd, 1) := by decide +kernel
theorem dX6_chooses_164 : decode cX6_chooses 164 = .ok (.istore 8, 2) := by decide +kernel
theorem dX6_chooses_166 : decode cX6_chooses 166 = .ok (.iinc 9 1, 3) := by decide +kernel
theorem dX6_chooses_169 : decode cX6_chooses 169 = .ok (.goto (-64), 3) := by decide +kernel
theorem dX6_chooses_172 : decode cX6_chooses 172 = .ok (.iload 6, 2) := by decide +kernel
theorem dX6_chooses_174 : decode cX6_chooses 174 = .ok (.bipush 12, 2) := by decide +kernel
theorem dX6_chooses_176 : decode cX6_chooses 176 = .ok (.if_icmp .gt 21, 3) := by decide +kernel
theorem dX6_chooses_179 : decode cX6_chooses 179 = .ok (.aload_n 0, 1) := by decide +kernel
theorem dX6_chooses_180 : decode cX6_chooses 180 = .ok (.aload_n 0, 1) := by decide +kernel
theorem dX6_chooses_181 : decode cX6_chooses 181 = .ok (.iload_n 1, 1) := by decide +kernel
theorem dX6_chooses_182 : decode cX6_chooses 182 = .ok (.iload_n 3, 1) := by decide +kernel
theorem dX6_chooses_183 : decode cX6_chooses 183 = .ok (.iload 7, 2) := by decide +kernel
theorem dX6_chooses_185 : decode cX6_chooses 185 = .ok (.iload 8, 2) := by decide +kernel
theorem dX6_chooses_187 : decode cX6_chooses 187 = .ok (.invokevirtual 130, 3) := by decide +kernel
theorem dX6_chooses_190 : decode cX6_chooses 190 = .ok (.iload 7, 2) := by decide +kernel
theorem dX6_chooses_192 : decode cX6_chooses 192 = .ok (.iload 6, 2) := by decide +kernel
theorem dX6_chooses_194 : decode cX6_chooses 194 = .ok (.invokevirtual 134, 3) := by decide +kernel
theorem dX6_chooses_197 : decode cX6_chooses 197 = .ok (.aload_n 0, 1) := by decide +kernel
theorem dX6_chooses_198 : decode cX6_chooses 198 = .ok (.getfield 122, 3) := by decide +kernel
theorem dX6_chooses_201 : decode cX6_chooses 201 = .ok (.iconst 1, 1) := by decide +kernel
theorem dX6_chooses_202 : decode cX6_chooses 202 = .ok (.isub, 1) := by decide +kernel
theorem dX6_chooses_203 : decode cX6_chooses 203 = .ok (.istore 9, 2) := by decide +kernel
theorem dX6_chooses_205 : decode cX6_chooses 205 = .ok (.iload 9, 2) := by decide +kernel
theorem dX6_chooses_207 : decode cX6_chooses 207 = .ok (.ifCond .lt 28, 3) := by decide +kernel
theorem dX6_chooses_210 : decode cX6_chooses 210 = .ok (.aload_n 0, 1) := by decide +kernel
theorem dX6_chooses_211 : decode cX6_chooses 211 = .ok (.iload 9, 2) := by decide +kernel
theorem dX6_chooses_213 : decode cX6_chooses 213 = .ok (.invokevirtual 138, 3) := by decide +kernel
theorem dX6_chooses_216 : decode cX6_chooses 216 = .ok (.bipush 12, 2) := by decide +kernel
theorem dX6_chooses_218 : decode cX6_chooses 218 = .ok (.if_icmp .lt 17, 3) := by decide +kernel
theorem dX6_chooses_221 : decode cX6_chooses 221 = .ok (.aload_n 0, 1) := by decide +kernel
theorem dX6_chooses_222 : decode cX6_chooses 222 = .ok (.getfield 45, 3) := by decide +kernel
theorem dX6_chooses_225 : decode cX6_chooses 225 = .ok (.iload 9, 2) := by decide +kernel
theorem dX6_chooses_227 : decode cX6_chooses 227 = .ok (.iconst 0, 1) := by decide +kernel
theorem dX6_chooses_228 : decode cX6_chooses 228 = .ok (.iastore, 1) := by decide +kernel
theorem dX6_chooses_229 : decode cX6_chooses 229 = .ok (.iinc 9 (-1), 3) := by decide +kernel
theorem dX6_chooses_232 : decode cX6_chooses 232 = .ok (.goto (-27), 3) := by decide +kernel
theorem dX6_chooses_235 : decode cX6_chooses 235 = .ok (.iload 9, 2) := by decide +kernel
theorem dX6_chooses_237 : decode cX6_chooses 237 = .ok (.ifCond .lt 7, 3) := by decide +kernel
theorem dX6_chooses_240 : decode cX6_chooses 240 = .ok (.iconst 1, 1) := by decide +kernel
theorem dX6_chooses_241 : decode cX6_chooses 241 = .ok (.goto 4, 3) := by decide +kernel
theorem dX6_chooses_244 : decode cX6_chooses 244 = .ok (.iconst 0, 1) := by decide +kernel
theorem dX6_chooses_245 : decode cX6_chooses 245 = .ok (.istore 5, 2) := by decide +kernel
theorem dX6_chooses_247 : decode cX6_chooses 247 = .ok (.iload 5, 2) := by decide +kernel
theorem dX6_chooses_249 : decode cX6_chooses 249 = .ok (.ifCond .eq 14, 3) := by decide +kernel
theorem dX6_chooses_252 : decode cX6_chooses 252 = .ok (.aload_n 0, 1) := by decide +kernel
theorem dX6_chooses_253 : decode cX6_chooses 253 = .ok (.getfield 45, 3) := by decide +kernel
theorem dX6_chooses_256 : decode cX6_chooses 256 = .ok (.iload 9, 2) := by decide +kernel
theorem dX6_chooses_258 : decode cX6_chooses 258 = .ok (.dup2, 1) := by decide +kernel
theorem dX6_chooses_259 : decode cX6_chooses 259 = .ok (.iaload, 1) := by decide +kernel
theorem dX6_chooses_260 : decode cX6_chooses 260 = .ok (.iconst 1, 1) := by decide +kernel
theorem dX6_chooses_261 : decode cX6_chooses 261 = .ok (.iadd, 1) := by decide +kernel
theorem dX6_chooses_262 : decode cX6_chooses 262 = .ok (.iastore, 1) := by decide +kernel
theorem dX6_chooses_263 : decode cX6_chooses 263 = .ok (.goto (-175), 3) := by decide +kernel
theorem dX6_chooses_266 : decode cX6_chooses 266 = .ok (.iconst 1, 1) := by decide +kernel
theorem dX6_chooses_267 : decode cX6_chooses 267 = .ok (.ireturn, 1) := by decide +kernel
theorem dX6_upTo_0 : decode cX6_upTo 0 = .ok (.iconst 0, 1) := by decide +kernel
theorem dX6_upTo_1 : decode cX6_upTo 1 = .ok (.istore_n 2, 1) := by decide +kernel
theorem dX6_upTo_2 : decode cX6_upTo 2 = .ok (.iconst 0, 1) := by decide +kernel
theorem dX6_upTo_3 : decode cX6_upTo 3 = .ok (.istore_n 3, 1) := by decide +kernel
theorem dX6_upTo_4 : decode cX6_upTo 4 = .ok (.iload_n 3, 1) := by decide +kernel
theorem dX6_upTo_5 : decode cX6_upTo 5 = .ok (.iload_n 1, 1) := by decide +kernel
theorem dX6_upTo_6 : decode cX6_upTo 6 = .ok (.if_icmp .gt 18, 3) := by decide +kernel
theorem dX6_upTo_9 : decode cX6_upTo 9 = .ok (.iload_n 2, 1) := by decide +kernel
theorem dX6_upTo_10 : decode cX6_upTo 10 = .ok (.aload_n 0, 1) := by decide +kernel
theorem dX6_upTo_11 : decode cX6_upTo 11 = .ok (.getfield 45, 3) := by decide +kernel
theorem dX6_upTo_14 : decode cX6_upTo 14 = .ok (.iload_n 3, 1) := by decide +kernel
theorem dX6_upTo_15 : decode cX6_upTo 15 = .ok (.iaload, 1) := by decide +kernel
theorem dX6_upTo_16 : decode cX6_upTo 16 = .ok (.iadd, 1) := by decide +kernel
theorem dX6_upTo_17 : decode cX6_upTo 17 = .ok (.istore_n 2, 1) := by decide +kernel
theorem dX6_upTo_18 : decode cX6_upTo 18 = .ok (.iinc 3 1, 3) := by decide +kernel
theorem dX6_upTo_21 : decode cX6_upTo 21 = .ok (.goto (-17), 3) := by decide +kernel
theorem dX6_upTo_24 : decode cX6_upTo 24 = .ok (.iload_n 2, 1) := by decide +kernel
theorem dX6_upTo_25 : decode cX6_upTo 25 = .ok (.ireturn, 1) := by decide +kernel
theorem dX6_takes_0 : decode cX6_takes 0 = .ok (.aload_n 0, 1) := by decide +kernel
theorem dX6_takes_1 : decode cX6_takes 1 = .ok (.getfield 127, 3) := by decide +kernel
theorem dX6_takes_4 : decode cX6_takes 4 = .ok (.lconst 0, 1) := by decide +kernel
theorem dX6_takes_5 : decode cX6_takes 5 = .ok (.lcmp, 1) := by decide +kernel
theorem dX6_takes_6 : decode cX6_takes 6 = .ok (.ifCond .lt 12, 3) := by decide +kernel
theorem dX6_takes_9 : decode cX6_takes 9 = .ok (.lload_n 1, 1) := by decide +kernel
theorem dX6_takes_10 : decode cX6_takes 10 = .ok (.aload_n 0, 1) := by decide +kernel
theorem dX6_takes_11 : decode cX6_takes 11 = .ok (.getfield 127, 3) := by decide +kernel
theorem dX6_takes_14 : decode cX6_takes 14 = .ok (.lcmp, 1) := by decide +kernel
theorem dX6_takes_15 : decode cX6_takes 15 = .ok (.ifCond .ge 7, 3) := by decide +kernel
theorem dX6_takes_18 : decode cX6_takes 18 = .ok (.iconst 1, 1) := by decide +kernel
theorem dX6_takes_19 : decode cX6_takes 19 = .ok (.goto 4, 3) := by decide +kernel
theorem dX6_takes_22 : decode cX6_takes 22 = .ok (.iconst 0, 1) := by decide +kernel
theorem dX6_takes_23 : decode cX6_takes 23 = .ok (.istore 5, 2) := by decide +kernel
theorem dX6_takes_25 : decode cX6_takes 25 = .ok (.iload 5, 2) := by decide +kernel
theorem dX6_takes_27 : decode cX6_takes 27 = .ok (.ifCond .ne 68, 3) := by decide +kernel
theorem dX6_takes_30 : decode cX6_takes 30 = .ok (.lload_n 1, 1) := by decide +kernel
theorem dX6_takes_31 : decode cX6_takes 31 = .ok (.aload_n 0, 1) := by decide +kernel
theorem dX6_takes_32 : decode cX6_takes 32 = .ok (.getfield 127, 3) := by decide +kernel
theorem dX6_takes_35 : decode cX6_takes 35 = .ok (.lcmp, 1) := by decide +kernel
theorem dX6_takes_36 : decode cX6_takes 36 = .ok (.ifCond .ne 59, 3) := by decide +kernel
theorem dX6_takes_39 : decode cX6_takes 39 = .ok (.iload_n 3, 1) := by decide +kernel
theorem dX6_takes_40 : decode cX6_takes 40 = .ok (.aload_n 0, 1) := by decide +kernel
theorem dX6_takes_41 : decode cX6_takes 41 = .ok (.getfield 142, 3) := by decide +kernel
theorem dX6_takes_44 : decode cX6_takes 44 = .ok (.if_icmp .eq 19, 3) := by decide +kernel
theorem dX6_takes_47 : decode cX6_takes 47 = .ok (.iload_n 3, 1) := by decide +kernel
theorem dX6_takes_48 : decode cX6_takes 48 = .ok (.aload_n 0, 1) := by decide +kernel
theorem dX6_takes_49 : decode cX6_takes 49 = .ok (.getfield 142, 3) := by decide +kernel
theorem dX6_takes_52 : decode cX6_takes 52 = .ok (.if_icmp .ge 7, 3) := by decide +kernel
theorem dX6_takes_55 : decode cX6_takes 55 = .ok (.iconst 1, 1) := by decide +kernel
theorem dX6_takes_56 : decode cX6_takes 56 = .ok (.goto 37, 3) := by decide +kernel
theorem dX6_takes_59 : decode cX6_takes 59 = .ok (.iconst 0, 1) := by decide +kernel
theorem dX6_takes_60 : decode cX6_takes 60 = .ok (.goto 33, 3) := by decide +kernel
theorem dX6_takes_63 : decode cX6_takes 63 = .ok (.iload 4, 2) := by decide +kernel
theorem dX6_takes_65 : decode cX6_takes 65 = .ok (.aload_n 0, 1) := by decide +kernel
theorem dX6_takes_66 : decode cX6_takes 66 = .ok (.getfield 145, 3) := by decide +kernel
theorem dX6_takes_69 : decode cX6_takes 69 = .ok (.if_icmp .eq 20, 3) := by decide +kernel
theorem dX6_takes_72 : decode cX6_takes 72 = .ok (.iload 4, 2) := by decide +kernel
theorem dX6_takes_74 : decode cX6_takes 74 = .ok (.aload_n 0, 1) := by decide +kernel
theorem dX6_takes_75 : decode cX6_takes 75 = .ok (.getfield 145, 3) := by decide +kernel
theorem dX6_takes_78 : decode cX6_takes 78 = .ok (.if_icmp .ge 7, 3) := by decide +kernel
theorem dX6_takes_81 : decode cX6_takes 81 = .ok (.iconst 1, 1) := by decide +kernel
theorem dX6_takes_82 : decode cX6_takes 82 = .ok (.goto 11, 3) := by decide +kernel
theorem dX6_takes_85 : decode cX6_takes 85 = .ok (.iconst 0, 1) := by decide +kernel
theorem dX6_takes_86 : decode cX6_takes 86 = .ok (.goto 7, 3) := by decide +kernel
theorem dX6_takes_89 : decode cX6_takes 89 = .ok (.aload_n 0, 1) := by decide +kernel
theorem dX6_takes_90 : decode cX6_takes 90 = .ok (.invokevirtual 148, 3) := by decide +kernel
theorem dX6_takes_93 : decode cX6_takes 93 = .ok (.istore 5, 2) := by decide +kernel
theorem dX6_takes_95 : decode cX6_takes 95 = .ok (.iload 5, 2) := by decide +kernel
theorem dX6_takes_97 : decode cX6_takes 97 = .ok (.ifCond .ne 4, 3) := by decide +kernel
theorem dX6_takes_100 : decode cX6_takes 100 = .ok (.return_, 1) := by decide +kernel
theorem dX6_takes_101 : decode cX6_takes 101 = .ok (.aload_n 0, 1) := by decide +kernel
theorem dX6_takes_102 : decode cX6_takes 102 = .ok (.lload_n 1, 1) := by decide +kernel
theorem dX6_takes_103 : decode cX6_takes 103 = .ok (.putfield 127, 3) := by decide +kernel
theorem dX6_takes_106 : decode cX6_takes 106 = .ok (.aload_n 0, 1) := by decide +kernel
theorem dX6_takes_107 : decode cX6_takes 107 = .ok (.iload_n 3, 1) := by decide +kernel
theorem dX6_takes_108 : decode cX6_takes 108 = .ok (.putfield 142, 3) := by decide +kernel
theorem dX6_takes_111 : decode cX6_takes 111 = .ok (.aload_n 0, 1) := by decide +kernel
theorem dX6_takes_112 : decode cX6_takes 112 = .ok (.iload 4, 2) := by decide +kernel
theorem dX6_takes_114 : decode cX6_takes 114 = .ok (.putfield 145, 3) := by decide +kernel
theorem dX6_takes_117 : decode cX6_takes 117 = .ok (.iconst 0, 1) := by decide +kernel
theorem dX6_takes_118 : decode cX6_takes 118 = .ok (.istore 6, 2) := by decide +kernel
theorem dX6_takes_120 : decode cX6_takes 120 = .ok (.iload 6, 2) := by decide +kernel
theorem dX6_takes_122 : decode cX6_takes 122 = .ok (.iconst 4, 1) := by decide +kernel
theorem dX6_takes_123 : decode cX6_takes 123 = .ok (.if_icmp .ge 23, 3) := by decide +kernel
theorem dX6_takes_126 : decode cX6_takes 126 = .ok (.aload_n 0, 1) := by decide +kernel
theorem dX6_takes_127 : decode cX6_takes 127 = .ok (.getfield 48, 3) := by decide +kernel
theorem dX6_takes_130 : decode cX6_takes 130 = .ok (.iload 6, 2) := by decide +kernel
theorem dX6_takes_132 : decode cX6_takes 132 = .ok (.aload_n 0, 1) := by decide +kernel
theorem dX6_takes_133 : decode cX6_takes 133 = .ok (.getfield 45, 3) := by decide +kernel
theorem dX6_takes_136 : decode cX6_takes 136 = .ok (.iload 6, 2) := by decide +kernel
theorem dX6_takes_138 : decode cX6_takes 138 = .ok (.iaload, 1) := by decide +kernel
theorem dX6_takes_139 : decode cX6_takes 139 = .ok (.iastore, 1) := by decide +kernel
theorem dX6_takes_140 : decode cX6_takes 140 = .ok (.iinc 6 1, 3) := by decide +kernel
theorem dX6_takes_143 : decode cX6_takes 143 = .ok (.goto (-23), 3) := by decide +kernel
theorem dX6_takes_146 : decode cX6_takes 146 = .ok (.return_, 1) := by decide +kernel
theorem dX6_isMore_0 : decode cX6_isMore 0 = .ok (.iconst 0, 1) := by decide +kernel
theorem dX6_isMore_1 : decode cX6_isMore 1 = .ok (.istore_n 1, 1) := by decide +kernel
theorem dX6_isMore_2 : decode cX6_isMore 2 = .ok (.iload_n 1, 1) := by decide +kernel
theorem dX6_isMore_3 : decode cX6_isMore 3 = .ok (.aload_n 0, 1) := by decide +kernel
theorem dX6_isMore_4 : decode cX6_isMore 4 = .ok (.getfield 122, 3) := by decide +kernel
theorem dX6_isMore_7 : decode cX6_isMore 7 = .ok (.if_icmp .ge 45, 3) := by decide +kernel
theorem dX6_isMore_10 : decode cX6_isMore 10 = .ok (.aload_n 0, 1) := by decide +kernel
theorem dX6_isMore_11 : decode cX6_isMore 11 = .ok (.getfield 45, 3) := by decide +kernel
theorem dX6_isMore_14 : decode cX6_isMore 14 = .ok (.iload_n 1, 1) := by decide +kernel
theorem dX6_isMore_15 : decode cX6_isMore 15 = .ok (.iaload, 1) := by decide +kernel
theorem dX6_isMore_16 : decode cX6_isMore 16 = .ok (.aload_n 0, 1) := by decide +kernel
theorem dX6_isMore_17 : decode cX6_isMore 17 = .ok (.getfield 48, 3) := by decide +kernel
theorem dX6_isMore_20 : decode cX6_isMore 20 = .ok (.iload_n 1, 1) := by decide +kernel
theorem dX6_isMore_21 : decode cX6_isMore 21 = .ok (.iaload, 1) := by decide +kernel
theorem dX6_isMore_22 : decode cX6_isMore 22 = .ok (.if_icmp .eq 24, 3) := by decide +kernel
theorem dX6_isMore_25 : decode cX6_isMore 25 = .ok (.aload_n 0, 1) := by decide +kernel
theorem dX6_isMore_26 : decode cX6_isMore 26 = .ok (.getfield 45, 3) := by decide +kernel
theorem dX6_isMore_29 : decode cX6_isMore 29 = .ok (.iload_n 1, 1) := by decide +kernel
theorem dX6_isMore_30 : decode cX6_isMore 30 = .ok (.iaload, 1) := by decide +kernel
theorem dX6_isMore_31 : decode cX6_isMore 31 = .ok (.aload_n 0, 1) := by decide +kernel
theorem dX6_isMore_32 : decode cX6_isMore 32 = .ok (.getfield 48, 3) := by decide +kernel
theorem dX6_isMore_35 : decode cX6_isMore 35 = .ok (.iload_n 1, 1) := by decide +kernel
theorem dX6_isMore_36 : decode cX6_isMore 36 = .ok (.iaload, 1) := by decide +kernel
theorem dX6_isMore_37 : decode cX6_isMore 37 = .ok (.if_icmp .le 7, 3) := by decide +kernel
theorem dX6_isMore_40 : decode cX6_isMore 40 = .ok (.iconst 1, 1) := by decide +kernel
theorem dX6_isMore_41 : decode cX6_isMore 41 = .ok (.goto 4, 3) := by decide +kernel
theorem dX6_isMore_44 : decode cX6_isMore 44 = .ok (.iconst 0, 1) := by decide +kernel
theorem dX6_isMore_45 : decode cX6_isMore 45 = .ok (.ireturn, 1) := by decide +kernel
theorem dX6_isMore_46 : decode cX6_isMore 46 = .ok (.iinc 1 1, 3) := by decide +kernel
theorem dX6_isMore_49 : decode cX6_isMore 49 = .ok (.goto (-47), 3) := by decide +kernel
theorem dX6_isMore_52 : decode cX6_isMore 52 = .ok (.iconst 0, 1) := by decide +kernel
theorem dX6_isMore_53 : decode cX6_isMore 53 = .ok (.ireturn, 1) := by decide +kernel
theorem dX6_isAsked_0 : decode cX6_isAsked 0 = .ok (.aload_n 0, 1) := by decide +kernel
theorem dX6_isAsked_1 : decode cX6_isAsked 1 = .ok (.iload_n 1, 1) := by decide +kernel
theorem dX6_isAsked_2 : decode cX6_isAsked 2 = .ok (.invokevirtual 74, 3) := by decide +kernel
theorem dX6_isAsked_5 : decode cX6_isAsked 5 = .ok (.ifCond .eq 38, 3) := by decide +kernel
theorem dX6_isAsked_8 : decode cX6_isAsked 8 = .ok (.aload_n 0, 1) := by decide +kernel
theorem dX6_isAsked_9 : decode cX6_isAsked 9 = .ok (.iload_n 2, 1) := by decide +kernel
theorem dX6_isAsked_10 : decode cX6_isAsked 10 = .ok (.invokestatic 63, 3) := by decide +kernel
theorem dX6_isAsked_13 : decode cX6_isAsked 13 = .ok (.ifCond .eq 14, 3) := by decide +kernel
theorem dX6_isAsked_16 : decode cX6_isAsked 16 = .ok (.iload_n 3, 1) := by decide +kernel
theorem dX6_isAsked_17 : decode cX6_isAsked 17 = .ok (.ifCond .lt 10, 3) := by decide +kernel
theorem dX6_isAsked_20 : decode cX6_isAsked 20 = .ok (.iload_n 3, 1) := by decide +kernel
theorem dX6_isAsked_21 : decode cX6_isAsked 21 = .ok (.sipush 10000, 3) := by decide +kernel
theorem dX6_isAsked_24 : decode cX6_isAsked 24 = .ok (.if_icmp .le 7, 3) := by decide +kernel
theorem dX6_isAsked_27 : decode cX6_isAsked 27 = .ok (.iconst 1, 1) := by decide +kernel
theorem dX6_isAsked_28 : decode cX6_isAsked 28 = .ok (.goto 4, 3) := by decide +kernel
theorem dX6_isAsked_31 : decode cX6_isAsked 31 = .ok (.iconst 0, 1) := by decide +kernel
theorem dX6_isAsked_32 : decode cX6_isAsked 32 = .ok (.iconst 2, 1) := by decide +kernel
theorem dX6_isAsked_33 : decode cX6_isAsked 33 = .ok (.invokevirtual 67, 3) := by decide +kernel
theorem dX6_isAsked_36 : decode cX6_isAsked 36 = .ok (.ifCond .ne 7, 3) := by decide +kernel
theorem dX6_isAsked_39 : decode cX6_isAsked 39 = .ok (.iconst 1, 1) := by decide +kernel
theorem dX6_isAsked_40 : decode cX6_isAsked 40 = .ok (.goto 4, 3) := by decide +kernel
theorem dX6_isAsked_43 : decode cX6_isAsked 43 = .ok (.iconst 0, 1) := by decide +kernel
theorem dX6_isAsked_44 : decode cX6_isAsked 44 = .ok (.ireturn, 1) := by decide +kernel
theorem dX6_cost_0 : decode cX6_cost 0 = .ok (.aload_n 0, 1) := by decide +kernel
theorem dX6_cost_1 : decode cX6_cost 1 = .ok (.iload_n 1, 1) := by decide +kernel
theorem dX6_cost_2 : decode cX6_cost 2 = .ok (.iload_n 2, 1) := by decide +kernel
theorem dX6_cost_3 : decode cX6_cost 3 = .ok (.iload_n 3, 1) := by decide +kernel
theorem dX6_cost_4 : decode cX6_cost 4 = .ok (.invokevirtual 152, 3) := by decide +kernel
theorem dX6_cost_7 : decode cX6_cost 7 = .ok (.ifCond .ne 5, 3) := by decide +kernel
theorem dX6_cost_10 : decode cX6_cost 10 = .ok (.lconst 0, 1) := by decide +kernel
theorem dX6_cost_11 : decode cX6_cost 11 = .ok (.lreturn, 1) := by decide +kernel
theorem dX6_cost_12 : decode cX6_cost 12 = .ok (.aload_n 0, 1) := by decide +kernel
theorem dX6_cost_13 : decode cX6_cost 13 = .ok (.iload_n 1, 1) := by decide +kernel
theorem dX6_cost_14 : decode cX6_cost 14 = .ok (.iload_n 2, 1) := by decide +kernel
theorem dX6_cost_15 : decode cX6_cost 15 = .ok (.iload_n 3, 1) := by decide +kernel
theorem dX6_cost_16 : decode cX6_cost 16 = .ok (.invokevirtual 156, 3) := by decide +kernel
theorem dX6_cost_19 : decode cX6_cost 19 = .ok (.ifCond .eq 10, 3) := by decide +kernel
theorem dX6_cost_22 : decode cX6_cost 22 = .ok (.aload_n 0, 1) := by decide +kernel
theorem dX6_cost_23 : decode cX6_cost 23 = .ok (.getfield 127, 3) := by decide +kernel
theorem dX6_cost_26 : decode cX6_cost 26 = .ok (.goto 6, 3) := by decide +kernel
theorem dX6_cost_29 : decode cX6_cost 29 = .ok (.ldc2_w 125, 3) := by decide +kernel
theorem dX6_cost_32 : decode cX6_cost 32 = .ok (.lreturn, 1) := by decide +kernel
theorem dX6_pots_0 : decode cX6_pots 0 = .ok (.aload_n 0, 1) := by decide +kernel
theorem dX6_pots_1 : decode cX6_pots 1 = .ok (.iload_n 1, 1) := by decide +kernel
theorem dX6_pots_2 : decode cX6_pots 2 = .ok (.iload_n 2, 1) := by decide +kernel
theorem dX6_pots_3 : decode cX6_pots 3 = .ok (.iload_n 3, 1) := by decide +kernel
theorem dX6_pots_4 : decode cX6_pots 4 = .ok (.invokevirtual 152, 3) := by decide +kernel
theorem dX6_pots_7 : decode cX6_pots 7 = .ok (.ifCond .ne 5, 3) := by decide +kernel
theorem dX6_pots_10 : decode cX6_pots 10 = .ok (.iconst 0, 1) := by decide +kernel
theorem dX6_pots_11 : decode cX6_pots 11 = .ok (.ireturn, 1) := by decide +kernel
theorem dX6_pots_12 : decode cX6_pots 12 = .ok (.aload_n 0, 1) := by decide +kernel
theorem dX6_pots_13 : decode cX6_pots 13 = .ok (.iload_n 1, 1) := by decide +kernel
theorem dX6_pots_14 : decode cX6_pots 14 = .ok (.iload_n 2, 1) := by decide +kernel
theorem dX6_pots_15 : decode cX6_pots 15 = .ok (.iload_n 3, 1) := by decide +kernel
theorem dX6_pots_16 : decode cX6_pots 16 = .ok (.invokevirtual 156, 3) := by decide +kernel
theorem dX6_pots_19 : decode cX6_pots 19 = .ok (.ifCond .ne 5, 3) := by decide +kernel
theorem dX6_pots_22 : decode cX6_pots 22 = .ok (.iconst (-1), 1) := by decide +kernel
theorem dX6_pots_23 : decode cX6_pots 23 = .ok (.ireturn, 1) := by decide +kernel
theorem dX6_pots_24 : decode cX6_pots 24 = .ok (.iload 4, 2) := by decide +kernel
theorem dX6_pots_26 : decode cX6_pots 26 = .ok (.ifCond .lt 22, 3) := by decide +kernel
theorem dX6_pots_29 : decode cX6_pots 29 = .ok (.iload 4, 2) := by decide +kernel
theorem dX6_pots_31 : decode cX6_pots 31 = .ok (.aload_n 0, 1) := by decide +kernel
theorem dX6_pots_32 : decode cX6_pots 32 = .ok (.getfield 122, 3) := by decide +kernel
theorem dX6_pots_35 : decode cX6_pots 35 = .ok (.if_icmp .ge 13, 3) := by decide +kernel
theorem dX6_pots_38 : decode cX6_pots 38 = .ok (.aload_n 0, 1) := by decide +kernel
theorem dX6_pots_39 : decode cX6_pots 39 = .ok (.getfield 48, 3) := by decide +kernel
theorem dX6_pots_42 : decode cX6_pots 42 = .ok (.iload 4, 2) := by decide +kernel
theorem dX6_pots_44 : decode cX6_pots 44 = .ok (.iaload, 1) := by decide +kernel
theorem dX6_pots_45 : decode cX6_pots 45 = .ok (.goto 4, 3) := by decide +kernel
theorem dX6_pots_48 : decode cX6_pots 48 = .ok (.iconst 0, 1) := by decide +kernel
theorem dX6_pots_49 : decode cX6_pots 49 = .ok (.ireturn, 1) := by decide +kernel
theorem dX6_isUnlike_0 : decode cX6_isUnlike 0 = .ok (.aload_n 0, 1) := by decide +kernel
theorem dX6_isUnlike_1 : decode cX6_isUnlike 1 = .ok (.getfield 9, 3) := by decide +kernel
theorem dX6_isUnlike_4 : decode cX6_isUnlike 4 = .ok (.iload_n 1, 1) := by decide +kernel
theorem dX6_isUnlike_5 : decode cX6_isUnlike 5 = .ok (.iaload, 1) := by decide +kernel
theorem dX6_isUnlike_6 : decode cX6_isUnlike 6 = .ok (.aload_n 0, 1) := by decide +kernel
theorem dX6_isUnlike_7 : decode cX6_isUnlike 7 = .ok (.getfield 13, 3) := by decide +kernel
theorem dX6_isUnlike_10 : decode cX6_isUnlike 10 = .ok (.iload_n 2, 1) := by decide +kernel
theorem dX6_isUnlike_11 : decode cX6_isUnlike 11 = .ok (.iaload, 1) := by decide +kernel
theorem dX6_isUnlike_12 : decode cX6_isUnlike 12 = .ok (.iand, 1) := by decide +kernel
theorem dX6_isUnlike_13 : decode cX6_isUnlike 13 = .ok (.ifCond .ne 19, 3) := by decide +kernel
theorem dX6_isUnlike_16 : decode cX6_isUnlike 16 = .ok (.aload_n 0, 1) := by decide +kernel
theorem dX6_isUnlike_17 : decode cX6_isUnlike 17 = .ok (.getfield 9, 3) := by decide +kernel
theorem dX6_isUnlike_20 : decode cX6_isUnlike 20 = .ok (.iload_n 2, 1) := by decide +kernel
theorem dX6_isUnlike_21 : decode cX6_isUnlike 21 = .ok (.iaload, 1) := by decide +kernel
theorem dX6_isUnlike_22 : decode cX6_isUnlike 22 = .ok (.aload_n 0, 1) := by decide +kernel
theorem dX6_isUnlike_23 : decode cX6_isUnlike 23 = .ok (.getfield 13, 3) := by decide +kernel
theorem dX6_isUnlike_26 : decode cX6_isUnlike 26 = .ok (.iload_n 1, 1) := by decide +kernel
theorem dX6_isUnlike_27 : decode cX6_isUnlike 27 = .ok (.iaload, 1) := by decide +kernel
theorem dX6_isUnlike_28 : decode cX6_isUnlike 28 = .ok (.iand, 1) := by decide +kernel
theorem dX6_isUnlike_29 : decode cX6_isUnlike 29 = .ok (.ifCond .eq 7, 3) := by decide +kernel
theorem dX6_isUnlike_32 : decode cX6_isUnlike 32 = .ok (.iconst 1, 1) := by decide +kernel
theorem dX6_isUnlike_33 : decode cX6_isUnlike 33 = .ok (.goto 4, 3) := by decide +kernel
theorem dX6_isUnlike_36 : decode cX6_isUnlike 36 = .ok (.iconst 0, 1) := by decide +kernel
theorem dX6_isUnlike_37 : decode cX6_isUnlike 37 = .ok (.ireturn, 1) := by decide +kernel
theorem dX6_shares_0 : decode cX6_shares 0 = .ok (.aload_n 0, 1) := by decide +kernel
theorem dX6_shares_1 : decode cX6_shares 1 = .ok (.getfield 159, 3) := by decide +kernel
theorem dX6_shares_4 : decode cX6_shares 4 = .ok (.ifCond .lt 12, 3) := by decide +kernel
theorem dX6_shares_7 : decode cX6_shares 7 = .ok (.iload_n 2, 1) := by decide +kernel
theorem dX6_shares_8 : decode cX6_shares 8 = .ok (.aload_n 0, 1) := by decide +kernel
theorem dX6_shares_9 : decode cX6_shares 9 = .ok (.getfield 159, 3) := by decide +kernel
theorem dX6_shares_12 : decode cX6_shares 12 = .ok (.if_icmp .lt 4, 3) := by decide +kernel
theorem dX6_shares_15 : decode cX6_shares 15 = .ok (.return_, 1) := by decide +kernel
theorem dX6_shares_16 : decode cX6_shares 16 = .ok (.iload_n 1, 1) := by decide +kernel
theorem dX6_shares_17 : decode cX6_shares 17 = .ok (.aload_n 0, 1) := by decide +kernel
theorem dX6_shares_18 : decode cX6_shares 18 = .ok (.getfield 71, 3) := by decide +kernel
theorem dX6_shares_21 : decode cX6_shares 21 = .ok (.if_icmp .ne 37, 3) := by decide +kernel
theorem dX6_shares_24 : decode cX6_shares 24 = .ok (.aload_n 0, 1) := by decide +kernel
theorem dX6_shares_25 : decode cX6_shares 25 = .ok (.iload_n 2, 1) := by decide +kernel
theorem dX6_shares_26 : decode cX6_shares 26 = .ok (.putfield 159, 3) := by decide +kernel
theorem dX6_shares_29 : decode cX6_shares 29 = .ok (.iconst 0, 1) := by decide +kernel
theorem dX6_shares_30 : decode cX6_shares 30 = .ok (.istore_n 3, 1) := by decide +kernel
theorem dX6_shares_31 : decode cX6_shares 31 = .ok (.iload_n 3, 1) := by decide +kernel
theorem dX6_shares_32 : decode cX6_shares 32 = .ok (.aload_n 0, 1) := by decide +kernel
theorem dX6_shares_33 : decode cX6_shares 33 = .ok (.getfield 71, 3) := by decide +kernel
theorem dX6_shares_36 : decode cX6_shares 36 = .ok (.if_icmp .ge 21, 3) := by decide +kernel
theorem dX6_shares_39 : decode cX6_shares 39 = .ok (.aload_n 0, 1) := by decide +kernel
theorem dX6_shares_40 : decode cX6_shares 40 = .ok (.getfield 54, 3) := by decide +kernel
theorem dX6_shares_43 : decode cX6_shares 43 = .ok (.iload_n 3, 1) := by decide +kernel
theorem dX6_shares_44 : decode cX6_shares 44 = .ok (.aload_n 0, 1) := by decide +kernel
theorem dX6_shares_45 : decode cX6_shares 45 = .ok (.getfield 51, 3) := by decide +kernel
theorem dX6_shares_48 : decode cX6_shares 48 = .ok (.iload_n 3, 1) := by decide +kernel
theorem dX6_shares_49 : decode cX6_shares 49 = .ok (.iaload, 1) := by decide +kernel
theorem dX6_shares_50 : decode cX6_shares 50 = .ok (.iastore, 1) := by decide +kernel
theorem dX6_shares_51 : decode cX6_shares 51 = .ok (.iinc 3 1, 3) := by decide +kernel
theorem dX6_shares_54 : decode cX6_shares 54 = .ok (.goto (-23), 3) := by decide +kernel
theorem dX6_shares_57 : decode cX6_shares 57 = .ok (.return_, 1) := by decide +kernel
theorem dX6_shares_58 : decode cX6_shares 58 = .ok (.iconst 0, 1) := by decide +kernel
theorem dX6_shares_59 : decode cX6_shares 59 = .ok (.istore_n 3, 1) := by decide +kernel
theorem dX6_shares_60 : decode cX6_shares 60 = .ok (.iload_n 3, 1) := by decide +kernel
theorem dX6_shares_61 : decode cX6_shares 61 = .ok (.iload_n 2, 1) := by decide +kernel
theorem dX6_shares_62 : decode cX6_shares 62 = .ok (.if_icmp .gt 94, 3) := by decide +kernel
theorem dX6_shares_65 : decode cX6_shares 65 = .ok (.iconst 1, 1) := by decide +kernel
theorem dX6_shares_66 : decode cX6_shares 66 = .ok (.istore 4, 2) := by decide +kernel
theorem dX6_shares_68 : decode cX6_shares 68 = .ok (.iconst 0, 1) := by decide +kernel
theorem dX6_shares_69 : decode cX6_shares 69 = .ok (.istore 5, 2) := by decide +kernel
theorem dX6_shares_71 : decode cX6_shares 71 = .ok (.iload 5, 2) := by decide +kernel
theorem dX6_shares_73 : decode cX6_shares 73 = .ok (.iload_n 1, 1) := by decide +kernel
theorem dX6_shares_74 : decode cX6_shares 74 = .ok (.if_icmp .ge 42, 3) := by decide +kernel
theorem dX6_shares_77 : decode cX6_shares 77 = .ok (.iload 4, 2) := by decide +kernel
theorem dX6_shares_79 : decode cX6_shares 79 = .ok (.ifCond .eq 28, 3) := by decide +kernel
theorem dX6_shares_82 : decode cX6_shares 82 = .ok (.aload_n 0, 1) := by decide +kernel
theorem dX6_shares_83 : decode cX6_shares 83 = .ok (.getfield 51, 3) := by decide +kernel
theorem dX6_shares_86 : decode cX6_shares 86 = .ok (.iload 5, 2) := by decide +kernel
theorem dX6_shares_88 : decode cX6_shares 88 = .ok (.iaload, 1) := by decide +kernel
theorem dX6_shares_89 : decode cX6_shares 89 = .ok (.iload_n 3, 1) := by decide +kernel
theorem dX6_shares_90 : decode cX6_shares 90 = .ok (.if_icmp .ne 13, 3) := by decide +kernel
theorem dX6_shares_93 : decode cX6_shares 93 = .ok (.aload_n 0, 1) := by decide +kernel
theorem dX6_shares_94 : decode cX6_shares 94 = .ok (.iload 5, 2) := by decide +kernel
theorem dX6_shares_96 : decode cX6_shares 96 = .ok (.iload_n 1, 1) := by decide +kernel
theorem dX6_shares_97 : decode cX6_shares 97 = .ok (.invokevirtual 162, 3) := by decide +kernel
theorem dX6_shares_100 : decode cX6_shares 100 = .ok (.ifCond .ne 7, 3) := by decide +kernel
theorem dX6_shares_103 : decode cX6_shares 103 = .ok (.iconst 1, 1) := by decide +kernel
theorem dX6_shares_104 : decode cX6_shares 104 = .ok (.goto 4, 3) := by decide +kernel
theorem dX6_shares_107 : decode cX6_shares 107 = .ok (.iconst 0, 1) := by decide +kernel
theorem dX6_shares_108 : decode cX6_shares 108 = .ok (.istore 4, 2) := by decide +kernel
theorem dX6_shares_110 : decode cX6_shares 110 = .ok (.iinc 5 1, 3) := by decide +kernel
theorem dX6_shares_113 : decode cX6_shares 113 = .ok (.goto (-42), 3) := by decide +kernel
theorem dX6_shares_116 : decode cX6_shares 116 = .ok (.iload 4, 2) := by decide +kernel
theorem dX6_shares_118 : decode cX6_shares 118 = .ok (.ifCond .ne 6, 3) := by decide +kernel
theorem dX6_shares_121 : decode cX6_shares 121 = .ok (.goto 29, 3) := by decide +kernel
theorem dX6_shares_124 : decode cX6_shares 124 = .ok (.aload_n 0, 1) := by decide +kernel
theorem dX6_shares_125 : decode cX6_shares 125 = .ok (.getfield 51, 3) := by decide +kernel
theorem dX6_shares_128 : decode cX6_shares 128 = .ok (.iload_n 1, 1) := by decide +kernel
theorem dX6_shares_129 : decode cX6_shares 129 = .ok (.iload_n 3, 1) := by decide +kernel
theorem dX6_shares_130 : decode cX6_shares 130 = .ok (.iastore, 1) := by decide +kernel
theorem dX6_shares_131 : decode cX6_shares 131 = .ok (.aload_n 0, 1) := by decide +kernel
theorem dX6_shares_132 : decode cX6_shares 132 = .ok (.iload_n 1, 1) := by decide +kernel
theorem dX6_shares_133 : decode cX6_shares 133 = .ok (.iconst 1, 1) := by decide +kernel
theorem dX6_shares_134 : decode cX6_shares 134 = .ok (.iadd, 1) := by decide +kernel
theorem dX6_shares_135 : decode cX6_shares 135 = .ok (.iload_n 3, 1) := by decide +kernel
theorem dX6_shares_136 : decode cX6_shares 136 = .ok (.iload_n 2, 1) := by decide +kernel
theorem dX6_shares_137 : decode cX6_shares 137 = .ok (.if_icmp .ne 9, 3) := by decide +kernel
theorem dX6_shares_140 : decode cX6_shares 140 = .ok (.iload_n 2, 1) := by decide +kernel
theorem dX6_shares_141 : decode cX6_shares 141 = .ok (.iconst 1, 1) := by decide +kernel
theorem dX6_shares_142 : decode cX6_shares 142 = .ok (.iadd, 1) := by decide +kernel
theorem dX6_shares_143 : decode cX6_shares 143 = .ok (.goto 4, 3) := by decide +kernel
theorem dX6_shares_146 : decode cX6_shares 146 = .ok (.iload_n 2, 1) := by decide +kernel
theorem dX6_shares_147 : decode cX6_shares 147 = .ok (.invokevirtual 166, 3) := by decide +kernel
theorem dX6_shares_150 : decode cX6_shares 150 = .ok (.iinc 3 1, 3) := by decide +kernel
theorem dX6_shares_153 : decode cX6_shares 153 = .ok (.goto (-93), 3) := by decide +kernel
theorem dX6_shares_156 : decode cX6_shares 156 = .ok (.return_, 1) := by decide +kernel
theorem dX6_ladlesAnew_0 : decode cX6_ladlesAnew 0 = .ok (.iconst 1, 1) := by decide +kernel
theorem dX6_ladlesAnew_1 : decode cX6_ladlesAnew 1 = .ok (.istore_n 1, 1) := by decide +kernel
theorem dX6_ladlesAnew_2 : decode cX6_ladlesAnew 2 = .ok (.iconst 0, 1) := by decide +kernel
theorem dX6_ladlesAnew_3 : decode cX6_ladlesAnew 3 = .ok (.istore_n 2, 1) := by decide +kernel
theorem dX6_ladlesAnew_4 : decode cX6_ladlesAnew 4 = .ok (.iload_n 2, 1) := by decide +kernel
theorem dX6_ladlesAnew_5 : decode cX6_ladlesAnew 5 = .ok (.aload_n 0, 1) := by decide +kernel
theorem dX6_ladlesAnew_6 : decode cX6_ladlesAnew 6 = .ok (.getfield 71, 3) := by decide +kernel
theorem dX6_ladlesAnew_9 : decode cX6_ladlesAnew 9 = .ok (.if_icmp .ge 35, 3) := by decide +kernel
theorem dX6_ladlesAnew_12 : decode cX6_ladlesAnew 12 = .ok (.iload_n 1, 1) := by decide +kernel
theorem dX6_ladlesAnew_13 : decode cX6_ladlesAnew 13 = .ok (.ifCond .eq 23, 3) := by decide +kernel
theorem dX6_ladlesAnew_16 : decode cX6_ladlesAnew 16 = .ok (.aload_n 0, 1) := by decide +kernel
theorem dX6_ladlesAnew_17 : decode cX6_ladlesAnew 17 = .ok (.getfield 9, 3) := by decide +kernel
theorem dX6_ladlesAnew_20 : decode cX6_ladlesAnew 20 = .ok (.iload_n 2, 1) := by decide +kernel
theorem dX6_ladlesAnew_21 : decode cX6_ladlesAnew 21 = .ok (.iaload, 1) := by decide +kernel
theorem dX6_ladlesAnew_22 : decode cX6_ladlesAnew 22 = .ok (.aload_n 0, 1) := by decide +kernel
theorem dX6_ladlesAnew_23 : decode cX6_ladlesAnew 23 = .ok (.getfield 13, 3) := by decide +kernel
theorem dX6_ladlesAnew_26 : decode cX6_ladlesAnew 26 = .ok (.iload_n 2, 1) := by decide +kernel
theorem dX6_ladlesAnew_27 : decode cX6_ladlesAnew 27 = .ok (.iaload, 1) := by decide +kernel
theorem dX6_ladlesAnew_28 : decode cX6_ladlesAnew 28 = .ok (.iand, 1) := by decide +kernel
theorem dX6_ladlesAnew_29 : decode cX6_ladlesAnew 29 = .ok (.ifCond .ne 7, 3) := by decide +kernel
theorem dX6_ladlesAnew_32 : decode cX6_ladlesAnew 32 = .ok (.iconst 1, 1) := by decide +kernel
theorem dX6_ladlesAnew_33 : decode cX6_ladlesAnew 33 = .ok (.goto 4, 3) := by decide +kernel
theorem dX6_ladlesAnew_36 : decode cX6_ladlesAnew 36 = .ok (.iconst 0, 1) := by decide +kernel
theorem dX6_ladlesAnew_37 : decode cX6_ladlesAnew 37 = .ok (.istore_n 1, 1) := by decide +kernel
theorem dX6_ladlesAnew_38 : decode cX6_ladlesAnew 38 = .ok (.iinc 2 1, 3) := by decide +kernel
theorem dX6_ladlesAnew_41 : decode cX6_ladlesAnew 41 = .ok (.goto (-37), 3) := by decide +kernel
theorem dX6_ladlesAnew_44 : decode cX6_ladlesAnew 44 = .ok (.aload_n 0, 1) := by decide +kernel
theorem dX6_ladlesAnew_45 : decode cX6_ladlesAnew 45 = .ok (.iconst (-1), 1) := by decide +kernel
theorem dX6_ladlesAnew_46 : decode cX6_ladlesAnew 46 = .ok (.putfield 159, 3) := by decide +kernel
theorem dX6_ladlesAnew_49 : decode cX6_ladlesAnew 49 = .ok (.iload_n 1, 1) := by decide +kernel
theorem dX6_ladlesAnew_50 : decode cX6_ladlesAnew 50 = .ok (.ifCond .eq 9, 3) := by decide +kernel
theorem dX6_ladlesAnew_53 : decode cX6_ladlesAnew 53 = .ok (.aload_n 0, 1) := by decide +kernel
theorem dX6_ladlesAnew_54 : decode cX6_ladlesAnew 54 = .ok (.iconst 0, 1) := by decide +kernel
theorem dX6_ladlesAnew_55 : decode cX6_ladlesAnew 55 = .ok (.iconst 0, 1) := by decide +kernel
theorem dX6_ladlesAnew_56 : decode cX6_ladlesAnew 56 = .ok (.invokevirtual 166, 3) := by decide +kernel
theorem dX6_ladlesAnew_59 : decode cX6_ladlesAnew 59 = .ok (.iload_n 1, 1) := by decide +kernel
theorem dX6_ladlesAnew_60 : decode cX6_ladlesAnew 60 = .ok (.ireturn, 1) := by decide +kernel
theorem dX6_ladles_0 : decode cX6_ladles 0 = .ok (.aload_n 0, 1) := by decide +kernel
theorem dX6_ladles_1 : decode cX6_ladles 1 = .ok (.iconst 0, 1) := by decide +kernel
theorem dX6_ladles_2 : decode cX6_ladles 2 = .ok (.putfield 60, 3) := by decide +kernel
theorem dX6_ladles_5 : decode cX6_ladles 5 = .ok (.aload_n 0, 1) := by decide +kernel
theorem dX6_ladles_6 : decode cX6_ladles 6 = .ok (.invokevirtual 169, 3) := by decide +kernel
theorem dX6_ladles_9 : decode cX6_ladles 9 = .ok (.ifCond .eq 10, 3) := by decide +kernel
theorem dX6_ladles_12 : decode cX6_ladles 12 = .ok (.aload_n 0, 1) := by decide +kernel
theorem dX6_ladles_13 : decode cX6_ladles 13 = .ok (.getfield 159, 3) := by decide +kernel
theorem dX6_ladles_16 : decode cX6_ladles 16 = .ok (.goto 4, 3) := by decide +kernel
theorem dX6_ladles_19 : decode cX6_ladles 19 = .ok (.iconst (-1), 1) := by decide +kernel
theorem dX6_ladles_20 : decode cX6_ladles 20 = .ok (.ireturn, 1) := by decide +kernel
theorem dX6_ladle_0 : decode cX6_ladle 0 = .ok (.aload_n 0, 1) := by decide +kernel
theorem dX6_ladle_1 : decode cX6_ladle 1 = .ok (.iload_n 1, 1) := by decide +kernel
theorem dX6_ladle_2 : decode cX6_ladle 2 = .ok (.invokevirtual 74, 3) := by decide +kernel
theorem dX6_ladle_5 : decode cX6_ladle 5 = .ok (.ifCond .ne 5, 3) := by decide +kernel
theorem dX6_ladle_8 : decode cX6_ladle 8 = .ok (.iconst 0, 1) := by decide +kernel
theorem dX6_ladle_9 : decode cX6_ladle 9 = .ok (.ireturn, 1) := by decide +kernel
theorem dX6_ladle_10 : decode cX6_ladle 10 = .ok (.aload_n 0, 1) := by decide +kernel
theorem dX6_ladle_11 : decode cX6_ladle 11 = .ok (.invokevirtual 169, 3) := by decide +kernel
theorem dX6_ladle_14 : decode cX6_ladle 14 = .ok (.ifCond .eq 12, 3) := by decide +kernel
theorem dX6_ladle_17 : decode cX6_ladle 17 = .ok (.aload_n 0, 1) := by decide +kernel
theorem dX6_ladle_18 : decode cX6_ladle 18 = .ok (.getfield 54, 3) := by decide +kernel
theorem dX6_ladle_21 : decode cX6_ladle 21 = .ok (.iload_n 1, 1) := by decide +kernel
theorem dX6_ladle_22 : decode cX6_ladle 22 = .ok (.iaload, 1) := by decide +kernel
theorem dX6_ladle_23 : decode cX6_ladle 23 = .ok (.goto 4, 3) := by decide +kernel
theorem dX6_ladle_26 : decode cX6_ladle 26 = .ok (.iconst (-1), 1) := by decide +kernel
theorem dX6_ladle_27 : decode cX6_ladle 27 = .ok (.ireturn, 1) := by decide +kernel
theorem dX6_come_0 : decode cX6_come 0 = .ok (.aload_n 0, 1) := by decide +kernel
theorem dX6_come_1 : decode cX6_come 1 = .ok (.iconst 0, 1) := by decide +kernel
theorem dX6_come_2 : decode cX6_come 2 = .ok (.putfield 60, 3) := by decide +kernel
theorem dX6_come_5 : decode cX6_come 5 = .ok (.aload_n 0, 1) := by decide +kernel
theorem dX6_come_6 : decode cX6_come 6 = .ok (.iload_n 1, 1) := by decide +kernel
theorem dX6_come_7 : decode cX6_come 7 = .ok (.ifCond .lt 9, 3) := by decide +kernel
theorem dX6_come_10 : decode cX6_come 10 = .ok (.iload_n 1, 1) := by decide +kernel
theorem dX6_come_11 : decode cX6_come 11 = .ok (.bipush 100, 2) := by decide +kernel
theorem dX6_come_13 : decode cX6_come 13 = .ok (.if_icmp .le 7, 3) := by decide +kernel
theorem dX6_come_16 : decode cX6_come 16 = .ok (.iconst 1, 1) := by decide +kernel
theorem dX6_come_17 : decode cX6_come 17 = .ok (.goto 4, 3) := by decide +kernel
theorem dX6_come_20 : decode cX6_come 20 = .ok (.iconst 0, 1) := by decide +kernel
theorem dX6_come_21 : decode cX6_come 21 = .ok (.iconst 1, 1) := by decide +kernel
theorem dX6_come_22 : decode cX6_come 22 = .ok (.invokevirtual 67, 3) := by decide +kernel
theorem dX6_come_25 : decode cX6_come 25 = .ok (.ifCond .eq 5, 3) := by decide +kernel
theorem dX6_come_28 : decode cX6_come 28 = .ok (.iconst 0, 1) := by decide +kernel
theorem dX6_come_29 : decode cX6_come 29 = .ok (.ireturn, 1) := by decide +kernel
theorem dX6_come_30 : decode cX6_come 30 = .ok (.aload_n 0, 1) := by decide +kernel
theorem dX6_come_31 : decode cX6_come 31 = .ok (.getfield 172, 3) := by decide +kernel
theorem dX6_come_34 : decode cX6_come 34 = .ok (.bipush 60, 2) := by decide +kernel
theorem dX6_come_36 : decode cX6_come 36 = .ok (.if_icmp .ne 5, 3) := by decide +kernel
theorem dX6_come_39 : decode cX6_come 39 = .ok (.iconst (-1), 1) := by decide +kernel
theorem dX6_come_40 : decode cX6_come 40 = .ok (.ireturn, 1) := by decide +kernel
theorem dX6_come_41 : decode cX6_come 41 = .ok (.aload_n 0, 1) := by decide +kernel
theorem dX6_come_42 : decode cX6_come 42 = .ok (.getfield 57, 3) := by decide +kernel
theorem dX6_come_45 : decode cX6_come 45 = .ok (.aload_n 0, 1) := by decide +kernel
theorem dX6_come_46 : decode cX6_come 46 = .ok (.getfield 172, 3) := by decide +kernel
theorem dX6_come_49 : decode cX6_come 49 = .ok (.iload_n 1, 1) := by decide +kernel
theorem dX6_come_50 : decode cX6_come 50 = .ok (.iastore, 1) := by decide +kernel
theorem dX6_come_51 : decode cX6_come 51 = .ok (.aload_n 0, 1) := by decide +kernel
theorem dX6_come_52 : decode cX6_come 52 = .ok (.dup, 1) := by decide +kernel
theorem dX6_come_53 : decode cX6_come 53 = .ok (.getfield 172, 3) := by decide +kernel
theorem dX6_come_56 : decode cX6_come 56 = .ok (.iconst 1, 1) := by decide +kernel
theorem dX6_come_57 : decode cX6_come 57 = .ok (.iadd, 1) := by decide +kernel
theorem dX6_come_58 : decode cX6_come 58 = .ok (.putfield 172, 3) := by decide +kernel
theorem dX6_come_61 : decode cX6_come 61 = .ok (.aload_n 0, 1) := by decide +kernel
theorem dX6_come_62 : decode cX6_come 62 = .ok (.getfield 172, 3) := by decide +kernel
theorem dX6_come_65 : decode cX6_come 65 = .ok (.ireturn, 1) := by decide +kernel
theorem dX6_stands_0 : decode cX6_stands 0 = .ok (.aload_n 0, 1) := by decide +kernel
theorem dX6_stands_1 : decode cX6_stands 1 = .ok (.iconst 0, 1) := by decide +kernel
theorem dX6_stands_2 : decode cX6_stands 2 = .ok (.putfield 175, 3) := by decide +kernel
theorem dX6_stands_5 : decode cX6_stands 5 = .ok (.aload_n 0, 1) := by decide +kernel
theorem dX6_stands_6 : decode cX6_stands 6 = .ok (.iconst 0, 1) := by decide +kernel
theorem dX6_stands_7 : decode cX6_stands 7 = .ok (.putfield 178, 3) := by decide +kernel
theorem dX6_stands_10 : decode cX6_stands 10 = .ok (.aload_n 0, 1) := by decide +kernel
theorem dX6_stands_11 : decode cX6_stands 11 = .ok (.iconst (-1), 1) := by decide +kernel
theorem dX6_stands_12 : decode cX6_stands 12 = .ok (.putfield 181, 3) := by decide +kernel
theorem dX6_stands_15 : decode cX6_stands 15 = .ok (.aload_n 0, 1) := by decide +kernel
theorem dX6_stands_16 : decode cX6_stands 16 = .ok (.iconst 0, 1) := by decide +kernel
theorem dX6_stands_17 : decode cX6_stands 17 = .ok (.putfield 184, 3) := by decide +kernel
theorem dX6_stands_20 : decode cX6_stands 20 = .ok (.iconst 0, 1) := by decide +kernel
theorem dX6_stands_21 : decode cX6_stands 21 = .ok (.istore_n 2, 1) := by decide +kernel
theorem dX6_stands_22 : decode cX6_stands 22 = .ok (.aload_n 0, 1) := by decide +kernel
theorem dX6_stands_23 : decode cX6_stands 23 = .ok (.getfield 172, 3) := by decide +kernel
theorem dX6_stands_26 : decode cX6_stands 26 = .ok (.ifCond .le 12, 3) := by decide +kernel
theorem dX6_stands_29 : decode cX6_stands 29 = .ok (.aload_n 0, 1) := by decide +kernel
theorem dX6_stands_30 : decode cX6_stands 30 = .ok (.getfield 57, 3) := by decide +kernel
theorem dX6_stands_33 : decode cX6_stands 33 = .ok (.iconst 0, 1) := by decide +kernel
theorem dX6_stands_34 : decode cX6_stands 34 = .ok (.iaload, 1) := by decide +kernel
theorem dX6_stands_35 : decode cX6_stands 35 = .ok (.goto 4, 3) := by decide +kernel
theorem dX6_stands_38 : decode cX6_stands 38 = .ok (.iconst 0, 1) := by decide +kernel
theorem dX6_stands_39 : decode cX6_stands 39 = .ok (.istore_n 3, 1) := by decide +kernel
theorem dX6_stands_40 : decode cX6_stands 40 = .ok (.iconst 0, 1) := by decide +kernel
theorem dX6_stands_41 : decode cX6_stands 41 = .ok (.istore 4, 2) := by decide +kernel
theorem dX6_stands_43 : decode cX6_stands 43 = .ok (.aload_n 0, 1) := by decide +kernel
theorem dX6_stands_44 : decode cX6_stands 44 = .ok (.getfield 172, 3) := by decide +kernel
theorem dX6_stands_47 : decode cX6_stands 47 = .ok (.istore 5, 2) := by decide +kernel
theorem dX6_stands_49 : decode cX6_stands 49 = .ok (.iconst 0, 1) := by decide +kernel
theorem dX6_stands_50 : decode cX6_stands 50 = .ok (.istore 6, 2) := by decide +kernel
theorem dX6_stands_52 : decode cX6_stands 52 = .ok (.iload 6, 2) := by decide +kernel
theorem dX6_stands_54 : decode cX6_stands 54 = .ok (.iload 5, 2) := by decide +kernel
theorem dX6_stands_56 : decode cX6_stands 56 = .ok (.if_icmp .lt 8, 3) := by decide +kernel
theorem dX6_stands_59 : decode cX6_stands 59 = .ok (.iload 4, 2) := by decide +kernel
theorem dX6_stands_61 : decode cX6_stands 61 = .ok (.ifCond .le 176, 3) := by decide +kernel
theorem dX6_stands_64 : decode cX6_stands 64 = .ok (.iload 4, 2) := by decide +kernel
theorem dX6_stands_66 : decode cX6_stands 66 = .ok (.iload 6, 2) := by decide +kernel
theorem dX6_stands_68 : decode cX6_stands 68 = .ok (.aload_n 0, 1) := by decide +kernel
theorem dX6_stands_69 : decode cX6_stands 69 = .ok (.getfield 172, 3) := by decide +kernel
theorem dX6_stands_72 : decode cX6_stands 72 = .ok (.if_icmp .ge 13, 3) := by decide +kernel
theorem dX6_stands_75 : decode cX6_stands 75 = .ok (.aload_n 0, 1) := by decide +kernel
theorem dX6_stands_76 : decode cX6_stands 76 = .ok (.getfield 57, 3) := by decide +kernel
theorem dX6_stands_79 : decode cX6_stands 79 = .ok (.iload 6, 2) := by decide +kernel
theorem dX6_stands_81 : decode cX6_stands 81 = .ok (.iaload, 1) := by decide +kernel
theorem dX6_stands_82 : decode cX6_stands 82 = .ok (.goto 4, 3) := by decide +kernel
theorem dX6_stands_85 : decode cX6_stands 85 = .ok (.iconst 0, 1) := by decide +kernel
theorem dX6_stands_86 : decode cX6_stands 86 = .ok (.iadd, 1) := by decide +kernel
theorem dX6_stands_87 : decode cX6_stands 87 = .ok (.istore 4, 2) := by decide +kernel
theorem dX6_stands_89 : decode cX6_stands 89 = .ok (.iload 4, 2) := by decide +kernel
theorem dX6_stands_91 : decode cX6_stands 91 = .ok (.iload_n 1, 1) := by decide +kernel
theorem dX6_stands_92 : decode cX6_stands 92 = .ok (.if_icmp .ge 8, 3) := by decide +kernel
theorem dX6_stands_95 : decode cX6_stands 95 = .ok (.iload 4, 2) := by decide +kernel
theorem dX6_stands_97 : decode cX6_stands 97 = .ok (.goto 4, 3) := by decide +kernel
theorem dX6_stands_100 : decode cX6_stands 100 = .ok (.iload_n 1, 1) := by decide +kernel
theorem dX6_stands_101 : decode cX6_stands 101 = .ok (.istore 7, 2) := by decide +kernel
theorem dX6_stands_103 : decode cX6_stands 103 = .ok (.iload 4, 2) := by decide +kernel
theorem dX6_stands_105 : decode cX6_stands 105 = .ok (.iload 7, 2) := by decide +kernel
theorem dX6_stands_107 : decode cX6_stands 107 = .ok (.isub, 1) := by decide +kernel
theorem dX6_stands_108 : decode cX6_stands 108 = .ok (.istore 4, 2) := by decide +kernel
theorem dX6_stands_110 : decode cX6_stands 110 = .ok (.iload 7, 2) := by decide +kernel
theorem dX6_stands_112 : decode cX6_stands 112 = .ok (.ifCond .le 97, 3) := by decide +kernel
theorem dX6_stands_115 : decode cX6_stands 115 = .ok (.iload_n 3, 1) := by decide +kernel
theorem dX6_stands_116 : decode cX6_stands 116 = .ok (.ifCond .ne 16, 3) := by decide +kernel
theorem dX6_stands_119 : decode cX6_stands 119 = .ok (.iinc 2 1, 3) := by decide +kernel
theorem dX6_stands_122 : decode cX6_stands 122 = .ok (.aload_n 0, 1) := by decide +kernel
theorem dX6_stands_123 : decode cX6_stands 123 = .ok (.getfield 57, 3) := by decide +kernel
theorem dX6_stands_126 : decode cX6_stands 126 = .ok (.iload_n 2, 1) := by decide +kernel
theorem dX6_stands_127 : decode cX6_stands 127 = .ok (.iaload, 1) := by decide +kernel
theorem dX6_stands_128 : decode cX6_stands 128 = .ok (.istore_n 3, 1) := by decide +kernel
theorem dX6_stands_129 : decode cX6_stands 129 = .ok (.goto (-14), 3) := by decide +kernel
theorem dX6_stands_132 : decode cX6_stands 132 = .ok (.iload_n 3, 1) := by decide +kernel
theorem dX6_stands_133 : decode cX6_stands 133 = .ok (.iload 7, 2) := by decide +kernel
theorem dX6_stands_135 : decode cX6_stands 135 = .ok (.if_icmp .ge 7, 3) := by decide +kernel
theorem dX6_stands_138 : decode cX6_stands 138 = .ok (.iload_n 3, 1) := by decide +kernel
theorem dX6_stands_139 : decode cX6_stands 139 = .ok (.goto 5, 3) := by decide +kernel
theorem dX6_stands_142 : decode cX6_stands 142 = .ok (.iload 7, 2) := by decide +kernel
theorem dX6_stands_144 : decode cX6_stands 144 = .ok (.istore 8, 2) := by decide +kernel
theorem dX6_stands_146 : decode cX6_stands 146 = .ok (.iload_n 3, 1) := by decide +kernel
theorem dX6_stands_147 : decode cX6_stands 147 = .ok (.iload 8, 2) := by decide +kernel
theorem dX6_stands_149 : decode cX6_stands 149 = .ok (.isub, 1) := by decide +kernel
theorem dX6_stands_150 : decode cX6_stands 150 = .ok (.istore_n 3, 1) := by decide +kernel
theorem dX6_stands_151 : decode cX6_stands 151 = .ok (.iload 7, 2) := by decide +kernel
theorem dX6_stands_153 : decode cX6_stands 153 = .ok (.iload 8, 2) := by decide +kernel
theorem dX6_stands_155 : decode cX6_stands 155 = .ok (.isub, 1) := by decide +kernel
theorem dX6_stands_156 : decode cX6_stands 156 = .ok (.istore 7, 2) := by decide +kernel
theorem dX6_stands_158 : decode cX6_stands 158 = .ok (.aload_n 0, 1) := by decide +kernel
theorem dX6_stands_159 : decode cX6_stands 159 = .ok (.dup, 1) := by decide +kernel
theorem dX6_stands_160 : decode cX6_stands 160 = .ok (.getfield 178, 3) := by decide +kernel
theorem dX6_stands_163 : decode cX6_stands 163 = .ok (.iload 8, 2) := by decide +kernel
theorem dX6_stands_165 : decode cX6_stands 165 = .ok (.iload 6, 2) := by decide +kernel
theorem dX6_stands_167 : decode cX6_stands 167 = .ok (.iload_n 2, 1) := by decide +kernel
theorem dX6_stands_168 : decode cX6_stands 168 = .ok (.isub, 1) := by decide +kernel
theorem dX6_stands_169 : decode cX6_stands 169 = .ok (.imul, 1) := by decide +kernel
theorem dX6_stands_170 : decode cX6_stands 170 = .ok (.iadd, 1) := by decide +kernel
theorem dX6_stands_171 : decode cX6_stands 171 = .ok (.putfield 178, 3) := by decide +kernel
theorem dX6_stands_174 : decode cX6_stands 174 = .ok (.aload_n 0, 1) := by decide +kernel
theorem dX6_stands_175 : decode cX6_stands 175 = .ok (.iload 6, 2) := by decide +kernel
theorem dX6_stands_177 : decode cX6_stands 177 = .ok (.iload_n 2, 1) := by decide +kernel
theorem dX6_stands_178 : decode cX6_stands 178 = .ok (.isub, 1) := by decide +kernel
theorem dX6_stands_179 : decode cX6_stands 179 = .ok (.aload_n 0, 1) := by decide +kernel
theorem dX6_stands_180 : decode cX6_stands 180 = .ok (.getfield 175, 3) := by decide +kernel
theorem dX6_stands_183 : decode cX6_stands 183 = .ok (.if_icmp .le 10, 3) := by decide +kernel
theorem dX6_stands_186 : decode cX6_stands 186 = .ok (.iload 6, 2) := by decide +kernel
theorem dX6_stands_188 : decode cX6_stands 188 = .ok (.iload_n 2, 1) := by decide +kernel
theorem dX6_stands_189 : decode cX6_stands 189 = .ok (.isub, 1) := by decide +kernel
theorem dX6_stands_190 : decode cX6_stands 190 = .ok (.goto 7, 3) := by decide +kernel
theorem dX6_stands_193 : decode cX6_stands 193 = .ok (.aload_n 0, 1) := by decide +kernel
theorem dX6_stands_194 : decode cX6_stands 194 = .ok (.getfield 175, 3) := by decide +kernel
theorem dX6_stands_197 : decode cX6_stands 197 = .ok (.putfield 175, 3) := by decide +kernel
theorem dX6_stands_200 : decode cX6_stands 200 = .ok (.aload_n 0, 1) := by decide +kernel
theorem dX6_stands_201 : decode cX6_stands 201 = .ok (.iload 6, 2) := by decide +kernel
theorem dX6_stands_203 : decode cX6_stands 203 = .ok (.putfield 181, 3) := by decide +kernel
theorem dX6_stands_206 : decode cX6_stands 206 = .ok (.goto (-96), 3) := by decide +kernel
theorem dX6_stands_209 : decode cX6_stands 209 = .ok (.aload_n 0, 1) := by decide +kernel
theorem dX6_stands_210 : decode cX6_stands 210 = .ok (.iload 4, 2) := by decide +kernel
theorem dX6_stands_212 : decode cX6_stands 212 = .ok (.aload_n 0, 1) := by decide +kernel
theorem dX6_stands_213 : decode cX6_stands 213 = .ok (.getfield 184, 3) := by decide +kernel
theorem dX6_stands_216 : decode cX6_stands 216 = .ok (.if_icmp .le 8, 3) := by decide +kernel
theorem dX6_stands_219 : decode cX6_stands 219 = .ok (.iload 4, 2) := by decide +kernel
theorem dX6_stands_221 : decode cX6_stands 221 = .ok (.goto 7, 3) := by decide +kernel
theorem dX6_stands_224 : decode cX6_stands 224 = .ok (.aload_n 0, 1) := by decide +kernel
theorem dX6_stands_225 : decode cX6_stands 225 = .ok (.getfield 184, 3) := by decide +kernel
theorem dX6_stands_228 : decode cX6_stands 228 = .ok (.putfield 184, 3) := by decide +kernel
theorem dX6_stands_231 : decode cX6_stands 231 = .ok (.iinc 6 1, 3) := by decide +kernel
theorem dX6_stands_234 : decode cX6_stands 234 = .ok (.goto (-182), 3) := by decide +kernel
theorem dX6_stands_237 : decode cX6_stands 237 = .ok (.return_, 1) := by decide +kernel
theorem dX6_hatch_0 : decode cX6_hatch 0 = .ok (.aload_n 0, 1) := by decide +kernel
theorem dX6_hatch_1 : decode cX6_hatch 1 = .ok (.iconst 0, 1) := by decide +kernel
theorem dX6_hatch_2 : decode cX6_hatch 2 = .ok (.putfield 60, 3) := by decide +kernel
theorem dX6_hatch_5 : decode cX6_hatch 5 = .ok (.aload_n 0, 1) := by decide +kernel
theorem dX6_hatch_6 : decode cX6_hatch 6 = .ok (.iload_n 1, 1) := by decide +kernel
theorem dX6_hatch_7 : decode cX6_hatch 7 = .ok (.iconst 1, 1) := by decide +kernel
theorem dX6_hatch_8 : decode cX6_hatch 8 = .ok (.if_icmp .lt 18, 3) := by decide +kernel
theorem dX6_hatch_11 : decode cX6_hatch 11 = .ok (.iload_n 1, 1) := by decide +kernel
theorem dX6_hatch_12 : decode cX6_hatch 12 = .ok (.bipush 100, 2) := by decide +kernel
theorem dX6_hatch_14 : decode cX6_hatch 14 = .ok (.if_icmp .gt 12, 3) := by decide +kernel
theorem dX6_hatch_17 : decode cX6_hatch 17 = .ok (.iload_n 2, 1) := by decide +kernel
theorem dX6_hatch_18 : decode cX6_hatch 18 = .ok (.ifCond .lt 8, 3) := by decide +kernel
theorem dX6_hatch_21 : decode cX6_hatch 21 = .ok (.iload_n 2, 1) := by decide +kernel
theorem dX6_hatch_22 : decode cX6_hatch 22 = .ok (.iconst 3, 1) := by decide +kernel
theorem dX6_hatch_23 : decode cX6_hatch 23 = .ok (.if_icmp .le 7, 3) := by decide +kernel
theorem dX6_hatch_26 : decode cX6_hatch 26 = .ok (.iconst 1, 1) := by decide +kernel
theorem dX6_hatch_27 : decode cX6_hatch 27 = .ok (.goto 4, 3) := by decide +kernel
theorem dX6_hatch_30 : decode cX6_hatch 30 = .ok (.iconst 0, 1) := by decide +kernel
theorem dX6_hatch_31 : decode cX6_hatch 31 = .ok (.iconst 1, 1) := by decide +kernel
theorem dX6_hatch_32 : decode cX6_hatch 32 = .ok (.invokevirtual 67, 3) := by decide +kernel
theorem dX6_hatch_35 : decode cX6_hatch 35 = .ok (.ifCond .eq 5, 3) := by decide +kernel
theorem dX6_hatch_38 : decode cX6_hatch 38 = .ok (.iconst 0, 1) := by decide +kernel
theorem dX6_hatch_39 : decode cX6_hatch 39 = .ok (.ireturn, 1) := by decide +kernel
theorem dX6_hatch_40 : decode cX6_hatch 40 = .ok (.aload_n 0, 1) := by decide +kernel
theorem dX6_hatch_41 : decode cX6_hatch 41 = .ok (.iload_n 1, 1) := by decide +kernel
theorem dX6_hatch_42 : decode cX6_hatch 42 = .ok (.invokevirtual 187, 3) := by decide +kernel
theorem dX6_hatch_45 : decode cX6_hatch 45 = .ok (.iload_n 2, 1) := by decide +kernel
theorem dX6_hatch_46 : decode cX6_hatch 46 = .ok (.ifCond .ne 10, 3) := by decide +kernel
theorem dX6_hatch_49 : decode cX6_hatch 49 = .ok (.aload_n 0, 1) := by decide +kernel
theorem dX6_hatch_50 : decode cX6_hatch 50 = .ok (.getfield 175, 3) := by decide +kernel
theorem dX6_hatch_53 : decode cX6_hatch 53 = .ok (.goto 31, 3) := by decide +kernel
theorem dX6_hatch_56 : decode cX6_hatch 56 = .ok (.iload_n 2, 1) := by decide +kernel
theorem dX6_hatch_57 : decode cX6_hatch 57 = .ok (.iconst 1, 1) := by decide +kernel
theorem dX6_hatch_58 : decode cX6_hatch 58 = .ok (.if_icmp .ne 10, 3) := by decide +kernel
theorem dX6_hatch_61 : decode cX6_hatch 61 = .ok (.aload_n 0, 1) := by decide +kernel
theorem dX6_hatch_62 : decode cX6_hatch 62 = .ok (.getfield 178, 3) := by decide +kernel
theorem dX6_hatch_65 : decode cX6_hatch 65 = .ok (.goto 19, 3) := by decide +kernel
theorem dX6_hatch_68 : decode cX6_hatch 68 = .ok (.iload_n 2, 1) := by decide +kernel
theorem dX6_hatch_69 : decode cX6_hatch 69 = .ok (.iconst 2, 1) := by decide +kernel
theorem dX6_hatch_70 : decode cX6_hatch 70 = .ok (.if_icmp .ne 10, 3) := by decide +kernel
theorem dX6_hatch_73 : decode cX6_hatch 73 = .ok (.aload_n 0, 1) := by decide +kernel
theorem dX6_hatch_74 : decode cX6_hatch 74 = .ok (.getfield 181, 3) := by decide +kernel
theorem dX6_hatch_77 : decode cX6_hatch 77 = .ok (.goto 7, 3) := by decide +kernel
theorem dX6_hatch_80 : decode cX6_hatch 80 = .ok (.aload_n 0, 1) := by decide +kernel
theorem dX6_hatch_81 : decode cX6_hatch 81 = .ok (.getfield 184, 3) := by decide +kernel
theorem dX6_hatch_84 : decode cX6_hatch 84 = .ok (.ireturn, 1) := by decide +kernel
theorem dX6_serve_0 : decode cX6_serve 0 = .ok (.aload_n 0, 1) := by decide +kernel
theorem dX6_serve_1 : decode cX6_serve 1 = .ok (.iconst 0, 1) := by decide +kernel
theorem dX6_serve_2 : decode cX6_serve 2 = .ok (.putfield 60, 3) := by decide +kernel
theorem dX6_serve_5 : decode cX6_serve 5 = .ok (.aload_n 0, 1) := by decide +kernel
theorem dX6_serve_6 : decode cX6_serve 6 = .ok (.iload_n 1, 1) := by decide +kernel
theorem dX6_serve_7 : decode cX6_serve 7 = .ok (.ifCond .ge 7, 3) := by decide +kernel
theorem dX6_serve_10 : decode cX6_serve 10 = .ok (.iconst 1, 1) := by decide +kernel
theorem dX6_serve_11 : decode cX6_serve 11 = .ok (.goto 4, 3) := by decide +kernel
theorem dX6_serve_14 : decode cX6_serve 14 = .ok (.iconst 0, 1) := by decide +kernel
theorem dX6_serve_15 : decode cX6_serve 15 = .ok (.iconst 1, 1) := by decide +kernel
theorem dX6_serve_16 : decode cX6_serve 16 = .ok (.invokevirtual 67, 3) := by decide +kernel
theorem dX6_serve_19 : decode cX6_serve 19 = .ok (.ifCond .eq 5, 3) := by decide +kernel
theorem dX6_serve_22 : decode cX6_serve 22 = .ok (.iconst 0, 1) := by decide +kernel
theorem dX6_serve_23 : decode cX6_serve 23 = .ok (.ireturn, 1) := by decide +kernel
theorem dX6_serve_24 : decode cX6_serve 24 = .ok (.iconst 1, 1) := by decide +kernel
theorem dX6_serve_25 : decode cX6_serve 25 = .ok (.istore_n 2, 1) := by decide +kernel
theorem dX6_serve_26 : decode cX6_serve 26 = .ok (.aload_n 0, 1) := by decide +kernel
theorem dX6_serve_27 : decode cX6_serve 27 = .ok (.iload_n 2, 1) := by decide +kernel
theorem dX6_serve_28 : decode cX6_serve 28 = .ok (.invokevirtual 187, 3) := by decide +kernel
theorem dX6_serve_31 : decode cX6_serve 31 = .ok (.aload_n 0, 1) := by decide +kernel
theorem dX6_serve_32 : decode cX6_serve 32 = .ok (.getfield 175, 3) := by decide +kernel
theorem dX6_serve_35 : decode cX6_serve 35 = .ok (.iload_n 1, 1) := by decide +kernel
theorem dX6_serve_36 : decode cX6_serve 36 = .ok (.if_icmp .le 14, 3) := by decide +kernel
theorem dX6_serve_39 : decode cX6_serve 39 = .ok (.iinc 2 1, 3) := by decide +kernel
theorem dX6_serve_42 : decode cX6_serve 42 = .ok (.aload_n 0, 1) := by decide +kernel
theorem dX6_serve_43 : decode cX6_serve 43 = .ok (.iload_n 2, 1) := by decide +kernel
theorem dX6_serve_44 : decode cX6_serve 44 = .ok (.invokevirtual 187, 3) := by decide +kernel
theorem dX6_serve_47 : decode cX6_serve 47 = .ok (.goto (-16), 3) := by decide +kernel
theorem dX6_serve_50 : decode cX6_serve 50 = .ok (.iload_n 2, 1) := by decide +kernel
theorem dX6_serve_51 : decode cX6_serve 51 = .ok (.ireturn, 1) := by decide +kernel
theorem dX6_empty_0 : decode cX6_empty 0 = .ok (.aload_n 0, 1) := by decide +kernel
theorem dX6_empty_1 : decode cX6_empty 1 = .ok (.iconst 0, 1) := by decide +kernel
theorem dX6_empty_2 : decode cX6_empty 2 = .ok (.putfield 60, 3) := by decide +kernel
theorem dX6_empty_5 : decode cX6_empty 5 = .ok (.aload_n 0, 1) := by decide +kernel
theorem dX6_empty_6 : decode cX6_empty 6 = .ok (.getfield 172, 3) := by decide +kernel
theorem dX6_empty_9 : decode cX6_empty 9 = .ok (.istore_n 1, 1) := by decide +kernel
theorem dX6_empty_10 : decode cX6_empty 10 = .ok (.aload_n 0, 1) := by decide +kernel
theorem dX6_empty_11 : decode cX6_empty 11 = .ok (.iconst 0, 1) := by decide +kernel
theorem dX6_empty_12 : decode cX6_empty 12 = .ok (.putfield 172, 3) := by decide +kernel
theorem dX6_empty_15 : decode cX6_empty 15 = .ok (.iload_n 1, 1) := by decide +kernel
theorem dX6_empty_16 : decode cX6_empty 16 = .ok (.ireturn, 1) := by decide +kernel
theorem dX6_count_0 : decode cX6_count 0 = .ok (.aload_n 0, 1) := by decide +kernel
theorem dX6_count_1 : decode cX6_count 1 = .ok (.iconst 0, 1) := by decide +kernel
theorem dX6_count_2 : decode cX6_count 2 = .ok (.putfield 60, 3) := by decide +kernel
theorem dX6_count_5 : decode cX6_count 5 = .ok (.iload_n 1, 1) := by decide +kernel
theorem dX6_count_6 : decode cX6_count 6 = .ok (.tableswitch 91 0 4 #[34, 39, 76, 81, 86], 34) := by decide +kernel
theorem dX6_count_40 : decode cX6_count 40 = .ok (.aload_n 0, 1) := by decide +kernel
theorem dX6_count_41 : decode cX6_count 41 = .ok (.getfield 71, 3) := by decide +kernel
theorem dX6_count_44 : decode cX6_count 44 = .ok (.ireturn, 1) := by decide +kernel
theorem dX6_count_45 : decode cX6_count 45 = .ok (.iconst 0, 1) := by decide +kernel
theorem dX6_count_46 : decode cX6_count 46 = .ok (.istore_n 2, 1) := by decide +kernel
theorem dX6_count_47 : decode cX6_count 47 = .ok (.iconst 0, 1) := by decide +kernel
theorem dX6_count_48 : decode cX6_count 48 = .ok (.istore_n 3, 1) := by decide +kernel
theorem dX6_count_49 : decode cX6_count 49 = .ok (.iload_n 3, 1) := by decide +kernel
theorem dX6_count_50 : decode cX6_count 50 = .ok (.aload_n 0, 1) := by decide +kernel
theorem dX6_count_51 : decode cX6_count 51 = .ok (.getfield 77, 3) := by decide +kernel
theorem dX6_count_54 : decode cX6_count 54 = .ok (.if_icmp .ge 26, 3) := by decide +kernel
theorem dX6_count_57 : decode cX6_count 57 = .ok (.iload_n 2, 1) := by decide +kernel
theorem dX6_count_58 : decode cX6_count 58 = .ok (.aload_n 0, 1) := by decide +kernel
theorem dX6_count_59 : decode cX6_count 59 = .ok (.getfield 25, 3) := by decide +kernel
theorem dX6_count_62 : decode cX6_count 62 = .ok (.iload_n 3, 1) := by decide +kernel
theorem dX6_count_63 : decode cX6_count 63 = .ok (.baload, 1) := by decide +kernel
theorem dX6_count_64 : decode cX6_count 64 = .ok (.ifCond .eq 7, 3) := by decide +kernel
theorem dX6_count_67 : decode cX6_count 67 = .ok (.iconst 1, 1) := by decide +kernel
theorem dX6_count_68 : decode cX6_count 68 = .ok (.goto 4, 3) := by decide +kernel
theorem dX6_count_71 : decode cX6_count 71 = .ok (.iconst 0, 1) := by decide +kernel
theorem dX6_count_72 : decode cX6_count 72 = .ok (.iadd, 1) := by decide +kernel
theorem dX6_count_73 : decode cX6_count 73 = .ok (.istore_n 2, 1) := by decide +kernel
theorem dX6_count_74 : decode cX6_count 74 = .ok (.iinc 3 1, 3) := by decide +kernel
theorem dX6_count_77 : decode cX6_count 77 = .ok (.goto (-28), 3) := by decide +kernel
theorem dX6_count_80 : decode cX6_count 80 = .ok (.iload_n 2, 1) := by decide +kernel
theorem dX6_count_81 : decode cX6_count 81 = .ok (.ireturn, 1) := by decide +kernel
theorem dX6_count_82 : decode cX6_count 82 = .ok (.aload_n 0, 1) := by decide +kernel
theorem dX6_count_83 : decode cX6_count 83 = .ok (.getfield 77, 3) := by decide +kernel
theorem dX6_count_86 : decode cX6_count 86 = .ok (.ireturn, 1) := by decide +kernel
theorem dX6_count_87 : decode cX6_count 87 = .ok (.aload_n 0, 1) := by decide +kernel
theorem dX6_count_88 : decode cX6_count 88 = .ok (.getfield 122, 3) := by decide +kernel
theorem dX6_count_91 : decode cX6_count 91 = .ok (.ireturn, 1) := by decide +kernel
theorem dX6_count_92 : decode cX6_count 92 = .ok (.aload_n 0, 1) := by decide +kernel
theorem dX6_count_93 : decode cX6_count 93 = .ok (.getfield 172, 3) := by decide +kernel
theorem dX6_count_96 : decode cX6_count 96 = .ok (.ireturn, 1) := by decide +kernel
theorem dX6_count_97 : decode cX6_count 97 = .ok (.iconst (-1), 1) := by decide +kernel
theorem dX6_count_98 : decode cX6_count 98 = .ok (.ireturn, 1) := by decide +kernel
theorem dJ9_max_7cf53_0 : decode cJ9_max_7cf53 0 = .ok (.iload_n 0, 1) := by decide +kernel
theorem dJ9_max_7cf53_1 : decode cJ9_max_7cf53 1 = .ok (.iload_n 1, 1) := by decide +kernel
theorem dJ9_max_7cf53_2 : decode cJ9_max_7cf53 2 = .ok (.if_icmp .lt 7, 3) := by decide +kernel
theorem dJ9_max_7cf53_5 : decode cJ9_max_7cf53 5 = .ok (.iload_n 0, 1) := by decide +kernel
theorem dJ9_max_7cf53_6 : decode cJ9_max_7cf53 6 = .ok (.goto 4, 3) := by decide +kernel
theorem dJ9_max_7cf53_9 : decode cJ9_max_7cf53 9 = .ok (.iload_n 1, 1) := by decide +kernel
theorem dJ9_max_7cf53_10 : decode cJ9_max_7cf53 10 = .ok (.ireturn, 1) := by decide +kernel
theorem dJ9_min_7cf53_0 : decode cJ9_min_7cf53 0 = .ok (.iload_n 0, 1) := by decide +kernel
theorem dJ9_min_7cf53_1 : decode cJ9_min_7cf53 1 = .ok (.iload_n 1, 1) := by decide +kernel
theorem dJ9_min_7cf53_2 : decode cJ9_min_7cf53 2 = .ok (.if_icmp .gt 7, 3) := by decide +kernel
theorem dJ9_min_7cf53_5 : decode cJ9_min_7cf53 5 = .ok (.iload_n 0, 1) := by decide +kernel
theorem dJ9_min_7cf53_6 : decode cJ9_min_7cf53 6 = .ok (.goto 4, 3) := by decide +kernel
theorem dJ9_min_7cf53_9 : decode cJ9_min_7cf53 9 = .ok (.iload_n 1, 1) := by decide +kernel
theorem dJ9_min_7cf53_10 : decode cJ9_min_7cf53 10 = .ok (.ireturn, 1) := by decide +kernel
theorem dJ7_fill_53178_0 : decode cJ7_fill_53178 0 = .ok (.iconst 0, 1) := by decide +kernel
theorem dJ7_fill_53178_1 : decode cJ7_fill_53178 1 = .ok (.istore_n 2, 1) := by decide +kernel
theorem dJ7_fill_53178_2 : decode cJ7_fill_53178 2 = .ok (.aload_n 0, 1) := by decide +kernel
theorem dJ7_fill_53178_3 : decode cJ7_fill_53178 3 = .ok (.arraylength, 1) := by decide +kernel
theorem dJ7_fill_53178_4 : decode cJ7_fill_53178 4 = .ok (.istore_n 3, 1) := by decide +kernel
theorem dJ7_fill_53178_5 : decode cJ7_fill_53178 5 = .ok (.iload_n 2, 1) := by decide +kernel
theorem dJ7_fill_53178_6 : decode cJ7_fill_53178 6 = .ok (.iload_n 3, 1) := by decide +kernel
theorem dJ7_fill_53178_7 : decode cJ7_fill_53178 7 = .ok (.if_icmp .ge 13, 3) := by decide +kernel
theorem dJ7_fill_53178_10 : decode cJ7_fill_53178 10 = .ok (.aload_n 0, 1) := by decide +kernel
theorem dJ7_fill_53178_11 : decode cJ7_fill_53178 11 = .ok (.iload_n 2, 1) := by decide +kernel
theorem dJ7_fill_53178_12 : decode cJ7_fill_53178 12 = .ok (.iload_n 1, 1) := by decide +kernel
theorem dJ7_fill_53178_13 : decode cJ7_fill_53178 13 = .ok (.iastore, 1) := by decide +kernel
theorem dJ7_fill_53178_14 : decode cJ7_fill_53178 14 = .ok (.iinc 2 1, 3) := by decide +kernel
theorem dJ7_fill_53178_17 : decode cJ7_fill_53178 17 = .ok (.goto (-12), 3) := by decide +kernel
theorem dJ7_fill_53178_20 : decode cJ7_fill_53178 20 = .ok (.return_, 1) := by decide +kernel
theorem dL_meal_0 : decode cL_meal 0 = .ok (.aload_n 3, 1) := by decide +kernel
theorem dL_meal_1 : decode cL_meal 1 = .ok (.iconst 0, 1) := by decide +kernel
theorem dL_meal_2 : decode cL_meal 2 = .ok (.aload_n 0, 1) := by decide +kernel
theorem dL_meal_3 : decode cL_meal 3 = .ok (.iload_n 1, 1) := by decide +kernel
theorem dL_meal_4 : decode cL_meal 4 = .ok (.iload_n 2, 1) := by decide +kernel
theorem dL_meal_5 : decode cL_meal 5 = .ok (.invokevirtual 7, 3) := by decide +kernel
theorem dL_meal_8 : decode cL_meal 8 = .ok (.i2l, 1) := by decide +kernel
theorem dL_meal_9 : decode cL_meal 9 = .ok (.lastore, 1) := by decide +kernel
theorem dL_meal_10 : decode cL_meal 10 = .ok (.goto 11, 3) := by decide +kernel
theorem dL_meal_13 : decode cL_meal 13 = .ok (.astore 4, 2) := by decide +kernel
theorem dL_meal_15 : decode cL_meal 15 = .ok (.iconst 1, 1) := by decide +kernel
theorem dL_meal_16 : decode cL_meal 16 = .ok (.ireturn, 1) := by decide +kernel
theorem dL_meal_17 : decode cL_meal 17 = .ok (.astore 4, 2) := by decide +kernel
theorem dL_meal_19 : decode cL_meal 19 = .ok (.iconst 2, 1) := by decide +kernel
theorem dL_meal_20 : decode cL_meal 20 = .ok (.ireturn, 1) := by decide +kernel
theorem dL_meal_21 : decode cL_meal 21 = .ok (.iconst 0, 1) := by decide +kernel
theorem dL_meal_22 : decode cL_meal 22 = .ok (.ireturn, 1) := by decide +kernel
theorem dL_ate_0 : decode cL_ate 0 = .ok (.aload_n 3, 1) := by decide +kernel
theorem dL_ate_1 : decode cL_ate 1 = .ok (.iconst 0, 1) := by decide +kernel
theorem dL_ate_2 : decode cL_ate 2 = .ok (.aload_n 0, 1) := by decide +kernel
theorem dL_ate_3 : decode cL_ate 3 = .ok (.iload_n 1, 1) := by decide +kernel
theorem dL_ate_4 : decode cL_ate 4 = .ok (.iload_n 2, 1) := by decide +kernel
theorem dL_ate_5 : decode cL_ate 5 = .ok (.invokevirtual 17, 3) := by decide +kernel
theorem dL_ate_8 : decode cL_ate 8 = .ok (.i2l, 1) := by decide +kernel
theorem dL_ate_9 : decode cL_ate 9 = .ok (.lastore, 1) := by decide +kernel
theorem dL_ate_10 : decode cL_ate 10 = .ok (.goto 11, 3) := by decide +kernel
theorem dL_ate_13 : decode cL_ate 13 = .ok (.astore 4, 2) := by decide +kernel
theorem dL_ate_15 : decode cL_ate 15 = .ok (.iconst 1, 1) := by decide +kernel
theorem dL_ate_16 : decode cL_ate 16 = .ok (.ireturn, 1) := by decide +kernel
theorem dL_ate_17 : decode cL_ate 17 = .ok (.astore 4, 2) := by decide +kernel
theorem dL_ate_19 : decode cL_ate 19 = .ok (.iconst 2, 1) := by decide +kernel
theorem dL_ate_20 : decode cL_ate 20 = .ok (.ireturn, 1) := by decide +kernel
theorem dL_ate_21 : decode cL_ate 21 = .ok (.iconst 0, 1) := by decide +kernel
theorem dL_ate_22 : decode cL_ate 22 = .ok (.ireturn, 1) := by decide +kernel
theorem dL_day_0 : decode cL_day 0 = .ok (.aload_n 2, 1) := by decide +kernel
theorem dL_day_1 : decode cL_day 1 = .ok (.iconst 0, 1) := by decide +kernel
theorem dL_day_2 : decode cL_day 2 = .ok (.aload_n 0, 1) := by decide +kernel
theorem dL_day_3 : decode cL_day 3 = .ok (.iload_n 1, 1) := by decide +kernel
theorem dL_day_4 : decode cL_day 4 = .ok (.invokevirtual 22, 3) := by decide +kernel
theorem dL_day_7 : decode cL_day 7 = .ok (.i2l, 1) := by decide +kernel
theorem dL_day_8 : decode cL_day 8 = .ok (.lastore, 1) := by decide +kernel
theorem dL_day_9 : decode cL_day 9 = .ok (.goto 9, 3) := by decide +kernel
theorem dL_day_12 : decode cL_day 12 = .ok (.astore_n 3, 1) := by decide +kernel
theorem dL_day_13 : decode cL_day 13 = .ok (.iconst 1, 1) := by decide +kernel
theorem dL_day_14 : decode cL_day 14 = .ok (.ireturn, 1) := by decide +kernel
theorem dL_day_15 : decode cL_day 15 = .ok (.astore_n 3, 1) := by decide +kernel
theorem dL_day_16 : decode cL_day 16 = .ok (.iconst 2, 1) := by decide +kernel
theorem dL_day_17 : decode cL_day 17 = .ok (.ireturn, 1) := by decide +kernel
theorem dL_day_18 : decode cL_day 18 = .ok (.iconst 0, 1) := by decide +kernel
theorem dL_day_19 : decode cL_day 19 = .ok (.ireturn, 1) := by decide +kernel
theorem dL_drop_0 : decode cL_drop 0 = .ok (.aload_n 2, 1) := by decide +kernel
theorem dL_drop_1 : decode cL_drop 1 = .ok (.iconst 0, 1) := by decide +kernel
theorem dL_drop_2 : decode cL_drop 2 = .ok (.aload_n 0, 1) := by decide +kernel
theorem dL_drop_3 : decode cL_drop 3 = .ok (.iload_n 1, 1) := by decide +kernel
theorem dL_drop_4 : decode cL_drop 4 = .ok (.invokevirtual 26, 3) := by decide +kernel
theorem dL_drop_7 : decode cL_drop 7 = .ok (.ifCond .eq 7, 3) := by decide +kernel
theorem dL_drop_10 : decode cL_drop 10 = .ok (.lconst 1, 1) := by decide +kernel
theorem dL_drop_11 : decode cL_drop 11 = .ok (.goto 4, 3) := by decide +kernel
theorem dL_drop_14 : decode cL_drop 14 = .ok (.lconst 0, 1) := by decide +kernel
theorem dL_drop_15 : decode cL_drop 15 = .ok (.lastore, 1) := by decide +kernel
theorem dL_drop_16 : decode cL_drop 16 = .ok (.goto 6, 3) := by decide +kernel
theorem dL_drop_19 : decode cL_drop 19 = .ok (.astore_n 3, 1) := by decide +kernel
theorem dL_drop_20 : decode cL_drop 20 = .ok (.iconst 1, 1) := by decide +kernel
theorem dL_drop_21 : decode cL_drop 21 = .ok (.ireturn, 1) := by decide +kernel
theorem dL_drop_22 : decode cL_drop 22 = .ok (.iconst 0, 1) := by decide +kernel
theorem dL_drop_23 : decode cL_drop 23 = .ok (.ireturn, 1) := by decide +kernel
theorem dL_leaves_0 : decode cL_leaves 0 = .ok (.aload_n 2, 1) := by decide +kernel
theorem dL_leaves_1 : decode cL_leaves 1 = .ok (.iconst 0, 1) := by decide +kernel
theorem dL_leaves_2 : decode cL_leaves 2 = .ok (.aload_n 0, 1) := by decide +kernel
theorem dL_leaves_3 : decode cL_leaves 3 = .ok (.iload_n 1, 1) := by decide +kernel
theorem dL_leaves_4 : decode cL_leaves 4 = .ok (.invokevirtual 30, 3) := by decide +kernel
theorem dL_leaves_7 : decode cL_leaves 7 = .ok (.i2l, 1) := by decide +kernel
theorem dL_leaves_8 : decode cL_leaves 8 = .ok (.lastore, 1) := by decide +kernel
theorem dL_leaves_9 : decode cL_leaves 9 = .ok (.goto 6, 3) := by decide +kernel
theorem dL_leaves_12 : decode cL_leaves 12 = .ok (.astore_n 3, 1) := by decide +kernel
theorem dL_leaves_13 : decode cL_leaves 13 = .ok (.iconst 1, 1) := by decide +kernel
theorem dL_leaves_14 : decode cL_leaves 14 = .ok (.ireturn, 1) := by decide +kernel
theorem dL_leaves_15 : decode cL_leaves 15 = .ok (.iconst 0, 1) := by decide +kernel
theorem dL_leaves_16 : decode cL_leaves 16 = .ok (.ireturn, 1) := by decide +kernel
theorem dL_split_0 : decode cL_split 0 = .ok (.aload 4, 2) := by decide +kernel
theorem dL_split_2 : decode cL_split 2 = .ok (.iconst 0, 1) := by decide +kernel
theorem dL_split_3 : decode cL_split 3 = .ok (.aload_n 0, 1) := by decide +kernel
theorem dL_split_4 : decode cL_split 4 = .ok (.iload_n 1, 1) := by decide +kernel
theorem dL_split_5 : decode cL_split 5 = .ok (.iload_n 2, 1) := by decide +kernel
theorem dL_split_6 : decode cL_split 6 = .ok (.iload_n 3, 1) := by decide +kernel
theorem dL_split_7 : decode cL_split 7 = .ok (.invokevirtual 33, 3) := by decide +kernel
theorem dL_split_10 : decode cL_split 10 = .ok (.i2l, 1) := by decide +kernel
theorem dL_split_11 : decode cL_split 11 = .ok (.lastore, 1) := by decide +kernel
theorem dL_split_12 : decode cL_split 12 = .ok (.goto 11, 3) := by decide +kernel
theorem dL_split_15 : decode cL_split 15 = .ok (.astore 5, 2) := by decide +kernel
theorem dL_split_17 : decode cL_split 17 = .ok (.iconst 1, 1) := by decide +kernel
theorem dL_split_18 : decode cL_split 18 = .ok (.ireturn, 1) := by decide +kernel
theorem dL_split_19 : decode cL_split 19 = .ok (.astore 5, 2) := by decide +kernel
theorem dL_split_21 : decode cL_split 21 = .ok (.iconst 2, 1) := by decide +kernel
theorem dL_split_22 : decode cL_split 22 = .ok (.ireturn, 1) := by decide +kernel
theorem dL_split_23 : decode cL_split 23 = .ok (.iconst 0, 1) := by decide +kernel
theorem dL_split_24 : decode cL_split 24 = .ok (.ireturn, 1) := by decide +kernel
theorem dL_leaf_0 : decode cL_leaf 0 = .ok (.aload 4, 2) := by decide +kernel
theorem dL_leaf_2 : decode cL_leaf 2 = .ok (.iconst 0, 1) := by decide +kernel
theorem dL_leaf_3 : decode cL_leaf 3 = .ok (.aload_n 0, 1) := by decide +kernel
theorem dL_leaf_4 : decode cL_leaf 4 = .ok (.iload_n 1, 1) := by decide +kernel
theorem dL_leaf_5 : decode cL_leaf 5 = .ok (.iload_n 2, 1) := by decide +kernel
theorem dL_leaf_6 : decode cL_leaf 6 = .ok (.iload_n 3, 1) := by decide +kernel
theorem dL_leaf_7 : decode cL_leaf 7 = .ok (.invokevirtual 37, 3) := by decide +kernel
theorem dL_leaf_10 : decode cL_leaf 10 = .ok (.i2l, 1) := by decide +kernel
theorem dL_leaf_11 : decode cL_leaf 11 = .ok (.lastore, 1) := by decide +kernel
theorem dL_leaf_12 : decode cL_leaf 12 = .ok (.goto 11, 3) := by decide +kernel
theorem dL_leaf_15 : decode cL_leaf 15 = .ok (.astore 5, 2) := by decide +kernel
theorem dL_leaf_17 : decode cL_leaf 17 = .ok (.iconst 1, 1) := by decide +kernel
theorem dL_leaf_18 : decode cL_leaf 18 = .ok (.ireturn, 1) := by decide +kernel
theorem dL_leaf_19 : decode cL_leaf 19 = .ok (.astore 5, 2) := by decide +kernel
theorem dL_leaf_21 : decode cL_leaf 21 = .ok (.iconst 2, 1) := by decide +kernel
theorem dL_leaf_22 : decode cL_leaf 22 = .ok (.ireturn, 1) := by decide +kernel
theorem dL_leaf_23 : decode cL_leaf 23 = .ok (.iconst 0, 1) := by decide +kernel
theorem dL_leaf_24 : decode cL_leaf 24 = .ok (.ireturn, 1) := by decide +kernel
theorem dL_size_0 : decode cL_size 0 = .ok (.aload_n 3, 1) := by decide +kernel
theorem dL_size_1 : decode cL_size 1 = .ok (.iconst 0, 1) := by decide +kernel
theorem dL_size_2 : decode cL_size 2 = .ok (.aload_n 0, 1) := by decide +kernel
theorem dL_size_3 : decode cL_size 3 = .ok (.iload_n 1, 1) := by decide +kernel
theorem dL_size_4 : decode cL_size 4 = .ok (.iload_n 2, 1) := by decide +kernel
theorem dL_size_5 : decode cL_size 5 = .ok (.invokevirtual 40, 3) := by decide +kernel
theorem dL_size_8 : decode cL_size 8 = .ok (.i2l, 1) := by decide +kernel
theorem dL_size_9 : decode cL_size 9 = .ok (.lastore, 1) := by decide +kernel
theorem dL_size_10 : decode cL_size 10 = .ok (.goto 11, 3) := by decide +kernel
theorem dL_size_13 : decode cL_size 13 = .ok (.astore 4, 2) := by decide +kernel
theorem dL_size_15 : decode cL_size 15 = .ok (.iconst 1, 1) := by decide +kernel
theorem dL_size_16 : decode cL_size 16 = .ok (.ireturn, 1) := by decide +kernel
theorem dL_size_17 : decode cL_size 17 = .ok (.astore 4, 2) := by decide +kernel
theorem dL_size_19 : decode cL_size 19 = .ok (.iconst 2, 1) := by decide +kernel
theorem dL_size_20 : decode cL_size 20 = .ok (.ireturn, 1) := by decide +kernel
theorem dL_size_21 : decode cL_size 21 = .ok (.iconst 0, 1) := by decide +kernel
theorem dL_size_22 : decode cL_size 22 = .ok (.ireturn, 1) := by decide +kernel
theorem dL_prices_0 : decode cL_prices 0 = .ok (.aload_n 0, 1) := by decide +kernel
theorem dL_prices_1 : decode cL_prices 1 = .ok (.iload_n 1, 1) := by decide +kernel
theorem dL_prices_2 : decode cL_prices 2 = .ok (.iload_n 2, 1) := by decide +kernel
theorem dL_prices_3 : decode cL_prices 3 = .ok (.invokevirtual 43, 3) := by decide +kernel
theorem dL_prices_6 : decode cL_prices 6 = .ok (.goto 6, 3) := by decide +kernel
theorem dL_prices_9 : decode cL_prices 9 = .ok (.astore_n 3, 1) := by decide +kernel
theorem dL_prices_10 : decode cL_prices 10 = .ok (.iconst 1, 1) := by decide +kernel
theorem dL_prices_11 : decode cL_prices 11 = .ok (.ireturn, 1) := by decide +kernel
theorem dL_prices_12 : decode cL_prices 12 = .ok (.iconst 0, 1) := by decide +kernel
theorem dL_prices_13 : decode cL_prices 13 = .ok (.ireturn, 1) := by decide +kernel
theorem dL_cost_0 : decode cL_cost 0 = .ok (.aload 4, 2) := by decide +kernel
theorem dL_cost_2 : decode cL_cost 2 = .ok (.iconst 0, 1) := by decide +kernel
theorem dL_cost_3 : decode cL_cost 3 = .ok (.aload_n 0, 1) := by decide +kernel
theorem dL_cost_4 : decode cL_cost 4 = .ok (.iload_n 1, 1) := by decide +kernel
theorem dL_cost_5 : decode cL_cost 5 = .ok (.iload_n 2, 1) := by decide +kernel
theorem dL_cost_6 : decode cL_cost 6 = .ok (.iload_n 3, 1) := by decide +kernel
theorem dL_cost_7 : decode cL_cost 7 = .ok (.invokevirtual 47, 3) := by decide +kernel
theorem dL_cost_10 : decode cL_cost 10 = .ok (.lastore, 1) := by decide +kernel
theorem dL_cost_11 : decode cL_cost 11 = .ok (.goto 11, 3) := by decide +kernel
theorem dL_cost_14 : decode cL_cost 14 = .ok (.astore 5, 2) := by decide +kernel
theorem dL_cost_16 : decode cL_cost 16 = .ok (.iconst 1, 1) := by decide +kernel
theorem dL_cost_17 : decode cL_cost 17 = .ok (.ireturn, 1) := by decide +kernel
theorem dL_cost_18 : decode cL_cost 18 = .ok (.astore 5, 2) := by decide +kernel
theorem dL_cost_20 : decode cL_cost 20 = .ok (.iconst 2, 1) := by decide +kernel
theorem dL_cost_21 : decode cL_cost 21 = .ok (.ireturn, 1) := by decide +kernel
theorem dL_cost_22 : decode cL_cost 22 = .ok (.iconst 0, 1) := by decide +kernel
theorem dL_cost_23 : decode cL_cost 23 = .ok (.ireturn, 1) := by decide +kernel
theorem dL_pots_0 : decode cL_pots 0 = .ok (.aload 5, 2) := by decide +kernel
theorem dL_pots_2 : decode cL_pots 2 = .ok (.iconst 0, 1) := by decide +kernel
theorem dL_pots_3 : decode cL_pots 3 = .ok (.aload_n 0, 1) := by decide +kernel
theorem dL_pots_4 : decode cL_pots 4 = .ok (.iload_n 1, 1) := by decide +kernel
theorem dL_pots_5 : decode cL_pots 5 = .ok (.iload_n 2, 1) := by decide +kernel
theorem dL_pots_6 : decode cL_pots 6 = .ok (.iload_n 3, 1) := by decide +kernel
theorem dL_pots_7 : decode cL_pots 7 = .ok (.iload 4, 2) := by decide +kernel
theorem dL_pots_9 : decode cL_pots 9 = .ok (.invokevirtual 51, 3) := by decide +kernel
theorem dL_pots_12 : decode cL_pots 12 = .ok (.i2l, 1) := by decide +kernel
theorem dL_pots_13 : decode cL_pots 13 = .ok (.lastore, 1) := by decide +kernel
theorem dL_pots_14 : decode cL_pots 14 = .ok (.goto 11, 3) := by decide +kernel
theorem dL_pots_17 : decode cL_pots 17 = .ok (.astore 6, 2) := by decide +kernel
theorem dL_pots_19 : decode cL_pots 19 = .ok (.iconst 1, 1) := by decide +kernel
theorem dL_pots_20 : decode cL_pots 20 = .ok (.ireturn, 1) := by decide +kernel
theorem dL_pots_21 : decode cL_pots 21 = .ok (.astore 6, 2) := by decide +kernel
theorem dL_pots_23 : decode cL_pots 23 = .ok (.iconst 2, 1) := by decide +kernel
theorem dL_pots_24 : decode cL_pots 24 = .ok (.ireturn, 1) := by decide +kernel
theorem dL_pots_25 : decode cL_pots 25 = .ok (.iconst 0, 1) := by decide +kernel
theorem dL_pots_26 : decode cL_pots 26 = .ok (.ireturn, 1) := by decide +kernel
theorem dL_ladle_0 : decode cL_ladle 0 = .ok (.aload_n 2, 1) := by decide +kernel
theorem dL_ladle_1 : decode cL_ladle 1 = .ok (.iconst 0, 1) := by decide +kernel
theorem dL_ladle_2 : decode cL_ladle 2 = .ok (.aload_n 0, 1) := by decide +kernel
theorem dL_ladle_3 : decode cL_ladle 3 = .ok (.iload_n 1, 1) := by decide +kernel
theorem dL_ladle_4 : decode cL_ladle 4 = .ok (.invokevirtual 55, 3) := by decide +kernel
theorem dL_ladle_7 : decode cL_ladle 7 = .ok (.i2l, 1) := by decide +kernel
theorem dL_ladle_8 : decode cL_ladle 8 = .ok (.lastore, 1) := by decide +kernel
theorem dL_ladle_9 : decode cL_ladle 9 = .ok (.goto 6, 3) := by decide +kernel
theorem dL_ladle_12 : decode cL_ladle 12 = .ok (.astore_n 3, 1) := by decide +kernel
theorem dL_ladle_13 : decode cL_ladle 13 = .ok (.iconst 1, 1) := by decide +kernel
theorem dL_ladle_14 : decode cL_ladle 14 = .ok (.ireturn, 1) := by decide +kernel
theorem dL_ladle_15 : decode cL_ladle 15 = .ok (.iconst 0, 1) := by decide +kernel
theorem dL_ladle_16 : decode cL_ladle 16 = .ok (.ireturn, 1) := by decide +kernel
theorem dL_come_0 : decode cL_come 0 = .ok (.aload_n 2, 1) := by decide +kernel
theorem dL_come_1 : decode cL_come 1 = .ok (.iconst 0, 1) := by decide +kernel
theorem dL_come_2 : decode cL_come 2 = .ok (.aload_n 0, 1) := by decide +kernel
theorem dL_come_3 : decode cL_come 3 = .ok (.iload_n 1, 1) := by decide +kernel
theorem dL_come_4 : decode cL_come 4 = .ok (.invokevirtual 58, 3) := by decide +kernel
theorem dL_come_7 : decode cL_come 7 = .ok (.i2l, 1) := by decide +kernel
theorem dL_come_8 : decode cL_come 8 = .ok (.lastore, 1) := by decide +kernel
theorem dL_come_9 : decode cL_come 9 = .ok (.goto 6, 3) := by decide +kernel
theorem dL_come_12 : decode cL_come 12 = .ok (.astore_n 3, 1) := by decide +kernel
theorem dL_come_13 : decode cL_come 13 = .ok (.iconst 1, 1) := by decide +kernel
theorem dL_come_14 : decode cL_come 14 = .ok (.ireturn, 1) := by decide +kernel
theorem dL_come_15 : decode cL_come 15 = .ok (.iconst 0, 1) := by decide +kernel
theorem dL_come_16 : decode cL_come 16 = .ok (.ireturn, 1) := by decide +kernel
theorem dL_hatch_0 : decode cL_hatch 0 = .ok (.aload_n 3, 1) := by decide +kernel
theorem dL_hatch_1 : decode cL_hatch 1 = .ok (.iconst 0, 1) := by decide +kernel
theorem dL_hatch_2 : decode cL_hatch 2 = .ok (.aload_n 0, 1) := by decide +kernel
theorem dL_hatch_3 : decode cL_hatch 3 = .ok (.iload_n 1, 1) := by decide +kernel
theorem dL_hatch_4 : decode cL_hatch 4 = .ok (.iload_n 2, 1) := by decide +kernel
theorem dL_hatch_5 : decode cL_hatch 5 = .ok (.invokevirtual 61, 3) := by decide +kernel
theorem dL_hatch_8 : decode cL_hatch 8 = .ok (.i2l, 1) := by decide +kernel
theorem dL_hatch_9 : decode cL_hatch 9 = .ok (.lastore, 1) := by decide +kernel
theorem dL_hatch_10 : decode cL_hatch 10 = .ok (.goto 7, 3) := by decide +kernel
theorem dL_hatch_13 : decode cL_hatch 13 = .ok (.astore 4, 2) := by decide +kernel
theorem dL_hatch_15 : decode cL_hatch 15 = .ok (.iconst 1, 1) := by decide +kernel
theorem dL_hatch_16 : decode cL_hatch 16 = .ok (.ireturn, 1) := by decide +kernel
theorem dL_hatch_17 : decode cL_hatch 17 = .ok (.iconst 0, 1) := by decide +kernel
theorem dL_hatch_18 : decode cL_hatch 18 = .ok (.ireturn, 1) := by decide +kernel
theorem dL_serve_0 : decode cL_serve 0 = .ok (.aload_n 2, 1) := by decide +kernel
theorem dL_serve_1 : decode cL_serve 1 = .ok (.iconst 0, 1) := by decide +kernel
theorem dL_serve_2 : decode cL_serve 2 = .ok (.aload_n 0, 1) := by decide +kernel
theorem dL_serve_3 : decode cL_serve 3 = .ok (.iload_n 1, 1) := by decide +kernel
theorem dL_serve_4 : decode cL_serve 4 = .ok (.invokevirtual 64, 3) := by decide +kernel
theorem dL_serve_7 : decode cL_serve 7 = .ok (.i2l, 1) := by decide +kernel
theorem dL_serve_8 : decode cL_serve 8 = .ok (.lastore, 1) := by decide +kernel
theorem dL_serve_9 : decode cL_serve 9 = .ok (.goto 6, 3) := by decide +kernel
theorem dL_serve_12 : decode cL_serve 12 = .ok (.astore_n 3, 1) := by decide +kernel
theorem dL_serve_13 : decode cL_serve 13 = .ok (.iconst 1, 1) := by decide +kernel
theorem dL_serve_14 : decode cL_serve 14 = .ok (.ireturn, 1) := by decide +kernel
theorem dL_serve_15 : decode cL_serve 15 = .ok (.iconst 0, 1) := by decide +kernel
theorem dL_serve_16 : decode cL_serve 16 = .ok (.ireturn, 1) := by decide +kernel
theorem dL_law_0 : decode cL_law 0 = .ok (.new 8, 3) := by decide +kernel
theorem dL_law_3 : decode cL_law 3 = .ok (.dup, 1) := by decide +kernel
theorem dL_law_4 : decode cL_law 4 = .ok (.invokespecial 67, 3) := by decide +kernel
theorem dL_law_7 : decode cL_law 7 = .ok (.astore_n 1, 1) := by decide +kernel
theorem dL_law_8 : decode cL_law 8 = .ok (.new 68, 3) := by decide +kernel
theorem dL_law_11 : decode cL_law 11 = .ok (.dup, 1) := by decide +kernel
theorem dL_law_12 : decode cL_law 12 = .ok (.invokespecial 70, 3) := by decide +kernel
theorem dL_law_15 : decode cL_law 15 = .ok (.astore_n 2, 1) := by decide +kernel
theorem dL_law_16 : decode cL_law 16 = .ok (.iconst 1, 1) := by decide +kernel
theorem dL_law_17 : decode cL_law 17 = .ok (.newarray .long, 2) := by decide +kernel
theorem dL_law_19 : decode cL_law 19 = .ok (.astore_n 3, 1) := by decide +kernel
theorem dL_law_20 : decode cL_law 20 = .ok (.iconst 0, 1) := by decide +kernel
theorem dL_law_21 : decode cL_law 21 = .ok (.istore 4, 2) := by decide +kernel
theorem dL_law_23 : decode cL_law 23 = .ok (.iload 4, 2) := by decide +kernel
theorem dL_law_25 : decode cL_law 25 = .ok (.aload_n 0, 1) := by decide +kernel
theorem dL_law_26 : decode cL_law 26 = .ok (.arraylength, 1) := by decide +kernel
theorem dL_law_27 : decode cL_law 27 = .ok (.iconst 5, 1) := by decide +kernel
theorem dL_law_28 : decode cL_law 28 = .ok (.isub, 1) := by decide +kernel
theorem dL_law_29 : decode cL_law 29 = .ok (.if_icmp .gt 1146, 3) := by decide +kernel
theorem dL_law_32 : decode cL_law 32 = .ok (.aload_n 0, 1) := by decide +kernel
theorem dL_law_33 : decode cL_law 33 = .ok (.iload 4, 2) := by decide +kernel
theorem dL_law_35 : decode cL_law 35 = .ok (.iaload, 1) := by decide +kernel
theorem dL_law_36 : decode cL_law 36 = .ok (.bipush 31, 2) := by decide +kernel
theorem dL_law_38 : decode cL_law 38 = .ok (.iand, 1) := by decide +kernel
theorem dL_law_39 : decode cL_law 39 = .ok (.tableswitch 1130 0 17 #[85, 153, 221, 277, 340, 396, 476, 556, 624, 672, 751, 843, 856, 912, 968, 1036, 1092, 1105], 85) := by decide +kernel
theorem dL_law_124 : decode cL_law 124 = .ok (.aload_n 1, 1) := by decide +kernel
theorem dL_law_125 : decode cL_law 125 = .ok (.aload_n 0, 1) := by decide +kernel
theorem dL_law_126 : decode cL_law 126 = .ok (.iload 4, 2) := by decide +kernel
theorem dL_law_128 : decode cL_law 128 = .ok (.iconst 1, 1) := by decide +kernel
theorem dL_law_129 : decode cL_law 129 = .ok (.iadd, 1) := by decide +kernel
theorem dL_law_130 : decode cL_law 130 = .ok (.iaload, 1) := by decide +kernel
theorem dL_law_131 : decode cL_law 131 = .ok (.aload_n 0, 1) := by decide +kernel
theorem dL_law_132 : decode cL_law 132 = .ok (.iload 4, 2) := by decide +kernel
theorem dL_law_134 : decode cL_law 134 = .ok (.iconst 2, 1) := by decide +kernel
theorem dL_law_135 : decode cL_law 135 = .ok (.iadd, 1) := by decide +kernel
theorem dL_law_136 : decode cL_law 136 = .ok (.iaload, 1) := by decide +kernel
theorem dL_law_137 : decode cL_law 137 = .ok (.aload_n 3, 1) := by decide +kernel
theorem dL_law_138 : decode cL_law 138 = .ok (.invokestatic 71, 3) := by decide +kernel
theorem dL_law_141 : decode cL_law 141 = .ok (.istore 5, 2) := by decide +kernel
theorem dL_law_143 : decode cL_law 143 = .ok (.aload_n 2, 1) := by decide +kernel
theorem dL_law_144 : decode cL_law 144 = .ok (.aload_n 0, 1) := by decide +kernel
theorem dL_law_145 : decode cL_law 145 = .ok (.iload 4, 2) := by decide +kernel
theorem dL_law_147 : decode cL_law 147 = .ok (.iconst 1, 1) := by decide +kernel
theorem dL_law_148 : decode cL_law 148 = .ok (.iadd, 1) := by decide +kernel
theorem dL_law_149 : decode cL_law 149 = .ok (.iaload, 1) := by decide +kernel
theorem dL_law_150 : decode cL_law 150 = .ok (.aload_n 0, 1) := by decide +kernel
theorem dL_law_151 : decode cL_law 151 = .ok (.iload 4, 2) := by decide +kernel
theorem dL_law_153 : decode cL_law 153 = .ok (.iconst 2, 1) := by decide +kernel
theorem dL_law_154 : decode cL_law 154 = .ok (.iadd, 1) := by decide +kernel
theorem dL_law_155 : decode cL_law 155 = .ok (.iaload, 1) := by decide +kernel
theorem dL_law_156 : decode cL_law 156 = .ok (.invokevirtual 76, 3) := by decide +kernel
theorem dL_law_159 : decode cL_law 159 = .ok (.istore 6, 2) := by decide +kernel
theorem dL_law_161 : decode cL_law 161 = .ok (.aload_n 2, 1) := by decide +kernel
theorem dL_law_162 : decode cL_law 162 = .ok (.invokevirtual 77, 3) := by decide +kernel
theorem dL_law_165 : decode cL_law 165 = .ok (.iload 5, 2) := by decide +kernel
theorem dL_law_167 : decode cL_law 167 = .ok (.if_icmp .eq 5, 3) := by decide +kernel
theorem dL_law_170 : decode cL_law 170 = .ok (.iconst 0, 1) := by decide +kernel
theorem dL_law_171 : decode cL_law 171 = .ok (.ireturn, 1) := by decide +kernel
theorem dL_law_172 : decode cL_law 172 = .ok (.iload 5, 2) := by decide +kernel
theorem dL_law_174 : decode cL_law 174 = .ok (.ifCond .ne 15, 3) := by decide +kernel
theorem dL_law_177 : decode cL_law 177 = .ok (.aload_n 3, 1) := by decide +kernel
theorem dL_law_178 : decode cL_law 178 = .ok (.iconst 0, 1) := by decide +kernel
theorem dL_law_179 : decode cL_law 179 = .ok (.laload, 1) := by decide +kernel
theorem dL_law_180 : decode cL_law 180 = .ok (.iload 6, 2) := by decide +kernel
theorem dL_law_182 : decode cL_law 182 = .ok (.i2l, 1) := by decide +kernel
theorem dL_law_183 : decode cL_law 183 = .ok (.lcmp, 1) := by decide +kernel
theorem dL_law_184 : decode cL_law 184 = .ok (.ifCond .eq 5, 3) := by decide +kernel
theorem dL_law_187 : decode cL_law 187 = .ok (.iconst 0, 1) := by decide +kernel
theorem dL_law_188 : decode cL_law 188 = .ok (.ireturn, 1) := by decide +kernel
theorem dL_law_189 : decode cL_law 189 = .ok (.goto 980, 3) := by decide +kernel
theorem dL_law_192 : decode cL_law 192 = .ok (.aload_n 1, 1) := by decide +kernel
theorem dL_law_193 : decode cL_law 193 = .ok (.aload_n 0, 1) := by decide +kernel
theorem dL_law_194 : decode cL_law 194 = .ok (.iload 4, 2) := by decide +kernel
theorem dL_law_196 : decode cL_law 196 = .ok (.iconst 1, 1) := by decide +kernel
theorem dL_law_197 : decode cL_law 197 = .ok (.iadd, 1) := by decide +kernel
theorem dL_law_198 : decode cL_law 198 = .ok (.iaload, 1) := by decide +kernel
theorem dL_law_199 : decode cL_law 199 = .ok (.aload_n 0, 1) := by decide +kernel
theorem dL_law_200 : decode cL_law 200 = .ok (.iload 4, 2) := by decide +kernel
theorem dL_law_202 : decode cL_law 202 = .ok (.iconst 2, 1) := by decide +kernel
theorem dL_law_203 : decode cL_law 203 = .ok (.iadd, 1) := by decide +kernel
theorem dL_law_204 : decode cL_law 204 = .ok (.iaload, 1) := by decide +kernel
theorem dL_law_205 : decode cL_law 205 = .ok (.aload_n 3, 1) := by decide +kernel
theorem dL_law_206 : decode cL_law 206 = .ok (.invokestatic 81, 3) := by decide +kernel
theorem dL_law_209 : decode cL_law 209 = .ok (.istore 5, 2) := by decide +kernel
theorem dL_law_211 : decode cL_law 211 = .ok (.aload_n 2, 1) := by decide +kernel
theorem dL_law_212 : decode cL_law 212 = .ok (.aload_n 0, 1) := by decide +kernel
theorem dL_law_213 : decode cL_law 213 = .ok (.iload 4, 2) := by decide +kernel
theorem dL_law_215 : decode cL_law 215 = .ok (.iconst 1, 1) := by decide +kernel
theorem dL_law_216 : decode cL_law 216 = .ok (.iadd, 1) := by decide +kernel
theorem dL_law_217 : decode cL_law 217 = .ok (.iaload, 1) := by decide +kernel
theorem dL_law_218 : decode cL_law 218 = .ok (.aload_n 0, 1) := by decide +kernel
theorem dL_law_219 : decode cL_law 219 = .ok (.iload 4, 2) := by decide +kernel
theorem dL_law_221 : decode cL_law 221 = .ok (.iconst 2, 1) := by decide +kernel
theorem dL_law_222 : decode cL_law 222 = .ok (.iadd, 1) := by decide +kernel
theorem dL_law_223 : decode cL_law 223 = .ok (.iaload, 1) := by decide +kernel
theorem dL_law_224 : decode cL_law 224 = .ok (.invokevirtual 83, 3) := by decide +kernel
theorem dL_law_227 : decode cL_law 227 = .ok (.istore 6, 2) := by decide +kernel
theorem dL_law_229 : decode cL_law 229 = .ok (.aload_n 2, 1) := by decide +kernel
theorem dL_law_230 : decode cL_law 230 = .ok (.invokevirtual 77, 3) := by decide +kernel
theorem dL_law_233 : decode cL_law 233 = .ok (.iload 5, 2) := by decide +kernel
theorem dL_law_235 : decode cL_law 235 = .ok (.if_icmp .eq 5, 3) := by decide +kernel
theorem dL_law_238 : decode cL_law 238 = .ok (.iconst 0, 1) := by decide +kernel
theorem dL_law_239 : decode cL_law 239 = .ok (.ireturn, 1) := by decide +kernel
theorem dL_law_240 : decode cL_law 240 = .ok (.iload 5, 2) := by decide +kernel
theorem dL_law_242 : decode cL_law 242 = .ok (.ifCond .ne 15, 3) := by decide +kernel
theorem dL_law_245 : decode cL_law 245 = .ok (.aload_n 3, 1) := by decide +kernel
theorem dL_law_246 : decode cL_law 246 = .ok (.iconst 0, 1) := by decide +kernel
theorem dL_law_247 : decode cL_law 247 = .ok (.laload, 1) := by decide +kernel
theorem dL_law_248 : decode cL_law 248 = .ok (.iload 6, 2) := by decide +kernel
theorem dL_law_250 : decode cL_law 250 = .ok (.i2l, 1) := by decide +kernel
theorem dL_law_251 : decode cL_law 251 = .ok (.lcmp, 1) := by decide +kernel
theorem dL_law_252 : decode cL_law 252 = .ok (.ifCond .eq 5, 3) := by decide +kernel
theorem dL_law_255 : decode cL_law 255 = .ok (.iconst 0, 1) := by decide +kernel
theorem dL_law_256 : decode cL_law 256 = .ok (.ireturn, 1) := by decide +kernel
theorem dL_law_257 : decode cL_law 257 = .ok (.goto 912, 3) := by decide +kernel
theorem dL_law_260 : decode cL_law 260 = .ok (.aload_n 1, 1) := by decide +kernel
theorem dL_law_261 : decode cL_law 261 = .ok (.aload_n 0, 1) := by decide +kernel
theorem dL_law_262 : decode cL_law 262 = .ok (.iload 4, 2) := by decide +kernel
theorem dL_law_264 : decode cL_law 264 = .ok (.iconst 1, 1) := by decide +kernel
theorem dL_law_265 : decode cL_law 265 = .ok (.iadd, 1) := by decide +kernel
theorem dL_law_266 : decode cL_law 266 = .ok (.iaload, 1) := by decide +kernel
theorem dL_law_267 : decode cL_law 267 = .ok (.aload_n 3, 1) := by decide +kernel
theorem dL_law_268 : decode cL_law 268 = .ok (.invokestatic 84, 3) := by decide +kernel
theorem dL_law_271 : decode cL_law 271 = .ok (.istore 5, 2) := by decide +kernel
theorem dL_law_273 : decode cL_law 273 = .ok (.aload_n 2, 1) := by decide +kernel
theorem dL_law_274 : decode cL_law 274 = .ok (.aload_n 0, 1) := by decide +kernel
theorem dL_law_275 : decode cL_law 275 = .ok (.iload 4, 2) := by decide +kernel
theorem dL_law_277 : decode cL_law 277 = .ok (.iconst 1, 1) := by decide +kernel
theorem dL_law_278 : decode cL_law 278 = .ok (.iadd, 1) := by decide +kernel
theorem dL_law_279 : decode cL_law 279 = .ok (.iaload, 1) := by decide +kernel
theorem dL_law_280 : decode cL_law 280 = .ok (.invokevirtual 87, 3) := by decide +kernel
theorem dL_law_283 : decode cL_law 283 = .ok (.istore 6, 2) := by decide +kernel
theorem dL_law_285 : decode cL_law 285 = .ok (.aload_n 2, 1) := by decide +kernel
theorem dL_law_286 : decode cL_law 286 = .ok (.invokevirtual 77, 3) := by decide +kernel
theorem dL_law_289 : decode cL_law 289 = .ok (.iload 5, 2) := by decide +kernel
theorem dL_law_291 : decode cL_law 291 = .ok (.if_icmp .eq 5, 3) := by decide +kernel
theorem dL_law_294 : decode cL_law 294 = .ok (.iconst 0, 1) := by decide +kernel
theorem dL_law_295 : decode cL_law 295 = .ok (.ireturn, 1) := by decide +kernel
theorem dL_law_296 : decode cL_law 296 = .ok (.iload 5, 2) := by decide +kernel
theorem dL_law_298 : decode cL_law 298 = .ok (.ifCond .ne 15, 3) := by decide +kernel
theorem dL_law_301 : decode cL_law 301 = .ok (.aload_n 3, 1) := by decide +kernel
theorem dL_law_302 : decode cL_law 302 = .ok (.iconst 0, 1) := by decide +kernel
theorem dL_law_303 : decode cL_law 303 = .ok (.laload, 1) := by decide +kernel
theorem dL_law_304 : decode cL_law 304 = .ok (.iload 6, 2) := by decide +kernel
theorem dL_law_306 : decode cL_law 306 = .ok (.i2l, 1) := by decide +kernel
theorem dL_law_307 : decode cL_law 307 = .ok (.lcmp, 1) := by decide +kernel
theorem dL_law_308 : decode cL_law 308 = .ok (.ifCond .eq 5, 3) := by decide +kernel
theorem dL_law_311 : decode cL_law 311 = .ok (.iconst 0, 1) := by decide +kernel
theorem dL_law_312 : decode cL_law 312 = .ok (.ireturn, 1) := by decide +kernel
theorem dL_law_313 : decode cL_law 313 = .ok (.goto 856, 3) := by decide +kernel
theorem dL_law_316 : decode cL_law 316 = .ok (.aload_n 1, 1) := by decide +kernel
theorem dL_law_317 : decode cL_law 317 = .ok (.aload_n 0, 1) := by decide +kernel
theorem dL_law_318 : decode cL_law 318 = .ok (.iload 4, 2) := by decide +kernel
theorem dL_law_320 : decode cL_law 320 = .ok (.iconst 1, 1) := by decide +kernel
theorem dL_law_321 : decode cL_law 321 = .ok (.iadd, 1) := by decide +kernel
theorem dL_law_322 : decode cL_law 322 = .ok (.iaload, 1) := by decide +kernel
theorem dL_law_323 : decode cL_law 323 = .ok (.aload_n 3, 1) := by decide +kernel
theorem dL_law_324 : decode cL_law 324 = .ok (.invokestatic 88, 3) := by decide +kernel
theorem dL_law_327 : decode cL_law 327 = .ok (.istore 5, 2) := by decide +kernel
theorem dL_law_329 : decode cL_law 329 = .ok (.aload_n 2, 1) := by decide +kernel
theorem dL_law_330 : decode cL_law 330 = .ok (.aload_n 0, 1) := by decide +kernel
theorem dL_law_331 : decode cL_law 331 = .ok (.iload 4, 2) := by decide +kernel
theorem dL_law_333 : decode cL_law 333 = .ok (.iconst 1, 1) := by decide +kernel
theorem dL_law_334 : decode cL_law 334 = .ok (.iadd, 1) := by decide +kernel
theorem dL_law_335 : decode cL_law 335 = .ok (.iaload, 1) := by decide +kernel
theorem dL_law_336 : decode cL_law 336 = .ok (.invokevirtual 90, 3) := by decide +kernel
theorem dL_law_339 : decode cL_law 339 = .ok (.istore 6, 2) := by decide +kernel
theorem dL_law_341 : decode cL_law 341 = .ok (.aload_n 2, 1) := by decide +kernel
theorem dL_law_342 : decode cL_law 342 = .ok (.invokevirtual 77, 3) := by decide +kernel
theorem dL_law_345 : decode cL_law 345 = .ok (.iload 5, 2) := by decide +kernel
theorem dL_law_347 : decode cL_law 347 = .ok (.if_icmp .eq 5, 3) := by decide +kernel
theorem dL_law_350 : decode cL_law 350 = .ok (.iconst 0, 1) := by decide +kernel
theorem dL_law_351 : decode cL_law 351 = .ok (.ireturn, 1) := by decide +kernel
theorem dL_law_352 : decode cL_law 352 = .ok (.iload 5, 2) := by decide +kernel
theorem dL_law_354 : decode cL_law 354 = .ok (.ifCond .ne 22, 3) := by decide +kernel
theorem dL_law_357 : decode cL_law 357 = .ok (.aload_n 3, 1) := by decide +kernel
theorem dL_law_358 : decode cL_law 358 = .ok (.iconst 0, 1) := by decide +kernel
theorem dL_law_359 : decode cL_law 359 = .ok (.laload, 1) := by decide +kernel
theorem dL_law_360 : decode cL_law 360 = .ok (.iload 6, 2) := by decide +kernel
theorem dL_law_362 : decode cL_law 362 = .ok (.ifCond .eq 7, 3) := by decide +kernel
theorem dL_law_365 : decode cL_law 365 = .ok (.lconst 1, 1) := by decide +kernel
theorem dL_law_366 : decode cL_law 366 = .ok (.goto 4, 3) := by decide +kernel
theorem dL_law_369 : decode cL_law 369 = .ok (.lconst 0, 1) := by decide +kernel
theorem dL_law_370 : decode cL_law 370 = .ok (.lcmp, 1) := by decide +kernel
theorem dL_law_371 : decode cL_law 371 = .ok (.ifCond .eq 5, 3) := by decide +kernel
theorem dL_law_374 : decode cL_law 374 = .ok (.iconst 0, 1) := by decide +kernel
theorem dL_law_375 : decode cL_law 375 = .ok (.ireturn, 1) := by decide +kernel
theorem dL_law_376 : decode cL_law 376 = .ok (.goto 793, 3) := by decide +kernel
theorem dL_law_379 : decode cL_law 379 = .ok (.aload_n 1, 1) := by decide +kernel
theorem dL_law_380 : decode cL_law 380 = .ok (.aload_n 0, 1) := by decide +kernel
theorem dL_law_381 : decode cL_law 381 = .ok (.iload 4, 2) := by decide +kernel
theorem dL_law_383 : decode cL_law 383 = .ok (.iconst 1, 1) := by decide +kernel
theorem dL_law_384 : decode cL_law 384 = .ok (.iadd, 1) := by decide +kernel
theorem dL_law_385 : decode cL_law 385 = .ok (.iaload, 1) := by decide +kernel
theorem dL_law_386 : decode cL_law 386 = .ok (.aload_n 3, 1) := by decide +kernel
theorem dL_law_387 : decode cL_law 387 = .ok (.invokestatic 91, 3) := by decide +kernel
theorem dL_law_390 : decode cL_law 390 = .ok (.istore 5, 2) := by decide +kernel
theorem dL_law_392 : decode cL_law 392 = .ok (.aload_n 2, 1) := by decide +kernel
theorem dL_law_393 : decode cL_law 393 = .ok (.aload_n 0, 1) := by decide +kernel
theorem dL_law_394 : decode cL_law 394 = .ok (.iload 4, 2) := by decide +kernel
theorem dL_law_396 : decode cL_law 396 = .ok (.iconst 1, 1) := by decide +kernel
theorem dL_law_397 : decode cL_law 397 = .ok (.iadd, 1) := by decide +kernel
theorem dL_law_398 : decode cL_law 398 = .ok (.iaload, 1) := by decide +kernel
theorem dL_law_399 : decode cL_law 399 = .ok (.invokevirtual 93, 3) := by decide +kernel
theorem dL_law_402 : decode cL_law 402 = .ok (.istore 6, 2) := by decide +kernel
theorem dL_law_404 : decode cL_law 404 = .ok (.aload_n 2, 1) := by decide +kernel
theorem dL_law_405 : decode cL_law 405 = .ok (.invokevirtual 77, 3) := by decide +kernel
theorem dL_law_408 : decode cL_law 408 = .ok (.iload 5, 2) := by decide +kernel
theorem dL_law_410 : decode cL_law 410 = .ok (.if_icmp .eq 5, 3) := by decide +kernel
theorem dL_law_413 : decode cL_law 413 = .ok (.iconst 0, 1) := by decide +kernel
theorem dL_law_414 : decode cL_law 414 = .ok (.ireturn, 1) := by decide +kernel
theorem dL_law_415 : decode cL_law 415 = .ok (.iload 5, 2) := by decide +kernel
theorem dL_law_417 : decode cL_law 417 = .ok (.ifCond .ne 15, 3) := by decide +kernel
theorem dL_law_420 : decode cL_law 420 = .ok (.aload_n 3, 1) := by decide +kernel
theorem dL_law_421 : decode cL_law 421 = .ok (.iconst 0, 1) := by decide +kernel
theorem dL_law_422 : decode cL_law 422 = .ok (.laload, 1) := by decide +kernel
theorem dL_law_423 : decode cL_law 423 = .ok (.iload 6, 2) := by decide +kernel
theorem dL_law_425 : decode cL_law 425 = .ok (.i2l, 1) := by decide +kernel
theorem dL_law_426 : decode cL_law 426 = .ok (.lcmp, 1) := by decide +kernel
theorem dL_law_427 : decode cL_law 427 = .ok (.ifCond .eq 5, 3) := by decide +kernel
theorem dL_law_430 : decode cL_law 430 = .ok (.iconst 0, 1) := by decide +kernel
theorem dL_law_431 : decode cL_law 431 = .ok (.ireturn, 1) := by decide +kernel
theorem dL_law_432 : decode cL_law 432 = .ok (.goto 737, 3) := by decide +kernel
theorem dL_law_435 : decode cL_law 435 = .ok (.aload_n 1, 1) := by decide +kernel
theorem dL_law_436 : decode cL_law 436 = .ok (.aload_n 0, 1) := by decide +kernel
theorem dL_law_437 : decode cL_law 437 = .ok (.iload 4, 2) := by decide +kernel
theorem dL_law_439 : decode cL_law 439 = .ok (.iconst 1, 1) := by decide +kernel
theorem dL_law_440 : decode cL_law 440 = .ok (.iadd, 1) := by decide +kernel
theorem dL_law_441 : decode cL_law 441 = .ok (.iaload, 1) := by decide +kernel
theorem dL_law_442 : decode cL_law 442 = .ok (.aload_n 0, 1) := by decide +kernel
theorem dL_law_443 : decode cL_law 443 = .ok (.iload 4, 2) := by decide +kernel
theorem dL_law_445 : decode cL_law 445 = .ok (.iconst 2, 1) := by decide +kernel
theorem dL_law_446 : decode cL_law 446 = .ok (.iadd, 1) := by decide +kernel
theorem dL_law_447 : decode cL_law 447 = .ok (.iaload, 1) := by decide +kernel
theorem dL_law_448 : decode cL_law 448 = .ok (.aload_n 0, 1) := by decide +kernel
theorem dL_law_449 : decode cL_law 449 = .ok (.iload 4, 2) := by decide +kernel
theorem dL_law_451 : decode cL_law 451 = .ok (.iconst 3, 1) := by decide +kernel
theorem dL_law_452 : decode cL_law 452 = .ok (.iadd, 1) := by decide +kernel
theorem dL_law_453 : decode cL_law 453 = .ok (.iaload, 1) := by decide +kernel
theorem dL_law_454 : decode cL_law 454 = .ok (.aload_n 3, 1) := by decide +kernel
theorem dL_law_455 : decode cL_law 455 = .ok (.invokestatic 94, 3) := by decide +kernel
theorem dL_law_458 : decode cL_law 458 = .ok (.istore 5, 2) := by decide +kernel
theorem dL_law_460 : decode cL_law 460 = .ok (.aload_n 2, 1) := by decide +kernel
theorem dL_law_461 : decode cL_law 461 = .ok (.aload_n 0, 1) := by decide +kernel
theorem dL_law_462 : decode cL_law 462 = .ok (.iload 4, 2) := by decide +kernel
theorem dL_law_464 : decode cL_law 464 = .ok (.iconst 1, 1) := by decide +kernel
theorem dL_law_465 : decode cL_law 465 = .ok (.iadd, 1) := by decide +kernel
theorem dL_law_466 : decode cL_law 466 = .ok (.iaload, 1) := by decide +kernel
theorem dL_law_467 : decode cL_law 467 = .ok (.aload_n 0, 1) := by decide +kernel
theorem dL_law_468 : decode cL_law 468 = .ok (.iload 4, 2) := by decide +kernel
theorem dL_law_470 : decode cL_law 470 = .ok (.iconst 2, 1) := by decide +kernel
theorem dL_law_471 : decode cL_law 471 = .ok (.iadd, 1) := by decide +kernel
theorem dL_law_472 : decode cL_law 472 = .ok (.iaload, 1) := by decide +kernel
theorem dL_law_473 : decode cL_law 473 = .ok (.aload_n 0, 1) := by decide +kernel
theorem dL_law_474 : decode cL_law 474 = .ok (.iload 4, 2) := by decide +kernel
theorem dL_law_476 : decode cL_law 476 = .ok (.iconst 3, 1) := by decide +kernel
theorem dL_law_477 : decode cL_law 477 = .ok (.iadd, 1) := by decide +kernel
theorem dL_law_478 : decode cL_law 478 = .ok (.iaload, 1) := by decide +kernel
theorem dL_law_479 : decode cL_law 479 = .ok (.invokevirtual 97, 3) := by decide +kernel
theorem dL_law_482 : decode cL_law 482 = .ok (.istore 6, 2) := by decide +kernel
theorem dL_law_484 : decode cL_law 484 = .ok (.aload_n 2, 1) := by decide +kernel
theorem dL_law_485 : decode cL_law 485 = .ok (.invokevirtual 77, 3) := by decide +kernel
theorem dL_law_488 : decode cL_law 488 = .ok (.iload 5, 2) := by decide +kernel
theorem dL_law_490 : decode cL_law 490 = .ok (.if_icmp .eq 5, 3) := by decide +kernel
theorem dL_law_493 : decode cL_law 493 = .ok (.iconst 0, 1) := by decide +kernel
theorem dL_law_494 : decode cL_law 494 = .ok (.ireturn, 1) := by decide +kernel
theorem dL_law_495 : decode cL_law 495 = .ok (.iload 5, 2) := by decide +kernel
theorem dL_law_497 : decode cL_law 497 = .ok (.ifCond .ne 15, 3) := by decide +kernel
theorem dL_law_500 : decode cL_law 500 = .ok (.aload_n 3, 1) := by decide +kernel
theorem dL_law_501 : decode cL_law 501 = .ok (.iconst 0, 1) := by decide +kernel
theorem dL_law_502 : decode cL_law 502 = .ok (.laload, 1) := by decide +kernel
theorem dL_law_503 : decode cL_law 503 = .ok (.iload 6, 2) := by decide +kernel
theorem dL_law_505 : decode cL_law 505 = .ok (.i2l, 1) := by decide +kernel
theorem dL_law_506 : decode cL_law 506 = .ok (.lcmp, 1) := by decide +kernel
theorem dL_law_507 : decode cL_law 507 = .ok (.ifCond .eq 5, 3) := by decide +kernel
theorem dL_law_510 : decode cL_law 510 = .ok (.iconst 0, 1) := by decide +kernel
theorem dL_law_511 : decode cL_law 511 = .ok (.ireturn, 1) := by decide +kernel
theorem dL_law_512 : decode cL_law 512 = .ok (.goto 657, 3) := by decide +kernel
theorem dL_law_515 : decode cL_law 515 = .ok (.aload_n 1, 1) := by decide +kernel
theorem dL_law_516 : decode cL_law 516 = .ok (.aload_n 0, 1) := by decide +kernel
theorem dL_law_517 : decode cL_law 517 = .ok (.iload 4, 2) := by decide +kernel
theorem dL_law_519 : decode cL_law 519 = .ok (.iconst 1, 1) := by decide +kernel
theorem dL_law_520 : decode cL_law 520 = .ok (.iadd, 1) := by decide +kernel
theorem dL_law_521 : decode cL_law 521 = .ok (.iaload, 1) := by decide +kernel
theorem dL_law_522 : decode cL_law 522 = .ok (.aload_n 0, 1) := by decide +kernel
theorem dL_law_523 : decode cL_law 523 = .ok (.iload 4, 2) := by decide +kernel
theorem dL_law_525 : decode cL_law 525 = .ok (.iconst 2, 1) := by decide +kernel
theorem dL_law_526 : decode cL_law 526 = .ok (.iadd, 1) := by decide +kernel
theorem dL_law_527 : decode cL_law 527 = .ok (.iaload, 1) := by decide +kernel
theorem dL_law_528 : decode cL_law 528 = .ok (.aload_n 0, 1) := by decide +kernel
theorem dL_law_529 : decode cL_law 529 = .ok (.iload 4, 2) := by decide +kernel
theorem dL_law_531 : decode cL_law 531 = .ok (.iconst 3, 1) := by decide +kernel
theorem dL_law_532 : decode cL_law 532 = .ok (.iadd, 1) := by decide +kernel
theorem dL_law_533 : decode cL_law 533 = .ok (.iaload, 1) := by decide +kernel
theorem dL_law_534 : decode cL_law 534 = .ok (.aload_n 3, 1) := by decide +kernel
theorem dL_law_535 : decode cL_law 535 = .ok (.invokestatic 98, 3) := by decide +kernel
theorem dL_law_538 : decode cL_law 538 = .ok (.istore 5, 2) := by decide +kernel
theorem dL_law_540 : decode cL_law 540 = .ok (.aload_n 2, 1) := by decide +kernel
theorem dL_law_541 : decode cL_law 541 = .ok (.aload_n 0, 1) := by decide +kernel
theorem dL_law_542 : decode cL_law 542 = .ok (.iload 4, 2) := by decide +kernel
theorem dL_law_544 : decode cL_law 544 = .ok (.iconst 1, 1) := by decide +kernel
theorem dL_law_545 : decode cL_law 545 = .ok (.iadd, 1) := by decide +kernel
theorem dL_law_546 : decode cL_law 546 = .ok (.iaload, 1) := by decide +kernel
theorem dL_law_547 : decode cL_law 547 = .ok (.aload_n 0, 1) := by decide +kernel
theorem dL_law_548 : decode cL_law 548 = .ok (.iload 4, 2) := by decide +kernel
theorem dL_law_550 : decode cL_law 550 = .ok (.iconst 2, 1) := by decide +kernel
theorem dL_law_551 : decode cL_law 551 = .ok (.iadd, 1) := by decide +kernel
theorem dL_law_552 : decode cL_law 552 = .ok (.iaload, 1) := by decide +kernel
theorem dL_law_553 : decode cL_law 553 = .ok (.aload_n 0, 1) := by decide +kernel
theorem dL_law_554 : decode cL_law 554 = .ok (.iload 4, 2) := by decide +kernel
theorem dL_law_556 : decode cL_law 556 = .ok (.iconst 3, 1) := by decide +kernel
theorem dL_law_557 : decode cL_law 557 = .ok (.iadd, 1) := by decide +kernel
theorem dL_law_558 : decode cL_law 558 = .ok (.iaload, 1) := by decide +kernel
theorem dL_law_559 : decode cL_law 559 = .ok (.invokevirtual 100, 3) := by decide +kernel
theorem dL_law_562 : decode cL_law 562 = .ok (.istore 6, 2) := by decide +kernel
theorem dL_law_564 : decode cL_law 564 = .ok (.aload_n 2, 1) := by decide +kernel
theorem dL_law_565 : decode cL_law 565 = .ok (.invokevirtual 77, 3) := by decide +kernel
theorem dL_law_568 : decode cL_law 568 = .ok (.iload 5, 2) := by decide +kernel
theorem dL_law_570 : decode cL_law 570 = .ok (.if_icmp .eq 5, 3) := by decide +kernel
theorem dL_law_573 : decode cL_law 573 = .ok (.iconst 0, 1) := by decide +kernel
theorem dL_law_574 : decode cL_law 574 = .ok (.ireturn, 1) := by decide +kernel
theorem dL_law_575 : decode cL_law 575 = .ok (.iload 5, 2) := by decide +kernel
theorem dL_law_577 : decode cL_law 577 = .ok (.ifCond .ne 15, 3) := by decide +kernel
theorem dL_law_580 : decode cL_law 580 = .ok (.aload_n 3, 1) := by decide +kernel
theorem dL_law_581 : decode cL_law 581 = .ok (.iconst 0, 1) := by decide +kernel
theorem dL_law_582 : decode cL_law 582 = .ok (.laload, 1) := by decide +kernel
theorem dL_law_583 : decode cL_law 583 = .ok (.iload 6, 2) := by decide +kernel
theorem dL_law_585 : decode cL_law 585 = .ok (.i2l, 1) := by decide +kernel
theorem dL_law_586 : decode cL_law 586 = .ok (.lcmp, 1) := by decide +kernel
theorem dL_law_587 : decode cL_law 587 = .ok (.ifCond .eq 5, 3) := by decide +kernel
theorem dL_law_590 : decode cL_law 590 = .ok (.iconst 0, 1) := by decide +kernel
theorem dL_law_591 : decode cL_law 591 = .ok (.ireturn, 1) := by decide +kernel
theorem dL_law_592 : decode cL_law 592 = .ok (.goto 577, 3) := by decide +kernel
theorem dL_law_595 : decode cL_law 595 = .ok (.aload_n 1, 1) := by decide +kernel
theorem dL_law_596 : decode cL_law 596 = .ok (.aload_n 0, 1) := by decide +kernel
theorem dL_law_597 : decode cL_law 597 = .ok (.iload 4, 2) := by decide +kernel
theorem dL_law_599 : decode cL_law 599 = .ok (.iconst 1, 1) := by decide +kernel
theorem dL_law_600 : decode cL_law 600 = .ok (.iadd, 1) := by decide +kernel
theorem dL_law_601 : decode cL_law 601 = .ok (.iaload, 1) := by decide +kernel
theorem dL_law_602 : decode cL_law 602 = .ok (.aload_n 0, 1) := by decide +kernel
theorem dL_law_603 : decode cL_law 603 = .ok (.iload 4, 2) := by decide +kernel
theorem dL_law_605 : decode cL_law 605 = .ok (.iconst 2, 1) := by decide +kernel
theorem dL_law_606 : decode cL_law 606 = .ok (.iadd, 1) := by decide +kernel
theorem dL_law_607 : decode cL_law 607 = .ok (.iaload, 1) := by decide +kernel
theorem dL_law_608 : decode cL_law 608 = .ok (.aload_n 3, 1) := by decide +kernel
theorem dL_law_609 : decode cL_law 609 = .ok (.invokestatic 101, 3) := by decide +kernel
theorem dL_law_612 : decode cL_law 612 = .ok (.istore 5, 2) := by decide +kernel
theorem dL_law_614 : decode cL_law 614 = .ok (.aload_n 2, 1) := by decide +kernel
theorem dL_law_615 : decode cL_law 615 = .ok (.aload_n 0, 1) := by decide +kernel
theorem dL_law_616 : decode cL_law 616 = .ok (.iload 4, 2) := by decide +kernel
theorem dL_law_618 : decode cL_law 618 = .ok (.iconst 1, 1) := by decide +kernel
theorem dL_law_619 : decode cL_law 619 = .ok (.iadd, 1) := by decide +kernel
theorem dL_law_620 : decode cL_law 620 = .ok (.iaload, 1) := by decide +kernel
theorem dL_law_621 : decode cL_law 621 = .ok (.aload_n 0, 1) := by decide +kernel
theorem dL_law_622 : decode cL_law 622 = .ok (.iload 4, 2) := by decide +kernel
theorem dL_law_624 : decode cL_law 624 = .ok (.iconst 2, 1) := by decide +kernel
theorem dL_law_625 : decode cL_law 625 = .ok (.iadd, 1) := by decide +kernel
theorem dL_law_626 : decode cL_law 626 = .ok (.iaload, 1) := by decide +kernel
theorem dL_law_627 : decode cL_law 627 = .ok (.invokevirtual 103, 3) := by decide +kernel
theorem dL_law_630 : decode cL_law 630 = .ok (.istore 6, 2) := by decide +kernel
theorem dL_law_632 : decode cL_law 632 = .ok (.aload_n 2, 1) := by decide +kernel
theorem dL_law_633 : decode cL_law 633 = .ok (.invokevirtual 77, 3) := by decide +kernel
theorem dL_law_636 : decode cL_law 636 = .ok (.iload 5, 2) := by decide +kernel
theorem dL_law_638 : decode cL_law 638 = .ok (.if_icmp .eq 5, 3) := by decide +kernel
theorem dL_law_641 : decode cL_law 641 = .ok (.iconst 0, 1) := by decide +kernel
theorem dL_law_642 : decode cL_law 642 = .ok (.ireturn, 1) := by decide +kernel
theorem dL_law_643 : decode cL_law 643 = .ok (.iload 5, 2) := by decide +kernel
theorem dL_law_645 : decode cL_law 645 = .ok (.ifCond .ne 15, 3) := by decide +kernel
theorem dL_law_648 : decode cL_law 648 = .ok (.aload_n 3, 1) := by decide +kernel
theorem dL_law_649 : decode cL_law 649 = .ok (.iconst 0, 1) := by decide +kernel
theorem dL_law_650 : decode cL_law 650 = .ok (.laload, 1) := by decide +kernel
theorem dL_law_651 : decode cL_law 651 = .ok (.iload 6, 2) := by decide +kernel
theorem dL_law_653 : decode cL_law 653 = .ok (.i2l, 1) := by decide +kernel
theorem dL_law_654 : decode cL_law 654 = .ok (.lcmp, 1) := by decide +kernel
theorem dL_law_655 : decode cL_law 655 = .ok (.ifCond .eq 5, 3) := by decide +kernel
theorem dL_law_658 : decode cL_law 658 = .ok (.iconst 0, 1) := by decide +kernel
theorem dL_law_659 : decode cL_law 659 = .ok (.ireturn, 1) := by decide +kernel
theorem dL_law_660 : decode cL_law 660 = .ok (.goto 509, 3) := by decide +kernel
theorem dL_law_663 : decode cL_law 663 = .ok (.aload_n 1, 1) := by decide +kernel
theorem dL_law_664 : decode cL_law 664 = .ok (.aload_n 0, 1) := by decide +kernel
theorem dL_law_665 : decode cL_law 665 = .ok (.iload 4, 2) := by decide +kernel
theorem dL_law_667 : decode cL_law 667 = .ok (.iconst 1, 1) := by decide +kernel
theorem dL_law_668 : decode cL_law 668 = .ok (.iadd, 1) := by decide +kernel
theorem dL_law_669 : decode cL_law 669 = .ok (.iaload, 1) := by decide +kernel
theorem dL_law_670 : decode cL_law 670 = .ok (.aload_n 0, 1) := by decide +kernel
theorem dL_law_671 : decode cL_law 671 = .ok (.iload 4, 2) := by decide +kernel
theorem dL_law_673 : decode cL_law 673 = .ok (.iconst 2, 1) := by decide +kernel
theorem dL_law_674 : decode cL_law 674 = .ok (.iadd, 1) := by decide +kernel
theorem dL_law_675 : decode cL_law 675 = .ok (.iaload, 1) := by decide +kernel
theorem dL_law_676 : decode cL_law 676 = .ok (.invokestatic 104, 3) := by decide +kernel
theorem dL_law_679 : decode cL_law 679 = .ok (.istore 5, 2) := by decide +kernel
theorem dL_law_681 : decode cL_law 681 = .ok (.aload_n 2, 1) := by decide +kernel
theorem dL_law_682 : decode cL_law 682 = .ok (.aload_n 0, 1) := by decide +kernel
theorem dL_law_683 : decode cL_law 683 = .ok (.iload 4, 2) := by decide +kernel
theorem dL_law_685 : decode cL_law 685 = .ok (.iconst 1, 1) := by decide +kernel
theorem dL_law_686 : decode cL_law 686 = .ok (.iadd, 1) := by decide +kernel
theorem dL_law_687 : decode cL_law 687 = .ok (.iaload, 1) := by decide +kernel
theorem dL_law_688 : decode cL_law 688 = .ok (.aload_n 0, 1) := by decide +kernel
theorem dL_law_689 : decode cL_law 689 = .ok (.iload 4, 2) := by decide +kernel
theorem dL_law_691 : decode cL_law 691 = .ok (.iconst 2, 1) := by decide +kernel
theorem dL_law_692 : decode cL_law 692 = .ok (.iadd, 1) := by decide +kernel
theorem dL_law_693 : decode cL_law 693 = .ok (.iaload, 1) := by decide +kernel
theorem dL_law_694 : decode cL_law 694 = .ok (.invokevirtual 107, 3) := by decide +kernel
theorem dL_law_697 : decode cL_law 697 = .ok (.aload_n 2, 1) := by decide +kernel
theorem dL_law_698 : decode cL_law 698 = .ok (.invokevirtual 77, 3) := by decide +kernel
theorem dL_law_701 : decode cL_law 701 = .ok (.iload 5, 2) := by decide +kernel
theorem dL_law_703 : decode cL_law 703 = .ok (.if_icmp .eq 5, 3) := by decide +kernel
theorem dL_law_706 : decode cL_law 706 = .ok (.iconst 0, 1) := by decide +kernel
theorem dL_law_707 : decode cL_law 707 = .ok (.ireturn, 1) := by decide +kernel
theorem dL_law_708 : decode cL_law 708 = .ok (.goto 461, 3) := by decide +kernel
theorem dL_law_711 : decode cL_law 711 = .ok (.aload_n 1, 1) := by decide +kernel
theorem dL_law_712 : decode cL_law 712 = .ok (.aload_n 0, 1) := by decide +kernel
theorem dL_law_713 : decode cL_law 713 = .ok (.iload 4, 2) := by decide +kernel
theorem dL_law_715 : decode cL_law 715 = .ok (.iconst 1, 1) := by decide +kernel
theorem dL_law_716 : decode cL_law 716 = .ok (.iadd, 1) := by decide +kernel
theorem dL_law_717 : decode cL_law 717 = .ok (.iaload, 1) := by decide +kernel
theorem dL_law_718 : decode cL_law 718 = .ok (.aload_n 0, 1) := by decide +kernel
theorem dL_law_719 : decode cL_law 719 = .ok (.iload 4, 2) := by decide +kernel
theorem dL_law_721 : decode cL_law 721 = .ok (.iconst 2, 1) := by decide +kernel
theorem dL_law_722 : decode cL_law 722 = .ok (.iadd, 1) := by decide +kernel
theorem dL_law_723 : decode cL_law 723 = .ok (.iaload, 1) := by decide +kernel
theorem dL_law_724 : decode cL_law 724 = .ok (.aload_n 0, 1) := by decide +kernel
theorem dL_law_725 : decode cL_law 725 = .ok (.iload 4, 2) := by decide +kernel
theorem dL_law_727 : decode cL_law 727 = .ok (.iconst 3, 1) := by decide +kernel
theorem dL_law_728 : decode cL_law 728 = .ok (.iadd, 1) := by decide +kernel
theorem dL_law_729 : decode cL_law 729 = .ok (.iaload, 1) := by decide +kernel
theorem dL_law_730 : decode cL_law 730 = .ok (.aload_n 3, 1) := by decide +kernel
theorem dL_law_731 : decode cL_law 731 = .ok (.invokestatic 108, 3) := by decide +kernel
theorem dL_law_734 : decode cL_law 734 = .ok (.istore 5, 2) := by decide +kernel
theorem dL_law_736 : decode cL_law 736 = .ok (.aload_n 2, 1) := by decide +kernel
theorem dL_law_737 : decode cL_law 737 = .ok (.aload_n 0, 1) := by decide +kernel
theorem dL_law_738 : decode cL_law 738 = .ok (.iload 4, 2) := by decide +kernel
theorem dL_law_740 : decode cL_law 740 = .ok (.iconst 1, 1) := by decide +kernel
theorem dL_law_741 : decode cL_law 741 = .ok (.iadd, 1) := by decide +kernel
theorem dL_law_742 : decode cL_law 742 = .ok (.iaload, 1) := by decide +kernel
theorem dL_law_743 : decode cL_law 743 = .ok (.aload_n 0, 1) := by decide +kernel
theorem dL_law_744 : decode cL_law 744 = .ok (.iload 4, 2) := by decide +kernel
theorem dL_law_746 : decode cL_law 746 = .ok (.iconst 2, 1) := by decide +kernel
theorem dL_law_747 : decode cL_law 747 = .ok (.iadd, 1) := by decide +kernel
theorem dL_law_748 : decode cL_law 748 = .ok (.iaload, 1) := by decide +kernel
theorem dL_law_749 : decode cL_law 749 = .ok (.aload_n 0, 1) := by decide +kernel
theorem dL_law_750 : decode cL_law 750 = .ok (.iload 4, 2) := by decide +kernel
theorem dL_law_752 : decode cL_law 752 = .ok (.iconst 3, 1) := by decide +kernel
theorem dL_law_753 : decode cL_law 753 = .ok (.iadd, 1) := by decide +kernel
theorem dL_law_754 : decode cL_law 754 = .ok (.iaload, 1) := by decide +kernel
theorem dL_law_755 : decode cL_law 755 = .ok (.invokevirtual 110, 3) := by decide +kernel
theorem dL_law_758 : decode cL_law 758 = .ok (.lstore 6, 2) := by decide +kernel
theorem dL_law_760 : decode cL_law 760 = .ok (.aload_n 2, 1) := by decide +kernel
theorem dL_law_761 : decode cL_law 761 = .ok (.invokevirtual 77, 3) := by decide +kernel
theorem dL_law_764 : decode cL_law 764 = .ok (.iload 5, 2) := by decide +kernel
theorem dL_law_766 : decode cL_law 766 = .ok (.if_icmp .eq 5, 3) := by decide +kernel
theorem dL_law_769 : decode cL_law 769 = .ok (.iconst 0, 1) := by decide +kernel
theorem dL_law_770 : decode cL_law 770 = .ok (.ireturn, 1) := by decide +kernel
theorem dL_law_771 : decode cL_law 771 = .ok (.iload 5, 2) := by decide +kernel
theorem dL_law_773 : decode cL_law 773 = .ok (.ifCond .ne 14, 3) := by decide +kernel
theorem dL_law_776 : decode cL_law 776 = .ok (.aload_n 3, 1) := by decide +kernel
theorem dL_law_777 : decode cL_law 777 = .ok (.iconst 0, 1) := by decide +kernel
theorem dL_law_778 : decode cL_law 778 = .ok (.laload, 1) := by decide +kernel
theorem dL_law_779 : decode cL_law 779 = .ok (.lload 6, 2) := by decide +kernel
theorem dL_law_781 : decode cL_law 781 = .ok (.lcmp, 1) := by decide +kernel
theorem dL_law_782 : decode cL_law 782 = .ok (.ifCond .eq 5, 3) := by decide +kernel
theorem dL_law_785 : decode cL_law 785 = .ok (.iconst 0, 1) := by decide +kernel
theorem dL_law_786 : decode cL_law 786 = .ok (.ireturn, 1) := by decide +kernel
theorem dL_law_787 : decode cL_law 787 = .ok (.goto 382, 3) := by decide +kernel
theorem dL_law_790 : decode cL_law 790 = .ok (.aload_n 1, 1) := by decide +kernel
theorem dL_law_791 : decode cL_law 791 = .ok (.aload_n 0, 1) := by decide +kernel
theorem dL_law_792 : decode cL_law 792 = .ok (.iload 4, 2) := by decide +kernel
theorem dL_law_794 : decode cL_law 794 = .ok (.iconst 1, 1) := by decide +kernel
theorem dL_law_795 : decode cL_law 795 = .ok (.iadd, 1) := by decide +kernel
theorem dL_law_796 : decode cL_law 796 = .ok (.iaload, 1) := by decide +kernel
theorem dL_law_797 : decode cL_law 797 = .ok (.aload_n 0, 1) := by decide +kernel
theorem dL_law_798 : decode cL_law 798 = .ok (.iload 4, 2) := by decide +kernel
theorem dL_law_800 : decode cL_law 800 = .ok (.iconst 2, 1) := by decide +kernel
theorem dL_law_801 : decode cL_law 801 = .ok (.iadd, 1) := by decide +kernel
theorem dL_law_802 : decode cL_law 802 = .ok (.iaload, 1) := by decide +kernel
theorem dL_law_803 : decode cL_law 803 = .ok (.aload_n 0, 1) := by decide +kernel
theorem dL_law_804 : decode cL_law 804 = .ok (.iload 4, 2) := by decide +kernel
theorem dL_law_806 : decode cL_law 806 = .ok (.iconst 3, 1) := by decide +kernel
theorem dL_law_807 : decode cL_law 807 = .ok (.iadd, 1) := by decide +kernel
theorem dL_law_808 : decode cL_law 808 = .ok (.iaload, 1) := by decide +kernel
theorem dL_law_809 : decode cL_law 809 = .ok (.aload_n 0, 1) := by decide +kernel
theorem dL_law_810 : decode cL_law 810 = .ok (.iload 4, 2) := by decide +kernel
theorem dL_law_812 : decode cL_law 812 = .ok (.iconst 4, 1) := by decide +kernel
theorem dL_law_813 : decode cL_law 813 = .ok (.iadd, 1) := by decide +kernel
theorem dL_law_814 : decode cL_law 814 = .ok (.iaload, 1) := by decide +kernel
theorem dL_law_815 : decode cL_law 815 = .ok (.aload_n 3, 1) := by decide +kernel
theorem dL_law_816 : decode cL_law 816 = .ok (.invokestatic 111, 3) := by decide +kernel
theorem dL_law_819 : decode cL_law 819 = .ok (.istore 5, 2) := by decide +kernel
theorem dL_law_821 : decode cL_law 821 = .ok (.aload_n 2, 1) := by decide +kernel
theorem dL_law_822 : decode cL_law 822 = .ok (.aload_n 0, 1) := by decide +kernel
theorem dL_law_823 : decode cL_law 823 = .ok (.iload 4, 2) := by decide +kernel
theorem dL_law_825 : decode cL_law 825 = .ok (.iconst 1, 1) := by decide +kernel
theorem dL_law_826 : decode cL_law 826 = .ok (.iadd, 1) := by decide +kernel
theorem dL_law_827 : decode cL_law 827 = .ok (.iaload, 1) := by decide +kernel
theorem dL_law_828 : decode cL_law 828 = .ok (.aload_n 0, 1) := by decide +kernel
theorem dL_law_829 : decode cL_law 829 = .ok (.iload 4, 2) := by decide +kernel
theorem dL_law_831 : decode cL_law 831 = .ok (.iconst 2, 1) := by decide +kernel
theorem dL_law_832 : decode cL_law 832 = .ok (.iadd, 1) := by decide +kernel
theorem dL_law_833 : decode cL_law 833 = .ok (.iaload, 1) := by decide +kernel
theorem dL_law_834 : decode cL_law 834 = .ok (.aload_n 0, 1) := by decide +kernel
theorem dL_law_835 : decode cL_law 835 = .ok (.iload 4, 2) := by decide +kernel
theorem dL_law_837 : decode cL_law 837 = .ok (.iconst 3, 1) := by decide +kernel
theorem dL_law_838 : decode cL_law 838 = .ok (.iadd, 1) := by decide +kernel
theorem dL_law_839 : decode cL_law 839 = .ok (.iaload, 1) := by decide +kernel
theorem dL_law_840 : decode cL_law 840 = .ok (.aload_n 0, 1) := by decide +kernel
theorem dL_law_841 : decode cL_law 841 = .ok (.iload 4, 2) := by decide +kernel
theorem dL_law_843 : decode cL_law 843 = .ok (.iconst 4, 1) := by decide +kernel
theorem dL_law_844 : decode cL_law 844 = .ok (.iadd, 1) := by decide +kernel
theorem dL_law_845 : decode cL_law 845 = .ok (.iaload, 1) := by decide +kernel
theorem dL_law_846 : decode cL_law 846 = .ok (.invokevirtual 114, 3) := by decide +kernel
theorem dL_law_849 : decode cL_law 849 = .ok (.istore 6, 2) := by decide +kernel
theorem dL_law_851 : decode cL_law 851 = .ok (.aload_n 2, 1) := by decide +kernel
theorem dL_law_852 : decode cL_law 852 = .ok (.invokevirtual 77, 3) := by decide +kernel
theorem dL_law_855 : decode cL_law 855 = .ok (.iload 5, 2) := by decide +kernel
theorem dL_law_857 : decode cL_law 857 = .ok (.if_icmp .eq 5, 3) := by decide +kernel
theorem dL_law_860 : decode cL_law 860 = .ok (.iconst 0, 1) := by decide +kernel
theorem dL_law_861 : decode cL_law 861 = .ok (.ireturn, 1) := by decide +kernel
theorem dL_law_862 : decode cL_law 862 = .ok (.iload 5, 2) := by decide +kernel
theorem dL_law_864 : decode cL_law 864 = .ok (.ifCond .ne 15, 3) := by decide +kernel
theorem dL_law_867 : decode cL_law 867 = .ok (.aload_n 3, 1) := by decide +kernel
theorem dL_law_868 : decode cL_law 868 = .ok (.iconst 0, 1) := by decide +kernel
theorem dL_law_869 : decode cL_law 869 = .ok (.laload, 1) := by decide +kernel
theorem dL_law_870 : decode cL_law 870 = .ok (.iload 6, 2) := by decide +kernel
theorem dL_law_872 : decode cL_law 872 = .ok (.i2l, 1) := by decide +kernel
theorem dL_law_873 : decode cL_law 873 = .ok (.lcmp, 1) := by decide +kernel
theorem dL_law_874 : decode cL_law 874 = .ok (.ifCond .eq 5, 3) := by decide +kernel
theorem dL_law_877 : decode cL_law 877 = .ok (.iconst 0, 1) := by decide +kernel
theorem dL_law_878 : decode cL_law 878 = .ok (.ireturn, 1) := by decide +kernel
theorem dL_law_879 : decode cL_law 879 = .ok (.goto 290, 3) := by decide +kernel
theorem dL_law_882 : decode cL_law 882 = .ok (.aload_n 1, 1) := by decide +kernel
theorem dL_law_883 : decode cL_law 883 = .ok (.invokevirtual 115, 3) := by decide +kernel
theorem dL_law_886 : decode cL_law 886 = .ok (.aload_n 2, 1) := by decide +kernel
theorem dL_law_887 : decode cL_law 887 = .ok (.invokevirtual 118, 3) := by decide +kernel
theorem dL_law_890 : decode cL_law 890 = .ok (.if_icmp .eq 279, 3) := by decide +kernel
theorem dL_law_893 : decode cL_law 893 = .ok (.iconst 0, 1) := by decide +kernel
theorem dL_law_894 : decode cL_law 894 = .ok (.ireturn, 1) := by decide +kernel
theorem dL_law_895 : decode cL_law 895 = .ok (.aload_n 1, 1) := by decide +kernel
theorem dL_law_896 : decode cL_law 896 = .ok (.aload_n 0, 1) := by decide +kernel
theorem dL_law_897 : decode cL_law 897 = .ok (.iload 4, 2) := by decide +kernel
theorem dL_law_899 : decode cL_law 899 = .ok (.iconst 1, 1) := by decide +kernel
theorem dL_law_900 : decode cL_law 900 = .ok (.iadd, 1) := by decide +kernel
theorem dL_law_901 : decode cL_law 901 = .ok (.iaload, 1) := by decide +kernel
theorem dL_law_902 : decode cL_law 902 = .ok (.aload_n 3, 1) := by decide +kernel
theorem dL_law_903 : decode cL_law 903 = .ok (.invokestatic 119, 3) := by decide +kernel
theorem dL_law_906 : decode cL_law 906 = .ok (.istore 5, 2) := by decide +kernel
theorem dL_law_908 : decode cL_law 908 = .ok (.aload_n 2, 1) := by decide +kernel
theorem dL_law_909 : decode cL_law 909 = .ok (.aload_n 0, 1) := by decide +kernel
theorem dL_law_910 : decode cL_law 910 = .ok (.iload 4, 2) := by decide +kernel
theorem dL_law_912 : decode cL_law 912 = .ok (.iconst 1, 1) := by decide +kernel
theorem dL_law_913 : decode cL_law 913 = .ok (.iadd, 1) := by decide +kernel
theorem dL_law_914 : decode cL_law 914 = .ok (.iaload, 1) := by decide +kernel
theorem dL_law_915 : decode cL_law 915 = .ok (.invokevirtual 121, 3) := by decide +kernel
theorem dL_law_918 : decode cL_law 918 = .ok (.istore 6, 2) := by decide +kernel
theorem dL_law_920 : decode cL_law 920 = .ok (.aload_n 2, 1) := by decide +kernel
theorem dL_law_921 : decode cL_law 921 = .ok (.invokevirtual 77, 3) := by decide +kernel
theorem dL_law_924 : decode cL_law 924 = .ok (.iload 5, 2) := by decide +kernel
theorem dL_law_926 : decode cL_law 926 = .ok (.if_icmp .eq 5, 3) := by decide +kernel
theorem dL_law_929 : decode cL_law 929 = .ok (.iconst 0, 1) := by decide +kernel
theorem dL_law_930 : decode cL_law 930 = .ok (.ireturn, 1) := by decide +kernel
theorem dL_law_931 : decode cL_law 931 = .ok (.iload 5, 2) := by decide +kernel
theorem dL_law_933 : decode cL_law 933 = .ok (.ifCond .ne 15, 3) := by decide +kernel
theorem dL_law_936 : decode cL_law 936 = .ok (.aload_n 3, 1) := by decide +kernel
theorem dL_law_937 : decode cL_law 937 = .ok (.iconst 0, 1) := by decide +kernel
theorem dL_law_938 : decode cL_law 938 = .ok (.laload, 1) := by decide +kernel
theorem dL_law_939 : decode cL_law 939 = .ok (.iload 6, 2) := by decide +kernel
theorem dL_law_941 : decode cL_law 941 = .ok (.i2l, 1) := by decide +kernel
theorem dL_law_942 : decode cL_law 942 = .ok (.lcmp, 1) := by decide +kernel
theorem dL_law_943 : decode cL_law 943 = .ok (.ifCond .eq 5, 3) := by decide +kernel
theorem dL_law_946 : decode cL_law 946 = .ok (.iconst 0, 1) := by decide +kernel
theorem dL_law_947 : decode cL_law 947 = .ok (.ireturn, 1) := by decide +kernel
theorem dL_law_948 : decode cL_law 948 = .ok (.goto 221, 3) := by decide +kernel
theorem dL_law_951 : decode cL_law 951 = .ok (.aload_n 1, 1) := by decide +kernel
theorem dL_law_952 : decode cL_law 952 = .ok (.aload_n 0, 1) := by decide +kernel
theorem dL_law_953 : decode cL_law 953 = .ok (.iload 4, 2) := by decide +kernel
theorem dL_law_955 : decode cL_law 955 = .ok (.iconst 1, 1) := by decide +kernel
theorem dL_law_956 : decode cL_law 956 = .ok (.iadd, 1) := by decide +kernel
theorem dL_law_957 : decode cL_law 957 = .ok (.iaload, 1) := by decide +kernel
theorem dL_law_958 : decode cL_law 958 = .ok (.aload_n 3, 1) := by decide +kernel
theorem dL_law_959 : decode cL_law 959 = .ok (.invokestatic 122, 3) := by decide +kernel
theorem dL_law_962 : decode cL_law 962 = .ok (.istore 5, 2) := by decide +kernel
theorem dL_law_964 : decode cL_law 964 = .ok (.aload_n 2, 1) := by decide +kernel
theorem dL_law_965 : decode cL_law 965 = .ok (.aload_n 0, 1) := by decide +kernel
theorem dL_law_966 : decode cL_law 966 = .ok (.iload 4, 2) := by decide +kernel
theorem dL_law_968 : decode cL_law 968 = .ok (.iconst 1, 1) := by decide +kernel
theorem dL_law_969 : decode cL_law 969 = .ok (.iadd, 1) := by decide +kernel
theorem dL_law_970 : decode cL_law 970 = .ok (.iaload, 1) := by decide +kernel
theorem dL_law_971 : decode cL_law 971 = .ok (.invokevirtual 124, 3) := by decide +kernel
theorem dL_law_974 : decode cL_law 974 = .ok (.istore 6, 2) := by decide +kernel
theorem dL_law_976 : decode cL_law 976 = .ok (.aload_n 2, 1) := by decide +kernel
theorem dL_law_977 : decode cL_law 977 = .ok (.invokevirtual 77, 3) := by decide +kernel
theorem dL_law_980 : decode cL_law 980 = .ok (.iload 5, 2) := by decide +kernel
theorem dL_law_982 : decode cL_law 982 = .ok (.if_icmp .eq 5, 3) := by decide +kernel
theorem dL_law_985 : decode cL_law 985 = .ok (.iconst 0, 1) := by decide +kernel
theorem dL_law_986 : decode cL_law 986 = .ok (.ireturn, 1) := by decide +kernel
theorem dL_law_987 : decode cL_law 987 = .ok (.iload 5, 2) := by decide +kernel
theorem dL_law_989 : decode cL_law 989 = .ok (.ifCond .ne 15, 3) := by decide +kernel
theorem dL_law_992 : decode cL_law 992 = .ok (.aload_n 3, 1) := by decide +kernel
theorem dL_law_993 : decode cL_law 993 = .ok (.iconst 0, 1) := by decide +kernel
theorem dL_law_994 : decode cL_law 994 = .ok (.laload, 1) := by decide +kernel
theorem dL_law_995 : decode cL_law 995 = .ok (.iload 6, 2) := by decide +kernel
theorem dL_law_997 : decode cL_law 997 = .ok (.i2l, 1) := by decide +kernel
theorem dL_law_998 : decode cL_law 998 = .ok (.lcmp, 1) := by decide +kernel
theorem dL_law_999 : decode cL_law 999 = .ok (.ifCond .eq 5, 3) := by decide +kernel
theorem dL_law_1002 : decode cL_law 1002 = .ok (.iconst 0, 1) := by decide +kernel
theorem dL_law_1003 : decode cL_law 1003 = .ok (.ireturn, 1) := by decide +kernel
theorem dL_law_1004 : decode cL_law 1004 = .ok (.goto 165, 3) := by decide +kernel
theorem dL_law_1007 : decode cL_law 1007 = .ok (.aload_n 1, 1) := by decide +kernel
theorem dL_law_1008 : decode cL_law 1008 = .ok (.aload_n 0, 1) := by decide +kernel
theorem dL_law_1009 : decode cL_law 1009 = .ok (.iload 4, 2) := by decide +kernel
theorem dL_law_1011 : decode cL_law 1011 = .ok (.iconst 1, 1) := by decide +kernel
theorem dL_law_1012 : decode cL_law 1012 = .ok (.iadd, 1) := by decide +kernel
theorem dL_law_1013 : decode cL_law 1013 = .ok (.iaload, 1) := by decide +kernel
theorem dL_law_1014 : decode cL_law 1014 = .ok (.aload_n 0, 1) := by decide +kernel
theorem dL_law_1015 : decode cL_law 1015 = .ok (.iload 4, 2) := by decide +kernel
theorem dL_law_1017 : decode cL_law 1017 = .ok (.iconst 2, 1) := by decide +kernel
theorem dL_law_1018 : decode cL_law 1018 = .ok (.iadd, 1) := by decide +kernel
theorem dL_law_1019 : decode cL_law 1019 = .ok (.iaload, 1) := by decide +kernel
theorem dL_law_1020 : decode cL_law 1020 = .ok (.aload_n 3, 1) := by decide +kernel
theorem dL_law_1021 : decode cL_law 1021 = .ok (.invokestatic 125, 3) := by decide +kernel
theorem dL_law_1024 : decode cL_law 1024 = .ok (.istore 5, 2) := by decide +kernel
theorem dL_law_1026 : decode cL_law 1026 = .ok (.aload_n 2, 1) := by decide +kernel
theorem dL_law_1027 : decode cL_law 1027 = .ok (.aload_n 0, 1) := by decide +kernel
theorem dL_law_1028 : decode cL_law 1028 = .ok (.iload 4, 2) := by decide +kernel
theorem dL_law_1030 : decode cL_law 1030 = .ok (.iconst 1, 1) := by decide +kernel
theorem dL_law_1031 : decode cL_law 1031 = .ok (.iadd, 1) := by decide +kernel
theorem dL_law_1032 : decode cL_law 1032 = .ok (.iaload, 1) := by decide +kernel
theorem dL_law_1033 : decode cL_law 1033 = .ok (.aload_n 0, 1) := by decide +kernel
theorem dL_law_1034 : decode cL_law 1034 = .ok (.iload 4, 2) := by decide +kernel
theorem dL_law_1036 : decode cL_law 1036 = .ok (.iconst 2, 1) := by decide +kernel
theorem dL_law_1037 : decode cL_law 1037 = .ok (.iadd, 1) := by decide +kernel
theorem dL_law_1038 : decode cL_law 1038 = .ok (.iaload, 1) := by decide +kernel
theorem dL_law_1039 : decode cL_law 1039 = .ok (.invokevirtual 127, 3) := by decide +kernel
theorem dL_law_1042 : decode cL_law 1042 = .ok (.istore 6, 2) := by decide +kernel
theorem dL_law_1044 : decode cL_law 1044 = .ok (.aload_n 2, 1) := by decide +kernel
theorem dL_law_1045 : decode cL_law 1045 = .ok (.invokevirtual 77, 3) := by decide +kernel
theorem dL_law_1048 : decode cL_law 1048 = .ok (.iload 5, 2) := by decide +kernel
theorem dL_law_1050 : decode cL_law 1050 = .ok (.if_icmp .eq 5, 3) := by decide +kernel
theorem dL_law_1053 : decode cL_law 1053 = .ok (.iconst 0, 1) := by decide +kernel
theorem dL_law_1054 : decode cL_law 1054 = .ok (.ireturn, 1) := by decide +kernel
theorem dL_law_1055 : decode cL_law 1055 = .ok (.iload 5, 2) := by decide +kernel
theorem dL_law_1057 : decode cL_law 1057 = .ok (.ifCond .ne 15, 3) := by decide +kernel
theorem dL_law_1060 : decode cL_law 1060 = .ok (.aload_n 3, 1) := by decide +kernel
theorem dL_law_1061 : decode cL_law 1061 = .ok (.iconst 0, 1) := by decide +kernel
theorem dL_law_1062 : decode cL_law 1062 = .ok (.laload, 1) := by decide +kernel
theorem dL_law_1063 : decode cL_law 1063 = .ok (.iload 6, 2) := by decide +kernel
theorem dL_law_1065 : decode cL_law 1065 = .ok (.i2l, 1) := by decide +kernel
theorem dL_law_1066 : decode cL_law 1066 = .ok (.lcmp, 1) := by decide +kernel
theorem dL_law_1067 : decode cL_law 1067 = .ok (.ifCond .eq 5, 3) := by decide +kernel
theorem dL_law_1070 : decode cL_law 1070 = .ok (.iconst 0, 1) := by decide +kernel
theorem dL_law_1071 : decode cL_law 1071 = .ok (.ireturn, 1) := by decide +kernel
theorem dL_law_1072 : decode cL_law 1072 = .ok (.goto 97, 3) := by decide +kernel
theorem dL_law_1075 : decode cL_law 1075 = .ok (.aload_n 1, 1) := by decide +kernel
theorem dL_law_1076 : decode cL_law 1076 = .ok (.aload_n 0, 1) := by decide +kernel
theorem dL_law_1077 : decode cL_law 1077 = .ok (.iload 4, 2) := by decide +kernel
theorem dL_law_1079 : decode cL_law 1079 = .ok (.iconst 1, 1) := by decide +kernel
theorem dL_law_1080 : decode cL_law 1080 = .ok (.iadd, 1) := by decide +kernel
theorem dL_law_1081 : decode cL_law 1081 = .ok (.iaload, 1) := by decide +kernel
theorem dL_law_1082 : decode cL_law 1082 = .ok (.aload_n 3, 1) := by decide +kernel
theorem dL_law_1083 : decode cL_law 1083 = .ok (.invokestatic 128, 3) := by decide +kernel
theorem dL_law_1086 : decode cL_law 1086 = .ok (.istore 5, 2) := by decide +kernel
theorem dL_law_1088 : decode cL_law 1088 = .ok (.aload_n 2, 1) := by decide +kernel
theorem dL_law_1089 : decode cL_law 1089 = .ok (.aload_n 0, 1) := by decide +kernel
theorem dL_law_1090 : decode cL_law 1090 = .ok (.iload 4, 2) := by decide +kernel
theorem dL_law_1092 : decode cL_law 1092 = .ok (.iconst 1, 1) := by decide +kernel
theorem dL_law_1093 : decode cL_law 1093 = .ok (.iadd, 1) := by decide +kernel
theorem dL_law_1094 : decode cL_law 1094 = .ok (.iaload, 1) := by decide +kernel
theorem dL_law_1095 : decode cL_law 1095 = .ok (.invokevirtual 130, 3) := by decide +kernel
theorem dL_law_1098 : decode cL_law 1098 = .ok (.istore 6, 2) := by decide +kernel
theorem dL_law_1100 : decode cL_law 1100 = .ok (.aload_n 2, 1) := by decide +kernel
theorem dL_law_1101 : decode cL_law 1101 = .ok (.invokevirtual 77, 3) := by decide +kernel
theorem dL_law_1104 : decode cL_law 1104 = .ok (.iload 5, 2) := by decide +kernel
theorem dL_law_1106 : decode cL_law 1106 = .ok (.if_icmp .eq 5, 3) := by decide +kernel
theorem dL_law_1109 : decode cL_law 1109 = .ok (.iconst 0, 1) := by decide +kernel
theorem dL_law_1110 : decode cL_law 1110 = .ok (.ireturn, 1) := by decide +kernel
theorem dL_law_1111 : decode cL_law 1111 = .ok (.iload 5, 2) := by decide +kernel
theorem dL_law_1113 : decode cL_law 1113 = .ok (.ifCond .ne 15, 3) := by decide +kernel
theorem dL_law_1116 : decode cL_law 1116 = .ok (.aload_n 3, 1) := by decide +kernel
theorem dL_law_1117 : decode cL_law 1117 = .ok (.iconst 0, 1) := by decide +kernel
theorem dL_law_1118 : decode cL_law 1118 = .ok (.laload, 1) := by decide +kernel
theorem dL_law_1119 : decode cL_law 1119 = .ok (.iload 6, 2) := by decide +kernel
theorem dL_law_1121 : decode cL_law 1121 = .ok (.i2l, 1) := by decide +kernel
theorem dL_law_1122 : decode cL_law 1122 = .ok (.lcmp, 1) := by decide +kernel
theorem dL_law_1123 : decode cL_law 1123 = .ok (.ifCond .eq 5, 3) := by decide +kernel
theorem dL_law_1126 : decode cL_law 1126 = .ok (.iconst 0, 1) := by decide +kernel
theorem dL_law_1127 : decode cL_law 1127 = .ok (.ireturn, 1) := by decide +kernel
theorem dL_law_1128 : decode cL_law 1128 = .ok (.goto 41, 3) := by decide +kernel
theorem dL_law_1131 : decode cL_law 1131 = .ok (.aload_n 1, 1) := by decide +kernel
theorem dL_law_1132 : decode cL_law 1132 = .ok (.invokevirtual 131, 3) := by decide +kernel
theorem dL_law_1135 : decode cL_law 1135 = .ok (.aload_n 2, 1) := by decide +kernel
theorem dL_law_1136 : decode cL_law 1136 = .ok (.invokevirtual 134, 3) := by decide +kernel
theorem dL_law_1139 : decode cL_law 1139 = .ok (.if_icmp .eq 30, 3) := by decide +kernel
theorem dL_law_1142 : decode cL_law 1142 = .ok (.iconst 0, 1) := by decide +kernel
theorem dL_law_1143 : decode cL_law 1143 = .ok (.ireturn, 1) := by decide +kernel
theorem dL_law_1144 : decode cL_law 1144 = .ok (.aload_n 1, 1) := by decide +kernel
theorem dL_law_1145 : decode cL_law 1145 = .ok (.aload_n 0, 1) := by decide +kernel
theorem dL_law_1146 : decode cL_law 1146 = .ok (.iload 4, 2) := by decide +kernel
theorem dL_law_1148 : decode cL_law 1148 = .ok (.iconst 1, 1) := by decide +kernel
theorem dL_law_1149 : decode cL_law 1149 = .ok (.iadd, 1) := by decide +kernel
theorem dL_law_1150 : decode cL_law 1150 = .ok (.iaload, 1) := by decide +kernel
theorem dL_law_1151 : decode cL_law 1151 = .ok (.invokevirtual 135, 3) := by decide +kernel
theorem dL_law_1154 : decode cL_law 1154 = .ok (.aload_n 2, 1) := by decide +kernel
theorem dL_law_1155 : decode cL_law 1155 = .ok (.aload_n 0, 1) := by decide +kernel
theorem dL_law_1156 : decode cL_law 1156 = .ok (.iload 4, 2) := by decide +kernel
theorem dL_law_1158 : decode cL_law 1158 = .ok (.iconst 1, 1) := by decide +kernel
theorem dL_law_1159 : decode cL_law 1159 = .ok (.iadd, 1) := by decide +kernel
theorem dL_law_1160 : decode cL_law 1160 = .ok (.iaload, 1) := by decide +kernel
theorem dL_law_1161 : decode cL_law 1161 = .ok (.invokevirtual 138, 3) := by decide +kernel
theorem dL_law_1164 : decode cL_law 1164 = .ok (.if_icmp .eq 5, 3) := by decide +kernel
theorem dL_law_1167 : decode cL_law 1167 = .ok (.iconst 0, 1) := by decide +kernel
theorem dL_law_1168 : decode cL_law 1168 = .ok (.ireturn, 1) := by decide +kernel
theorem dL_law_1169 : decode cL_law 1169 = .ok (.iinc 4 5, 3) := by decide +kernel
theorem dL_law_1172 : decode cL_law 1172 = .ok (.goto (-1149), 3) := by decide +kernel
theorem dL_law_1175 : decode cL_law 1175 = .ok (.iconst 1, 1) := by decide +kernel
theorem dL_law_1176 : decode cL_law 1176 = .ok (.ireturn, 1) := by decide +kernel
