theorem dX10_remembers_37 : decode cX10_remembers 37 = .ok (.isub, 1) := by decide +kernel
theorem dX10_remembers_38 : decode cX10_remembers 38 = .ok (.aload_n 0, 1) := by decide +kernel
theorem dX10_remembers_39 : decode cX10_remembers 39 = .ok (.getfield 35, 3) := by decide +kernel
theorem dX10_remembers_42 : decode cX10_remembers 42 = .ok (.iload_n 3, 1) := by decide +kernel
theorem dX10_remembers_43 : decode cX10_remembers 43 = .ok (.iaload, 1) := by decide +kernel
theorem dX10_remembers_44 : decode cX10_remembers 44 = .ok (.iastore, 1) := by decide +kernel
theorem dX10_remembers_45 : decode cX10_remembers 45 = .ok (.aload_n 0, 1) := by decide +kernel
theorem dX10_remembers_46 : decode cX10_remembers 46 = .ok (.getfield 38, 3) := by decide +kernel
theorem dX10_remembers_49 : decode cX10_remembers 49 = .ok (.iload_n 3, 1) := by decide +kernel
theorem dX10_remembers_50 : decode cX10_remembers 50 = .ok (.iconst 1, 1) := by decide +kernel
theorem dX10_remembers_51 : decode cX10_remembers 51 = .ok (.isub, 1) := by decide +kernel
theorem dX10_remembers_52 : decode cX10_remembers 52 = .ok (.aload_n 0, 1) := by decide +kernel
theorem dX10_remembers_53 : decode cX10_remembers 53 = .ok (.getfield 38, 3) := by decide +kernel
theorem dX10_remembers_56 : decode cX10_remembers 56 = .ok (.iload_n 3, 1) := by decide +kernel
theorem dX10_remembers_57 : decode cX10_remembers 57 = .ok (.iaload, 1) := by decide +kernel
theorem dX10_remembers_58 : decode cX10_remembers 58 = .ok (.iastore, 1) := by decide +kernel
theorem dX10_remembers_59 : decode cX10_remembers 59 = .ok (.aload_n 0, 1) := by decide +kernel
theorem dX10_remembers_60 : decode cX10_remembers 60 = .ok (.getfield 41, 3) := by decide +kernel
theorem dX10_remembers_63 : decode cX10_remembers 63 = .ok (.iload_n 3, 1) := by decide +kernel
theorem dX10_remembers_64 : decode cX10_remembers 64 = .ok (.iconst 1, 1) := by decide +kernel
theorem dX10_remembers_65 : decode cX10_remembers 65 = .ok (.isub, 1) := by decide +kernel
theorem dX10_remembers_66 : decode cX10_remembers 66 = .ok (.aload_n 0, 1) := by decide +kernel
theorem dX10_remembers_67 : decode cX10_remembers 67 = .ok (.getfield 41, 3) := by decide +kernel
theorem dX10_remembers_70 : decode cX10_remembers 70 = .ok (.iload_n 3, 1) := by decide +kernel
theorem dX10_remembers_71 : decode cX10_remembers 71 = .ok (.iaload, 1) := by decide +kernel
theorem dX10_remembers_72 : decode cX10_remembers 72 = .ok (.iastore, 1) := by decide +kernel
theorem dX10_remembers_73 : decode cX10_remembers 73 = .ok (.iinc 3 1, 3) := by decide +kernel
theorem dX10_remembers_76 : decode cX10_remembers 76 = .ok (.goto (-65), 3) := by decide +kernel
theorem dX10_remembers_79 : decode cX10_remembers 79 = .ok (.aload_n 0, 1) := by decide +kernel
theorem dX10_remembers_80 : decode cX10_remembers 80 = .ok (.dup, 1) := by decide +kernel
theorem dX10_remembers_81 : decode cX10_remembers 81 = .ok (.getfield 139, 3) := by decide +kernel
theorem dX10_remembers_84 : decode cX10_remembers 84 = .ok (.iconst 1, 1) := by decide +kernel
theorem dX10_remembers_85 : decode cX10_remembers 85 = .ok (.isub, 1) := by decide +kernel
theorem dX10_remembers_86 : decode cX10_remembers 86 = .ok (.putfield 139, 3) := by decide +kernel
theorem dX10_remembers_89 : decode cX10_remembers 89 = .ok (.aload_n 0, 1) := by decide +kernel
theorem dX10_remembers_90 : decode cX10_remembers 90 = .ok (.getfield 32, 3) := by decide +kernel
theorem dX10_remembers_93 : decode cX10_remembers 93 = .ok (.aload_n 0, 1) := by decide +kernel
theorem dX10_remembers_94 : decode cX10_remembers 94 = .ok (.getfield 139, 3) := by decide +kernel
theorem dX10_remembers_97 : decode cX10_remembers 97 = .ok (.iload_n 1, 1) := by decide +kernel
theorem dX10_remembers_98 : decode cX10_remembers 98 = .ok (.iastore, 1) := by decide +kernel
theorem dX10_remembers_99 : decode cX10_remembers 99 = .ok (.aload_n 0, 1) := by decide +kernel
theorem dX10_remembers_100 : decode cX10_remembers 100 = .ok (.getfield 35, 3) := by decide +kernel
theorem dX10_remembers_103 : decode cX10_remembers 103 = .ok (.aload_n 0, 1) := by decide +kernel
theorem dX10_remembers_104 : decode cX10_remembers 104 = .ok (.getfield 139, 3) := by decide +kernel
theorem dX10_remembers_107 : decode cX10_remembers 107 = .ok (.iload_n 2, 1) := by decide +kernel
theorem dX10_remembers_108 : decode cX10_remembers 108 = .ok (.iastore, 1) := by decide +kernel
theorem dX10_remembers_109 : decode cX10_remembers 109 = .ok (.aload_n 0, 1) := by decide +kernel
theorem dX10_remembers_110 : decode cX10_remembers 110 = .ok (.getfield 38, 3) := by decide +kernel
theorem dX10_remembers_113 : decode cX10_remembers 113 = .ok (.aload_n 0, 1) := by decide +kernel
theorem dX10_remembers_114 : decode cX10_remembers 114 = .ok (.getfield 139, 3) := by decide +kernel
theorem dX10_remembers_117 : decode cX10_remembers 117 = .ok (.aload_n 0, 1) := by decide +kernel
theorem dX10_remembers_118 : decode cX10_remembers 118 = .ok (.getfield 26, 3) := by decide +kernel
theorem dX10_remembers_121 : decode cX10_remembers 121 = .ok (.iload_n 2, 1) := by decide +kernel
theorem dX10_remembers_122 : decode cX10_remembers 122 = .ok (.iaload, 1) := by decide +kernel
theorem dX10_remembers_123 : decode cX10_remembers 123 = .ok (.iastore, 1) := by decide +kernel
theorem dX10_remembers_124 : decode cX10_remembers 124 = .ok (.aload_n 0, 1) := by decide +kernel
theorem dX10_remembers_125 : decode cX10_remembers 125 = .ok (.getfield 41, 3) := by decide +kernel
theorem dX10_remembers_128 : decode cX10_remembers 128 = .ok (.aload_n 0, 1) := by decide +kernel
theorem dX10_remembers_129 : decode cX10_remembers 129 = .ok (.getfield 139, 3) := by decide +kernel
theorem dX10_remembers_132 : decode cX10_remembers 132 = .ok (.aload_n 0, 1) := by decide +kernel
theorem dX10_remembers_133 : decode cX10_remembers 133 = .ok (.getfield 29, 3) := by decide +kernel
theorem dX10_remembers_136 : decode cX10_remembers 136 = .ok (.iload_n 2, 1) := by decide +kernel
theorem dX10_remembers_137 : decode cX10_remembers 137 = .ok (.iaload, 1) := by decide +kernel
theorem dX10_remembers_138 : decode cX10_remembers 138 = .ok (.iastore, 1) := by decide +kernel
theorem dX10_remembers_139 : decode cX10_remembers 139 = .ok (.aload_n 0, 1) := by decide +kernel
theorem dX10_remembers_140 : decode cX10_remembers 140 = .ok (.dup, 1) := by decide +kernel
theorem dX10_remembers_141 : decode cX10_remembers 141 = .ok (.getfield 139, 3) := by decide +kernel
theorem dX10_remembers_144 : decode cX10_remembers 144 = .ok (.iconst 1, 1) := by decide +kernel
theorem dX10_remembers_145 : decode cX10_remembers 145 = .ok (.iadd, 1) := by decide +kernel
theorem dX10_remembers_146 : decode cX10_remembers 146 = .ok (.putfield 139, 3) := by decide +kernel
theorem dX10_remembers_149 : decode cX10_remembers 149 = .ok (.return_, 1) := by decide +kernel
theorem dX10_comes_0 : decode cX10_comes 0 = .ok (.aload_n 0, 1) := by decide +kernel
theorem dX10_comes_1 : decode cX10_comes 1 = .ok (.getfield 22, 3) := by decide +kernel
theorem dX10_comes_4 : decode cX10_comes 4 = .ok (.iload_n 1, 1) := by decide +kernel
theorem dX10_comes_5 : decode cX10_comes 5 = .ok (.iconst 1, 1) := by decide +kernel
theorem dX10_comes_6 : decode cX10_comes 6 = .ok (.bastore, 1) := by decide +kernel
theorem dX10_comes_7 : decode cX10_comes 7 = .ok (.aload_n 0, 1) := by decide +kernel
theorem dX10_comes_8 : decode cX10_comes 8 = .ok (.getfield 26, 3) := by decide +kernel
theorem dX10_comes_11 : decode cX10_comes 11 = .ok (.iload_n 1, 1) := by decide +kernel
theorem dX10_comes_12 : decode cX10_comes 12 = .ok (.iload_n 2, 1) := by decide +kernel
theorem dX10_comes_13 : decode cX10_comes 13 = .ok (.iastore, 1) := by decide +kernel
theorem dX10_comes_14 : decode cX10_comes 14 = .ok (.aload_n 0, 1) := by decide +kernel
theorem dX10_comes_15 : decode cX10_comes 15 = .ok (.getfield 29, 3) := by decide +kernel
theorem dX10_comes_18 : decode cX10_comes 18 = .ok (.iload_n 1, 1) := by decide +kernel
theorem dX10_comes_19 : decode cX10_comes 19 = .ok (.iload_n 3, 1) := by decide +kernel
theorem dX10_comes_20 : decode cX10_comes 20 = .ok (.iastore, 1) := by decide +kernel
theorem dX10_comes_21 : decode cX10_comes 21 = .ok (.aload_n 0, 1) := by decide +kernel
theorem dX10_comes_22 : decode cX10_comes 22 = .ok (.dup, 1) := by decide +kernel
theorem dX10_comes_23 : decode cX10_comes 23 = .ok (.getfield 142, 3) := by decide +kernel
theorem dX10_comes_26 : decode cX10_comes 26 = .ok (.iconst 1, 1) := by decide +kernel
theorem dX10_comes_27 : decode cX10_comes 27 = .ok (.iadd, 1) := by decide +kernel
theorem dX10_comes_28 : decode cX10_comes 28 = .ok (.putfield 142, 3) := by decide +kernel
theorem dX10_comes_31 : decode cX10_comes 31 = .ok (.return_, 1) := by decide +kernel
theorem dX10_leaves_0 : decode cX10_leaves 0 = .ok (.aload_n 0, 1) := by decide +kernel
theorem dX10_leaves_1 : decode cX10_leaves 1 = .ok (.getfield 22, 3) := by decide +kernel
theorem dX10_leaves_4 : decode cX10_leaves 4 = .ok (.iload_n 1, 1) := by decide +kernel
theorem dX10_leaves_5 : decode cX10_leaves 5 = .ok (.iconst 0, 1) := by decide +kernel
theorem dX10_leaves_6 : decode cX10_leaves 6 = .ok (.bastore, 1) := by decide +kernel
theorem dX10_leaves_7 : decode cX10_leaves 7 = .ok (.aload_n 0, 1) := by decide +kernel
theorem dX10_leaves_8 : decode cX10_leaves 8 = .ok (.dup, 1) := by decide +kernel
theorem dX10_leaves_9 : decode cX10_leaves 9 = .ok (.getfield 142, 3) := by decide +kernel
theorem dX10_leaves_12 : decode cX10_leaves 12 = .ok (.iconst 1, 1) := by decide +kernel
theorem dX10_leaves_13 : decode cX10_leaves 13 = .ok (.isub, 1) := by decide +kernel
theorem dX10_leaves_14 : decode cX10_leaves 14 = .ok (.putfield 142, 3) := by decide +kernel
theorem dX10_leaves_17 : decode cX10_leaves 17 = .ok (.return_, 1) := by decide +kernel
theorem dX10_put_0 : decode cX10_put 0 = .ok (.iload_n 1, 1) := by decide +kernel
theorem dX10_put_1 : decode cX10_put 1 = .ok (.invokestatic 145, 3) := by decide +kernel
theorem dX10_put_4 : decode cX10_put 4 = .ok (.ifCond .eq 11, 3) := by decide +kernel
theorem dX10_put_7 : decode cX10_put 7 = .ok (.iload_n 2, 1) := by decide +kernel
theorem dX10_put_8 : decode cX10_put 8 = .ok (.iload_n 3, 1) := by decide +kernel
theorem dX10_put_9 : decode cX10_put 9 = .ok (.invokestatic 148, 3) := by decide +kernel
theorem dX10_put_12 : decode cX10_put 12 = .ok (.ifCond .ne 6, 3) := by decide +kernel
theorem dX10_put_15 : decode cX10_put 15 = .ok (.bipush (-2), 2) := by decide +kernel
theorem dX10_put_17 : decode cX10_put 17 = .ok (.ireturn, 1) := by decide +kernel
theorem dX10_put_18 : decode cX10_put 18 = .ok (.aload_n 0, 1) := by decide +kernel
theorem dX10_put_19 : decode cX10_put 19 = .ok (.getfield 22, 3) := by decide +kernel
theorem dX10_put_22 : decode cX10_put 22 = .ok (.iload_n 1, 1) := by decide +kernel
theorem dX10_put_23 : decode cX10_put 23 = .ok (.baload, 1) := by decide +kernel
theorem dX10_put_24 : decode cX10_put 24 = .ok (.ifCond .eq 6, 3) := by decide +kernel
theorem dX10_put_27 : decode cX10_put 27 = .ok (.bipush (-3), 2) := by decide +kernel
theorem dX10_put_29 : decode cX10_put 29 = .ok (.ireturn, 1) := by decide +kernel
theorem dX10_put_30 : decode cX10_put 30 = .ok (.aload_n 0, 1) := by decide +kernel
theorem dX10_put_31 : decode cX10_put 31 = .ok (.iload_n 1, 1) := by decide +kernel
theorem dX10_put_32 : decode cX10_put 32 = .ok (.iload_n 2, 1) := by decide +kernel
theorem dX10_put_33 : decode cX10_put 33 = .ok (.iload_n 3, 1) := by decide +kernel
theorem dX10_put_34 : decode cX10_put 34 = .ok (.invokevirtual 152, 3) := by decide +kernel
theorem dX10_put_37 : decode cX10_put 37 = .ok (.aload_n 0, 1) := by decide +kernel
theorem dX10_put_38 : decode cX10_put 38 = .ok (.iconst 0, 1) := by decide +kernel
theorem dX10_put_39 : decode cX10_put 39 = .ok (.iload_n 1, 1) := by decide +kernel
theorem dX10_put_40 : decode cX10_put 40 = .ok (.invokevirtual 156, 3) := by decide +kernel
theorem dX10_put_43 : decode cX10_put 43 = .ok (.aload_n 0, 1) := by decide +kernel
theorem dX10_put_44 : decode cX10_put 44 = .ok (.getfield 142, 3) := by decide +kernel
theorem dX10_put_47 : decode cX10_put 47 = .ok (.ireturn, 1) := by decide +kernel
theorem dX10_drop_0 : decode cX10_drop 0 = .ok (.iload_n 1, 1) := by decide +kernel
theorem dX10_drop_1 : decode cX10_drop 1 = .ok (.invokestatic 145, 3) := by decide +kernel
theorem dX10_drop_4 : decode cX10_drop 4 = .ok (.ifCond .ne 6, 3) := by decide +kernel
theorem dX10_drop_7 : decode cX10_drop 7 = .ok (.bipush (-2), 2) := by decide +kernel
theorem dX10_drop_9 : decode cX10_drop 9 = .ok (.ireturn, 1) := by decide +kernel
theorem dX10_drop_10 : decode cX10_drop 10 = .ok (.aload_n 0, 1) := by decide +kernel
theorem dX10_drop_11 : decode cX10_drop 11 = .ok (.getfield 22, 3) := by decide +kernel
theorem dX10_drop_14 : decode cX10_drop 14 = .ok (.iload_n 1, 1) := by decide +kernel
theorem dX10_drop_15 : decode cX10_drop 15 = .ok (.baload, 1) := by decide +kernel
theorem dX10_drop_16 : decode cX10_drop 16 = .ok (.ifCond .ne 6, 3) := by decide +kernel
theorem dX10_drop_19 : decode cX10_drop 19 = .ok (.bipush (-3), 2) := by decide +kernel
theorem dX10_drop_21 : decode cX10_drop 21 = .ok (.ireturn, 1) := by decide +kernel
theorem dX10_drop_22 : decode cX10_drop 22 = .ok (.aload_n 0, 1) := by decide +kernel
theorem dX10_drop_23 : decode cX10_drop 23 = .ok (.iconst 1, 1) := by decide +kernel
theorem dX10_drop_24 : decode cX10_drop 24 = .ok (.iload_n 1, 1) := by decide +kernel
theorem dX10_drop_25 : decode cX10_drop 25 = .ok (.invokevirtual 156, 3) := by decide +kernel
theorem dX10_drop_28 : decode cX10_drop 28 = .ok (.aload_n 0, 1) := by decide +kernel
theorem dX10_drop_29 : decode cX10_drop 29 = .ok (.iload_n 1, 1) := by decide +kernel
theorem dX10_drop_30 : decode cX10_drop 30 = .ok (.invokevirtual 160, 3) := by decide +kernel
theorem dX10_drop_33 : decode cX10_drop 33 = .ok (.aload_n 0, 1) := by decide +kernel
theorem dX10_drop_34 : decode cX10_drop 34 = .ok (.getfield 142, 3) := by decide +kernel
theorem dX10_drop_37 : decode cX10_drop 37 = .ok (.ireturn, 1) := by decide +kernel
theorem dX10_move_0 : decode cX10_move 0 = .ok (.iload_n 1, 1) := by decide +kernel
theorem dX10_move_1 : decode cX10_move 1 = .ok (.invokestatic 145, 3) := by decide +kernel
theorem dX10_move_4 : decode cX10_move 4 = .ok (.ifCond .ne 6, 3) := by decide +kernel
theorem dX10_move_7 : decode cX10_move 7 = .ok (.bipush (-2), 2) := by decide +kernel
theorem dX10_move_9 : decode cX10_move 9 = .ok (.ireturn, 1) := by decide +kernel
theorem dX10_move_10 : decode cX10_move 10 = .ok (.aload_n 0, 1) := by decide +kernel
theorem dX10_move_11 : decode cX10_move 11 = .ok (.getfield 22, 3) := by decide +kernel
theorem dX10_move_14 : decode cX10_move 14 = .ok (.iload_n 1, 1) := by decide +kernel
theorem dX10_move_15 : decode cX10_move 15 = .ok (.baload, 1) := by decide +kernel
theorem dX10_move_16 : decode cX10_move 16 = .ok (.ifCond .ne 6, 3) := by decide +kernel
theorem dX10_move_19 : decode cX10_move 19 = .ok (.bipush (-3), 2) := by decide +kernel
theorem dX10_move_21 : decode cX10_move 21 = .ok (.ireturn, 1) := by decide +kernel
theorem dX10_move_22 : decode cX10_move 22 = .ok (.aload_n 0, 1) := by decide +kernel
theorem dX10_move_23 : decode cX10_move 23 = .ok (.getfield 26, 3) := by decide +kernel
theorem dX10_move_26 : decode cX10_move 26 = .ok (.iload_n 1, 1) := by decide +kernel
theorem dX10_move_27 : decode cX10_move 27 = .ok (.iaload, 1) := by decide +kernel
theorem dX10_move_28 : decode cX10_move 28 = .ok (.i2l, 1) := by decide +kernel
theorem dX10_move_29 : decode cX10_move 29 = .ok (.iload_n 2, 1) := by decide +kernel
theorem dX10_move_30 : decode cX10_move 30 = .ok (.i2l, 1) := by decide +kernel
theorem dX10_move_31 : decode cX10_move 31 = .ok (.ladd, 1) := by decide +kernel
theorem dX10_move_32 : decode cX10_move 32 = .ok (.ldc2_w 132, 3) := by decide +kernel
theorem dX10_move_35 : decode cX10_move 35 = .ok (.lcmp, 1) := by decide +kernel
theorem dX10_move_36 : decode cX10_move 36 = .ok (.ifCond .lt 20, 3) := by decide +kernel
theorem dX10_move_39 : decode cX10_move 39 = .ok (.aload_n 0, 1) := by decide +kernel
theorem dX10_move_40 : decode cX10_move 40 = .ok (.getfield 29, 3) := by decide +kernel
theorem dX10_move_43 : decode cX10_move 43 = .ok (.iload_n 1, 1) := by decide +kernel
theorem dX10_move_44 : decode cX10_move 44 = .ok (.iaload, 1) := by decide +kernel
theorem dX10_move_45 : decode cX10_move 45 = .ok (.i2l, 1) := by decide +kernel
theorem dX10_move_46 : decode cX10_move 46 = .ok (.iload_n 2, 1) := by decide +kernel
theorem dX10_move_47 : decode cX10_move 47 = .ok (.i2l, 1) := by decide +kernel
theorem dX10_move_48 : decode cX10_move 48 = .ok (.ladd, 1) := by decide +kernel
theorem dX10_move_49 : decode cX10_move 49 = .ok (.ldc2_w 134, 3) := by decide +kernel
theorem dX10_move_52 : decode cX10_move 52 = .ok (.lcmp, 1) := by decide +kernel
theorem dX10_move_53 : decode cX10_move 53 = .ok (.ifCond .le 6, 3) := by decide +kernel
theorem dX10_move_56 : decode cX10_move 56 = .ok (.bipush (-4), 2) := by decide +kernel
theorem dX10_move_58 : decode cX10_move 58 = .ok (.ireturn, 1) := by decide +kernel
theorem dX10_move_59 : decode cX10_move 59 = .ok (.aload_n 0, 1) := by decide +kernel
theorem dX10_move_60 : decode cX10_move 60 = .ok (.iconst 2, 1) := by decide +kernel
theorem dX10_move_61 : decode cX10_move 61 = .ok (.iload_n 1, 1) := by decide +kernel
theorem dX10_move_62 : decode cX10_move 62 = .ok (.invokevirtual 156, 3) := by decide +kernel
theorem dX10_move_65 : decode cX10_move 65 = .ok (.aload_n 0, 1) := by decide +kernel
theorem dX10_move_66 : decode cX10_move 66 = .ok (.getfield 26, 3) := by decide +kernel
theorem dX10_move_69 : decode cX10_move 69 = .ok (.iload_n 1, 1) := by decide +kernel
theorem dX10_move_70 : decode cX10_move 70 = .ok (.dup2, 1) := by decide +kernel
theorem dX10_move_71 : decode cX10_move 71 = .ok (.iaload, 1) := by decide +kernel
theorem dX10_move_72 : decode cX10_move 72 = .ok (.iload_n 2, 1) := by decide +kernel
theorem dX10_move_73 : decode cX10_move 73 = .ok (.iadd, 1) := by decide +kernel
theorem dX10_move_74 : decode cX10_move 74 = .ok (.iastore, 1) := by decide +kernel
theorem dX10_move_75 : decode cX10_move 75 = .ok (.aload_n 0, 1) := by decide +kernel
theorem dX10_move_76 : decode cX10_move 76 = .ok (.getfield 29, 3) := by decide +kernel
theorem dX10_move_79 : decode cX10_move 79 = .ok (.iload_n 1, 1) := by decide +kernel
theorem dX10_move_80 : decode cX10_move 80 = .ok (.dup2, 1) := by decide +kernel
theorem dX10_move_81 : decode cX10_move 81 = .ok (.iaload, 1) := by decide +kernel
theorem dX10_move_82 : decode cX10_move 82 = .ok (.iload_n 2, 1) := by decide +kernel
theorem dX10_move_83 : decode cX10_move 83 = .ok (.iadd, 1) := by decide +kernel
theorem dX10_move_84 : decode cX10_move 84 = .ok (.iastore, 1) := by decide +kernel
theorem dX10_move_85 : decode cX10_move 85 = .ok (.iconst 1, 1) := by decide +kernel
theorem dX10_move_86 : decode cX10_move 86 = .ok (.ireturn, 1) := by decide +kernel
theorem dX10_undo_0 : decode cX10_undo 0 = .ok (.aload_n 0, 1) := by decide +kernel
theorem dX10_undo_1 : decode cX10_undo 1 = .ok (.getfield 139, 3) := by decide +kernel
theorem dX10_undo_4 : decode cX10_undo 4 = .ok (.ifCond .ne 6, 3) := by decide +kernel
theorem dX10_undo_7 : decode cX10_undo 7 = .ok (.bipush (-3), 2) := by decide +kernel
theorem dX10_undo_9 : decode cX10_undo 9 = .ok (.ireturn, 1) := by decide +kernel
theorem dX10_undo_10 : decode cX10_undo 10 = .ok (.aload_n 0, 1) := by decide +kernel
theorem dX10_undo_11 : decode cX10_undo 11 = .ok (.dup, 1) := by decide +kernel
theorem dX10_undo_12 : decode cX10_undo 12 = .ok (.getfield 139, 3) := by decide +kernel
theorem dX10_undo_15 : decode cX10_undo 15 = .ok (.iconst 1, 1) := by decide +kernel
theorem dX10_undo_16 : decode cX10_undo 16 = .ok (.isub, 1) := by decide +kernel
theorem dX10_undo_17 : decode cX10_undo 17 = .ok (.putfield 139, 3) := by decide +kernel
theorem dX10_undo_20 : decode cX10_undo 20 = .ok (.aload_n 0, 1) := by decide +kernel
theorem dX10_undo_21 : decode cX10_undo 21 = .ok (.getfield 35, 3) := by decide +kernel
theorem dX10_undo_24 : decode cX10_undo 24 = .ok (.aload_n 0, 1) := by decide +kernel
theorem dX10_undo_25 : decode cX10_undo 25 = .ok (.getfield 139, 3) := by decide +kernel
theorem dX10_undo_28 : decode cX10_undo 28 = .ok (.iaload, 1) := by decide +kernel
theorem dX10_undo_29 : decode cX10_undo 29 = .ok (.istore_n 1, 1) := by decide +kernel
theorem dX10_undo_30 : decode cX10_undo 30 = .ok (.aload_n 0, 1) := by decide +kernel
theorem dX10_undo_31 : decode cX10_undo 31 = .ok (.getfield 32, 3) := by decide +kernel
theorem dX10_undo_34 : decode cX10_undo 34 = .ok (.aload_n 0, 1) := by decide +kernel
theorem dX10_undo_35 : decode cX10_undo 35 = .ok (.getfield 139, 3) := by decide +kernel
theorem dX10_undo_38 : decode cX10_undo 38 = .ok (.iaload, 1) := by decide +kernel
theorem dX10_undo_39 : decode cX10_undo 39 = .ok (.lookupswitch 59 #[(0, 25), (1, 33)], 25) := by decide +kernel
theorem dX10_undo_64 : decode cX10_undo 64 = .ok (.aload_n 0, 1) := by decide +kernel
theorem dX10_undo_65 : decode cX10_undo 65 = .ok (.iload_n 1, 1) := by decide +kernel
theorem dX10_undo_66 : decode cX10_undo 66 = .ok (.invokevirtual 160, 3) := by decide +kernel
theorem dX10_undo_69 : decode cX10_undo 69 = .ok (.goto 59, 3) := by decide +kernel
theorem dX10_undo_72 : decode cX10_undo 72 = .ok (.aload_n 0, 1) := by decide +kernel
theorem dX10_undo_73 : decode cX10_undo 73 = .ok (.iload_n 1, 1) := by decide +kernel
theorem dX10_undo_74 : decode cX10_undo 74 = .ok (.aload_n 0, 1) := by decide +kernel
theorem dX10_undo_75 : decode cX10_undo 75 = .ok (.getfield 38, 3) := by decide +kernel
theorem dX10_undo_78 : decode cX10_undo 78 = .ok (.aload_n 0, 1) := by decide +kernel
theorem dX10_undo_79 : decode cX10_undo 79 = .ok (.getfield 139, 3) := by decide +kernel
theorem dX10_undo_82 : decode cX10_undo 82 = .ok (.iaload, 1) := by decide +kernel
theorem dX10_undo_83 : decode cX10_undo 83 = .ok (.aload_n 0, 1) := by decide +kernel
theorem dX10_undo_84 : decode cX10_undo 84 = .ok (.getfield 41, 3) := by decide +kernel
theorem dX10_undo_87 : decode cX10_undo 87 = .ok (.aload_n 0, 1) := by decide +kernel
theorem dX10_undo_88 : decode cX10_undo 88 = .ok (.getfield 139, 3) := by decide +kernel
theorem dX10_undo_91 : decode cX10_undo 91 = .ok (.iaload, 1) := by decide +kernel
theorem dX10_undo_92 : decode cX10_undo 92 = .ok (.invokevirtual 152, 3) := by decide +kernel
theorem dX10_undo_95 : decode cX10_undo 95 = .ok (.goto 33, 3) := by decide +kernel
theorem dX10_undo_98 : decode cX10_undo 98 = .ok (.aload_n 0, 1) := by decide +kernel
theorem dX10_undo_99 : decode cX10_undo 99 = .ok (.getfield 26, 3) := by decide +kernel
theorem dX10_undo_102 : decode cX10_undo 102 = .ok (.iload_n 1, 1) := by decide +kernel
theorem dX10_undo_103 : decode cX10_undo 103 = .ok (.aload_n 0, 1) := by decide +kernel
theorem dX10_undo_104 : decode cX10_undo 104 = .ok (.getfield 38, 3) := by decide +kernel
theorem dX10_undo_107 : decode cX10_undo 107 = .ok (.aload_n 0, 1) := by decide +kernel
theorem dX10_undo_108 : decode cX10_undo 108 = .ok (.getfield 139, 3) := by decide +kernel
theorem dX10_undo_111 : decode cX10_undo 111 = .ok (.iaload, 1) := by decide +kernel
theorem dX10_undo_112 : decode cX10_undo 112 = .ok (.iastore, 1) := by decide +kernel
theorem dX10_undo_113 : decode cX10_undo 113 = .ok (.aload_n 0, 1) := by decide +kernel
theorem dX10_undo_114 : decode cX10_undo 114 = .ok (.getfield 29, 3) := by decide +kernel
theorem dX10_undo_117 : decode cX10_undo 117 = .ok (.iload_n 1, 1) := by decide +kernel
theorem dX10_undo_118 : decode cX10_undo 118 = .ok (.aload_n 0, 1) := by decide +kernel
theorem dX10_undo_119 : decode cX10_undo 119 = .ok (.getfield 41, 3) := by decide +kernel
theorem dX10_undo_122 : decode cX10_undo 122 = .ok (.aload_n 0, 1) := by decide +kernel
theorem dX10_undo_123 : decode cX10_undo 123 = .ok (.getfield 139, 3) := by decide +kernel
theorem dX10_undo_126 : decode cX10_undo 126 = .ok (.iaload, 1) := by decide +kernel
theorem dX10_undo_127 : decode cX10_undo 127 = .ok (.iastore, 1) := by decide +kernel
theorem dX10_undo_128 : decode cX10_undo 128 = .ok (.aload_n 0, 1) := by decide +kernel
theorem dX10_undo_129 : decode cX10_undo 129 = .ok (.getfield 139, 3) := by decide +kernel
theorem dX10_undo_132 : decode cX10_undo 132 = .ok (.ireturn, 1) := by decide +kernel
theorem dX10_leastKey_0 : decode cX10_leastKey 0 = .ok (.iconst 0, 1) := by decide +kernel
theorem dX10_leastKey_1 : decode cX10_leastKey 1 = .ok (.istore_n 1, 1) := by decide +kernel
theorem dX10_leastKey_2 : decode cX10_leastKey 2 = .ok (.iload_n 1, 1) := by decide +kernel
theorem dX10_leastKey_3 : decode cX10_leastKey 3 = .ok (.bipush 48, 2) := by decide +kernel
theorem dX10_leastKey_5 : decode cX10_leastKey 5 = .ok (.if_icmp .ge 18, 3) := by decide +kernel
theorem dX10_leastKey_8 : decode cX10_leastKey 8 = .ok (.aload_n 0, 1) := by decide +kernel
theorem dX10_leastKey_9 : decode cX10_leastKey 9 = .ok (.getfield 22, 3) := by decide +kernel
theorem dX10_leastKey_12 : decode cX10_leastKey 12 = .ok (.iload_n 1, 1) := by decide +kernel
theorem dX10_leastKey_13 : decode cX10_leastKey 13 = .ok (.baload, 1) := by decide +kernel
theorem dX10_leastKey_14 : decode cX10_leastKey 14 = .ok (.ifCond .eq 9, 3) := by decide +kernel
theorem dX10_leastKey_17 : decode cX10_leastKey 17 = .ok (.iinc 1 1, 3) := by decide +kernel
theorem dX10_leastKey_20 : decode cX10_leastKey 20 = .ok (.goto (-18), 3) := by decide +kernel
theorem dX10_leastKey_23 : decode cX10_leastKey 23 = .ok (.iload_n 1, 1) := by decide +kernel
theorem dX10_leastKey_24 : decode cX10_leastKey 24 = .ok (.ireturn, 1) := by decide +kernel
theorem dX10_fill_0 : decode cX10_fill 0 = .ok (.iload_n 1, 1) := by decide +kernel
theorem dX10_fill_1 : decode cX10_fill 1 = .ok (.invokestatic 111, 3) := by decide +kernel
theorem dX10_fill_4 : decode cX10_fill 4 = .ok (.ifCond .ne 6, 3) := by decide +kernel
theorem dX10_fill_7 : decode cX10_fill 7 = .ok (.bipush (-2), 2) := by decide +kernel
theorem dX10_fill_9 : decode cX10_fill 9 = .ok (.ireturn, 1) := by decide +kernel
theorem dX10_fill_10 : decode cX10_fill 10 = .ok (.aload_n 0, 1) := by decide +kernel
theorem dX10_fill_11 : decode cX10_fill 11 = .ok (.getfield 7, 3) := by decide +kernel
theorem dX10_fill_14 : decode cX10_fill 14 = .ok (.iload_n 1, 1) := by decide +kernel
theorem dX10_fill_15 : decode cX10_fill 15 = .ok (.iaload, 1) := by decide +kernel
theorem dX10_fill_16 : decode cX10_fill 16 = .ok (.ifCond .ge 9, 3) := by decide +kernel
theorem dX10_fill_19 : decode cX10_fill 19 = .ok (.aload_n 0, 1) := by decide +kernel
theorem dX10_fill_20 : decode cX10_fill 20 = .ok (.iconst 1, 1) := by decide +kernel
theorem dX10_fill_21 : decode cX10_fill 21 = .ok (.invokevirtual 117, 3) := by decide +kernel
theorem dX10_fill_24 : decode cX10_fill 24 = .ok (.ireturn, 1) := by decide +kernel
theorem dX10_fill_25 : decode cX10_fill 25 = .ok (.iconst 0, 1) := by decide +kernel
theorem dX10_fill_26 : decode cX10_fill 26 = .ok (.istore_n 2, 1) := by decide +kernel
theorem dX10_fill_27 : decode cX10_fill 27 = .ok (.iconst 1, 1) := by decide +kernel
theorem dX10_fill_28 : decode cX10_fill 28 = .ok (.istore_n 3, 1) := by decide +kernel
theorem dX10_fill_29 : decode cX10_fill 29 = .ok (.iload_n 3, 1) := by decide +kernel
theorem dX10_fill_30 : decode cX10_fill 30 = .ok (.ifCond .eq 75, 3) := by decide +kernel
theorem dX10_fill_33 : decode cX10_fill 33 = .ok (.iconst 2, 1) := by decide +kernel
theorem dX10_fill_34 : decode cX10_fill 34 = .ok (.iload_n 2, 1) := by decide +kernel
theorem dX10_fill_35 : decode cX10_fill 35 = .ok (.imul, 1) := by decide +kernel
theorem dX10_fill_36 : decode cX10_fill 36 = .ok (.iconst 2, 1) := by decide +kernel
theorem dX10_fill_37 : decode cX10_fill 37 = .ok (.iadd, 1) := by decide +kernel
theorem dX10_fill_38 : decode cX10_fill 38 = .ok (.aload_n 0, 1) := by decide +kernel
theorem dX10_fill_39 : decode cX10_fill 39 = .ok (.getfield 13, 3) := by decide +kernel
theorem dX10_fill_42 : decode cX10_fill 42 = .ok (.iload_n 1, 1) := by decide +kernel
theorem dX10_fill_43 : decode cX10_fill 43 = .ok (.iaload, 1) := by decide +kernel
theorem dX10_fill_44 : decode cX10_fill 44 = .ok (.if_icmp .gt 61, 3) := by decide +kernel
theorem dX10_fill_47 : decode cX10_fill 47 = .ok (.bipush 60, 2) := by decide +kernel
theorem dX10_fill_49 : decode cX10_fill 49 = .ok (.iload_n 1, 1) := by decide +kernel
theorem dX10_fill_50 : decode cX10_fill 50 = .ok (.imul, 1) := by decide +kernel
theorem dX10_fill_51 : decode cX10_fill 51 = .ok (.iconst 2, 1) := by decide +kernel
theorem dX10_fill_52 : decode cX10_fill 52 = .ok (.iload_n 2, 1) := by decide +kernel
theorem dX10_fill_53 : decode cX10_fill 53 = .ok (.imul, 1) := by decide +kernel
theorem dX10_fill_54 : decode cX10_fill 54 = .ok (.iadd, 1) := by decide +kernel
theorem dX10_fill_55 : decode cX10_fill 55 = .ok (.istore 4, 2) := by decide +kernel
theorem dX10_fill_57 : decode cX10_fill 57 = .ok (.aload_n 0, 1) := by decide +kernel
theorem dX10_fill_58 : decode cX10_fill 58 = .ok (.aload_n 0, 1) := by decide +kernel
theorem dX10_fill_59 : decode cX10_fill 59 = .ok (.invokevirtual 164, 3) := by decide +kernel
theorem dX10_fill_62 : decode cX10_fill 62 = .ok (.aload_n 0, 1) := by decide +kernel
theorem dX10_fill_63 : decode cX10_fill 63 = .ok (.getfield 16, 3) := by decide +kernel
theorem dX10_fill_66 : decode cX10_fill 66 = .ok (.iload 4, 2) := by decide +kernel
theorem dX10_fill_68 : decode cX10_fill 68 = .ok (.iaload, 1) := by decide +kernel
theorem dX10_fill_69 : decode cX10_fill 69 = .ok (.aload_n 0, 1) := by decide +kernel
theorem dX10_fill_70 : decode cX10_fill 70 = .ok (.getfield 16, 3) := by decide +kernel
theorem dX10_fill_73 : decode cX10_fill 73 = .ok (.iload 4, 2) := by decide +kernel
theorem dX10_fill_75 : decode cX10_fill 75 = .ok (.iconst 1, 1) := by decide +kernel
theorem dX10_fill_76 : decode cX10_fill 76 = .ok (.iadd, 1) := by decide +kernel
theorem dX10_fill_77 : decode cX10_fill 77 = .ok (.iaload, 1) := by decide +kernel
theorem dX10_fill_78 : decode cX10_fill 78 = .ok (.invokevirtual 168, 3) := by decide +kernel
theorem dX10_fill_81 : decode cX10_fill 81 = .ok (.ifCond .lt 7, 3) := by decide +kernel
theorem dX10_fill_84 : decode cX10_fill 84 = .ok (.iconst 1, 1) := by decide +kernel
theorem dX10_fill_85 : decode cX10_fill 85 = .ok (.goto 4, 3) := by decide +kernel
theorem dX10_fill_88 : decode cX10_fill 88 = .ok (.iconst 0, 1) := by decide +kernel
theorem dX10_fill_89 : decode cX10_fill 89 = .ok (.istore_n 3, 1) := by decide +kernel
theorem dX10_fill_90 : decode cX10_fill 90 = .ok (.iload_n 2, 1) := by decide +kernel
theorem dX10_fill_91 : decode cX10_fill 91 = .ok (.iload_n 3, 1) := by decide +kernel
theorem dX10_fill_92 : decode cX10_fill 92 = .ok (.ifCond .eq 7, 3) := by decide +kernel
theorem dX10_fill_95 : decode cX10_fill 95 = .ok (.iconst 1, 1) := by decide +kernel
theorem dX10_fill_96 : decode cX10_fill 96 = .ok (.goto 4, 3) := by decide +kernel
theorem dX10_fill_99 : decode cX10_fill 99 = .ok (.iconst 0, 1) := by decide +kernel
theorem dX10_fill_100 : decode cX10_fill 100 = .ok (.iadd, 1) := by decide +kernel
theorem dX10_fill_101 : decode cX10_fill 101 = .ok (.istore_n 2, 1) := by decide +kernel
theorem dX10_fill_102 : decode cX10_fill 102 = .ok (.goto (-73), 3) := by decide +kernel
theorem dX10_fill_105 : decode cX10_fill 105 = .ok (.iload_n 2, 1) := by decide +kernel
theorem dX10_fill_106 : decode cX10_fill 106 = .ok (.ireturn, 1) := by decide +kernel
theorem dX10_has_0 : decode cX10_has 0 = .ok (.iload_n 1, 1) := by decide +kernel
theorem dX10_has_1 : decode cX10_has 1 = .ok (.invokestatic 145, 3) := by decide +kernel
theorem dX10_has_4 : decode cX10_has 4 = .ok (.ifCond .eq 16, 3) := by decide +kernel
theorem dX10_has_7 : decode cX10_has 7 = .ok (.aload_n 0, 1) := by decide +kernel
theorem dX10_has_8 : decode cX10_has 8 = .ok (.getfield 22, 3) := by decide +kernel
theorem dX10_has_11 : decode cX10_has 11 = .ok (.iload_n 1, 1) := by decide +kernel
theorem dX10_has_12 : decode cX10_has 12 = .ok (.baload, 1) := by decide +kernel
theorem dX10_has_13 : decode cX10_has 13 = .ok (.ifCond .eq 7, 3) := by decide +kernel
theorem dX10_has_16 : decode cX10_has 16 = .ok (.iconst 1, 1) := by decide +kernel
theorem dX10_has_17 : decode cX10_has 17 = .ok (.goto 4, 3) := by decide +kernel
theorem dX10_has_20 : decode cX10_has 20 = .ok (.iconst 0, 1) := by decide +kernel
theorem dX10_has_21 : decode cX10_has 21 = .ok (.ireturn, 1) := by decide +kernel
theorem dX10_span_0 : decode cX10_span 0 = .ok (.aload_n 0, 1) := by decide +kernel
theorem dX10_span_1 : decode cX10_span 1 = .ok (.iload_n 1, 1) := by decide +kernel
theorem dX10_span_2 : decode cX10_span 2 = .ok (.invokevirtual 171, 3) := by decide +kernel
theorem dX10_span_5 : decode cX10_span 5 = .ok (.ifCond .eq 32, 3) := by decide +kernel
theorem dX10_span_8 : decode cX10_span 8 = .ok (.iload_n 2, 1) := by decide +kernel
theorem dX10_span_9 : decode cX10_span 9 = .ok (.invokestatic 174, 3) := by decide +kernel
theorem dX10_span_12 : decode cX10_span 12 = .ok (.ifCond .eq 25, 3) := by decide +kernel
theorem dX10_span_15 : decode cX10_span 15 = .ok (.iload_n 2, 1) := by decide +kernel
theorem dX10_span_16 : decode cX10_span 16 = .ok (.ifCond .ne 12, 3) := by decide +kernel
theorem dX10_span_19 : decode cX10_span 19 = .ok (.aload_n 0, 1) := by decide +kernel
theorem dX10_span_20 : decode cX10_span 20 = .ok (.getfield 26, 3) := by decide +kernel
theorem dX10_span_23 : decode cX10_span 23 = .ok (.iload_n 1, 1) := by decide +kernel
theorem dX10_span_24 : decode cX10_span 24 = .ok (.iaload, 1) := by decide +kernel
theorem dX10_span_25 : decode cX10_span 25 = .ok (.goto 14, 3) := by decide +kernel
theorem dX10_span_28 : decode cX10_span 28 = .ok (.aload_n 0, 1) := by decide +kernel
theorem dX10_span_29 : decode cX10_span 29 = .ok (.getfield 29, 3) := by decide +kernel
theorem dX10_span_32 : decode cX10_span 32 = .ok (.iload_n 1, 1) := by decide +kernel
theorem dX10_span_33 : decode cX10_span 33 = .ok (.iaload, 1) := by decide +kernel
theorem dX10_span_34 : decode cX10_span 34 = .ok (.goto 5, 3) := by decide +kernel
theorem dX10_span_37 : decode cX10_span 37 = .ok (.ldc 129, 2) := by decide +kernel
theorem dX10_span_39 : decode cX10_span 39 = .ok (.ireturn, 1) := by decide +kernel
theorem dX10_isAhead_0 : decode cX10_isAhead 0 = .ok (.aload_n 0, 1) := by decide +kernel
theorem dX10_isAhead_1 : decode cX10_isAhead 1 = .ok (.getfield 26, 3) := by decide +kernel
theorem dX10_isAhead_4 : decode cX10_isAhead 4 = .ok (.iload_n 1, 1) := by decide +kernel
theorem dX10_isAhead_5 : decode cX10_isAhead 5 = .ok (.iaload, 1) := by decide +kernel
theorem dX10_isAhead_6 : decode cX10_isAhead 6 = .ok (.aload_n 0, 1) := by decide +kernel
theorem dX10_isAhead_7 : decode cX10_isAhead 7 = .ok (.getfield 26, 3) := by decide +kernel
theorem dX10_isAhead_10 : decode cX10_isAhead 10 = .ok (.iload_n 2, 1) := by decide +kernel
theorem dX10_isAhead_11 : decode cX10_isAhead 11 = .ok (.iaload, 1) := by decide +kernel
theorem dX10_isAhead_12 : decode cX10_isAhead 12 = .ok (.if_icmp .eq 26, 3) := by decide +kernel
theorem dX10_isAhead_15 : decode cX10_isAhead 15 = .ok (.aload_n 0, 1) := by decide +kernel
theorem dX10_isAhead_16 : decode cX10_isAhead 16 = .ok (.getfield 26, 3) := by decide +kernel
theorem dX10_isAhead_19 : decode cX10_isAhead 19 = .ok (.iload_n 1, 1) := by decide +kernel
theorem dX10_isAhead_20 : decode cX10_isAhead 20 = .ok (.iaload, 1) := by decide +kernel
theorem dX10_isAhead_21 : decode cX10_isAhead 21 = .ok (.aload_n 0, 1) := by decide +kernel
theorem dX10_isAhead_22 : decode cX10_isAhead 22 = .ok (.getfield 26, 3) := by decide +kernel
theorem dX10_isAhead_25 : decode cX10_isAhead 25 = .ok (.iload_n 2, 1) := by decide +kernel
theorem dX10_isAhead_26 : decode cX10_isAhead 26 = .ok (.iaload, 1) := by decide +kernel
theorem dX10_isAhead_27 : decode cX10_isAhead 27 = .ok (.if_icmp .ge 7, 3) := by decide +kernel
theorem dX10_isAhead_30 : decode cX10_isAhead 30 = .ok (.iconst 1, 1) := by decide +kernel
theorem dX10_isAhead_31 : decode cX10_isAhead 31 = .ok (.goto 55, 3) := by decide +kernel
theorem dX10_isAhead_34 : decode cX10_isAhead 34 = .ok (.iconst 0, 1) := by decide +kernel
theorem dX10_isAhead_35 : decode cX10_isAhead 35 = .ok (.goto 51, 3) := by decide +kernel
theorem dX10_isAhead_38 : decode cX10_isAhead 38 = .ok (.aload_n 0, 1) := by decide +kernel
theorem dX10_isAhead_39 : decode cX10_isAhead 39 = .ok (.getfield 29, 3) := by decide +kernel
theorem dX10_isAhead_42 : decode cX10_isAhead 42 = .ok (.iload_n 1, 1) := by decide +kernel
theorem dX10_isAhead_43 : decode cX10_isAhead 43 = .ok (.iaload, 1) := by decide +kernel
theorem dX10_isAhead_44 : decode cX10_isAhead 44 = .ok (.aload_n 0, 1) := by decide +kernel
theorem dX10_isAhead_45 : decode cX10_isAhead 45 = .ok (.getfield 29, 3) := by decide +kernel
theorem dX10_isAhead_48 : decode cX10_isAhead 48 = .ok (.iload_n 2, 1) := by decide +kernel
theorem dX10_isAhead_49 : decode cX10_isAhead 49 = .ok (.iaload, 1) := by decide +kernel
theorem dX10_isAhead_50 : decode cX10_isAhead 50 = .ok (.if_icmp .eq 26, 3) := by decide +kernel
theorem dX10_isAhead_53 : decode cX10_isAhead 53 = .ok (.aload_n 0, 1) := by decide +kernel
theorem dX10_isAhead_54 : decode cX10_isAhead 54 = .ok (.getfield 29, 3) := by decide +kernel
theorem dX10_isAhead_57 : decode cX10_isAhead 57 = .ok (.iload_n 1, 1) := by decide +kernel
theorem dX10_isAhead_58 : decode cX10_isAhead 58 = .ok (.iaload, 1) := by decide +kernel
theorem dX10_isAhead_59 : decode cX10_isAhead 59 = .ok (.aload_n 0, 1) := by decide +kernel
theorem dX10_isAhead_60 : decode cX10_isAhead 60 = .ok (.getfield 29, 3) := by decide +kernel
theorem dX10_isAhead_63 : decode cX10_isAhead 63 = .ok (.iload_n 2, 1) := by decide +kernel
theorem dX10_isAhead_64 : decode cX10_isAhead 64 = .ok (.iaload, 1) := by decide +kernel
theorem dX10_isAhead_65 : decode cX10_isAhead 65 = .ok (.if_icmp .ge 7, 3) := by decide +kernel
theorem dX10_isAhead_68 : decode cX10_isAhead 68 = .ok (.iconst 1, 1) := by decide +kernel
theorem dX10_isAhead_69 : decode cX10_isAhead 69 = .ok (.goto 17, 3) := by decide +kernel
theorem dX10_isAhead_72 : decode cX10_isAhead 72 = .ok (.iconst 0, 1) := by decide +kernel
theorem dX10_isAhead_73 : decode cX10_isAhead 73 = .ok (.goto 13, 3) := by decide +kernel
theorem dX10_isAhead_76 : decode cX10_isAhead 76 = .ok (.iload_n 1, 1) := by decide +kernel
theorem dX10_isAhead_77 : decode cX10_isAhead 77 = .ok (.iload_n 2, 1) := by decide +kernel
theorem dX10_isAhead_78 : decode cX10_isAhead 78 = .ok (.if_icmp .ge 7, 3) := by decide +kernel
theorem dX10_isAhead_81 : decode cX10_isAhead 81 = .ok (.iconst 1, 1) := by decide +kernel
theorem dX10_isAhead_82 : decode cX10_isAhead 82 = .ok (.goto 4, 3) := by decide +kernel
theorem dX10_isAhead_85 : decode cX10_isAhead 85 = .ok (.iconst 0, 1) := by decide +kernel
theorem dX10_isAhead_86 : decode cX10_isAhead 86 = .ok (.ireturn, 1) := by decide +kernel
theorem dX10_orders_0 : decode cX10_orders 0 = .ok (.iconst 0, 1) := by decide +kernel
theorem dX10_orders_1 : decode cX10_orders 1 = .ok (.istore_n 1, 1) := by decide +kernel
theorem dX10_orders_2 : decode cX10_orders 2 = .ok (.iconst 0, 1) := by decide +kernel
theorem dX10_orders_3 : decode cX10_orders 3 = .ok (.istore_n 2, 1) := by decide +kernel
theorem dX10_orders_4 : decode cX10_orders 4 = .ok (.iload_n 2, 1) := by decide +kernel
theorem dX10_orders_5 : decode cX10_orders 5 = .ok (.bipush 48, 2) := by decide +kernel
theorem dX10_orders_7 : decode cX10_orders 7 = .ok (.if_icmp .ge 70, 3) := by decide +kernel
theorem dX10_orders_10 : decode cX10_orders 10 = .ok (.aload_n 0, 1) := by decide +kernel
theorem dX10_orders_11 : decode cX10_orders 11 = .ok (.getfield 22, 3) := by decide +kernel
theorem dX10_orders_14 : decode cX10_orders 14 = .ok (.iload_n 2, 1) := by decide +kernel
theorem dX10_orders_15 : decode cX10_orders 15 = .ok (.baload, 1) := by decide +kernel
theorem dX10_orders_16 : decode cX10_orders 16 = .ok (.ifCond .eq 55, 3) := by decide +kernel
theorem dX10_orders_19 : decode cX10_orders 19 = .ok (.iload_n 1, 1) := by decide +kernel
theorem dX10_orders_20 : decode cX10_orders 20 = .ok (.istore_n 3, 1) := by decide +kernel
theorem dX10_orders_21 : decode cX10_orders 21 = .ok (.iload_n 3, 1) := by decide +kernel
theorem dX10_orders_22 : decode cX10_orders 22 = .ok (.ifCond .le 39, 3) := by decide +kernel
theorem dX10_orders_25 : decode cX10_orders 25 = .ok (.aload_n 0, 1) := by decide +kernel
theorem dX10_orders_26 : decode cX10_orders 26 = .ok (.iload_n 2, 1) := by decide +kernel
theorem dX10_orders_27 : decode cX10_orders 27 = .ok (.aload_n 0, 1) := by decide +kernel
theorem dX10_orders_28 : decode cX10_orders 28 = .ok (.getfield 44, 3) := by decide +kernel
theorem dX10_orders_31 : decode cX10_orders 31 = .ok (.iload_n 3, 1) := by decide +kernel
theorem dX10_orders_32 : decode cX10_orders 32 = .ok (.iconst 1, 1) := by decide +kernel
theorem dX10_orders_33 : decode cX10_orders 33 = .ok (.isub, 1) := by decide +kernel
theorem dX10_orders_34 : decode cX10_orders 34 = .ok (.iaload, 1) := by decide +kernel
theorem dX10_orders_35 : decode cX10_orders 35 = .ok (.invokevirtual 177, 3) := by decide +kernel
theorem dX10_orders_38 : decode cX10_orders 38 = .ok (.ifCond .eq 23, 3) := by decide +kernel
theorem dX10_orders_41 : decode cX10_orders 41 = .ok (.aload_n 0, 1) := by decide +kernel
theorem dX10_orders_42 : decode cX10_orders 42 = .ok (.getfield 44, 3) := by decide +kernel
theorem dX10_orders_45 : decode cX10_orders 45 = .ok (.iload_n 3, 1) := by decide +kernel
theorem dX10_orders_46 : decode cX10_orders 46 = .ok (.aload_n 0, 1) := by decide +kernel
theorem dX10_orders_47 : decode cX10_orders 47 = .ok (.getfield 44, 3) := by decide +kernel
theorem dX10_orders_50 : decode cX10_orders 50 = .ok (.iload_n 3, 1) := by decide +kernel
theorem dX10_orders_51 : decode cX10_orders 51 = .ok (.iconst 1, 1) := by decide +kernel
theorem dX10_orders_52 : decode cX10_orders 52 = .ok (.isub, 1) := by decide +kernel
theorem dX10_orders_53 : decode cX10_orders 53 = .ok (.iaload, 1) := by decide +kernel
theorem dX10_orders_54 : decode cX10_orders 54 = .ok (.iastore, 1) := by decide +kernel
theorem dX10_orders_55 : decode cX10_orders 55 = .ok (.iinc 3 (-1), 3) := by decide +kernel
theorem dX10_orders_58 : decode cX10_orders 58 = .ok (.goto (-37), 3) := by decide +kernel
theorem dX10_orders_61 : decode cX10_orders 61 = .ok (.aload_n 0, 1) := by decide +kernel
theorem dX10_orders_62 : decode cX10_orders 62 = .ok (.getfield 44, 3) := by decide +kernel
theorem dX10_orders_65 : decode cX10_orders 65 = .ok (.iload_n 3, 1) := by decide +kernel
theorem dX10_orders_66 : decode cX10_orders 66 = .ok (.iload_n 2, 1) := by decide +kernel
theorem dX10_orders_67 : decode cX10_orders 67 = .ok (.iastore, 1) := by decide +kernel
theorem dX10_orders_68 : decode cX10_orders 68 = .ok (.iinc 1 1, 3) := by decide +kernel
theorem dX10_orders_71 : decode cX10_orders 71 = .ok (.iinc 2 1, 3) := by decide +kernel
theorem dX10_orders_74 : decode cX10_orders 74 = .ok (.goto (-70), 3) := by decide +kernel
theorem dX10_orders_77 : decode cX10_orders 77 = .ok (.iconst 0, 1) := by decide +kernel
theorem dX10_orders_78 : decode cX10_orders 78 = .ok (.istore_n 2, 1) := by decide +kernel
theorem dX10_orders_79 : decode cX10_orders 79 = .ok (.iload_n 2, 1) := by decide +kernel
theorem dX10_orders_80 : decode cX10_orders 80 = .ok (.iload_n 1, 1) := by decide +kernel
theorem dX10_orders_81 : decode cX10_orders 81 = .ok (.if_icmp .ge 21, 3) := by decide +kernel
theorem dX10_orders_84 : decode cX10_orders 84 = .ok (.aload_n 0, 1) := by decide +kernel
theorem dX10_orders_85 : decode cX10_orders 85 = .ok (.getfield 47, 3) := by decide +kernel
theorem dX10_orders_88 : decode cX10_orders 88 = .ok (.aload_n 0, 1) := by decide +kernel
theorem dX10_orders_89 : decode cX10_orders 89 = .ok (.getfield 44, 3) := by decide +kernel
theorem dX10_orders_92 : decode cX10_orders 92 = .ok (.iload_n 2, 1) := by decide +kernel
theorem dX10_orders_93 : decode cX10_orders 93 = .ok (.iaload, 1) := by decide +kernel
theorem dX10_orders_94 : decode cX10_orders 94 = .ok (.iload_n 2, 1) := by decide +kernel
theorem dX10_orders_95 : decode cX10_orders 95 = .ok (.iastore, 1) := by decide +kernel
theorem dX10_orders_96 : decode cX10_orders 96 = .ok (.iinc 2 1, 3) := by decide +kernel
theorem dX10_orders_99 : decode cX10_orders 99 = .ok (.goto (-20), 3) := by decide +kernel
theorem dX10_orders_102 : decode cX10_orders 102 = .ok (.return_, 1) := by decide +kernel
theorem dX10_weightAt_0 : decode cX10_weightAt 0 = .ok (.aload_n 0, 1) := by decide +kernel
theorem dX10_weightAt_1 : decode cX10_weightAt 1 = .ok (.getfield 44, 3) := by decide +kernel
theorem dX10_weightAt_4 : decode cX10_weightAt 4 = .ok (.iload_n 1, 1) := by decide +kernel
theorem dX10_weightAt_5 : decode cX10_weightAt 5 = .ok (.iaload, 1) := by decide +kernel
theorem dX10_weightAt_6 : decode cX10_weightAt 6 = .ok (.iconst 1, 1) := by decide +kernel
theorem dX10_weightAt_7 : decode cX10_weightAt 7 = .ok (.iadd, 1) := by decide +kernel
theorem dX10_weightAt_8 : decode cX10_weightAt 8 = .ok (.ldc 180, 2) := by decide +kernel
theorem dX10_weightAt_10 : decode cX10_weightAt 10 = .ok (.imul, 1) := by decide +kernel
theorem dX10_weightAt_11 : decode cX10_weightAt 11 = .ok (.ldc 181, 2) := by decide +kernel
theorem dX10_weightAt_13 : decode cX10_weightAt 13 = .ok (.irem, 1) := by decide +kernel
theorem dX10_weightAt_14 : decode cX10_weightAt 14 = .ok (.ireturn, 1) := by decide +kernel
theorem dX10_greatest_0 : decode cX10_greatest 0 = .ok (.iconst (-1), 1) := by decide +kernel
theorem dX10_greatest_1 : decode cX10_greatest 1 = .ok (.istore_n 3, 1) := by decide +kernel
theorem dX10_greatest_2 : decode cX10_greatest 2 = .ok (.iload_n 1, 1) := by decide +kernel
theorem dX10_greatest_3 : decode cX10_greatest 3 = .ok (.istore 4, 2) := by decide +kernel
theorem dX10_greatest_5 : decode cX10_greatest 5 = .ok (.iload 4, 2) := by decide +kernel
theorem dX10_greatest_7 : decode cX10_greatest 7 = .ok (.iload_n 2, 1) := by decide +kernel
theorem dX10_greatest_8 : decode cX10_greatest 8 = .ok (.if_icmp .ge 35, 3) := by decide +kernel
theorem dX10_greatest_11 : decode cX10_greatest 11 = .ok (.iload_n 3, 1) := by decide +kernel
theorem dX10_greatest_12 : decode cX10_greatest 12 = .ok (.iconst (-1), 1) := by decide +kernel
theorem dX10_greatest_13 : decode cX10_greatest 13 = .ok (.if_icmp .eq 17, 3) := by decide +kernel
theorem dX10_greatest_16 : decode cX10_greatest 16 = .ok (.aload_n 0, 1) := by decide +kernel
theorem dX10_greatest_17 : decode cX10_greatest 17 = .ok (.iload 4, 2) := by decide +kernel
theorem dX10_greatest_19 : decode cX10_greatest 19 = .ok (.invokevirtual 182, 3) := by decide +kernel
theorem dX10_greatest_22 : decode cX10_greatest 22 = .ok (.aload_n 0, 1) := by decide +kernel
theorem dX10_greatest_23 : decode cX10_greatest 23 = .ok (.iload_n 3, 1) := by decide +kernel
theorem dX10_greatest_24 : decode cX10_greatest 24 = .ok (.invokevirtual 182, 3) := by decide +kernel
theorem dX10_greatest_27 : decode cX10_greatest 27 = .ok (.if_icmp .le 8, 3) := by decide +kernel
theorem dX10_greatest_30 : decode cX10_greatest 30 = .ok (.iload 4, 2) := by decide +kernel
theorem dX10_greatest_32 : decode cX10_greatest 32 = .ok (.goto 4, 3) := by decide +kernel
theorem dX10_greatest_35 : decode cX10_greatest 35 = .ok (.iload_n 3, 1) := by decide +kernel
theorem dX10_greatest_36 : decode cX10_greatest 36 = .ok (.istore_n 3, 1) := by decide +kernel
theorem dX10_greatest_37 : decode cX10_greatest 37 = .ok (.iinc 4 1, 3) := by decide +kernel
theorem dX10_greatest_40 : decode cX10_greatest 40 = .ok (.goto (-35), 3) := by decide +kernel
theorem dX10_greatest_43 : decode cX10_greatest 43 = .ok (.iload_n 3, 1) := by decide +kernel
theorem dX10_greatest_44 : decode cX10_greatest 44 = .ok (.ireturn, 1) := by decide +kernel
theorem dX10_hangs_0 : decode cX10_hangs 0 = .ok (.aload_n 0, 1) := by decide +kernel
theorem dX10_hangs_1 : decode cX10_hangs 1 = .ok (.iload_n 2, 1) := by decide +kernel
theorem dX10_hangs_2 : decode cX10_hangs 2 = .ok (.iload_n 3, 1) := by decide +kernel
theorem dX10_hangs_3 : decode cX10_hangs 3 = .ok (.invokevirtual 185, 3) := by decide +kernel
theorem dX10_hangs_6 : decode cX10_hangs 6 = .ok (.istore 5, 2) := by decide +kernel
theorem dX10_hangs_8 : decode cX10_hangs 8 = .ok (.iload 5, 2) := by decide +kernel
theorem dX10_hangs_10 : decode cX10_hangs 10 = .ok (.iconst (-1), 1) := by decide +kernel
theorem dX10_hangs_11 : decode cX10_hangs 11 = .ok (.if_icmp .eq 36, 3) := by decide +kernel
theorem dX10_hangs_14 : decode cX10_hangs 14 = .ok (.aload_n 0, 1) := by decide +kernel
theorem dX10_hangs_15 : decode cX10_hangs 15 = .ok (.getfield 53, 3) := by decide +kernel
theorem dX10_hangs_18 : decode cX10_hangs 18 = .ok (.iload 5, 2) := by decide +kernel
theorem dX10_hangs_20 : decode cX10_hangs 20 = .ok (.iload_n 1, 1) := by decide +kernel
theorem dX10_hangs_21 : decode cX10_hangs 21 = .ok (.iastore, 1) := by decide +kernel
theorem dX10_hangs_22 : decode cX10_hangs 22 = .ok (.aload_n 0, 1) := by decide +kernel
theorem dX10_hangs_23 : decode cX10_hangs 23 = .ok (.getfield 74, 3) := by decide +kernel
theorem dX10_hangs_26 : decode cX10_hangs 26 = .ok (.iload 5, 2) := by decide +kernel
theorem dX10_hangs_28 : decode cX10_hangs 28 = .ok (.iload_n 2, 1) := by decide +kernel
theorem dX10_hangs_29 : decode cX10_hangs 29 = .ok (.iastore, 1) := by decide +kernel
theorem dX10_hangs_30 : decode cX10_hangs 30 = .ok (.aload_n 0, 1) := by decide +kernel
theorem dX10_hangs_31 : decode cX10_hangs 31 = .ok (.getfield 77, 3) := by decide +kernel
theorem dX10_hangs_34 : decode cX10_hangs 34 = .ok (.iload 5, 2) := by decide +kernel
theorem dX10_hangs_36 : decode cX10_hangs 36 = .ok (.iload_n 3, 1) := by decide +kernel
theorem dX10_hangs_37 : decode cX10_hangs 37 = .ok (.iastore, 1) := by decide +kernel
theorem dX10_hangs_38 : decode cX10_hangs 38 = .ok (.aload_n 0, 1) := by decide +kernel
theorem dX10_hangs_39 : decode cX10_hangs 39 = .ok (.getfield 62, 3) := by decide +kernel
theorem dX10_hangs_42 : decode cX10_hangs 42 = .ok (.iload 5, 2) := by decide +kernel
theorem dX10_hangs_44 : decode cX10_hangs 44 = .ok (.iload 4, 2) := by decide +kernel
theorem dX10_hangs_46 : decode cX10_hangs 46 = .ok (.iastore, 1) := by decide +kernel
theorem dX10_hangs_47 : decode cX10_hangs 47 = .ok (.iload 5, 2) := by decide +kernel
theorem dX10_hangs_49 : decode cX10_hangs 49 = .ok (.ireturn, 1) := by decide +kernel
theorem dX10_grows_0 : decode cX10_grows 0 = .ok (.aload_n 0, 1) := by decide +kernel
theorem dX10_grows_1 : decode cX10_grows 1 = .ok (.invokevirtual 188, 3) := by decide +kernel
theorem dX10_grows_4 : decode cX10_grows 4 = .ok (.iconst 0, 1) := by decide +kernel
theorem dX10_grows_5 : decode cX10_grows 5 = .ok (.istore_n 1, 1) := by decide +kernel
theorem dX10_grows_6 : decode cX10_grows 6 = .ok (.aload_n 0, 1) := by decide +kernel
theorem dX10_grows_7 : decode cX10_grows 7 = .ok (.getfield 142, 3) := by decide +kernel
theorem dX10_grows_10 : decode cX10_grows 10 = .ok (.ifCond .le 22, 3) := by decide +kernel
theorem dX10_grows_13 : decode cX10_grows 13 = .ok (.aload_n 0, 1) := by decide +kernel
theorem dX10_grows_14 : decode cX10_grows 14 = .ok (.getfield 50, 3) := by decide +kernel
theorem dX10_grows_17 : decode cX10_grows 17 = .ok (.iconst 0, 1) := by decide +kernel
theorem dX10_grows_18 : decode cX10_grows 18 = .ok (.aload_n 0, 1) := by decide +kernel
theorem dX10_grows_19 : decode cX10_grows 19 = .ok (.iconst (-1), 1) := by decide +kernel
theorem dX10_grows_20 : decode cX10_grows 20 = .ok (.iconst 0, 1) := by decide +kernel
theorem dX10_grows_21 : decode cX10_grows 21 = .ok (.aload_n 0, 1) := by decide +kernel
theorem dX10_grows_22 : decode cX10_grows 22 = .ok (.getfield 142, 3) := by decide +kernel
theorem dX10_grows_25 : decode cX10_grows 25 = .ok (.iconst 0, 1) := by decide +kernel
theorem dX10_grows_26 : decode cX10_grows 26 = .ok (.invokevirtual 191, 3) := by decide +kernel
theorem dX10_grows_29 : decode cX10_grows 29 = .ok (.iastore, 1) := by decide +kernel
theorem dX10_grows_30 : decode cX10_grows 30 = .ok (.iconst 1, 1) := by decide +kernel
theorem dX10_grows_31 : decode cX10_grows 31 = .ok (.istore_n 1, 1) := by decide +kernel
theorem dX10_grows_32 : decode cX10_grows 32 = .ok (.iconst 0, 1) := by decide +kernel
theorem dX10_grows_33 : decode cX10_grows 33 = .ok (.istore_n 2, 1) := by decide +kernel
theorem dX10_grows_34 : decode cX10_grows 34 = .ok (.iload_n 2, 1) := by decide +kernel
theorem dX10_grows_35 : decode cX10_grows 35 = .ok (.iload_n 1, 1) := by decide +kernel
theorem dX10_grows_36 : decode cX10_grows 36 = .ok (.if_icmp .ge 120, 3) := by decide +kernel
theorem dX10_grows_39 : decode cX10_grows 39 = .ok (.aload_n 0, 1) := by decide +kernel
theorem dX10_grows_40 : decode cX10_grows 40 = .ok (.getfield 50, 3) := by decide +kernel
theorem dX10_grows_43 : decode cX10_grows 43 = .ok (.iload_n 2, 1) := by decide +kernel
theorem dX10_grows_44 : decode cX10_grows 44 = .ok (.iaload, 1) := by decide +kernel
theorem dX10_grows_45 : decode cX10_grows 45 = .ok (.istore_n 3, 1) := by decide +kernel
theorem dX10_grows_46 : decode cX10_grows 46 = .ok (.aload_n 0, 1) := by decide +kernel
theorem dX10_grows_47 : decode cX10_grows 47 = .ok (.getfield 56, 3) := by decide +kernel
theorem dX10_grows_50 : decode cX10_grows 50 = .ok (.iload_n 3, 1) := by decide +kernel
theorem dX10_grows_51 : decode cX10_grows 51 = .ok (.aload_n 0, 1) := by decide +kernel
theorem dX10_grows_52 : decode cX10_grows 52 = .ok (.iload_n 3, 1) := by decide +kernel
theorem dX10_grows_53 : decode cX10_grows 53 = .ok (.aload_n 0, 1) := by decide +kernel
theorem dX10_grows_54 : decode cX10_grows 54 = .ok (.getfield 74, 3) := by decide +kernel
theorem dX10_grows_57 : decode cX10_grows 57 = .ok (.iload_n 3, 1) := by decide +kernel
theorem dX10_grows_58 : decode cX10_grows 58 = .ok (.iaload, 1) := by decide +kernel
theorem dX10_grows_59 : decode cX10_grows 59 = .ok (.iload_n 3, 1) := by decide +kernel
theorem dX10_grows_60 : decode cX10_grows 60 = .ok (.aload_n 0, 1) := by decide +kernel
theorem dX10_grows_61 : decode cX10_grows 61 = .ok (.getfield 62, 3) := by decide +kernel
theorem dX10_grows_64 : decode cX10_grows 64 = .ok (.iload_n 3, 1) := by decide +kernel
theorem dX10_grows_65 : decode cX10_grows 65 = .ok (.iaload, 1) := by decide +kernel
theorem dX10_grows_66 : decode cX10_grows 66 = .ok (.iconst 1, 1) := by decide +kernel
theorem dX10_grows_67 : decode cX10_grows 67 = .ok (.iadd, 1) := by decide +kernel
theorem dX10_grows_68 : decode cX10_grows 68 = .ok (.invokevirtual 191, 3) := by decide +kernel
theorem dX10_grows_71 : decode cX10_grows 71 = .ok (.iastore, 1) := by decide +kernel
theorem dX10_grows_72 : decode cX10_grows 72 = .ok (.aload_n 0, 1) := by decide +kernel
theorem dX10_grows_73 : decode cX10_grows 73 = .ok (.getfield 59, 3) := by decide +kernel
theorem dX10_grows_76 : decode cX10_grows 76 = .ok (.iload_n 3, 1) := by decide +kernel
theorem dX10_grows_77 : decode cX10_grows 77 = .ok (.aload_n 0, 1) := by decide +kernel
theorem dX10_grows_78 : decode cX10_grows 78 = .ok (.iload_n 3, 1) := by decide +kernel
theorem dX10_grows_79 : decode cX10_grows 79 = .ok (.iload_n 3, 1) := by decide +kernel
theorem dX10_grows_80 : decode cX10_grows 80 = .ok (.iconst 1, 1) := by decide +kernel
theorem dX10_grows_81 : decode cX10_grows 81 = .ok (.iadd, 1) := by decide +kernel
theorem dX10_grows_82 : decode cX10_grows 82 = .ok (.aload_n 0, 1) := by decide +kernel
theorem dX10_grows_83 : decode cX10_grows 83 = .ok (.getfield 77, 3) := by decide +kernel
theorem dX10_grows_86 : decode cX10_grows 86 = .ok (.iload_n 3, 1) := by decide +kernel
theorem dX10_grows_87 : decode cX10_grows 87 = .ok (.iaload, 1) := by decide +kernel
theorem dX10_grows_88 : decode cX10_grows 88 = .ok (.aload_n 0, 1) := by decide +kernel
theorem dX10_grows_89 : decode cX10_grows 89 = .ok (.getfield 62, 3) := by decide +kernel
theorem dX10_grows_92 : decode cX10_grows 92 = .ok (.iload_n 3, 1) := by decide +kernel
theorem dX10_grows_93 : decode cX10_grows 93 = .ok (.iaload, 1) := by decide +kernel
theorem dX10_grows_94 : decode cX10_grows 94 = .ok (.iconst 1, 1) := by decide +kernel
theorem dX10_grows_95 : decode cX10_grows 95 = .ok (.iadd, 1) := by decide +kernel
theorem dX10_grows_96 : decode cX10_grows 96 = .ok (.invokevirtual 191, 3) := by decide +kernel
theorem dX10_grows_99 : decode cX10_grows 99 = .ok (.iastore, 1) := by decide +kernel
theorem dX10_grows_100 : decode cX10_grows 100 = .ok (.aload_n 0, 1) := by decide +kernel
theorem dX10_grows_101 : decode cX10_grows 101 = .ok (.getfield 56, 3) := by decide +kernel
theorem dX10_grows_104 : decode cX10_grows 104 = .ok (.iload_n 3, 1) := by decide +kernel
theorem dX10_grows_105 : decode cX10_grows 105 = .ok (.iaload, 1) := by decide +kernel
theorem dX10_grows_106 : decode cX10_grows 106 = .ok (.iconst (-1), 1) := by decide +kernel
theorem dX10_grows_107 : decode cX10_grows 107 = .ok (.if_icmp .eq 18, 3) := by decide +kernel
theorem dX10_grows_110 : decode cX10_grows 110 = .ok (.aload_n 0, 1) := by decide +kernel
theorem dX10_grows_111 : decode cX10_grows 111 = .ok (.getfield 50, 3) := by decide +kernel
theorem dX10_grows_114 : decode cX10_grows 114 = .ok (.iload_n 1, 1) := by decide +kernel
theorem dX10_grows_115 : decode cX10_grows 115 = .ok (.aload_n 0, 1) := by decide +kernel
theorem dX10_grows_116 : decode cX10_grows 116 = .ok (.getfield 56, 3) := by decide +kernel
theorem dX10_grows_119 : decode cX10_grows 119 = .ok (.iload_n 3, 1) := by decide +kernel
theorem dX10_grows_120 : decode cX10_grows 120 = .ok (.iaload, 1) := by decide +kernel
theorem dX10_grows_121 : decode cX10_grows 121 = .ok (.iastore, 1) := by decide +kernel
theorem dX10_grows_122 : decode cX10_grows 122 = .ok (.iinc 1 1, 3) := by decide +kernel
theorem dX10_grows_125 : decode cX10_grows 125 = .ok (.aload_n 0, 1) := by decide +kernel
theorem dX10_grows_126 : decode cX10_grows 126 = .ok (.getfield 59, 3) := by decide +kernel
theorem dX10_grows_129 : decode cX10_grows 129 = .ok (.iload_n 3, 1) := by decide +kernel
theorem dX10_grows_130 : decode cX10_grows 130 = .ok (.iaload, 1) := by decide +kernel
theorem dX10_grows_131 : decode cX10_grows 131 = .ok (.iconst (-1), 1) := by decide +kernel
theorem dX10_grows_132 : decode cX10_grows 132 = .ok (.if_icmp .eq 18, 3) := by decide +kernel
theorem dX10_grows_135 : decode cX10_grows 135 = .ok (.aload_n 0, 1) := by decide +kernel
theorem dX10_grows_136 : decode cX10_grows 136 = .ok (.getfield 50, 3) := by decide +kernel
theorem dX10_grows_139 : decode cX10_grows 139 = .ok (.iload_n 1, 1) := by decide +kernel
theorem dX10_grows_140 : decode cX10_grows 140 = .ok (.aload_n 0, 1) := by decide +kernel
theorem dX10_grows_141 : decode cX10_grows 141 = .ok (.getfield 59, 3) := by decide +kernel
theorem dX10_grows_144 : decode cX10_grows 144 = .ok (.iload_n 3, 1) := by decide +kernel
theorem dX10_grows_145 : decode cX10_grows 145 = .ok (.iaload, 1) := by decide +kernel
theorem dX10_grows_146 : decode cX10_grows 146 = .ok (.iastore, 1) := by decide +kernel
theorem dX10_grows_147 : decode cX10_grows 147 = .ok (.iinc 1 1, 3) := by decide +kernel
theorem dX10_grows_150 : decode cX10_grows 150 = .ok (.iinc 2 1, 3) := by decide +kernel
theorem dX10_grows_153 : decode cX10_grows 153 = .ok (.goto (-119), 3) := by decide +kernel
theorem dX10_grows_156 : decode cX10_grows 156 = .ok (.iload_n 1, 1) := by decide +kernel
theorem dX10_grows_157 : decode cX10_grows 157 = .ok (.iconst 1, 1) := by decide +kernel
theorem dX10_grows_158 : decode cX10_grows 158 = .ok (.isub, 1) := by decide +kernel
theorem dX10_grows_159 : decode cX10_grows 159 = .ok (.istore_n 2, 1) := by decide +kernel
theorem dX10_grows_160 : decode cX10_grows 160 = .ok (.iload_n 2, 1) := by decide +kernel
theorem dX10_grows_161 : decode cX10_grows 161 = .ok (.ifCond .lt 19, 3) := by decide +kernel
theorem dX10_grows_164 : decode cX10_grows 164 = .ok (.aload_n 0, 1) := by decide +kernel
theorem dX10_grows_165 : decode cX10_grows 165 = .ok (.aload_n 0, 1) := by decide +kernel
theorem dX10_grows_166 : decode cX10_grows 166 = .ok (.getfield 50, 3) := by decide +kernel
theorem dX10_grows_169 : decode cX10_grows 169 = .ok (.iload_n 2, 1) := by decide +kernel
theorem dX10_grows_170 : decode cX10_grows 170 = .ok (.iaload, 1) := by decide +kernel
theorem dX10_grows_171 : decode cX10_grows 171 = .ok (.invokevirtual 195, 3) := by decide +kernel
theorem dX10_grows_174 : decode cX10_grows 174 = .ok (.iinc 2 (-1), 3) := by decide +kernel
theorem dX10_grows_177 : decode cX10_grows 177 = .ok (.goto (-17), 3) := by decide +kernel
theorem dX10_grows_180 : decode cX10_grows 180 = .ok (.return_, 1) := by decide +kernel
theorem dX10_sums_0 : decode cX10_sums 0 = .ok (.aload_n 0, 1) := by decide +kernel
theorem dX10_sums_1 : decode cX10_sums 1 = .ok (.getfield 65, 3) := by decide +kernel
theorem dX10_sums_4 : decode cX10_sums 4 = .ok (.iload_n 1, 1) := by decide +kernel
theorem dX10_sums_5 : decode cX10_sums 5 = .ok (.iconst 1, 1) := by decide +kernel
theorem dX10_sums_6 : decode cX10_sums 6 = .ok (.iastore, 1) := by decide +kernel
theorem dX10_sums_7 : decode cX10_sums 7 = .ok (.aload_n 0, 1) := by decide +kernel
theorem dX10_sums_8 : decode cX10_sums 8 = .ok (.getfield 68, 3) := by decide +kernel
theorem dX10_sums_11 : decode cX10_sums 11 = .ok (.iload_n 1, 1) := by decide +kernel
theorem dX10_sums_12 : decode cX10_sums 12 = .ok (.iconst 1, 1) := by decide +kernel
theorem dX10_sums_13 : decode cX10_sums 13 = .ok (.iastore, 1) := by decide +kernel
theorem dX10_sums_14 : decode cX10_sums 14 = .ok (.aload_n 0, 1) := by decide +kernel
theorem dX10_sums_15 : decode cX10_sums 15 = .ok (.getfield 71, 3) := by decide +kernel
theorem dX10_sums_18 : decode cX10_sums 18 = .ok (.iload_n 1, 1) := by decide +kernel
theorem dX10_sums_19 : decode cX10_sums 19 = .ok (.aload_n 0, 1) := by decide +kernel
theorem dX10_sums_20 : decode cX10_sums 20 = .ok (.getfield 29, 3) := by decide +kernel
theorem dX10_sums_23 : decode cX10_sums 23 = .ok (.aload_n 0, 1) := by decide +kernel
theorem dX10_sums_24 : decode cX10_sums 24 = .ok (.getfield 44, 3) := by decide +kernel
theorem dX10_sums_27 : decode cX10_sums 27 = .ok (.iload_n 1, 1) := by decide +kernel
theorem dX10_sums_28 : decode cX10_sums 28 = .ok (.iaload, 1) := by decide +kernel
theorem dX10_sums_29 : decode cX10_sums 29 = .ok (.iaload, 1) := by decide +kernel
theorem dX10_sums_30 : decode cX10_sums 30 = .ok (.iastore, 1) := by decide +kernel
theorem dX10_sums_31 : decode cX10_sums 31 = .ok (.iconst 0, 1) := by decide +kernel
theorem dX10_sums_32 : decode cX10_sums 32 = .ok (.istore_n 2, 1) := by decide +kernel
theorem dX10_sums_33 : decode cX10_sums 33 = .ok (.iload_n 2, 1) := by decide +kernel
theorem dX10_sums_34 : decode cX10_sums 34 = .ok (.iconst 2, 1) := by decide +kernel
theorem dX10_sums_35 : decode cX10_sums 35 = .ok (.if_icmp .ge 93, 3) := by decide +kernel
theorem dX10_sums_38 : decode cX10_sums 38 = .ok (.iload_n 2, 1) := by decide +kernel
theorem dX10_sums_39 : decode cX10_sums 39 = .ok (.ifCond .ne 12, 3) := by decide +kernel
theorem dX10_sums_42 : decode cX10_sums 42 = .ok (.aload_n 0, 1) := by decide +kernel
theorem dX10_sums_43 : decode cX10_sums 43 = .ok (.getfield 56, 3) := by decide +kernel
theorem dX10_sums_46 : decode cX10_sums 46 = .ok (.iload_n 1, 1) := by decide +kernel
theorem dX10_sums_47 : decode cX10_sums 47 = .ok (.iaload, 1) := by decide +kernel
theorem dX10_sums_48 : decode cX10_sums 48 = .ok (.goto 9, 3) := by decide +kernel
theorem dX10_sums_51 : decode cX10_sums 51 = .ok (.aload_n 0, 1) := by decide +kernel
theorem dX10_sums_52 : decode cX10_sums 52 = .ok (.getfield 59, 3) := by decide +kernel
theorem dX10_sums_55 : decode cX10_sums 55 = .ok (.iload_n 1, 1) := by decide +kernel
theorem dX10_sums_56 : decode cX10_sums 56 = .ok (.iaload, 1) := by decide +kernel
theorem dX10_sums_57 : decode cX10_sums 57 = .ok (.istore_n 3, 1) := by decide +kernel
theorem dX10_sums_58 : decode cX10_sums 58 = .ok (.iload_n 3, 1) := by decide +kernel
theorem dX10_sums_59 : decode cX10_sums 59 = .ok (.iconst (-1), 1) := by decide +kernel
theorem dX10_sums_60 : decode cX10_sums 60 = .ok (.if_icmp .eq 62, 3) := by decide +kernel
theorem dX10_sums_63 : decode cX10_sums 63 = .ok (.aload_n 0, 1) := by decide +kernel
theorem dX10_sums_64 : decode cX10_sums 64 = .ok (.getfield 65, 3) := by decide +kernel
theorem dX10_sums_67 : decode cX10_sums 67 = .ok (.iload_n 1, 1) := by decide +kernel
theorem dX10_sums_68 : decode cX10_sums 68 = .ok (.dup2, 1) := by decide +kernel
theorem dX10_sums_69 : decode cX10_sums 69 = .ok (.iaload, 1) := by decide +kernel
theorem dX10_sums_70 : decode cX10_sums 70 = .ok (.aload_n 0, 1) := by decide +kernel
theorem dX10_sums_71 : decode cX10_sums 71 = .ok (.getfield 65, 3) := by decide +kernel
theorem dX10_sums_74 : decode cX10_sums 74 = .ok (.iload_n 3, 1) := by decide +kernel
theorem dX10_sums_75 : decode cX10_sums 75 = .ok (.iaload, 1) := by decide +kernel
theorem dX10_sums_76 : decode cX10_sums 76 = .ok (.iadd, 1) := by decide +kernel
theorem dX10_sums_77 : decode cX10_sums 77 = .ok (.iastore, 1) := by decide +kernel
theorem dX10_sums_78 : decode cX10_sums 78 = .ok (.aload_n 0, 1) := by decide +kernel
theorem dX10_sums_79 : decode cX10_sums 79 = .ok (.getfield 68, 3) := by decide +kernel
theorem dX10_sums_82 : decode cX10_sums 82 = .ok (.iload_n 1, 1) := by decide +kernel
theorem dX10_sums_83 : decode cX10_sums 83 = .ok (.aload_n 0, 1) := by decide +kernel
theorem dX10_sums_84 : decode cX10_sums 84 = .ok (.getfield 68, 3) := by decide +kernel
theorem dX10_sums_87 : decode cX10_sums 87 = .ok (.iload_n 3, 1) := by decide +kernel
theorem dX10_sums_88 : decode cX10_sums 88 = .ok (.iaload, 1) := by decide +kernel
theorem dX10_sums_89 : decode cX10_sums 89 = .ok (.iconst 1, 1) := by decide +kernel
theorem dX10_sums_90 : decode cX10_sums 90 = .ok (.iadd, 1) := by decide +kernel
theorem dX10_sums_91 : decode cX10_sums 91 = .ok (.aload_n 0, 1) := by decide +kernel
theorem dX10_sums_92 : decode cX10_sums 92 = .ok (.getfield 68, 3) := by decide +kernel
theorem dX10_sums_95 : decode cX10_sums 95 = .ok (.iload_n 1, 1) := by decide +kernel
theorem dX10_sums_96 : decode cX10_sums 96 = .ok (.iaload, 1) := by decide +kernel
theorem dX10_sums_97 : decode cX10_sums 97 = .ok (.invokestatic 198, 3) := by decide +kernel
theorem dX10_sums_100 : decode cX10_sums 100 = .ok (.iastore, 1) := by decide +kernel
theorem dX10_sums_101 : decode cX10_sums 101 = .ok (.aload_n 0, 1) := by decide +kernel
theorem dX10_sums_102 : decode cX10_sums 102 = .ok (.getfield 71, 3) := by decide +kernel
theorem dX10_sums_105 : decode cX10_sums 105 = .ok (.iload_n 1, 1) := by decide +kernel
theorem dX10_sums_106 : decode cX10_sums 106 = .ok (.aload_n 0, 1) := by decide +kernel
theorem dX10_sums_107 : decode cX10_sums 107 = .ok (.getfield 71, 3) := by decide +kernel
theorem dX10_sums_110 : decode cX10_sums 110 = .ok (.iload_n 3, 1) := by decide +kernel
theorem dX10_sums_111 : decode cX10_sums 111 = .ok (.iaload, 1) := by decide +kernel
theorem dX10_sums_112 : decode cX10_sums 112 = .ok (.aload_n 0, 1) := by decide +kernel
theorem dX10_sums_113 : decode cX10_sums 113 = .ok (.getfield 71, 3) := by decide +kernel
theorem dX10_sums_116 : decode cX10_sums 116 = .ok (.iload_n 1, 1) := by decide +kernel
theorem dX10_sums_117 : decode cX10_sums 117 = .ok (.iaload, 1) := by decide +kernel
theorem dX10_sums_118 : decode cX10_sums 118 = .ok (.invokestatic 198, 3) := by decide +kernel
theorem dX10_sums_121 : decode cX10_sums 121 = .ok (.iastore, 1) := by decide +kernel
theorem dX10_sums_122 : decode cX10_sums 122 = .ok (.iinc 2 1, 3) := by decide +kernel
theorem dX10_sums_125 : decode cX10_sums 125 = .ok (.goto (-92), 3) := by decide +kernel
theorem dX10_sums_128 : decode cX10_sums 128 = .ok (.return_, 1) := by decide +kernel
theorem dX10_rank_0 : decode cX10_rank 0 = .ok (.aload_n 0, 1) := by decide +kernel
theorem dX10_rank_1 : decode cX10_rank 1 = .ok (.invokevirtual 188, 3) := by decide +kernel
theorem dX10_rank_4 : decode cX10_rank 4 = .ok (.iload_n 1, 1) := by decide +kernel
theorem dX10_rank_5 : decode cX10_rank 5 = .ok (.invokestatic 145, 3) := by decide +kernel
theorem dX10_rank_8 : decode cX10_rank 8 = .ok (.ifCond .ne 8, 3) := by decide +kernel
theorem dX10_rank_11 : decode cX10_rank 11 = .ok (.bipush (-2), 2) := by decide +kernel
theorem dX10_rank_13 : decode cX10_rank 13 = .ok (.goto 23, 3) := by decide +kernel
theorem dX10_rank_16 : decode cX10_rank 16 = .ok (.aload_n 0, 1) := by decide +kernel
theorem dX10_rank_17 : decode cX10_rank 17 = .ok (.getfield 22, 3) := by decide +kernel
theorem dX10_rank_20 : decode cX10_rank 20 = .ok (.iload_n 1, 1) := by decide +kernel
theorem dX10_rank_21 : decode cX10_rank 21 = .ok (.baload, 1) := by decide +kernel
theorem dX10_rank_22 : decode cX10_rank 22 = .ok (.ifCond .eq 12, 3) := by decide +kernel
theorem dX10_rank_25 : decode cX10_rank 25 = .ok (.aload_n 0, 1) := by decide +kernel
theorem dX10_rank_26 : decode cX10_rank 26 = .ok (.getfield 47, 3) := by decide +kernel
theorem dX10_rank_29 : decode cX10_rank 29 = .ok (.iload_n 1, 1) := by decide +kernel
theorem dX10_rank_30 : decode cX10_rank 30 = .ok (.iaload, 1) := by decide +kernel
theorem dX10_rank_31 : decode cX10_rank 31 = .ok (.goto 5, 3) := by decide +kernel
theorem dX10_rank_34 : decode cX10_rank 34 = .ok (.bipush (-3), 2) := by decide +kernel
theorem dX10_rank_36 : decode cX10_rank 36 = .ok (.ireturn, 1) := by decide +kernel
theorem dX10_keyAt_0 : decode cX10_keyAt 0 = .ok (.iload_n 1, 1) := by decide +kernel
theorem dX10_keyAt_1 : decode cX10_keyAt 1 = .ok (.iconst (-1), 1) := by decide +kernel
theorem dX10_keyAt_2 : decode cX10_keyAt 2 = .ok (.if_icmp .eq 11, 3) := by decide +kernel
theorem dX10_keyAt_5 : decode cX10_keyAt 5 = .ok (.iload_n 1, 1) := by decide +kernel
theorem dX10_keyAt_6 : decode cX10_keyAt 6 = .ok (.aload_n 0, 1) := by decide +kernel
theorem dX10_keyAt_7 : decode cX10_keyAt 7 = .ok (.getfield 142, 3) := by decide +kernel
theorem dX10_keyAt_10 : decode cX10_keyAt 10 = .ok (.if_icmp .lt 7, 3) := by decide +kernel
theorem dX10_keyAt_13 : decode cX10_keyAt 13 = .ok (.iconst (-1), 1) := by decide +kernel
theorem dX10_keyAt_14 : decode cX10_keyAt 14 = .ok (.goto 9, 3) := by decide +kernel
theorem dX10_keyAt_17 : decode cX10_keyAt 17 = .ok (.aload_n 0, 1) := by decide +kernel
theorem dX10_keyAt_18 : decode cX10_keyAt 18 = .ok (.getfield 44, 3) := by decide +kernel
theorem dX10_keyAt_21 : decode cX10_keyAt 21 = .ok (.iload_n 1, 1) := by decide +kernel
theorem dX10_keyAt_22 : decode cX10_keyAt 22 = .ok (.iaload, 1) := by decide +kernel
theorem dX10_keyAt_23 : decode cX10_keyAt 23 = .ok (.ireturn, 1) := by decide +kernel
theorem dX10_ranked_0 : decode cX10_ranked 0 = .ok (.aload_n 0, 1) := by decide +kernel
theorem dX10_ranked_1 : decode cX10_ranked 1 = .ok (.invokevirtual 188, 3) := by decide +kernel
theorem dX10_ranked_4 : decode cX10_ranked 4 = .ok (.iload_n 1, 1) := by decide +kernel
theorem dX10_ranked_5 : decode cX10_ranked 5 = .ok (.i2l, 1) := by decide +kernel
theorem dX10_ranked_6 : decode cX10_ranked 6 = .ok (.lconst 0, 1) := by decide +kernel
theorem dX10_ranked_7 : decode cX10_ranked 7 = .ok (.ldc2_w 130, 3) := by decide +kernel
theorem dX10_ranked_10 : decode cX10_ranked 10 = .ok (.invokestatic 101, 3) := by decide +kernel
theorem dX10_ranked_13 : decode cX10_ranked 13 = .ok (.ifCond .eq 11, 3) := by decide +kernel
theorem dX10_ranked_16 : decode cX10_ranked 16 = .ok (.aload_n 0, 1) := by decide +kernel
theorem dX10_ranked_17 : decode cX10_ranked 17 = .ok (.iload_n 1, 1) := by decide +kernel
theorem dX10_ranked_18 : decode cX10_ranked 18 = .ok (.invokevirtual 201, 3) := by decide +kernel
theorem dX10_ranked_21 : decode cX10_ranked 21 = .ok (.goto 5, 3) := by decide +kernel
theorem dX10_ranked_24 : decode cX10_ranked 24 = .ok (.bipush (-2), 2) := by decide +kernel
theorem dX10_ranked_26 : decode cX10_ranked 26 = .ok (.ireturn, 1) := by decide +kernel
theorem dX10_root_0 : decode cX10_root 0 = .ok (.aload_n 0, 1) := by decide +kernel
theorem dX10_root_1 : decode cX10_root 1 = .ok (.invokevirtual 204, 3) := by decide +kernel
theorem dX10_root_4 : decode cX10_root 4 = .ok (.aload_n 0, 1) := by decide +kernel
theorem dX10_root_5 : decode cX10_root 5 = .ok (.getfield 142, 3) := by decide +kernel
theorem dX10_root_8 : decode cX10_root 8 = .ok (.ifCond .ne 7, 3) := by decide +kernel
theorem dX10_root_11 : decode cX10_root 11 = .ok (.iconst (-1), 1) := by decide +kernel
theorem dX10_root_12 : decode cX10_root 12 = .ok (.goto 14, 3) := by decide +kernel
theorem dX10_root_15 : decode cX10_root 15 = .ok (.aload_n 0, 1) := by decide +kernel
theorem dX10_root_16 : decode cX10_root 16 = .ok (.getfield 44, 3) := by decide +kernel
theorem dX10_root_19 : decode cX10_root 19 = .ok (.aload_n 0, 1) := by decide +kernel
theorem dX10_root_20 : decode cX10_root 20 = .ok (.getfield 50, 3) := by decide +kernel
theorem dX10_root_23 : decode cX10_root 23 = .ok (.iconst 0, 1) := by decide +kernel
theorem dX10_root_24 : decode cX10_root 24 = .ok (.iaload, 1) := by decide +kernel
theorem dX10_root_25 : decode cX10_root 25 = .ok (.iaload, 1) := by decide +kernel
theorem dX10_root_26 : decode cX10_root 26 = .ok (.ireturn, 1) := by decide +kernel
theorem dX10_treeBy_0 : decode cX10_treeBy 0 = .ok (.iload_n 2, 1) := by decide +kernel
theorem dX10_treeBy_1 : decode cX10_treeBy 1 = .ok (.tableswitch 82 0 4 #[35, 46, 57, 68, 75], 35) := by decide +kernel
theorem dX10_treeBy_36 : decode cX10_treeBy 36 = .ok (.aload_n 0, 1) := by decide +kernel
theorem dX10_treeBy_37 : decode cX10_treeBy 37 = .ok (.aload_n 0, 1) := by decide +kernel
theorem dX10_treeBy_38 : decode cX10_treeBy 38 = .ok (.getfield 53, 3) := by decide +kernel
theorem dX10_treeBy_41 : decode cX10_treeBy 41 = .ok (.iload_n 1, 1) := by decide +kernel
theorem dX10_treeBy_42 : decode cX10_treeBy 42 = .ok (.iaload, 1) := by decide +kernel
theorem dX10_treeBy_43 : decode cX10_treeBy 43 = .ok (.invokevirtual 201, 3) := by decide +kernel
theorem dX10_treeBy_46 : decode cX10_treeBy 46 = .ok (.ireturn, 1) := by decide +kernel
theorem dX10_treeBy_47 : decode cX10_treeBy 47 = .ok (.aload_n 0, 1) := by decide +kernel
theorem dX10_treeBy_48 : decode cX10_treeBy 48 = .ok (.aload_n 0, 1) := by decide +kernel
theorem dX10_treeBy_49 : decode cX10_treeBy 49 = .ok (.getfield 56, 3) := by decide +kernel
theorem dX10_treeBy_52 : decode cX10_treeBy 52 = .ok (.iload_n 1, 1) := by decide +kernel
theorem dX10_treeBy_53 : decode cX10_treeBy 53 = .ok (.iaload, 1) := by decide +kernel
theorem dX10_treeBy_54 : decode cX10_treeBy 54 = .ok (.invokevirtual 201, 3) := by decide +kernel
theorem dX10_treeBy_57 : decode cX10_treeBy 57 = .ok (.ireturn, 1) := by decide +kernel
theorem dX10_treeBy_58 : decode cX10_treeBy 58 = .ok (.aload_n 0, 1) := by decide +kernel
theorem dX10_treeBy_59 : decode cX10_treeBy 59 = .ok (.aload_n 0, 1) := by decide +kernel
theorem dX10_treeBy_60 : decode cX10_treeBy 60 = .ok (.getfield 59, 3) := by decide +kernel
theorem dX10_treeBy_63 : decode cX10_treeBy 63 = .ok (.iload_n 1, 1) := by decide +kernel
theorem dX10_treeBy_64 : decode cX10_treeBy 64 = .ok (.iaload, 1) := by decide +kernel
theorem dX10_treeBy_65 : decode cX10_treeBy 65 = .ok (.invokevirtual 201, 3) := by decide +kernel
theorem dX10_treeBy_68 : decode cX10_treeBy 68 = .ok (.ireturn, 1) := by decide +kernel
theorem dX10_treeBy_69 : decode cX10_treeBy 69 = .ok (.aload_n 0, 1) := by decide +kernel
theorem dX10_treeBy_70 : decode cX10_treeBy 70 = .ok (.getfield 62, 3) := by decide +kernel
theorem dX10_treeBy_73 : decode cX10_treeBy 73 = .ok (.iload_n 1, 1) := by decide +kernel
theorem dX10_treeBy_74 : decode cX10_treeBy 74 = .ok (.iaload, 1) := by decide +kernel
theorem dX10_treeBy_75 : decode cX10_treeBy 75 = .ok (.ireturn, 1) := by decide +kernel
theorem dX10_treeBy_76 : decode cX10_treeBy 76 = .ok (.aload_n 0, 1) := by decide +kernel
theorem dX10_treeBy_77 : decode cX10_treeBy 77 = .ok (.getfield 65, 3) := by decide +kernel
theorem dX10_treeBy_80 : decode cX10_treeBy 80 = .ok (.iload_n 1, 1) := by decide +kernel
theorem dX10_treeBy_81 : decode cX10_treeBy 81 = .ok (.iaload, 1) := by decide +kernel
theorem dX10_treeBy_82 : decode cX10_treeBy 82 = .ok (.ireturn, 1) := by decide +kernel
theorem dX10_treeBy_83 : decode cX10_treeBy 83 = .ok (.aload_n 0, 1) := by decide +kernel
theorem dX10_treeBy_84 : decode cX10_treeBy 84 = .ok (.getfield 68, 3) := by decide +kernel
theorem dX10_treeBy_87 : decode cX10_treeBy 87 = .ok (.iload_n 1, 1) := by decide +kernel
theorem dX10_treeBy_88 : decode cX10_treeBy 88 = .ok (.iaload, 1) := by decide +kernel
theorem dX10_treeBy_89 : decode cX10_treeBy 89 = .ok (.ireturn, 1) := by decide +kernel
theorem dX10_tree_0 : decode cX10_tree 0 = .ok (.aload_n 0, 1) := by decide +kernel
theorem dX10_tree_1 : decode cX10_tree 1 = .ok (.invokevirtual 204, 3) := by decide +kernel
theorem dX10_tree_4 : decode cX10_tree 4 = .ok (.iload_n 1, 1) := by decide +kernel
theorem dX10_tree_5 : decode cX10_tree 5 = .ok (.invokestatic 145, 3) := by decide +kernel
theorem dX10_tree_8 : decode cX10_tree 8 = .ok (.ifCond .eq 15, 3) := by decide +kernel
theorem dX10_tree_11 : decode cX10_tree 11 = .ok (.iload_n 2, 1) := by decide +kernel
theorem dX10_tree_12 : decode cX10_tree 12 = .ok (.i2l, 1) := by decide +kernel
theorem dX10_tree_13 : decode cX10_tree 13 = .ok (.lconst 0, 1) := by decide +kernel
theorem dX10_tree_14 : decode cX10_tree 14 = .ok (.ldc2_w 207, 3) := by decide +kernel
theorem dX10_tree_17 : decode cX10_tree 17 = .ok (.invokestatic 101, 3) := by decide +kernel
theorem dX10_tree_20 : decode cX10_tree 20 = .ok (.ifCond .ne 6, 3) := by decide +kernel
theorem dX10_tree_23 : decode cX10_tree 23 = .ok (.bipush (-2), 2) := by decide +kernel
theorem dX10_tree_25 : decode cX10_tree 25 = .ok (.ireturn, 1) := by decide +kernel
theorem dX10_tree_26 : decode cX10_tree 26 = .ok (.aload_n 0, 1) := by decide +kernel
theorem dX10_tree_27 : decode cX10_tree 27 = .ok (.getfield 22, 3) := by decide +kernel
theorem dX10_tree_30 : decode cX10_tree 30 = .ok (.iload_n 1, 1) := by decide +kernel
theorem dX10_tree_31 : decode cX10_tree 31 = .ok (.baload, 1) := by decide +kernel
theorem dX10_tree_32 : decode cX10_tree 32 = .ok (.ifCond .eq 17, 3) := by decide +kernel
theorem dX10_tree_35 : decode cX10_tree 35 = .ok (.aload_n 0, 1) := by decide +kernel
theorem dX10_tree_36 : decode cX10_tree 36 = .ok (.aload_n 0, 1) := by decide +kernel
theorem dX10_tree_37 : decode cX10_tree 37 = .ok (.getfield 47, 3) := by decide +kernel
theorem dX10_tree_40 : decode cX10_tree 40 = .ok (.iload_n 1, 1) := by decide +kernel
theorem dX10_tree_41 : decode cX10_tree 41 = .ok (.iaload, 1) := by decide +kernel
theorem dX10_tree_42 : decode cX10_tree 42 = .ok (.iload_n 2, 1) := by decide +kernel
theorem dX10_tree_43 : decode cX10_tree 43 = .ok (.invokevirtual 209, 3) := by decide +kernel
theorem dX10_tree_46 : decode cX10_tree 46 = .ok (.goto 5, 3) := by decide +kernel
theorem dX10_tree_49 : decode cX10_tree 49 = .ok (.bipush (-3), 2) := by decide +kernel
theorem dX10_tree_51 : decode cX10_tree 51 = .ok (.ireturn, 1) := by decide +kernel
theorem dX10_end_0 : decode cX10_end 0 = .ok (.aload_n 0, 1) := by decide +kernel
theorem dX10_end_1 : decode cX10_end 1 = .ok (.invokevirtual 204, 3) := by decide +kernel
theorem dX10_end_4 : decode cX10_end 4 = .ok (.aload_n 0, 1) := by decide +kernel
theorem dX10_end_5 : decode cX10_end 5 = .ok (.iload_n 1, 1) := by decide +kernel
theorem dX10_end_6 : decode cX10_end 6 = .ok (.invokevirtual 171, 3) := by decide +kernel
theorem dX10_end_9 : decode cX10_end 9 = .ok (.ifCond .eq 17, 3) := by decide +kernel
theorem dX10_end_12 : decode cX10_end 12 = .ok (.aload_n 0, 1) := by decide +kernel
theorem dX10_end_13 : decode cX10_end 13 = .ok (.getfield 71, 3) := by decide +kernel
theorem dX10_end_16 : decode cX10_end 16 = .ok (.aload_n 0, 1) := by decide +kernel
theorem dX10_end_17 : decode cX10_end 17 = .ok (.getfield 47, 3) := by decide +kernel
theorem dX10_end_20 : decode cX10_end 20 = .ok (.iload_n 1, 1) := by decide +kernel
theorem dX10_end_21 : decode cX10_end 21 = .ok (.iaload, 1) := by decide +kernel
theorem dX10_end_22 : decode cX10_end 22 = .ok (.iaload, 1) := by decide +kernel
theorem dX10_end_23 : decode cX10_end 23 = .ok (.goto 5, 3) := by decide +kernel
theorem dX10_end_26 : decode cX10_end 26 = .ok (.ldc 129, 2) := by decide +kernel
theorem dX10_end_28 : decode cX10_end 28 = .ok (.ireturn, 1) := by decide +kernel
theorem dX10_looksAt_0 : decode cX10_looksAt 0 = .ok (.iconst 0, 1) := by decide +kernel
theorem dX10_looksAt_1 : decode cX10_looksAt 1 = .ok (.istore_n 3, 1) := by decide +kernel
theorem dX10_looksAt_2 : decode cX10_looksAt 2 = .ok (.iconst 0, 1) := by decide +kernel
theorem dX10_looksAt_3 : decode cX10_looksAt 3 = .ok (.istore 4, 2) := by decide +kernel
theorem dX10_looksAt_5 : decode cX10_looksAt 5 = .ok (.aload_n 0, 1) := by decide +kernel
theorem dX10_looksAt_6 : decode cX10_looksAt 6 = .ok (.getfield 142, 3) := by decide +kernel
theorem dX10_looksAt_9 : decode cX10_looksAt 9 = .ok (.ifCond .le 17, 3) := by decide +kernel
theorem dX10_looksAt_12 : decode cX10_looksAt 12 = .ok (.aload_n 0, 1) := by decide +kernel
theorem dX10_looksAt_13 : decode cX10_looksAt 13 = .ok (.getfield 80, 3) := by decide +kernel
theorem dX10_looksAt_16 : decode cX10_looksAt 16 = .ok (.iconst 0, 1) := by decide +kernel
theorem dX10_looksAt_17 : decode cX10_looksAt 17 = .ok (.aload_n 0, 1) := by decide +kernel
theorem dX10_looksAt_18 : decode cX10_looksAt 18 = .ok (.getfield 50, 3) := by decide +kernel
theorem dX10_looksAt_21 : decode cX10_looksAt 21 = .ok (.iconst 0, 1) := by decide +kernel
theorem dX10_looksAt_22 : decode cX10_looksAt 22 = .ok (.iaload, 1) := by decide +kernel
theorem dX10_looksAt_23 : decode cX10_looksAt 23 = .ok (.iastore, 1) := by decide +kernel
theorem dX10_looksAt_24 : decode cX10_looksAt 24 = .ok (.iconst 1, 1) := by decide +kernel
theorem dX10_looksAt_25 : decode cX10_looksAt 25 = .ok (.istore_n 3, 1) := by decide +kernel
theorem dX10_looksAt_26 : decode cX10_looksAt 26 = .ok (.iconst 0, 1) := by decide +kernel
theorem dX10_looksAt_27 : decode cX10_looksAt 27 = .ok (.istore 5, 2) := by decide +kernel
theorem dX10_looksAt_29 : decode cX10_looksAt 29 = .ok (.iload 5, 2) := by decide +kernel
theorem dX10_looksAt_31 : decode cX10_looksAt 31 = .ok (.iload_n 3, 1) := by decide +kernel
theorem dX10_looksAt_32 : decode cX10_looksAt 32 = .ok (.if_icmp .ge 123, 3) := by decide +kernel
theorem dX10_looksAt_35 : decode cX10_looksAt 35 = .ok (.aload_n 0, 1) := by decide +kernel
theorem dX10_looksAt_36 : decode cX10_looksAt 36 = .ok (.getfield 80, 3) := by decide +kernel
theorem dX10_looksAt_39 : decode cX10_looksAt 39 = .ok (.iload 5, 2) := by decide +kernel
theorem dX10_looksAt_41 : decode cX10_looksAt 41 = .ok (.iaload, 1) := by decide +kernel
theorem dX10_looksAt_42 : decode cX10_looksAt 42 = .ok (.istore 6, 2) := by decide +kernel
theorem dX10_looksAt_44 : decode cX10_looksAt 44 = .ok (.iinc 4 1, 3) := by decide +kernel
theorem dX10_looksAt_47 : decode cX10_looksAt 47 = .ok (.aload_n 0, 1) := by decide +kernel
theorem dX10_looksAt_48 : decode cX10_looksAt 48 = .ok (.getfield 56, 3) := by decide +kernel
theorem dX10_looksAt_51 : decode cX10_looksAt 51 = .ok (.iload 6, 2) := by decide +kernel
theorem dX10_looksAt_53 : decode cX10_looksAt 53 = .ok (.iaload, 1) := by decide +kernel
theorem dX10_looksAt_54 : decode cX10_looksAt 54 = .ok (.iconst (-1), 1) := by decide +kernel
theorem dX10_looksAt_55 : decode cX10_looksAt 55 = .ok (.if_icmp .eq 35, 3) := by decide +kernel
theorem dX10_looksAt_58 : decode cX10_looksAt 58 = .ok (.aload_n 0, 1) := by decide +kernel
theorem dX10_looksAt_59 : decode cX10_looksAt 59 = .ok (.getfield 71, 3) := by decide +kernel
theorem dX10_looksAt_62 : decode cX10_looksAt 62 = .ok (.aload_n 0, 1) := by decide +kernel
theorem dX10_looksAt_63 : decode cX10_looksAt 63 = .ok (.getfield 56, 3) := by decide +kernel
theorem dX10_looksAt_66 : decode cX10_looksAt 66 = .ok (.iload 6, 2) := by decide +kernel
theorem dX10_looksAt_68 : decode cX10_looksAt 68 = .ok (.iaload, 1) := by decide +kernel
theorem dX10_looksAt_69 : decode cX10_looksAt 69 = .ok (.iaload, 1) := by decide +kernel
theorem dX10_looksAt_70 : decode cX10_looksAt 70 = .ok (.iload_n 1, 1) := by decide +kernel
theorem dX10_looksAt_71 : decode cX10_looksAt 71 = .ok (.if_icmp .le 19, 3) := by decide +kernel
theorem dX10_looksAt_74 : decode cX10_looksAt 74 = .ok (.aload_n 0, 1) := by decide +kernel
theorem dX10_looksAt_75 : decode cX10_looksAt 75 = .ok (.getfield 80, 3) := by decide +kernel
theorem dX10_looksAt_78 : decode cX10_looksAt 78 = .ok (.iload_n 3, 1) := by decide +kernel
theorem dX10_looksAt_79 : decode cX10_looksAt 79 = .ok (.aload_n 0, 1) := by decide +kernel
theorem dX10_looksAt_80 : decode cX10_looksAt 80 = .ok (.getfield 56, 3) := by decide +kernel
theorem dX10_looksAt_83 : decode cX10_looksAt 83 = .ok (.iload 6, 2) := by decide +kernel
theorem dX10_looksAt_85 : decode cX10_looksAt 85 = .ok (.iaload, 1) := by decide +kernel
theorem dX10_looksAt_86 : decode cX10_looksAt 86 = .ok (.iastore, 1) := by decide +kernel
theorem dX10_looksAt_87 : decode cX10_looksAt 87 = .ok (.iinc 3 1, 3) := by decide +kernel
theorem dX10_looksAt_90 : decode cX10_looksAt 90 = .ok (.aload_n 0, 1) := by decide +kernel
theorem dX10_looksAt_91 : decode cX10_looksAt 91 = .ok (.getfield 59, 3) := by decide +kernel
theorem dX10_looksAt_94 : decode cX10_looksAt 94 = .ok (.iload 6, 2) := by decide +kernel
theorem dX10_looksAt_96 : decode cX10_looksAt 96 = .ok (.iaload, 1) := by decide +kernel
theorem dX10_looksAt_97 : decode cX10_looksAt 97 = .ok (.iconst (-1), 1) := by decide +kernel
theorem dX10_looksAt_98 : decode cX10_looksAt 98 = .ok (.if_icmp .eq 51, 3) := by decide +kernel
theorem dX10_looksAt_101 : decode cX10_looksAt 101 = .ok (.aload_n 0, 1) := by decide +kernel
theorem dX10_looksAt_102 : decode cX10_looksAt 102 = .ok (.getfield 71, 3) := by decide +kernel
theorem dX10_looksAt_105 : decode cX10_looksAt 105 = .ok (.aload_n 0, 1) := by decide +kernel
theorem dX10_looksAt_106 : decode cX10_looksAt 106 = .ok (.getfield 59, 3) := by decide +kernel
theorem dX10_looksAt_109 : decode cX10_looksAt 109 = .ok (.iload 6, 2) := by decide +kernel
theorem dX10_looksAt_111 : decode cX10_looksAt 111 = .ok (.iaload, 1) := by decide +kernel
theorem dX10_looksAt_112 : decode cX10_looksAt 112 = .ok (.iaload, 1) := by decide +kernel
theorem dX10_looksAt_113 : decode cX10_looksAt 113 = .ok (.iload_n 1, 1) := by decide +kernel
theorem dX10_looksAt_114 : decode cX10_looksAt 114 = .ok (.if_icmp .le 35, 3) := by decide +kernel
theorem dX10_looksAt_117 : decode cX10_looksAt 117 = .ok (.aload_n 0, 1) := by decide +kernel
theorem dX10_looksAt_118 : decode cX10_looksAt 118 = .ok (.getfield 26, 3) := by decide +kernel
theorem dX10_looksAt_121 : decode cX10_looksAt 121 = .ok (.aload_n 0, 1) := by decide +kernel
theorem dX10_looksAt_122 : decode cX10_looksAt 122 = .ok (.getfield 44, 3) := by decide +kernel
theorem dX10_looksAt_125 : decode cX10_looksAt 125 = .ok (.iload 6, 2) := by decide +kernel
theorem dX10_looksAt_127 : decode cX10_looksAt 127 = .ok (.iaload, 1) := by decide +kernel
theorem dX10_looksAt_128 : decode cX10_looksAt 128 = .ok (.iaload, 1) := by decide +kernel
theorem dX10_looksAt_129 : decode cX10_looksAt 129 = .ok (.iload_n 2, 1) := by decide +kernel
theorem dX10_looksAt_130 : decode cX10_looksAt 130 = .ok (.if_icmp .ge 19, 3) := by decide +kernel
theorem dX10_looksAt_133 : decode cX10_looksAt 133 = .ok (.aload_n 0, 1) := by decide +kernel
theorem dX10_looksAt_134 : decode cX10_looksAt 134 = .ok (.getfield 80, 3) := by decide +kernel
theorem dX10_looksAt_137 : decode cX10_looksAt 137 = .ok (.iload_n 3, 1) := by decide +kernel
theorem dX10_looksAt_138 : decode cX10_looksAt 138 = .ok (.aload_n 0, 1) := by decide +kernel
theorem dX10_looksAt_139 : decode cX10_looksAt 139 = .ok (.getfield 59, 3) := by decide +kernel
theorem dX10_looksAt_142 : decode cX10_looksAt 142 = .ok (.iload 6, 2) := by decide +kernel
theorem dX10_looksAt_144 : decode cX10_looksAt 144 = .ok (.iaload, 1) := by decide +kernel
theorem dX10_looksAt_145 : decode cX10_looksAt 145 = .ok (.iastore, 1) := by decide +kernel
theorem dX10_looksAt_146 : decode cX10_looksAt 146 = .ok (.iinc 3 1, 3) := by decide +kernel
theorem dX10_looksAt_149 : decode cX10_looksAt 149 = .ok (.iinc 5 1, 3) := by decide +kernel
theorem dX10_looksAt_152 : decode cX10_looksAt 152 = .ok (.goto (-123), 3) := by decide +kernel
theorem dX10_looksAt_155 : decode cX10_looksAt 155 = .ok (.iload 4, 2) := by decide +kernel
theorem dX10_looksAt_157 : decode cX10_looksAt 157 = .ok (.ireturn, 1) := by decide +kernel
theorem dX10_looks_0 : decode cX10_looks 0 = .ok (.aload_n 0, 1) := by decide +kernel
theorem dX10_looks_1 : decode cX10_looks 1 = .ok (.invokevirtual 204, 3) := by decide +kernel
theorem dX10_looks_4 : decode cX10_looks 4 = .ok (.iload_n 1, 1) := by decide +kernel
theorem dX10_looks_5 : decode cX10_looks 5 = .ok (.iload_n 2, 1) := by decide +kernel
theorem dX10_looks_6 : decode cX10_looks 6 = .ok (.invokestatic 148, 3) := by decide +kernel
theorem dX10_looks_9 : decode cX10_looks 9 = .ok (.ifCond .eq 12, 3) := by decide +kernel
theorem dX10_looks_12 : decode cX10_looks 12 = .ok (.aload_n 0, 1) := by decide +kernel
theorem dX10_looks_13 : decode cX10_looks 13 = .ok (.iload_n 1, 1) := by decide +kernel
theorem dX10_looks_14 : decode cX10_looks 14 = .ok (.iload_n 2, 1) := by decide +kernel
theorem dX10_looks_15 : decode cX10_looks 15 = .ok (.invokevirtual 212, 3) := by decide +kernel
theorem dX10_looks_18 : decode cX10_looks 18 = .ok (.goto 5, 3) := by decide +kernel
theorem dX10_looks_21 : decode cX10_looks 21 = .ok (.bipush (-2), 2) := by decide +kernel
theorem dX10_looks_23 : decode cX10_looks 23 = .ok (.ireturn, 1) := by decide +kernel
theorem dX10_isMet_0 : decode cX10_isMet 0 = .ok (.aload_n 0, 1) := by decide +kernel
theorem dX10_isMet_1 : decode cX10_isMet 1 = .ok (.getfield 26, 3) := by decide +kernel
theorem dX10_isMet_4 : decode cX10_isMet 4 = .ok (.iload_n 1, 1) := by decide +kernel
theorem dX10_isMet_5 : decode cX10_isMet 5 = .ok (.iaload, 1) := by decide +kernel
theorem dX10_isMet_6 : decode cX10_isMet 6 = .ok (.iload_n 3, 1) := by decide +kernel
theorem dX10_isMet_7 : decode cX10_isMet 7 = .ok (.if_icmp .ge 17, 3) := by decide +kernel
theorem dX10_isMet_10 : decode cX10_isMet 10 = .ok (.aload_n 0, 1) := by decide +kernel
theorem dX10_isMet_11 : decode cX10_isMet 11 = .ok (.getfield 29, 3) := by decide +kernel
theorem dX10_isMet_14 : decode cX10_isMet 14 = .ok (.iload_n 1, 1) := by decide +kernel
theorem dX10_isMet_15 : decode cX10_isMet 15 = .ok (.iaload, 1) := by decide +kernel
theorem dX10_isMet_16 : decode cX10_isMet 16 = .ok (.iload_n 2, 1) := by decide +kernel
theorem dX10_isMet_17 : decode cX10_isMet 17 = .ok (.if_icmp .le 7, 3) := by decide +kernel
theorem dX10_isMet_20 : decode cX10_isMet 20 = .ok (.iconst 1, 1) := by decide +kernel
theorem dX10_isMet_21 : decode cX10_isMet 21 = .ok (.goto 4, 3) := by decide +kernel
theorem dX10_isMet_24 : decode cX10_isMet 24 = .ok (.iconst 0, 1) := by decide +kernel
theorem dX10_isMet_25 : decode cX10_isMet 25 = .ok (.ireturn, 1) := by decide +kernel
theorem dX10_meetsBy_0 : decode cX10_meetsBy 0 = .ok (.iconst 0, 1) := by decide +kernel
theorem dX10_meetsBy_1 : decode cX10_meetsBy 1 = .ok (.istore 4, 2) := by decide +kernel
theorem dX10_meetsBy_3 : decode cX10_meetsBy 3 = .ok (.iconst (-1), 1) := by decide +kernel
theorem dX10_meetsBy_4 : decode cX10_meetsBy 4 = .ok (.istore 5, 2) := by decide +kernel
theorem dX10_meetsBy_6 : decode cX10_meetsBy 6 = .ok (.iconst 0, 1) := by decide +kernel
theorem dX10_meetsBy_7 : decode cX10_meetsBy 7 = .ok (.istore 6, 2) := by decide +kernel
theorem dX10_meetsBy_9 : decode cX10_meetsBy 9 = .ok (.iload 6, 2) := by decide +kernel
theorem dX10_meetsBy_11 : decode cX10_meetsBy 11 = .ok (.aload_n 0, 1) := by decide +kernel
theorem dX10_meetsBy_12 : decode cX10_meetsBy 12 = .ok (.getfield 142, 3) := by decide +kernel
theorem dX10_meetsBy_15 : decode cX10_meetsBy 15 = .ok (.if_icmp .ge 48, 3) := by decide +kernel
theorem dX10_meetsBy_18 : decode cX10_meetsBy 18 = .ok (.aload_n 0, 1) := by decide +kernel
theorem dX10_meetsBy_19 : decode cX10_meetsBy 19 = .ok (.aload_n 0, 1) := by decide +kernel
theorem dX10_meetsBy_20 : decode cX10_meetsBy 20 = .ok (.getfield 44, 3) := by decide +kernel
theorem dX10_meetsBy_23 : decode cX10_meetsBy 23 = .ok (.iload 6, 2) := by decide +kernel
theorem dX10_meetsBy_25 : decode cX10_meetsBy 25 = .ok (.iaload, 1) := by decide +kernel
theorem dX10_meetsBy_26 : decode cX10_meetsBy 26 = .ok (.iload_n 1, 1) := by decide +kernel
theorem dX10_meetsBy_27 : decode cX10_meetsBy 27 = .ok (.iload_n 2, 1) := by decide +kernel
theorem dX10_meetsBy_28 : decode cX10_meetsBy 28 = .ok (.invokevirtual 215, 3) := by decide +kernel
theorem dX10_meetsBy_31 : decode cX10_meetsBy 31 = .ok (.ifCond .eq 26, 3) := by decide +kernel
theorem dX10_meetsBy_34 : decode cX10_meetsBy 34 = .ok (.iload 4, 2) := by decide +kernel
theorem dX10_meetsBy_36 : decode cX10_meetsBy 36 = .ok (.iload_n 3, 1) := by decide +kernel
theorem dX10_meetsBy_37 : decode cX10_meetsBy 37 = .ok (.if_icmp .ne 13, 3) := by decide +kernel
theorem dX10_meetsBy_40 : decode cX10_meetsBy 40 = .ok (.aload_n 0, 1) := by decide +kernel
theorem dX10_meetsBy_41 : decode cX10_meetsBy 41 = .ok (.getfield 44, 3) := by decide +kernel
theorem dX10_meetsBy_44 : decode cX10_meetsBy 44 = .ok (.iload 6, 2) := by decide +kernel
theorem dX10_meetsBy_46 : decode cX10_meetsBy 46 = .ok (.iaload, 1) := by decide +kernel
theorem dX10_meetsBy_47 : decode cX10_meetsBy 47 = .ok (.goto 5, 3) := by decide +kernel
theorem dX10_meetsBy_50 : decode cX10_meetsBy 50 = .ok (.iload 5, 2) := by decide +kernel
theorem dX10_meetsBy_52 : decode cX10_meetsBy 52 = .ok (.istore 5, 2) := by decide +kernel
theorem dX10_meetsBy_54 : decode cX10_meetsBy 54 = .ok (.iinc 4 1, 3) := by decide +kernel
theorem dX10_meetsBy_57 : decode cX10_meetsBy 57 = .ok (.iinc 6 1, 3) := by decide +kernel
theorem dX10_meetsBy_60 : decode cX10_meetsBy 60 = .ok (.goto (-51), 3) := by decide +kernel
theorem dX10_meetsBy_63 : decode cX10_meetsBy 63 = .ok (.iload_n 3, 1) := by decide +kernel
theorem dX10_meetsBy_64 : decode cX10_meetsBy 64 = .ok (.iconst (-1), 1) := by decide +kernel
theorem dX10_meetsBy_65 : decode cX10_meetsBy 65 = .ok (.if_icmp .ne 8, 3) := by decide +kernel
theorem dX10_meetsBy_68 : decode cX10_meetsBy 68 = .ok (.iload 4, 2) := by decide +kernel
theorem dX10_meetsBy_70 : decode cX10_meetsBy 70 = .ok (.goto 5, 3) := by decide +kernel
theorem dX10_meetsBy_73 : decode cX10_meetsBy 73 = .ok (.iload 5, 2) := by decide +kernel
theorem dX10_meetsBy_75 : decode cX10_meetsBy 75 = .ok (.ireturn, 1) := by decide +kernel
theorem dX10_meets_0 : decode cX10_meets 0 = .ok (.aload_n 0, 1) := by decide +kernel
theorem dX10_meets_1 : decode cX10_meets 1 = .ok (.invokevirtual 188, 3) := by decide +kernel
theorem dX10_meets_4 : decode cX10_meets 4 = .ok (.iload_n 1, 1) := by decide +kernel
theorem dX10_meets_5 : decode cX10_meets 5 = .ok (.iload_n 2, 1) := by decide +kernel
theorem dX10_meets_6 : decode cX10_meets 6 = .ok (.invokestatic 148, 3) := by decide +kernel
theorem dX10_meets_9 : decode cX10_meets 9 = .ok (.ifCond .eq 27, 3) := by decide +kernel
theorem dX10_meets_12 : decode cX10_meets 12 = .ok (.iload_n 3, 1) := by decide +kernel
theorem dX10_meets_13 : decode cX10_meets 13 = .ok (.i2l, 1) := by decide +kernel
theorem dX10_meets_14 : decode cX10_meets 14 = .ok (.ldc2_w 219, 3) := by decide +kernel
theorem dX10_meets_17 : decode cX10_meets 17 = .ok (.ldc2_w 130, 3) := by decide +kernel
theorem dX10_meets_20 : decode cX10_meets 20 = .ok (.invokestatic 101, 3) := by decide +kernel
theorem dX10_meets_23 : decode cX10_meets 23 = .ok (.ifCond .eq 13, 3) := by decide +kernel
theorem dX10_meets_26 : decode cX10_meets 26 = .ok (.aload_n 0, 1) := by decide +kernel
theorem dX10_meets_27 : decode cX10_meets 27 = .ok (.iload_n 1, 1) := by decide +kernel
theorem dX10_meets_28 : decode cX10_meets 28 = .ok (.iload_n 2, 1) := by decide +kernel
theorem dX10_meets_29 : decode cX10_meets 29 = .ok (.iload_n 3, 1) := by decide +kernel
theorem dX10_meets_30 : decode cX10_meets 30 = .ok (.invokevirtual 221, 3) := by decide +kernel
theorem dX10_meets_33 : decode cX10_meets 33 = .ok (.goto 5, 3) := by decide +kernel
theorem dX10_meets_36 : decode cX10_meets 36 = .ok (.bipush (-2), 2) := by decide +kernel
theorem dX10_meets_38 : decode cX10_meets 38 = .ok (.ireturn, 1) := by decide +kernel
theorem dX10_holds_0 : decode cX10_holds 0 = .ok (.aload_n 0, 1) := by decide +kernel
theorem dX10_holds_1 : decode cX10_holds 1 = .ok (.invokevirtual 188, 3) := by decide +kernel
theorem dX10_holds_4 : decode cX10_holds 4 = .ok (.iload_n 1, 1) := by decide +kernel
theorem dX10_holds_5 : decode cX10_holds 5 = .ok (.invokestatic 136, 3) := by decide +kernel
theorem dX10_holds_8 : decode cX10_holds 8 = .ok (.ifCond .eq 29, 3) := by decide +kernel
theorem dX10_holds_11 : decode cX10_holds 11 = .ok (.iload_n 2, 1) := by decide +kernel
theorem dX10_holds_12 : decode cX10_holds 12 = .ok (.i2l, 1) := by decide +kernel
theorem dX10_holds_13 : decode cX10_holds 13 = .ok (.ldc2_w 219, 3) := by decide +kernel
theorem dX10_holds_16 : decode cX10_holds 16 = .ok (.ldc2_w 130, 3) := by decide +kernel
theorem dX10_holds_19 : decode cX10_holds 19 = .ok (.invokestatic 101, 3) := by decide +kernel
theorem dX10_holds_22 : decode cX10_holds 22 = .ok (.ifCond .eq 15, 3) := by decide +kernel
theorem dX10_holds_25 : decode cX10_holds 25 = .ok (.aload_n 0, 1) := by decide +kernel
theorem dX10_holds_26 : decode cX10_holds 26 = .ok (.iload_n 1, 1) := by decide +kernel
theorem dX10_holds_27 : decode cX10_holds 27 = .ok (.iload_n 1, 1) := by decide +kernel
theorem dX10_holds_28 : decode cX10_holds 28 = .ok (.iconst 1, 1) := by decide +kernel
theorem dX10_holds_29 : decode cX10_holds 29 = .ok (.iadd, 1) := by decide +kernel
theorem dX10_holds_30 : decode cX10_holds 30 = .ok (.iload_n 2, 1) := by decide +kernel
theorem dX10_holds_31 : decode cX10_holds 31 = .ok (.invokevirtual 221, 3) := by decide +kernel
theorem dX10_holds_34 : decode cX10_holds 34 = .ok (.goto 5, 3) := by decide +kernel
theorem dX10_holds_37 : decode cX10_holds 37 = .ok (.bipush (-2), 2) := by decide +kernel
theorem dX10_holds_39 : decode cX10_holds 39 = .ok (.ireturn, 1) := by decide +kernel
theorem dX10_parts_0 : decode cX10_parts 0 = .ok (.iconst 0, 1) := by decide +kernel
theorem dX10_parts_1 : decode cX10_parts 1 = .ok (.istore_n 3, 1) := by decide +kernel
theorem dX10_parts_2 : decode cX10_parts 2 = .ok (.iload_n 1, 1) := by decide +kernel
theorem dX10_parts_3 : decode cX10_parts 3 = .ok (.istore 4, 2) := by decide +kernel
theorem dX10_parts_5 : decode cX10_parts 5 = .ok (.iconst 0, 1) := by decide +kernel
theorem dX10_parts_6 : decode cX10_parts 6 = .ok (.istore 5, 2) := by decide +kernel
theorem dX10_parts_8 : decode cX10_parts 8 = .ok (.iload 5, 2) := by decide +kernel
theorem dX10_parts_10 : decode cX10_parts 10 = .ok (.aload_n 0, 1) := by decide +kernel
theorem dX10_parts_11 : decode cX10_parts 11 = .ok (.getfield 142, 3) := by decide +kernel
theorem dX10_parts_14 : decode cX10_parts 14 = .ok (.if_icmp .ge 79, 3) := by decide +kernel
theorem dX10_parts_17 : decode cX10_parts 17 = .ok (.aload_n 0, 1) := by decide +kernel
theorem dX10_parts_18 : decode cX10_parts 18 = .ok (.getfield 44, 3) := by decide +kernel
theorem dX10_parts_21 : decode cX10_parts 21 = .ok (.iload 5, 2) := by decide +kernel
theorem dX10_parts_23 : decode cX10_parts 23 = .ok (.iaload, 1) := by decide +kernel
theorem dX10_parts_24 : decode cX10_parts 24 = .ok (.istore 6, 2) := by decide +kernel
theorem dX10_parts_26 : decode cX10_parts 26 = .ok (.aload_n 0, 1) := by decide +kernel
theorem dX10_parts_27 : decode cX10_parts 27 = .ok (.iload 6, 2) := by decide +kernel
theorem dX10_parts_29 : decode cX10_parts 29 = .ok (.iload_n 1, 1) := by decide +kernel
theorem dX10_parts_30 : decode cX10_parts 30 = .ok (.iload_n 2, 1) := by decide +kernel
theorem dX10_parts_31 : decode cX10_parts 31 = .ok (.invokevirtual 215, 3) := by decide +kernel
theorem dX10_parts_34 : decode cX10_parts 34 = .ok (.ifCond .eq 53, 3) := by decide +kernel
theorem dX10_parts_37 : decode cX10_parts 37 = .ok (.aload_n 0, 1) := by decide +kernel
theorem dX10_parts_38 : decode cX10_parts 38 = .ok (.getfield 26, 3) := by decide +kernel
theorem dX10_parts_41 : decode cX10_parts 41 = .ok (.iload 6, 2) := by decide +kernel
theorem dX10_parts_43 : decode cX10_parts 43 = .ok (.iaload, 1) := by decide +kernel
theorem dX10_parts_44 : decode cX10_parts 44 = .ok (.iload 4, 2) := by decide +kernel
theorem dX10_parts_46 : decode cX10_parts 46 = .ok (.if_icmp .le 27, 3) := by decide +kernel
theorem dX10_parts_49 : decode cX10_parts 49 = .ok (.aload_n 0, 1) := by decide +kernel
theorem dX10_parts_50 : decode cX10_parts 50 = .ok (.getfield 83, 3) := by decide +kernel
theorem dX10_parts_53 : decode cX10_parts 53 = .ok (.iload_n 3, 1) := by decide +kernel
theorem dX10_parts_54 : decode cX10_parts 54 = .ok (.iload 4, 2) := by decide +kernel
theorem dX10_parts_56 : decode cX10_parts 56 = .ok (.iastore, 1) := by decide +kernel
theorem dX10_parts_57 : decode cX10_parts 57 = .ok (.aload_n 0, 1) := by decide +kernel
theorem dX10_parts_58 : decode cX10_parts 58 = .ok (.getfield 86, 3) := by decide +kernel
theorem dX10_parts_61 : decode cX10_parts 61 = .ok (.iload_n 3, 1) := by decide +kernel
theorem dX10_parts_62 : decode cX10_parts 62 = .ok (.aload_n 0, 1) := by decide +kernel
theorem dX10_parts_63 : decode cX10_parts 63 = .ok (.getfield 26, 3) := by decide +kernel
theorem dX10_parts_66 : decode cX10_parts 66 = .ok (.iload 6, 2) := by decide +kernel
theorem dX10_parts_68 : decode cX10_parts 68 = .ok (.iaload, 1) := by decide +kernel
theorem dX10_parts_69 : decode cX10_parts 69 = .ok (.iastore, 1) := by decide +kernel
theorem dX10_parts_70 : decode cX10_parts 70 = .ok (.iinc 3 1, 3) := by decide +kernel
theorem dX10_parts_73 : decode cX10_parts 73 = .ok (.aload_n 0, 1) := by decide +kernel
theorem dX10_parts_74 : decode cX10_parts 74 = .ok (.getfield 29, 3) := by decide +kernel
theorem dX10_parts_77 : decode cX10_parts 77 = .ok (.iload 6, 2) := by decide +kernel
theorem dX10_parts_79 : decode cX10_parts 79 = .ok (.iaload, 1) := by decide +kernel
theorem dX10_parts_80 : decode cX10_parts 80 = .ok (.iload 4, 2) := by decide +kernel
theorem dX10_parts_82 : decode cX10_parts 82 = .ok (.invokestatic 198, 3) := by decide +kernel
theorem dX10_parts_85 : decode cX10_parts 85 = .ok (.istore 4, 2) := by decide +kernel
theorem dX10_parts_87 : decode cX10_parts 87 = .ok (.iinc 5 1, 3) := by decide +kernel
theorem dX10_parts_90 : decode cX10_parts 90 = .ok (.goto (-82), 3) := by decide +kernel
theorem dX10_parts_93 : decode cX10_parts 93 = .ok (.iload 4, 2) := by decide +kernel
theorem dX10_parts_95 : decode cX10_parts 95 = .ok (.iload_n 2, 1) := by decide +kernel
theorem dX10_parts_96 : decode cX10_parts 96 = .ok (.if_icmp .ge 21, 3) := by decide +kernel
theorem dX10_parts_99 : decode cX10_parts 99 = .ok (.aload_n 0, 1) := by decide +kernel
theorem dX10_parts_100 : decode cX10_parts 100 = .ok (.getfield 83, 3) := by decide +kernel
theorem dX10_parts_103 : decode cX10_parts 103 = .ok (.iload_n 3, 1) := by decide +kernel
theorem dX10_parts_104 : decode cX10_parts 104 = .ok (.iload 4, 2) := by decide +kernel
theorem dX10_parts_106 : decode cX10_parts 106 = .ok (.iastore, 1) := by decide +kernel
theorem dX10_parts_107 : decode cX10_parts 107 = .ok (.aload_n 0, 1) := by decide +kernel
theorem dX10_parts_108 : decode cX10_parts 108 = .ok (.getfield 86, 3) := by decide +kernel
theorem dX10_parts_111 : decode cX10_parts 111 = .ok (.iload_n 3, 1) := by decide +kernel
theorem dX10_parts_112 : decode cX10_parts 112 = .ok (.iload_n 2, 1) := by decide +kernel
theorem dX10_parts_113 : decode cX10_parts 113 = .ok (.iastore, 1) := by decide +kernel
theorem dX10_parts_114 : decode cX10_parts 114 = .ok (.iinc 3 1, 3) := by decide +kernel
theorem dX10_parts_117 : decode cX10_parts 117 = .ok (.iload_n 3, 1) := by decide +kernel
theorem dX10_parts_118 : decode cX10_parts 118 = .ok (.ireturn, 1) := by decide +kernel
theorem dX10_takenIn_0 : decode cX10_takenIn 0 = .ok (.aload_n 0, 1) := by decide +kernel
theorem dX10_takenIn_1 : decode cX10_takenIn 1 = .ok (.iload_n 1, 1) := by decide +kernel
theorem dX10_takenIn_2 : decode cX10_takenIn 2 = .ok (.iload_n 2, 1) := by decide +kernel
theorem dX10_takenIn_3 : decode cX10_takenIn 3 = .ok (.invokevirtual 224, 3) := by decide +kernel
theorem dX10_takenIn_6 : decode cX10_takenIn 6 = .ok (.istore_n 3, 1) := by decide +kernel
theorem dX10_takenIn_7 : decode cX10_takenIn 7 = .ok (.iload_n 2, 1) := by decide +kernel
theorem dX10_takenIn_8 : decode cX10_takenIn 8 = .ok (.iload_n 1, 1) := by decide +kernel
theorem dX10_takenIn_9 : decode cX10_takenIn 9 = .ok (.isub, 1) := by decide +kernel
theorem dX10_takenIn_10 : decode cX10_takenIn 10 = .ok (.istore 4, 2) := by decide +kernel
theorem dX10_takenIn_12 : decode cX10_takenIn 12 = .ok (.iconst 0, 1) := by decide +kernel
theorem dX10_takenIn_13 : decode cX10_takenIn 13 = .ok (.istore 5, 2) := by decide +kernel
theorem dX10_takenIn_15 : decode cX10_takenIn 15 = .ok (.iload 5, 2) := by decide +kernel
theorem dX10_takenIn_17 : decode cX10_takenIn 17 = .ok (.iload_n 3, 1) := by decide +kernel
theorem dX10_takenIn_18 : decode cX10_takenIn 18 = .ok (.if_icmp .ge 29, 3) := by decide +kernel
theorem dX10_takenIn_21 : decode cX10_takenIn 21 = .ok (.iload 4, 2) := by decide +kernel
theorem dX10_takenIn_23 : decode cX10_takenIn 23 = .ok (.aload_n 0, 1) := by decide +kernel
theorem dX10_takenIn_24 : decode cX10_takenIn 24 = .ok (.getfield 86, 3) := by decide +kernel
theorem dX10_takenIn_27 : decode cX10_takenIn 27 = .ok (.iload 5, 2) := by decide +kernel
theorem dX10_takenIn_29 : decode cX10_takenIn 29 = .ok (.iaload, 1) := by decide +kernel
theorem dX10_takenIn_30 : decode cX10_takenIn 30 = .ok (.aload_n 0, 1) := by decide +kernel
theorem dX10_takenIn_31 : decode cX10_takenIn 31 = .ok (.getfield 83, 3) := by decide +kernel
theorem dX10_takenIn_34 : decode cX10_takenIn 34 = .ok (.iload 5, 2) := by decide +kernel
theorem dX10_takenIn_36 : decode cX10_takenIn 36 = .ok (.iaload, 1) := by decide +kernel
theorem dX10_takenIn_37 : decode cX10_takenIn 37 = .ok (.isub, 1) := by decide +kernel
theorem dX10_takenIn_38 : decode cX10_takenIn 38 = .ok (.isub, 1) := by decide +kernel
