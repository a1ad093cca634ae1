theorem dX8_init_47 : decode cX8_init 47 = .ok (.newarray .int, 2) := by decide +kernel
theorem dX8_init_49 : decode cX8_init 49 = .ok (.putfield 27, 3) := by decide +kernel
theorem dX8_init_52 : decode cX8_init 52 = .ok (.aload_n 0, 1) := by decide +kernel
theorem dX8_init_53 : decode cX8_init 53 = .ok (.bipush 48, 2) := by decide +kernel
theorem dX8_init_55 : decode cX8_init 55 = .ok (.newarray .int, 2) := by decide +kernel
theorem dX8_init_57 : decode cX8_init 57 = .ok (.putfield 30, 3) := by decide +kernel
theorem dX8_init_60 : decode cX8_init 60 = .ok (.aload_n 0, 1) := by decide +kernel
theorem dX8_init_61 : decode cX8_init 61 = .ok (.bipush 48, 2) := by decide +kernel
theorem dX8_init_63 : decode cX8_init 63 = .ok (.newarray .int, 2) := by decide +kernel
theorem dX8_init_65 : decode cX8_init 65 = .ok (.putfield 33, 3) := by decide +kernel
theorem dX8_init_68 : decode cX8_init 68 = .ok (.aload_n 0, 1) := by decide +kernel
theorem dX8_init_69 : decode cX8_init 69 = .ok (.bipush 48, 2) := by decide +kernel
theorem dX8_init_71 : decode cX8_init 71 = .ok (.newarray .boolean, 2) := by decide +kernel
theorem dX8_init_73 : decode cX8_init 73 = .ok (.putfield 36, 3) := by decide +kernel
theorem dX8_init_76 : decode cX8_init 76 = .ok (.aload_n 0, 1) := by decide +kernel
theorem dX8_init_77 : decode cX8_init 77 = .ok (.iconst (-1), 1) := by decide +kernel
theorem dX8_init_78 : decode cX8_init 78 = .ok (.putfield 40, 3) := by decide +kernel
theorem dX8_init_81 : decode cX8_init 81 = .ok (.iconst 0, 1) := by decide +kernel
theorem dX8_init_82 : decode cX8_init 82 = .ok (.istore_n 1, 1) := by decide +kernel
theorem dX8_init_83 : decode cX8_init 83 = .ok (.iload_n 1, 1) := by decide +kernel
theorem dX8_init_84 : decode cX8_init 84 = .ok (.bipush 48, 2) := by decide +kernel
theorem dX8_init_86 : decode cX8_init 86 = .ok (.if_icmp .ge 60, 3) := by decide +kernel
theorem dX8_init_89 : decode cX8_init 89 = .ok (.iload_n 1, 1) := by decide +kernel
theorem dX8_init_90 : decode cX8_init 90 = .ok (.istore_n 2, 1) := by decide +kernel
theorem dX8_init_91 : decode cX8_init 91 = .ok (.iload_n 2, 1) := by decide +kernel
theorem dX8_init_92 : decode cX8_init 92 = .ok (.ifCond .le 41, 3) := by decide +kernel
theorem dX8_init_95 : decode cX8_init 95 = .ok (.aload_n 0, 1) := by decide +kernel
theorem dX8_init_96 : decode cX8_init 96 = .ok (.getfield 9, 3) := by decide +kernel
theorem dX8_init_99 : decode cX8_init 99 = .ok (.iload_n 2, 1) := by decide +kernel
theorem dX8_init_100 : decode cX8_init 100 = .ok (.iconst 1, 1) := by decide +kernel
theorem dX8_init_101 : decode cX8_init 101 = .ok (.isub, 1) := by decide +kernel
theorem dX8_init_102 : decode cX8_init 102 = .ok (.iaload, 1) := by decide +kernel
theorem dX8_init_103 : decode cX8_init 103 = .ok (.invokestatic 44, 3) := by decide +kernel
theorem dX8_init_106 : decode cX8_init 106 = .ok (.iload_n 1, 1) := by decide +kernel
theorem dX8_init_107 : decode cX8_init 107 = .ok (.invokestatic 44, 3) := by decide +kernel
theorem dX8_init_110 : decode cX8_init 110 = .ok (.if_icmp .ge 23, 3) := by decide +kernel
theorem dX8_init_113 : decode cX8_init 113 = .ok (.aload_n 0, 1) := by decide +kernel
theorem dX8_init_114 : decode cX8_init 114 = .ok (.getfield 9, 3) := by decide +kernel
theorem dX8_init_117 : decode cX8_init 117 = .ok (.iload_n 2, 1) := by decide +kernel
theorem dX8_init_118 : decode cX8_init 118 = .ok (.aload_n 0, 1) := by decide +kernel
theorem dX8_init_119 : decode cX8_init 119 = .ok (.getfield 9, 3) := by decide +kernel
theorem dX8_init_122 : decode cX8_init 122 = .ok (.iload_n 2, 1) := by decide +kernel
theorem dX8_init_123 : decode cX8_init 123 = .ok (.iconst 1, 1) := by decide +kernel
theorem dX8_init_124 : decode cX8_init 124 = .ok (.isub, 1) := by decide +kernel
theorem dX8_init_125 : decode cX8_init 125 = .ok (.iaload, 1) := by decide +kernel
theorem dX8_init_126 : decode cX8_init 126 = .ok (.iastore, 1) := by decide +kernel
theorem dX8_init_127 : decode cX8_init 127 = .ok (.iinc 2 (-1), 3) := by decide +kernel
theorem dX8_init_130 : decode cX8_init 130 = .ok (.goto (-39), 3) := by decide +kernel
theorem dX8_init_133 : decode cX8_init 133 = .ok (.aload_n 0, 1) := by decide +kernel
theorem dX8_init_134 : decode cX8_init 134 = .ok (.getfield 9, 3) := by decide +kernel
theorem dX8_init_137 : decode cX8_init 137 = .ok (.iload_n 2, 1) := by decide +kernel
theorem dX8_init_138 : decode cX8_init 138 = .ok (.iload_n 1, 1) := by decide +kernel
theorem dX8_init_139 : decode cX8_init 139 = .ok (.iastore, 1) := by decide +kernel
theorem dX8_init_140 : decode cX8_init 140 = .ok (.iinc 1 1, 3) := by decide +kernel
theorem dX8_init_143 : decode cX8_init 143 = .ok (.goto (-60), 3) := by decide +kernel
theorem dX8_init_146 : decode cX8_init 146 = .ok (.return_, 1) := by decide +kernel
theorem dX8_weight_0 : decode cX8_weight 0 = .ok (.iload_n 0, 1) := by decide +kernel
theorem dX8_weight_1 : decode cX8_weight 1 = .ok (.iconst 1, 1) := by decide +kernel
theorem dX8_weight_2 : decode cX8_weight 2 = .ok (.iadd, 1) := by decide +kernel
theorem dX8_weight_3 : decode cX8_weight 3 = .ok (.ldc 48, 2) := by decide +kernel
theorem dX8_weight_5 : decode cX8_weight 5 = .ok (.imul, 1) := by decide +kernel
theorem dX8_weight_6 : decode cX8_weight 6 = .ok (.ldc 49, 2) := by decide +kernel
theorem dX8_weight_8 : decode cX8_weight 8 = .ok (.irem, 1) := by decide +kernel
theorem dX8_weight_9 : decode cX8_weight 9 = .ok (.ireturn, 1) := by decide +kernel
theorem dX8_build_0 : decode cX8_build 0 = .ok (.aload_n 0, 1) := by decide +kernel
theorem dX8_build_1 : decode cX8_build 1 = .ok (.iconst (-1), 1) := by decide +kernel
theorem dX8_build_2 : decode cX8_build 2 = .ok (.putfield 40, 3) := by decide +kernel
theorem dX8_build_5 : decode cX8_build 5 = .ok (.iconst 0, 1) := by decide +kernel
theorem dX8_build_6 : decode cX8_build 6 = .ok (.istore_n 2, 1) := by decide +kernel
theorem dX8_build_7 : decode cX8_build 7 = .ok (.iload_n 2, 1) := by decide +kernel
theorem dX8_build_8 : decode cX8_build 8 = .ok (.bipush 48, 2) := by decide +kernel
theorem dX8_build_10 : decode cX8_build 10 = .ok (.if_icmp .ge 34, 3) := by decide +kernel
theorem dX8_build_13 : decode cX8_build 13 = .ok (.aload_n 1, 1) := by decide +kernel
theorem dX8_build_14 : decode cX8_build 14 = .ok (.getfield 50, 3) := by decide +kernel
theorem dX8_build_17 : decode cX8_build 17 = .ok (.aload_n 0, 1) := by decide +kernel
theorem dX8_build_18 : decode cX8_build 18 = .ok (.getfield 9, 3) := by decide +kernel
theorem dX8_build_21 : decode cX8_build 21 = .ok (.iload_n 2, 1) := by decide +kernel
theorem dX8_build_22 : decode cX8_build 22 = .ok (.iaload, 1) := by decide +kernel
theorem dX8_build_23 : decode cX8_build 23 = .ok (.baload, 1) := by decide +kernel
theorem dX8_build_24 : decode cX8_build 24 = .ok (.ifCond .eq 14, 3) := by decide +kernel
theorem dX8_build_27 : decode cX8_build 27 = .ok (.aload_n 0, 1) := by decide +kernel
theorem dX8_build_28 : decode cX8_build 28 = .ok (.aload_n 0, 1) := by decide +kernel
theorem dX8_build_29 : decode cX8_build 29 = .ok (.getfield 9, 3) := by decide +kernel
theorem dX8_build_32 : decode cX8_build 32 = .ok (.iload_n 2, 1) := by decide +kernel
theorem dX8_build_33 : decode cX8_build 33 = .ok (.iaload, 1) := by decide +kernel
theorem dX8_build_34 : decode cX8_build 34 = .ok (.aload_n 1, 1) := by decide +kernel
theorem dX8_build_35 : decode cX8_build 35 = .ok (.invokevirtual 55, 3) := by decide +kernel
theorem dX8_build_38 : decode cX8_build 38 = .ok (.iinc 2 1, 3) := by decide +kernel
theorem dX8_build_41 : decode cX8_build 41 = .ok (.goto (-34), 3) := by decide +kernel
theorem dX8_build_44 : decode cX8_build 44 = .ok (.bipush 47, 2) := by decide +kernel
theorem dX8_build_46 : decode cX8_build 46 = .ok (.istore_n 2, 1) := by decide +kernel
theorem dX8_build_47 : decode cX8_build 47 = .ok (.iload_n 2, 1) := by decide +kernel
theorem dX8_build_48 : decode cX8_build 48 = .ok (.ifCond .lt 46, 3) := by decide +kernel
theorem dX8_build_51 : decode cX8_build 51 = .ok (.aload_n 0, 1) := by decide +kernel
theorem dX8_build_52 : decode cX8_build 52 = .ok (.getfield 9, 3) := by decide +kernel
theorem dX8_build_55 : decode cX8_build 55 = .ok (.iload_n 2, 1) := by decide +kernel
theorem dX8_build_56 : decode cX8_build 56 = .ok (.iaload, 1) := by decide +kernel
theorem dX8_build_57 : decode cX8_build 57 = .ok (.istore_n 3, 1) := by decide +kernel
theorem dX8_build_58 : decode cX8_build 58 = .ok (.aload_n 1, 1) := by decide +kernel
theorem dX8_build_59 : decode cX8_build 59 = .ok (.getfield 50, 3) := by decide +kernel
theorem dX8_build_62 : decode cX8_build 62 = .ok (.iload_n 3, 1) := by decide +kernel
theorem dX8_build_63 : decode cX8_build 63 = .ok (.baload, 1) := by decide +kernel
theorem dX8_build_64 : decode cX8_build 64 = .ok (.ifCond .eq 24, 3) := by decide +kernel
theorem dX8_build_67 : decode cX8_build 67 = .ok (.aload_n 0, 1) := by decide +kernel
theorem dX8_build_68 : decode cX8_build 68 = .ok (.getfield 15, 3) := by decide +kernel
theorem dX8_build_71 : decode cX8_build 71 = .ok (.iload_n 3, 1) := by decide +kernel
theorem dX8_build_72 : decode cX8_build 72 = .ok (.iaload, 1) := by decide +kernel
theorem dX8_build_73 : decode cX8_build 73 = .ok (.iconst (-1), 1) := by decide +kernel
theorem dX8_build_74 : decode cX8_build 74 = .ok (.if_icmp .eq 14, 3) := by decide +kernel
theorem dX8_build_77 : decode cX8_build 77 = .ok (.aload_n 0, 1) := by decide +kernel
theorem dX8_build_78 : decode cX8_build 78 = .ok (.iload_n 3, 1) := by decide +kernel
theorem dX8_build_79 : decode cX8_build 79 = .ok (.aload_n 0, 1) := by decide +kernel
theorem dX8_build_80 : decode cX8_build 80 = .ok (.getfield 15, 3) := by decide +kernel
theorem dX8_build_83 : decode cX8_build 83 = .ok (.iload_n 3, 1) := by decide +kernel
theorem dX8_build_84 : decode cX8_build 84 = .ok (.iaload, 1) := by decide +kernel
theorem dX8_build_85 : decode cX8_build 85 = .ok (.invokevirtual 59, 3) := by decide +kernel
theorem dX8_build_88 : decode cX8_build 88 = .ok (.iinc 2 (-1), 3) := by decide +kernel
theorem dX8_build_91 : decode cX8_build 91 = .ok (.goto (-44), 3) := by decide +kernel
theorem dX8_build_94 : decode cX8_build 94 = .ok (.return_, 1) := by decide +kernel
theorem dX8_hang_0 : decode cX8_hang 0 = .ok (.iconst (-1), 1) := by decide +kernel
theorem dX8_hang_1 : decode cX8_hang 1 = .ok (.istore_n 3, 1) := by decide +kernel
theorem dX8_hang_2 : decode cX8_hang 2 = .ok (.aload_n 0, 1) := by decide +kernel
theorem dX8_hang_3 : decode cX8_hang 3 = .ok (.getfield 40, 3) := by decide +kernel
theorem dX8_hang_6 : decode cX8_hang 6 = .ok (.istore 4, 2) := by decide +kernel
theorem dX8_hang_8 : decode cX8_hang 8 = .ok (.iconst 0, 1) := by decide +kernel
theorem dX8_hang_9 : decode cX8_hang 9 = .ok (.istore 5, 2) := by decide +kernel
theorem dX8_hang_11 : decode cX8_hang 11 = .ok (.iload 4, 2) := by decide +kernel
theorem dX8_hang_13 : decode cX8_hang 13 = .ok (.iconst (-1), 1) := by decide +kernel
theorem dX8_hang_14 : decode cX8_hang 14 = .ok (.if_icmp .eq 51, 3) := by decide +kernel
theorem dX8_hang_17 : decode cX8_hang 17 = .ok (.iload 5, 2) := by decide +kernel
theorem dX8_hang_19 : decode cX8_hang 19 = .ok (.bipush 48, 2) := by decide +kernel
theorem dX8_hang_21 : decode cX8_hang 21 = .ok (.if_icmp .ge 44, 3) := by decide +kernel
theorem dX8_hang_24 : decode cX8_hang 24 = .ok (.iload 4, 2) := by decide +kernel
theorem dX8_hang_26 : decode cX8_hang 26 = .ok (.istore_n 3, 1) := by decide +kernel
theorem dX8_hang_27 : decode cX8_hang 27 = .ok (.aload_n 2, 1) := by decide +kernel
theorem dX8_hang_28 : decode cX8_hang 28 = .ok (.getfield 63, 3) := by decide +kernel
theorem dX8_hang_31 : decode cX8_hang 31 = .ok (.iload_n 1, 1) := by decide +kernel
theorem dX8_hang_32 : decode cX8_hang 32 = .ok (.iaload, 1) := by decide +kernel
theorem dX8_hang_33 : decode cX8_hang 33 = .ok (.aload_n 2, 1) := by decide +kernel
theorem dX8_hang_34 : decode cX8_hang 34 = .ok (.getfield 63, 3) := by decide +kernel
theorem dX8_hang_37 : decode cX8_hang 37 = .ok (.iload_n 3, 1) := by decide +kernel
theorem dX8_hang_38 : decode cX8_hang 38 = .ok (.iaload, 1) := by decide +kernel
theorem dX8_hang_39 : decode cX8_hang 39 = .ok (.if_icmp .ge 12, 3) := by decide +kernel
theorem dX8_hang_42 : decode cX8_hang 42 = .ok (.aload_n 0, 1) := by decide +kernel
theorem dX8_hang_43 : decode cX8_hang 43 = .ok (.getfield 18, 3) := by decide +kernel
theorem dX8_hang_46 : decode cX8_hang 46 = .ok (.iload_n 3, 1) := by decide +kernel
theorem dX8_hang_47 : decode cX8_hang 47 = .ok (.iaload, 1) := by decide +kernel
theorem dX8_hang_48 : decode cX8_hang 48 = .ok (.goto 9, 3) := by decide +kernel
theorem dX8_hang_51 : decode cX8_hang 51 = .ok (.aload_n 0, 1) := by decide +kernel
theorem dX8_hang_52 : decode cX8_hang 52 = .ok (.getfield 21, 3) := by decide +kernel
theorem dX8_hang_55 : decode cX8_hang 55 = .ok (.iload_n 3, 1) := by decide +kernel
theorem dX8_hang_56 : decode cX8_hang 56 = .ok (.iaload, 1) := by decide +kernel
theorem dX8_hang_57 : decode cX8_hang 57 = .ok (.istore 4, 2) := by decide +kernel
theorem dX8_hang_59 : decode cX8_hang 59 = .ok (.iinc 5 1, 3) := by decide +kernel
theorem dX8_hang_62 : decode cX8_hang 62 = .ok (.goto (-51), 3) := by decide +kernel
theorem dX8_hang_65 : decode cX8_hang 65 = .ok (.aload_n 0, 1) := by decide +kernel
theorem dX8_hang_66 : decode cX8_hang 66 = .ok (.getfield 15, 3) := by decide +kernel
theorem dX8_hang_69 : decode cX8_hang 69 = .ok (.iload_n 1, 1) := by decide +kernel
theorem dX8_hang_70 : decode cX8_hang 70 = .ok (.iload_n 3, 1) := by decide +kernel
theorem dX8_hang_71 : decode cX8_hang 71 = .ok (.iastore, 1) := by decide +kernel
theorem dX8_hang_72 : decode cX8_hang 72 = .ok (.aload_n 0, 1) := by decide +kernel
theorem dX8_hang_73 : decode cX8_hang 73 = .ok (.getfield 18, 3) := by decide +kernel
theorem dX8_hang_76 : decode cX8_hang 76 = .ok (.iload_n 1, 1) := by decide +kernel
theorem dX8_hang_77 : decode cX8_hang 77 = .ok (.iconst (-1), 1) := by decide +kernel
theorem dX8_hang_78 : decode cX8_hang 78 = .ok (.iastore, 1) := by decide +kernel
theorem dX8_hang_79 : decode cX8_hang 79 = .ok (.aload_n 0, 1) := by decide +kernel
theorem dX8_hang_80 : decode cX8_hang 80 = .ok (.getfield 21, 3) := by decide +kernel
theorem dX8_hang_83 : decode cX8_hang 83 = .ok (.iload_n 1, 1) := by decide +kernel
theorem dX8_hang_84 : decode cX8_hang 84 = .ok (.iconst (-1), 1) := by decide +kernel
theorem dX8_hang_85 : decode cX8_hang 85 = .ok (.iastore, 1) := by decide +kernel
theorem dX8_hang_86 : decode cX8_hang 86 = .ok (.aload_n 0, 1) := by decide +kernel
theorem dX8_hang_87 : decode cX8_hang 87 = .ok (.getfield 24, 3) := by decide +kernel
theorem dX8_hang_90 : decode cX8_hang 90 = .ok (.iload_n 1, 1) := by decide +kernel
theorem dX8_hang_91 : decode cX8_hang 91 = .ok (.iload 5, 2) := by decide +kernel
theorem dX8_hang_93 : decode cX8_hang 93 = .ok (.iastore, 1) := by decide +kernel
theorem dX8_hang_94 : decode cX8_hang 94 = .ok (.aload_n 0, 1) := by decide +kernel
theorem dX8_hang_95 : decode cX8_hang 95 = .ok (.getfield 27, 3) := by decide +kernel
theorem dX8_hang_98 : decode cX8_hang 98 = .ok (.iload_n 1, 1) := by decide +kernel
theorem dX8_hang_99 : decode cX8_hang 99 = .ok (.iconst 1, 1) := by decide +kernel
theorem dX8_hang_100 : decode cX8_hang 100 = .ok (.iastore, 1) := by decide +kernel
theorem dX8_hang_101 : decode cX8_hang 101 = .ok (.aload_n 0, 1) := by decide +kernel
theorem dX8_hang_102 : decode cX8_hang 102 = .ok (.getfield 30, 3) := by decide +kernel
theorem dX8_hang_105 : decode cX8_hang 105 = .ok (.iload_n 1, 1) := by decide +kernel
theorem dX8_hang_106 : decode cX8_hang 106 = .ok (.iconst 1, 1) := by decide +kernel
theorem dX8_hang_107 : decode cX8_hang 107 = .ok (.iastore, 1) := by decide +kernel
theorem dX8_hang_108 : decode cX8_hang 108 = .ok (.aload_n 0, 1) := by decide +kernel
theorem dX8_hang_109 : decode cX8_hang 109 = .ok (.getfield 33, 3) := by decide +kernel
theorem dX8_hang_112 : decode cX8_hang 112 = .ok (.iload_n 1, 1) := by decide +kernel
theorem dX8_hang_113 : decode cX8_hang 113 = .ok (.aload_n 2, 1) := by decide +kernel
theorem dX8_hang_114 : decode cX8_hang 114 = .ok (.getfield 66, 3) := by decide +kernel
theorem dX8_hang_117 : decode cX8_hang 117 = .ok (.iload_n 1, 1) := by decide +kernel
theorem dX8_hang_118 : decode cX8_hang 118 = .ok (.iaload, 1) := by decide +kernel
theorem dX8_hang_119 : decode cX8_hang 119 = .ok (.iastore, 1) := by decide +kernel
theorem dX8_hang_120 : decode cX8_hang 120 = .ok (.iload_n 3, 1) := by decide +kernel
theorem dX8_hang_121 : decode cX8_hang 121 = .ok (.iconst (-1), 1) := by decide +kernel
theorem dX8_hang_122 : decode cX8_hang 122 = .ok (.if_icmp .ne 11, 3) := by decide +kernel
theorem dX8_hang_125 : decode cX8_hang 125 = .ok (.aload_n 0, 1) := by decide +kernel
theorem dX8_hang_126 : decode cX8_hang 126 = .ok (.iload_n 1, 1) := by decide +kernel
theorem dX8_hang_127 : decode cX8_hang 127 = .ok (.putfield 40, 3) := by decide +kernel
theorem dX8_hang_130 : decode cX8_hang 130 = .ok (.goto 35, 3) := by decide +kernel
theorem dX8_hang_133 : decode cX8_hang 133 = .ok (.aload_n 2, 1) := by decide +kernel
theorem dX8_hang_134 : decode cX8_hang 134 = .ok (.getfield 63, 3) := by decide +kernel
theorem dX8_hang_137 : decode cX8_hang 137 = .ok (.iload_n 1, 1) := by decide +kernel
theorem dX8_hang_138 : decode cX8_hang 138 = .ok (.iaload, 1) := by decide +kernel
theorem dX8_hang_139 : decode cX8_hang 139 = .ok (.aload_n 2, 1) := by decide +kernel
theorem dX8_hang_140 : decode cX8_hang 140 = .ok (.getfield 63, 3) := by decide +kernel
theorem dX8_hang_143 : decode cX8_hang 143 = .ok (.iload_n 3, 1) := by decide +kernel
theorem dX8_hang_144 : decode cX8_hang 144 = .ok (.iaload, 1) := by decide +kernel
theorem dX8_hang_145 : decode cX8_hang 145 = .ok (.if_icmp .ge 13, 3) := by decide +kernel
theorem dX8_hang_148 : decode cX8_hang 148 = .ok (.aload_n 0, 1) := by decide +kernel
theorem dX8_hang_149 : decode cX8_hang 149 = .ok (.getfield 18, 3) := by decide +kernel
theorem dX8_hang_152 : decode cX8_hang 152 = .ok (.iload_n 3, 1) := by decide +kernel
theorem dX8_hang_153 : decode cX8_hang 153 = .ok (.iload_n 1, 1) := by decide +kernel
theorem dX8_hang_154 : decode cX8_hang 154 = .ok (.iastore, 1) := by decide +kernel
theorem dX8_hang_155 : decode cX8_hang 155 = .ok (.goto 10, 3) := by decide +kernel
theorem dX8_hang_158 : decode cX8_hang 158 = .ok (.aload_n 0, 1) := by decide +kernel
theorem dX8_hang_159 : decode cX8_hang 159 = .ok (.getfield 21, 3) := by decide +kernel
theorem dX8_hang_162 : decode cX8_hang 162 = .ok (.iload_n 3, 1) := by decide +kernel
theorem dX8_hang_163 : decode cX8_hang 163 = .ok (.iload_n 1, 1) := by decide +kernel
theorem dX8_hang_164 : decode cX8_hang 164 = .ok (.iastore, 1) := by decide +kernel
theorem dX8_hang_165 : decode cX8_hang 165 = .ok (.return_, 1) := by decide +kernel
theorem dX8_tellAbove_0 : decode cX8_tellAbove 0 = .ok (.aload_n 0, 1) := by decide +kernel
theorem dX8_tellAbove_1 : decode cX8_tellAbove 1 = .ok (.getfield 27, 3) := by decide +kernel
theorem dX8_tellAbove_4 : decode cX8_tellAbove 4 = .ok (.iload_n 2, 1) := by decide +kernel
theorem dX8_tellAbove_5 : decode cX8_tellAbove 5 = .ok (.dup2, 1) := by decide +kernel
theorem dX8_tellAbove_6 : decode cX8_tellAbove 6 = .ok (.iaload, 1) := by decide +kernel
theorem dX8_tellAbove_7 : decode cX8_tellAbove 7 = .ok (.aload_n 0, 1) := by decide +kernel
theorem dX8_tellAbove_8 : decode cX8_tellAbove 8 = .ok (.getfield 27, 3) := by decide +kernel
theorem dX8_tellAbove_11 : decode cX8_tellAbove 11 = .ok (.iload_n 1, 1) := by decide +kernel
theorem dX8_tellAbove_12 : decode cX8_tellAbove 12 = .ok (.iaload, 1) := by decide +kernel
theorem dX8_tellAbove_13 : decode cX8_tellAbove 13 = .ok (.iadd, 1) := by decide +kernel
theorem dX8_tellAbove_14 : decode cX8_tellAbove 14 = .ok (.iastore, 1) := by decide +kernel
theorem dX8_tellAbove_15 : decode cX8_tellAbove 15 = .ok (.aload_n 0, 1) := by decide +kernel
theorem dX8_tellAbove_16 : decode cX8_tellAbove 16 = .ok (.getfield 30, 3) := by decide +kernel
theorem dX8_tellAbove_19 : decode cX8_tellAbove 19 = .ok (.iload_n 2, 1) := by decide +kernel
theorem dX8_tellAbove_20 : decode cX8_tellAbove 20 = .ok (.aload_n 0, 1) := by decide +kernel
theorem dX8_tellAbove_21 : decode cX8_tellAbove 21 = .ok (.getfield 30, 3) := by decide +kernel
theorem dX8_tellAbove_24 : decode cX8_tellAbove 24 = .ok (.iload_n 2, 1) := by decide +kernel
theorem dX8_tellAbove_25 : decode cX8_tellAbove 25 = .ok (.iaload, 1) := by decide +kernel
theorem dX8_tellAbove_26 : decode cX8_tellAbove 26 = .ok (.aload_n 0, 1) := by decide +kernel
theorem dX8_tellAbove_27 : decode cX8_tellAbove 27 = .ok (.getfield 30, 3) := by decide +kernel
theorem dX8_tellAbove_30 : decode cX8_tellAbove 30 = .ok (.iload_n 1, 1) := by decide +kernel
theorem dX8_tellAbove_31 : decode cX8_tellAbove 31 = .ok (.iaload, 1) := by decide +kernel
theorem dX8_tellAbove_32 : decode cX8_tellAbove 32 = .ok (.iconst 1, 1) := by decide +kernel
theorem dX8_tellAbove_33 : decode cX8_tellAbove 33 = .ok (.iadd, 1) := by decide +kernel
theorem dX8_tellAbove_34 : decode cX8_tellAbove 34 = .ok (.invokestatic 69, 3) := by decide +kernel
theorem dX8_tellAbove_37 : decode cX8_tellAbove 37 = .ok (.iastore, 1) := by decide +kernel
theorem dX8_tellAbove_38 : decode cX8_tellAbove 38 = .ok (.aload_n 0, 1) := by decide +kernel
theorem dX8_tellAbove_39 : decode cX8_tellAbove 39 = .ok (.getfield 33, 3) := by decide +kernel
theorem dX8_tellAbove_42 : decode cX8_tellAbove 42 = .ok (.iload_n 2, 1) := by decide +kernel
theorem dX8_tellAbove_43 : decode cX8_tellAbove 43 = .ok (.aload_n 0, 1) := by decide +kernel
theorem dX8_tellAbove_44 : decode cX8_tellAbove 44 = .ok (.getfield 33, 3) := by decide +kernel
theorem dX8_tellAbove_47 : decode cX8_tellAbove 47 = .ok (.iload_n 2, 1) := by decide +kernel
theorem dX8_tellAbove_48 : decode cX8_tellAbove 48 = .ok (.iaload, 1) := by decide +kernel
theorem dX8_tellAbove_49 : decode cX8_tellAbove 49 = .ok (.aload_n 0, 1) := by decide +kernel
theorem dX8_tellAbove_50 : decode cX8_tellAbove 50 = .ok (.getfield 33, 3) := by decide +kernel
theorem dX8_tellAbove_53 : decode cX8_tellAbove 53 = .ok (.iload_n 1, 1) := by decide +kernel
theorem dX8_tellAbove_54 : decode cX8_tellAbove 54 = .ok (.iaload, 1) := by decide +kernel
theorem dX8_tellAbove_55 : decode cX8_tellAbove 55 = .ok (.invokestatic 69, 3) := by decide +kernel
theorem dX8_tellAbove_58 : decode cX8_tellAbove 58 = .ok (.iastore, 1) := by decide +kernel
theorem dX8_tellAbove_59 : decode cX8_tellAbove 59 = .ok (.return_, 1) := by decide +kernel
theorem dX8_lookedAt_0 : decode cX8_lookedAt 0 = .ok (.iconst 0, 1) := by decide +kernel
theorem dX8_lookedAt_1 : decode cX8_lookedAt 1 = .ok (.istore 4, 2) := by decide +kernel
theorem dX8_lookedAt_3 : decode cX8_lookedAt 3 = .ok (.iconst 0, 1) := by decide +kernel
theorem dX8_lookedAt_4 : decode cX8_lookedAt 4 = .ok (.istore 5, 2) := by decide +kernel
theorem dX8_lookedAt_6 : decode cX8_lookedAt 6 = .ok (.iload 5, 2) := by decide +kernel
theorem dX8_lookedAt_8 : decode cX8_lookedAt 8 = .ok (.bipush 48, 2) := by decide +kernel
theorem dX8_lookedAt_10 : decode cX8_lookedAt 10 = .ok (.if_icmp .ge 64, 3) := by decide +kernel
theorem dX8_lookedAt_13 : decode cX8_lookedAt 13 = .ok (.aload_n 0, 1) := by decide +kernel
theorem dX8_lookedAt_14 : decode cX8_lookedAt 14 = .ok (.getfield 9, 3) := by decide +kernel
theorem dX8_lookedAt_17 : decode cX8_lookedAt 17 = .ok (.iload 5, 2) := by decide +kernel
theorem dX8_lookedAt_19 : decode cX8_lookedAt 19 = .ok (.iaload, 1) := by decide +kernel
theorem dX8_lookedAt_20 : decode cX8_lookedAt 20 = .ok (.istore 6, 2) := by decide +kernel
theorem dX8_lookedAt_22 : decode cX8_lookedAt 22 = .ok (.aload_n 1, 1) := by decide +kernel
theorem dX8_lookedAt_23 : decode cX8_lookedAt 23 = .ok (.getfield 50, 3) := by decide +kernel
theorem dX8_lookedAt_26 : decode cX8_lookedAt 26 = .ok (.iload 6, 2) := by decide +kernel
theorem dX8_lookedAt_28 : decode cX8_lookedAt 28 = .ok (.baload, 1) := by decide +kernel
theorem dX8_lookedAt_29 : decode cX8_lookedAt 29 = .ok (.ifCond .eq 39, 3) := by decide +kernel
theorem dX8_lookedAt_32 : decode cX8_lookedAt 32 = .ok (.aload_n 0, 1) := by decide +kernel
theorem dX8_lookedAt_33 : decode cX8_lookedAt 33 = .ok (.getfield 36, 3) := by decide +kernel
theorem dX8_lookedAt_36 : decode cX8_lookedAt 36 = .ok (.iload 6, 2) := by decide +kernel
theorem dX8_lookedAt_38 : decode cX8_lookedAt 38 = .ok (.aload_n 0, 1) := by decide +kernel
theorem dX8_lookedAt_39 : decode cX8_lookedAt 39 = .ok (.iload 6, 2) := by decide +kernel
theorem dX8_lookedAt_41 : decode cX8_lookedAt 41 = .ok (.aload_n 1, 1) := by decide +kernel
theorem dX8_lookedAt_42 : decode cX8_lookedAt 42 = .ok (.iload_n 2, 1) := by decide +kernel
theorem dX8_lookedAt_43 : decode cX8_lookedAt 43 = .ok (.iload_n 3, 1) := by decide +kernel
theorem dX8_lookedAt_44 : decode cX8_lookedAt 44 = .ok (.invokevirtual 75, 3) := by decide +kernel
theorem dX8_lookedAt_47 : decode cX8_lookedAt 47 = .ok (.bastore, 1) := by decide +kernel
theorem dX8_lookedAt_48 : decode cX8_lookedAt 48 = .ok (.iload 4, 2) := by decide +kernel
theorem dX8_lookedAt_50 : decode cX8_lookedAt 50 = .ok (.aload_n 0, 1) := by decide +kernel
theorem dX8_lookedAt_51 : decode cX8_lookedAt 51 = .ok (.getfield 36, 3) := by decide +kernel
theorem dX8_lookedAt_54 : decode cX8_lookedAt 54 = .ok (.iload 6, 2) := by decide +kernel
theorem dX8_lookedAt_56 : decode cX8_lookedAt 56 = .ok (.baload, 1) := by decide +kernel
theorem dX8_lookedAt_57 : decode cX8_lookedAt 57 = .ok (.ifCond .eq 7, 3) := by decide +kernel
theorem dX8_lookedAt_60 : decode cX8_lookedAt 60 = .ok (.iconst 1, 1) := by decide +kernel
theorem dX8_lookedAt_61 : decode cX8_lookedAt 61 = .ok (.goto 4, 3) := by decide +kernel
theorem dX8_lookedAt_64 : decode cX8_lookedAt 64 = .ok (.iconst 0, 1) := by decide +kernel
theorem dX8_lookedAt_65 : decode cX8_lookedAt 65 = .ok (.iadd, 1) := by decide +kernel
theorem dX8_lookedAt_66 : decode cX8_lookedAt 66 = .ok (.istore 4, 2) := by decide +kernel
theorem dX8_lookedAt_68 : decode cX8_lookedAt 68 = .ok (.iinc 5 1, 3) := by decide +kernel
theorem dX8_lookedAt_71 : decode cX8_lookedAt 71 = .ok (.goto (-65), 3) := by decide +kernel
theorem dX8_lookedAt_74 : decode cX8_lookedAt 74 = .ok (.iload 4, 2) := by decide +kernel
theorem dX8_lookedAt_76 : decode cX8_lookedAt 76 = .ok (.ireturn, 1) := by decide +kernel
theorem dX8_looksAt_0 : decode cX8_looksAt 0 = .ok (.aload_n 0, 1) := by decide +kernel
theorem dX8_looksAt_1 : decode cX8_looksAt 1 = .ok (.getfield 15, 3) := by decide +kernel
theorem dX8_looksAt_4 : decode cX8_looksAt 4 = .ok (.iload_n 1, 1) := by decide +kernel
theorem dX8_looksAt_5 : decode cX8_looksAt 5 = .ok (.iaload, 1) := by decide +kernel
theorem dX8_looksAt_6 : decode cX8_looksAt 6 = .ok (.istore 5, 2) := by decide +kernel
theorem dX8_looksAt_8 : decode cX8_looksAt 8 = .ok (.iload 5, 2) := by decide +kernel
theorem dX8_looksAt_10 : decode cX8_looksAt 10 = .ok (.iconst (-1), 1) := by decide +kernel
theorem dX8_looksAt_11 : decode cX8_looksAt 11 = .ok (.if_icmp .ne 5, 3) := by decide +kernel
theorem dX8_looksAt_14 : decode cX8_looksAt 14 = .ok (.iconst 1, 1) := by decide +kernel
theorem dX8_looksAt_15 : decode cX8_looksAt 15 = .ok (.ireturn, 1) := by decide +kernel
theorem dX8_looksAt_16 : decode cX8_looksAt 16 = .ok (.aload_n 0, 1) := by decide +kernel
theorem dX8_looksAt_17 : decode cX8_looksAt 17 = .ok (.getfield 36, 3) := by decide +kernel
theorem dX8_looksAt_20 : decode cX8_looksAt 20 = .ok (.iload 5, 2) := by decide +kernel
theorem dX8_looksAt_22 : decode cX8_looksAt 22 = .ok (.baload, 1) := by decide +kernel
theorem dX8_looksAt_23 : decode cX8_looksAt 23 = .ok (.ifCond .eq 13, 3) := by decide +kernel
theorem dX8_looksAt_26 : decode cX8_looksAt 26 = .ok (.aload_n 0, 1) := by decide +kernel
theorem dX8_looksAt_27 : decode cX8_looksAt 27 = .ok (.getfield 33, 3) := by decide +kernel
theorem dX8_looksAt_30 : decode cX8_looksAt 30 = .ok (.iload_n 1, 1) := by decide +kernel
theorem dX8_looksAt_31 : decode cX8_looksAt 31 = .ok (.iaload, 1) := by decide +kernel
theorem dX8_looksAt_32 : decode cX8_looksAt 32 = .ok (.iload_n 3, 1) := by decide +kernel
theorem dX8_looksAt_33 : decode cX8_looksAt 33 = .ok (.if_icmp .gt 5, 3) := by decide +kernel
theorem dX8_looksAt_36 : decode cX8_looksAt 36 = .ok (.iconst 0, 1) := by decide +kernel
theorem dX8_looksAt_37 : decode cX8_looksAt 37 = .ok (.ireturn, 1) := by decide +kernel
theorem dX8_looksAt_38 : decode cX8_looksAt 38 = .ok (.aload_n 0, 1) := by decide +kernel
theorem dX8_looksAt_39 : decode cX8_looksAt 39 = .ok (.getfield 18, 3) := by decide +kernel
theorem dX8_looksAt_42 : decode cX8_looksAt 42 = .ok (.iload 5, 2) := by decide +kernel
theorem dX8_looksAt_44 : decode cX8_looksAt 44 = .ok (.iaload, 1) := by decide +kernel
theorem dX8_looksAt_45 : decode cX8_looksAt 45 = .ok (.iload_n 1, 1) := by decide +kernel
theorem dX8_looksAt_46 : decode cX8_looksAt 46 = .ok (.if_icmp .eq 15, 3) := by decide +kernel
theorem dX8_looksAt_49 : decode cX8_looksAt 49 = .ok (.aload_n 2, 1) := by decide +kernel
theorem dX8_looksAt_50 : decode cX8_looksAt 50 = .ok (.getfield 79, 3) := by decide +kernel
theorem dX8_looksAt_53 : decode cX8_looksAt 53 = .ok (.iload 5, 2) := by decide +kernel
theorem dX8_looksAt_55 : decode cX8_looksAt 55 = .ok (.iaload, 1) := by decide +kernel
theorem dX8_looksAt_56 : decode cX8_looksAt 56 = .ok (.iload 4, 2) := by decide +kernel
theorem dX8_looksAt_58 : decode cX8_looksAt 58 = .ok (.if_icmp .ge 7, 3) := by decide +kernel
theorem dX8_looksAt_61 : decode cX8_looksAt 61 = .ok (.iconst 1, 1) := by decide +kernel
theorem dX8_looksAt_62 : decode cX8_looksAt 62 = .ok (.goto 4, 3) := by decide +kernel
theorem dX8_looksAt_65 : decode cX8_looksAt 65 = .ok (.iconst 0, 1) := by decide +kernel
theorem dX8_looksAt_66 : decode cX8_looksAt 66 = .ok (.ireturn, 1) := by decide +kernel
theorem dX9_init_0 : decode cX9_init 0 = .ok (.aload_n 0, 1) := by decide +kernel
theorem dX9_init_1 : decode cX9_init 1 = .ok (.invokespecial 3, 3) := by decide +kernel
theorem dX9_init_4 : decode cX9_init 4 = .ok (.aload_n 0, 1) := by decide +kernel
theorem dX9_init_5 : decode cX9_init 5 = .ok (.new 9, 3) := by decide +kernel
theorem dX9_init_8 : decode cX9_init 8 = .ok (.dup, 1) := by decide +kernel
theorem dX9_init_9 : decode cX9_init 9 = .ok (.invokespecial 11, 3) := by decide +kernel
theorem dX9_init_12 : decode cX9_init 12 = .ok (.putfield 12, 3) := by decide +kernel
theorem dX9_init_15 : decode cX9_init 15 = .ok (.aload_n 0, 1) := by decide +kernel
theorem dX9_init_16 : decode cX9_init 16 = .ok (.new 16, 3) := by decide +kernel
theorem dX9_init_19 : decode cX9_init 19 = .ok (.dup, 1) := by decide +kernel
theorem dX9_init_20 : decode cX9_init 20 = .ok (.invokespecial 18, 3) := by decide +kernel
theorem dX9_init_23 : decode cX9_init 23 = .ok (.putfield 19, 3) := by decide +kernel
theorem dX9_init_26 : decode cX9_init 26 = .ok (.aload_n 0, 1) := by decide +kernel
theorem dX9_init_27 : decode cX9_init 27 = .ok (.new 23, 3) := by decide +kernel
theorem dX9_init_30 : decode cX9_init 30 = .ok (.dup, 1) := by decide +kernel
theorem dX9_init_31 : decode cX9_init 31 = .ok (.invokespecial 25, 3) := by decide +kernel
theorem dX9_init_34 : decode cX9_init 34 = .ok (.putfield 26, 3) := by decide +kernel
theorem dX9_init_37 : decode cX9_init 37 = .ok (.aload_n 0, 1) := by decide +kernel
theorem dX9_init_38 : decode cX9_init 38 = .ok (.new 30, 3) := by decide +kernel
theorem dX9_init_41 : decode cX9_init 41 = .ok (.dup, 1) := by decide +kernel
theorem dX9_init_42 : decode cX9_init 42 = .ok (.invokespecial 32, 3) := by decide +kernel
theorem dX9_init_45 : decode cX9_init 45 = .ok (.putfield 33, 3) := by decide +kernel
theorem dX9_init_48 : decode cX9_init 48 = .ok (.aload_n 0, 1) := by decide +kernel
theorem dX9_init_49 : decode cX9_init 49 = .ok (.new 37, 3) := by decide +kernel
theorem dX9_init_52 : decode cX9_init 52 = .ok (.dup, 1) := by decide +kernel
theorem dX9_init_53 : decode cX9_init 53 = .ok (.invokespecial 39, 3) := by decide +kernel
theorem dX9_init_56 : decode cX9_init 56 = .ok (.putfield 40, 3) := by decide +kernel
theorem dX9_init_59 : decode cX9_init 59 = .ok (.aload_n 0, 1) := by decide +kernel
theorem dX9_init_60 : decode cX9_init 60 = .ok (.new 44, 3) := by decide +kernel
theorem dX9_init_63 : decode cX9_init 63 = .ok (.dup, 1) := by decide +kernel
theorem dX9_init_64 : decode cX9_init 64 = .ok (.invokespecial 46, 3) := by decide +kernel
theorem dX9_init_67 : decode cX9_init 67 = .ok (.putfield 47, 3) := by decide +kernel
theorem dX9_init_70 : decode cX9_init 70 = .ok (.aload_n 0, 1) := by decide +kernel
theorem dX9_init_71 : decode cX9_init 71 = .ok (.new 51, 3) := by decide +kernel
theorem dX9_init_74 : decode cX9_init 74 = .ok (.dup, 1) := by decide +kernel
theorem dX9_init_75 : decode cX9_init 75 = .ok (.invokespecial 53, 3) := by decide +kernel
theorem dX9_init_78 : decode cX9_init 78 = .ok (.putfield 54, 3) := by decide +kernel
theorem dX9_init_81 : decode cX9_init 81 = .ok (.aload_n 0, 1) := by decide +kernel
theorem dX9_init_82 : decode cX9_init 82 = .ok (.new 58, 3) := by decide +kernel
theorem dX9_init_85 : decode cX9_init 85 = .ok (.dup, 1) := by decide +kernel
theorem dX9_init_86 : decode cX9_init 86 = .ok (.invokespecial 60, 3) := by decide +kernel
theorem dX9_init_89 : decode cX9_init 89 = .ok (.putfield 61, 3) := by decide +kernel
theorem dX9_init_92 : decode cX9_init 92 = .ok (.aload_n 0, 1) := by decide +kernel
theorem dX9_init_93 : decode cX9_init 93 = .ok (.iconst 4, 1) := by decide +kernel
theorem dX9_init_94 : decode cX9_init 94 = .ok (.anewarray 65, 3) := by decide +kernel
theorem dX9_init_97 : decode cX9_init 97 = .ok (.putfield 67, 3) := by decide +kernel
theorem dX9_init_100 : decode cX9_init 100 = .ok (.aload_n 0, 1) := by decide +kernel
theorem dX9_init_101 : decode cX9_init 101 = .ok (.iconst 1, 1) := by decide +kernel
theorem dX9_init_102 : decode cX9_init 102 = .ok (.putfield 71, 3) := by decide +kernel
theorem dX9_init_105 : decode cX9_init 105 = .ok (.aload_n 0, 1) := by decide +kernel
theorem dX9_init_106 : decode cX9_init 106 = .ok (.iconst 0, 1) := by decide +kernel
theorem dX9_init_107 : decode cX9_init 107 = .ok (.putfield 75, 3) := by decide +kernel
theorem dX9_init_110 : decode cX9_init 110 = .ok (.iconst 0, 1) := by decide +kernel
theorem dX9_init_111 : decode cX9_init 111 = .ok (.istore_n 1, 1) := by decide +kernel
theorem dX9_init_112 : decode cX9_init 112 = .ok (.iload_n 1, 1) := by decide +kernel
theorem dX9_init_113 : decode cX9_init 113 = .ok (.iconst 4, 1) := by decide +kernel
theorem dX9_init_114 : decode cX9_init 114 = .ok (.if_icmp .ge 22, 3) := by decide +kernel
theorem dX9_init_117 : decode cX9_init 117 = .ok (.aload_n 0, 1) := by decide +kernel
theorem dX9_init_118 : decode cX9_init 118 = .ok (.getfield 67, 3) := by decide +kernel
theorem dX9_init_121 : decode cX9_init 121 = .ok (.iload_n 1, 1) := by decide +kernel
theorem dX9_init_122 : decode cX9_init 122 = .ok (.new 65, 3) := by decide +kernel
theorem dX9_init_125 : decode cX9_init 125 = .ok (.dup, 1) := by decide +kernel
theorem dX9_init_126 : decode cX9_init 126 = .ok (.invokespecial 79, 3) := by decide +kernel
theorem dX9_init_129 : decode cX9_init 129 = .ok (.aastore, 1) := by decide +kernel
theorem dX9_init_130 : decode cX9_init 130 = .ok (.iinc 1 1, 3) := by decide +kernel
theorem dX9_init_133 : decode cX9_init 133 = .ok (.goto (-21), 3) := by decide +kernel
theorem dX9_init_136 : decode cX9_init 136 = .ok (.return_, 1) := by decide +kernel
theorem dX9_put_0 : decode cX9_put 0 = .ok (.iload_n 1, 1) := by decide +kernel
theorem dX9_put_1 : decode cX9_put 1 = .ok (.invokestatic 80, 3) := by decide +kernel
theorem dX9_put_4 : decode cX9_put 4 = .ok (.ifCond .eq 11, 3) := by decide +kernel
theorem dX9_put_7 : decode cX9_put 7 = .ok (.iload_n 2, 1) := by decide +kernel
theorem dX9_put_8 : decode cX9_put 8 = .ok (.iload_n 3, 1) := by decide +kernel
theorem dX9_put_9 : decode cX9_put 9 = .ok (.invokestatic 84, 3) := by decide +kernel
theorem dX9_put_12 : decode cX9_put 12 = .ok (.ifCond .ne 6, 3) := by decide +kernel
theorem dX9_put_15 : decode cX9_put 15 = .ok (.bipush (-2), 2) := by decide +kernel
theorem dX9_put_17 : decode cX9_put 17 = .ok (.ireturn, 1) := by decide +kernel
theorem dX9_put_18 : decode cX9_put 18 = .ok (.aload_n 0, 1) := by decide +kernel
theorem dX9_put_19 : decode cX9_put 19 = .ok (.getfield 12, 3) := by decide +kernel
theorem dX9_put_22 : decode cX9_put 22 = .ok (.getfield 88, 3) := by decide +kernel
theorem dX9_put_25 : decode cX9_put 25 = .ok (.iload_n 1, 1) := by decide +kernel
theorem dX9_put_26 : decode cX9_put 26 = .ok (.baload, 1) := by decide +kernel
theorem dX9_put_27 : decode cX9_put 27 = .ok (.ifCond .eq 6, 3) := by decide +kernel
theorem dX9_put_30 : decode cX9_put 30 = .ok (.bipush (-3), 2) := by decide +kernel
theorem dX9_put_32 : decode cX9_put 32 = .ok (.ireturn, 1) := by decide +kernel
theorem dX9_put_33 : decode cX9_put 33 = .ok (.aload_n 0, 1) := by decide +kernel
theorem dX9_put_34 : decode cX9_put 34 = .ok (.iload_n 1, 1) := by decide +kernel
theorem dX9_put_35 : decode cX9_put 35 = .ok (.iconst 1, 1) := by decide +kernel
theorem dX9_put_36 : decode cX9_put 36 = .ok (.iload_n 2, 1) := by decide +kernel
theorem dX9_put_37 : decode cX9_put 37 = .ok (.iload_n 3, 1) := by decide +kernel
theorem dX9_put_38 : decode cX9_put 38 = .ok (.invokevirtual 92, 3) := by decide +kernel
theorem dX9_put_41 : decode cX9_put 41 = .ok (.aload_n 0, 1) := by decide +kernel
theorem dX9_put_42 : decode cX9_put 42 = .ok (.getfield 12, 3) := by decide +kernel
theorem dX9_put_45 : decode cX9_put 45 = .ok (.getfield 96, 3) := by decide +kernel
theorem dX9_put_48 : decode cX9_put 48 = .ok (.ireturn, 1) := by decide +kernel
theorem dX9_drop_0 : decode cX9_drop 0 = .ok (.iload_n 1, 1) := by decide +kernel
theorem dX9_drop_1 : decode cX9_drop 1 = .ok (.invokestatic 80, 3) := by decide +kernel
theorem dX9_drop_4 : decode cX9_drop 4 = .ok (.ifCond .ne 6, 3) := by decide +kernel
theorem dX9_drop_7 : decode cX9_drop 7 = .ok (.bipush (-2), 2) := by decide +kernel
theorem dX9_drop_9 : decode cX9_drop 9 = .ok (.ireturn, 1) := by decide +kernel
theorem dX9_drop_10 : decode cX9_drop 10 = .ok (.aload_n 0, 1) := by decide +kernel
theorem dX9_drop_11 : decode cX9_drop 11 = .ok (.getfield 12, 3) := by decide +kernel
theorem dX9_drop_14 : decode cX9_drop 14 = .ok (.getfield 88, 3) := by decide +kernel
theorem dX9_drop_17 : decode cX9_drop 17 = .ok (.iload_n 1, 1) := by decide +kernel
theorem dX9_drop_18 : decode cX9_drop 18 = .ok (.baload, 1) := by decide +kernel
theorem dX9_drop_19 : decode cX9_drop 19 = .ok (.ifCond .ne 6, 3) := by decide +kernel
theorem dX9_drop_22 : decode cX9_drop 22 = .ok (.bipush (-3), 2) := by decide +kernel
theorem dX9_drop_24 : decode cX9_drop 24 = .ok (.ireturn, 1) := by decide +kernel
theorem dX9_drop_25 : decode cX9_drop 25 = .ok (.aload_n 0, 1) := by decide +kernel
theorem dX9_drop_26 : decode cX9_drop 26 = .ok (.iload_n 1, 1) := by decide +kernel
theorem dX9_drop_27 : decode cX9_drop 27 = .ok (.iconst 0, 1) := by decide +kernel
theorem dX9_drop_28 : decode cX9_drop 28 = .ok (.iconst 0, 1) := by decide +kernel
theorem dX9_drop_29 : decode cX9_drop 29 = .ok (.iconst 0, 1) := by decide +kernel
theorem dX9_drop_30 : decode cX9_drop 30 = .ok (.invokevirtual 92, 3) := by decide +kernel
theorem dX9_drop_33 : decode cX9_drop 33 = .ok (.aload_n 0, 1) := by decide +kernel
theorem dX9_drop_34 : decode cX9_drop 34 = .ok (.getfield 12, 3) := by decide +kernel
theorem dX9_drop_37 : decode cX9_drop 37 = .ok (.getfield 96, 3) := by decide +kernel
theorem dX9_drop_40 : decode cX9_drop 40 = .ok (.ireturn, 1) := by decide +kernel
theorem dX9_move_0 : decode cX9_move 0 = .ok (.iload_n 1, 1) := by decide +kernel
theorem dX9_move_1 : decode cX9_move 1 = .ok (.invokestatic 80, 3) := by decide +kernel
theorem dX9_move_4 : decode cX9_move 4 = .ok (.ifCond .ne 6, 3) := by decide +kernel
theorem dX9_move_7 : decode cX9_move 7 = .ok (.bipush (-2), 2) := by decide +kernel
theorem dX9_move_9 : decode cX9_move 9 = .ok (.ireturn, 1) := by decide +kernel
theorem dX9_move_10 : decode cX9_move 10 = .ok (.aload_n 0, 1) := by decide +kernel
theorem dX9_move_11 : decode cX9_move 11 = .ok (.getfield 12, 3) := by decide +kernel
theorem dX9_move_14 : decode cX9_move 14 = .ok (.getfield 88, 3) := by decide +kernel
theorem dX9_move_17 : decode cX9_move 17 = .ok (.iload_n 1, 1) := by decide +kernel
theorem dX9_move_18 : decode cX9_move 18 = .ok (.baload, 1) := by decide +kernel
theorem dX9_move_19 : decode cX9_move 19 = .ok (.ifCond .ne 6, 3) := by decide +kernel
theorem dX9_move_22 : decode cX9_move 22 = .ok (.bipush (-3), 2) := by decide +kernel
theorem dX9_move_24 : decode cX9_move 24 = .ok (.ireturn, 1) := by decide +kernel
theorem dX9_move_25 : decode cX9_move 25 = .ok (.aload_n 0, 1) := by decide +kernel
theorem dX9_move_26 : decode cX9_move 26 = .ok (.getfield 12, 3) := by decide +kernel
theorem dX9_move_29 : decode cX9_move 29 = .ok (.getfield 99, 3) := by decide +kernel
theorem dX9_move_32 : decode cX9_move 32 = .ok (.iload_n 1, 1) := by decide +kernel
theorem dX9_move_33 : decode cX9_move 33 = .ok (.iaload, 1) := by decide +kernel
theorem dX9_move_34 : decode cX9_move 34 = .ok (.i2l, 1) := by decide +kernel
theorem dX9_move_35 : decode cX9_move 35 = .ok (.iload_n 2, 1) := by decide +kernel
theorem dX9_move_36 : decode cX9_move 36 = .ok (.i2l, 1) := by decide +kernel
theorem dX9_move_37 : decode cX9_move 37 = .ok (.ladd, 1) := by decide +kernel
theorem dX9_move_38 : decode cX9_move 38 = .ok (.lstore_n 3, 1) := by decide +kernel
theorem dX9_move_39 : decode cX9_move 39 = .ok (.aload_n 0, 1) := by decide +kernel
theorem dX9_move_40 : decode cX9_move 40 = .ok (.getfield 12, 3) := by decide +kernel
theorem dX9_move_43 : decode cX9_move 43 = .ok (.getfield 103, 3) := by decide +kernel
theorem dX9_move_46 : decode cX9_move 46 = .ok (.iload_n 1, 1) := by decide +kernel
theorem dX9_move_47 : decode cX9_move 47 = .ok (.iaload, 1) := by decide +kernel
theorem dX9_move_48 : decode cX9_move 48 = .ok (.i2l, 1) := by decide +kernel
theorem dX9_move_49 : decode cX9_move 49 = .ok (.iload_n 2, 1) := by decide +kernel
theorem dX9_move_50 : decode cX9_move 50 = .ok (.i2l, 1) := by decide +kernel
theorem dX9_move_51 : decode cX9_move 51 = .ok (.ladd, 1) := by decide +kernel
theorem dX9_move_52 : decode cX9_move 52 = .ok (.lstore 5, 2) := by decide +kernel
theorem dX9_move_54 : decode cX9_move 54 = .ok (.lload_n 3, 1) := by decide +kernel
theorem dX9_move_55 : decode cX9_move 55 = .ok (.ldc2_w 106, 3) := by decide +kernel
theorem dX9_move_58 : decode cX9_move 58 = .ok (.lcmp, 1) := by decide +kernel
theorem dX9_move_59 : decode cX9_move 59 = .ok (.ifCond .lt 12, 3) := by decide +kernel
theorem dX9_move_62 : decode cX9_move 62 = .ok (.lload 5, 2) := by decide +kernel
theorem dX9_move_64 : decode cX9_move 64 = .ok (.ldc2_w 108, 3) := by decide +kernel
theorem dX9_move_67 : decode cX9_move 67 = .ok (.lcmp, 1) := by decide +kernel
theorem dX9_move_68 : decode cX9_move 68 = .ok (.ifCond .le 6, 3) := by decide +kernel
theorem dX9_move_71 : decode cX9_move 71 = .ok (.bipush (-4), 2) := by decide +kernel
theorem dX9_move_73 : decode cX9_move 73 = .ok (.ireturn, 1) := by decide +kernel
theorem dX9_move_74 : decode cX9_move 74 = .ok (.aload_n 0, 1) := by decide +kernel
theorem dX9_move_75 : decode cX9_move 75 = .ok (.iload_n 1, 1) := by decide +kernel
theorem dX9_move_76 : decode cX9_move 76 = .ok (.iconst 1, 1) := by decide +kernel
theorem dX9_move_77 : decode cX9_move 77 = .ok (.lload_n 3, 1) := by decide +kernel
theorem dX9_move_78 : decode cX9_move 78 = .ok (.l2i, 1) := by decide +kernel
theorem dX9_move_79 : decode cX9_move 79 = .ok (.lload 5, 2) := by decide +kernel
theorem dX9_move_81 : decode cX9_move 81 = .ok (.l2i, 1) := by decide +kernel
theorem dX9_move_82 : decode cX9_move 82 = .ok (.invokevirtual 92, 3) := by decide +kernel
theorem dX9_move_85 : decode cX9_move 85 = .ok (.iconst 1, 1) := by decide +kernel
theorem dX9_move_86 : decode cX9_move 86 = .ok (.ireturn, 1) := by decide +kernel
theorem dX9_undo_0 : decode cX9_undo 0 = .ok (.aload_n 0, 1) := by decide +kernel
theorem dX9_undo_1 : decode cX9_undo 1 = .ok (.getfield 19, 3) := by decide +kernel
theorem dX9_undo_4 : decode cX9_undo 4 = .ok (.getfield 110, 3) := by decide +kernel
theorem dX9_undo_7 : decode cX9_undo 7 = .ok (.ifCond .ne 6, 3) := by decide +kernel
theorem dX9_undo_10 : decode cX9_undo 10 = .ok (.bipush (-3), 2) := by decide +kernel
theorem dX9_undo_12 : decode cX9_undo 12 = .ok (.ireturn, 1) := by decide +kernel
theorem dX9_undo_13 : decode cX9_undo 13 = .ok (.aload_n 0, 1) := by decide +kernel
theorem dX9_undo_14 : decode cX9_undo 14 = .ok (.getfield 19, 3) := by decide +kernel
theorem dX9_undo_17 : decode cX9_undo 17 = .ok (.invokevirtual 111, 3) := by decide +kernel
theorem dX9_undo_20 : decode cX9_undo 20 = .ok (.istore_n 1, 1) := by decide +kernel
theorem dX9_undo_21 : decode cX9_undo 21 = .ok (.aload_n 0, 1) := by decide +kernel
theorem dX9_undo_22 : decode cX9_undo 22 = .ok (.aload_n 0, 1) := by decide +kernel
theorem dX9_undo_23 : decode cX9_undo 23 = .ok (.getfield 19, 3) := by decide +kernel
theorem dX9_undo_26 : decode cX9_undo 26 = .ok (.getfield 115, 3) := by decide +kernel
theorem dX9_undo_29 : decode cX9_undo 29 = .ok (.iload_n 1, 1) := by decide +kernel
theorem dX9_undo_30 : decode cX9_undo 30 = .ok (.iaload, 1) := by decide +kernel
theorem dX9_undo_31 : decode cX9_undo 31 = .ok (.aload_n 0, 1) := by decide +kernel
theorem dX9_undo_32 : decode cX9_undo 32 = .ok (.getfield 19, 3) := by decide +kernel
theorem dX9_undo_35 : decode cX9_undo 35 = .ok (.getfield 118, 3) := by decide +kernel
theorem dX9_undo_38 : decode cX9_undo 38 = .ok (.iload_n 1, 1) := by decide +kernel
theorem dX9_undo_39 : decode cX9_undo 39 = .ok (.baload, 1) := by decide +kernel
theorem dX9_undo_40 : decode cX9_undo 40 = .ok (.aload_n 0, 1) := by decide +kernel
theorem dX9_undo_41 : decode cX9_undo 41 = .ok (.getfield 19, 3) := by decide +kernel
theorem dX9_undo_44 : decode cX9_undo 44 = .ok (.getfield 119, 3) := by decide +kernel
theorem dX9_undo_47 : decode cX9_undo 47 = .ok (.iload_n 1, 1) := by decide +kernel
theorem dX9_undo_48 : decode cX9_undo 48 = .ok (.iaload, 1) := by decide +kernel
theorem dX9_undo_49 : decode cX9_undo 49 = .ok (.aload_n 0, 1) := by decide +kernel
theorem dX9_undo_50 : decode cX9_undo 50 = .ok (.getfield 19, 3) := by decide +kernel
theorem dX9_undo_53 : decode cX9_undo 53 = .ok (.getfield 120, 3) := by decide +kernel
theorem dX9_undo_56 : decode cX9_undo 56 = .ok (.iload_n 1, 1) := by decide +kernel
theorem dX9_undo_57 : decode cX9_undo 57 = .ok (.iaload, 1) := by decide +kernel
theorem dX9_undo_58 : decode cX9_undo 58 = .ok (.invokevirtual 121, 3) := by decide +kernel
theorem dX9_undo_61 : decode cX9_undo 61 = .ok (.aload_n 0, 1) := by decide +kernel
theorem dX9_undo_62 : decode cX9_undo 62 = .ok (.getfield 19, 3) := by decide +kernel
theorem dX9_undo_65 : decode cX9_undo 65 = .ok (.getfield 110, 3) := by decide +kernel
theorem dX9_undo_68 : decode cX9_undo 68 = .ok (.ireturn, 1) := by decide +kernel
theorem dX9_fill_0 : decode cX9_fill 0 = .ok (.iload_n 1, 1) := by decide +kernel
theorem dX9_fill_1 : decode cX9_fill 1 = .ok (.invokestatic 124, 3) := by decide +kernel
theorem dX9_fill_4 : decode cX9_fill 4 = .ok (.ifCond .ne 6, 3) := by decide +kernel
theorem dX9_fill_7 : decode cX9_fill 7 = .ok (.bipush (-2), 2) := by decide +kernel
theorem dX9_fill_9 : decode cX9_fill 9 = .ok (.ireturn, 1) := by decide +kernel
theorem dX9_fill_10 : decode cX9_fill 10 = .ok (.aload_n 0, 1) := by decide +kernel
theorem dX9_fill_11 : decode cX9_fill 11 = .ok (.getfield 67, 3) := by decide +kernel
theorem dX9_fill_14 : decode cX9_fill 14 = .ok (.iload_n 1, 1) := by decide +kernel
theorem dX9_fill_15 : decode cX9_fill 15 = .ok (.aaload, 1) := by decide +kernel
theorem dX9_fill_16 : decode cX9_fill 16 = .ok (.astore_n 2, 1) := by decide +kernel
theorem dX9_fill_17 : decode cX9_fill 17 = .ok (.aload_n 2, 1) := by decide +kernel
theorem dX9_fill_18 : decode cX9_fill 18 = .ok (.getfield 127, 3) := by decide +kernel
theorem dX9_fill_21 : decode cX9_fill 21 = .ok (.ifCond .eq 9, 3) := by decide +kernel
theorem dX9_fill_24 : decode cX9_fill 24 = .ok (.aload_n 0, 1) := by decide +kernel
theorem dX9_fill_25 : decode cX9_fill 25 = .ok (.iconst 1, 1) := by decide +kernel
theorem dX9_fill_26 : decode cX9_fill 26 = .ok (.invokevirtual 130, 3) := by decide +kernel
theorem dX9_fill_29 : decode cX9_fill 29 = .ok (.ireturn, 1) := by decide +kernel
theorem dX9_fill_30 : decode cX9_fill 30 = .ok (.iconst 0, 1) := by decide +kernel
theorem dX9_fill_31 : decode cX9_fill 31 = .ok (.istore_n 3, 1) := by decide +kernel
theorem dX9_fill_32 : decode cX9_fill 32 = .ok (.iconst 0, 1) := by decide +kernel
theorem dX9_fill_33 : decode cX9_fill 33 = .ok (.istore 4, 2) := by decide +kernel
theorem dX9_fill_35 : decode cX9_fill 35 = .ok (.iload 4, 2) := by decide +kernel
theorem dX9_fill_37 : decode cX9_fill 37 = .ok (.iconst 1, 1) := by decide +kernel
theorem dX9_fill_38 : decode cX9_fill 38 = .ok (.iadd, 1) := by decide +kernel
theorem dX9_fill_39 : decode cX9_fill 39 = .ok (.aload_n 2, 1) := by decide +kernel
theorem dX9_fill_40 : decode cX9_fill 40 = .ok (.getfield 134, 3) := by decide +kernel
theorem dX9_fill_43 : decode cX9_fill 43 = .ok (.if_icmp .ge 75, 3) := by decide +kernel
theorem dX9_fill_46 : decode cX9_fill 46 = .ok (.aload_n 0, 1) := by decide +kernel
theorem dX9_fill_47 : decode cX9_fill 47 = .ok (.getfield 12, 3) := by decide +kernel
theorem dX9_fill_50 : decode cX9_fill 50 = .ok (.invokevirtual 135, 3) := by decide +kernel
theorem dX9_fill_53 : decode cX9_fill 53 = .ok (.istore 5, 2) := by decide +kernel
theorem dX9_fill_55 : decode cX9_fill 55 = .ok (.iload 5, 2) := by decide +kernel
theorem dX9_fill_57 : decode cX9_fill 57 = .ok (.iconst (-1), 1) := by decide +kernel
theorem dX9_fill_58 : decode cX9_fill 58 = .ok (.if_icmp .eq 60, 3) := by decide +kernel
theorem dX9_fill_61 : decode cX9_fill 61 = .ok (.aload_n 2, 1) := by decide +kernel
theorem dX9_fill_62 : decode cX9_fill 62 = .ok (.getfield 138, 3) := by decide +kernel
theorem dX9_fill_65 : decode cX9_fill 65 = .ok (.iload 4, 2) := by decide +kernel
theorem dX9_fill_67 : decode cX9_fill 67 = .ok (.iaload, 1) := by decide +kernel
theorem dX9_fill_68 : decode cX9_fill 68 = .ok (.aload_n 2, 1) := by decide +kernel
theorem dX9_fill_69 : decode cX9_fill 69 = .ok (.getfield 138, 3) := by decide +kernel
theorem dX9_fill_72 : decode cX9_fill 72 = .ok (.iload 4, 2) := by decide +kernel
theorem dX9_fill_74 : decode cX9_fill 74 = .ok (.iconst 1, 1) := by decide +kernel
theorem dX9_fill_75 : decode cX9_fill 75 = .ok (.iadd, 1) := by decide +kernel
theorem dX9_fill_76 : decode cX9_fill 76 = .ok (.iaload, 1) := by decide +kernel
theorem dX9_fill_77 : decode cX9_fill 77 = .ok (.invokestatic 84, 3) := by decide +kernel
theorem dX9_fill_80 : decode cX9_fill 80 = .ok (.ifCond .ne 6, 3) := by decide +kernel
theorem dX9_fill_83 : decode cX9_fill 83 = .ok (.goto 35, 3) := by decide +kernel
theorem dX9_fill_86 : decode cX9_fill 86 = .ok (.aload_n 0, 1) := by decide +kernel
theorem dX9_fill_87 : decode cX9_fill 87 = .ok (.iload 5, 2) := by decide +kernel
theorem dX9_fill_89 : decode cX9_fill 89 = .ok (.iconst 1, 1) := by decide +kernel
theorem dX9_fill_90 : decode cX9_fill 90 = .ok (.aload_n 2, 1) := by decide +kernel
theorem dX9_fill_91 : decode cX9_fill 91 = .ok (.getfield 138, 3) := by decide +kernel
theorem dX9_fill_94 : decode cX9_fill 94 = .ok (.iload 4, 2) := by decide +kernel
theorem dX9_fill_96 : decode cX9_fill 96 = .ok (.iaload, 1) := by decide +kernel
theorem dX9_fill_97 : decode cX9_fill 97 = .ok (.aload_n 2, 1) := by decide +kernel
theorem dX9_fill_98 : decode cX9_fill 98 = .ok (.getfield 138, 3) := by decide +kernel
theorem dX9_fill_101 : decode cX9_fill 101 = .ok (.iload 4, 2) := by decide +kernel
theorem dX9_fill_103 : decode cX9_fill 103 = .ok (.iconst 1, 1) := by decide +kernel
theorem dX9_fill_104 : decode cX9_fill 104 = .ok (.iadd, 1) := by decide +kernel
theorem dX9_fill_105 : decode cX9_fill 105 = .ok (.iaload, 1) := by decide +kernel
theorem dX9_fill_106 : decode cX9_fill 106 = .ok (.invokevirtual 92, 3) := by decide +kernel
theorem dX9_fill_109 : decode cX9_fill 109 = .ok (.iinc 3 1, 3) := by decide +kernel
theorem dX9_fill_112 : decode cX9_fill 112 = .ok (.iinc 4 2, 3) := by decide +kernel
theorem dX9_fill_115 : decode cX9_fill 115 = .ok (.goto (-80), 3) := by decide +kernel
theorem dX9_fill_118 : decode cX9_fill 118 = .ok (.iload_n 3, 1) := by decide +kernel
theorem dX9_fill_119 : decode cX9_fill 119 = .ok (.ireturn, 1) := by decide +kernel
theorem dX9_span_0 : decode cX9_span 0 = .ok (.aload_n 0, 1) := by decide +kernel
theorem dX9_span_1 : decode cX9_span 1 = .ok (.iload_n 1, 1) := by decide +kernel
theorem dX9_span_2 : decode cX9_span 2 = .ok (.invokevirtual 141, 3) := by decide +kernel
theorem dX9_span_5 : decode cX9_span 5 = .ok (.ifCond .eq 12, 3) := by decide +kernel
theorem dX9_span_8 : decode cX9_span 8 = .ok (.iload_n 2, 1) := by decide +kernel
theorem dX9_span_9 : decode cX9_span 9 = .ok (.ifCond .lt 8, 3) := by decide +kernel
theorem dX9_span_12 : decode cX9_span 12 = .ok (.iload_n 2, 1) := by decide +kernel
theorem dX9_span_13 : decode cX9_span 13 = .ok (.iconst 1, 1) := by decide +kernel
theorem dX9_span_14 : decode cX9_span 14 = .ok (.if_icmp .le 6, 3) := by decide +kernel
theorem dX9_span_17 : decode cX9_span 17 = .ok (.ldc 144, 2) := by decide +kernel
theorem dX9_span_19 : decode cX9_span 19 = .ok (.ireturn, 1) := by decide +kernel
theorem dX9_span_20 : decode cX9_span 20 = .ok (.iload_n 2, 1) := by decide +kernel
theorem dX9_span_21 : decode cX9_span 21 = .ok (.ifCond .ne 15, 3) := by decide +kernel
theorem dX9_span_24 : decode cX9_span 24 = .ok (.aload_n 0, 1) := by decide +kernel
theorem dX9_span_25 : decode cX9_span 25 = .ok (.getfield 12, 3) := by decide +kernel
theorem dX9_span_28 : decode cX9_span 28 = .ok (.getfield 99, 3) := by decide +kernel
theorem dX9_span_31 : decode cX9_span 31 = .ok (.iload_n 1, 1) := by decide +kernel
theorem dX9_span_32 : decode cX9_span 32 = .ok (.iaload, 1) := by decide +kernel
theorem dX9_span_33 : decode cX9_span 33 = .ok (.goto 12, 3) := by decide +kernel
theorem dX9_span_36 : decode cX9_span 36 = .ok (.aload_n 0, 1) := by decide +kernel
theorem dX9_span_37 : decode cX9_span 37 = .ok (.getfield 12, 3) := by decide +kernel
theorem dX9_span_40 : decode cX9_span 40 = .ok (.getfield 103, 3) := by decide +kernel
theorem dX9_span_43 : decode cX9_span 43 = .ok (.iload_n 1, 1) := by decide +kernel
theorem dX9_span_44 : decode cX9_span 44 = .ok (.iaload, 1) := by decide +kernel
theorem dX9_span_45 : decode cX9_span 45 = .ok (.ireturn, 1) := by decide +kernel
theorem dX9_rank_0 : decode cX9_rank 0 = .ok (.iload_n 1, 1) := by decide +kernel
theorem dX9_rank_1 : decode cX9_rank 1 = .ok (.invokestatic 80, 3) := by decide +kernel
theorem dX9_rank_4 : decode cX9_rank 4 = .ok (.ifCond .ne 6, 3) := by decide +kernel
theorem dX9_rank_7 : decode cX9_rank 7 = .ok (.bipush (-2), 2) := by decide +kernel
theorem dX9_rank_9 : decode cX9_rank 9 = .ok (.ireturn, 1) := by decide +kernel
theorem dX9_rank_10 : decode cX9_rank 10 = .ok (.aload_n 0, 1) := by decide +kernel
theorem dX9_rank_11 : decode cX9_rank 11 = .ok (.getfield 12, 3) := by decide +kernel
theorem dX9_rank_14 : decode cX9_rank 14 = .ok (.getfield 88, 3) := by decide +kernel
theorem dX9_rank_17 : decode cX9_rank 17 = .ok (.iload_n 1, 1) := by decide +kernel
theorem dX9_rank_18 : decode cX9_rank 18 = .ok (.baload, 1) := by decide +kernel
theorem dX9_rank_19 : decode cX9_rank 19 = .ok (.ifCond .eq 15, 3) := by decide +kernel
theorem dX9_rank_22 : decode cX9_rank 22 = .ok (.aload_n 0, 1) := by decide +kernel
theorem dX9_rank_23 : decode cX9_rank 23 = .ok (.getfield 12, 3) := by decide +kernel
theorem dX9_rank_26 : decode cX9_rank 26 = .ok (.getfield 145, 3) := by decide +kernel
theorem dX9_rank_29 : decode cX9_rank 29 = .ok (.iload_n 1, 1) := by decide +kernel
theorem dX9_rank_30 : decode cX9_rank 30 = .ok (.iaload, 1) := by decide +kernel
theorem dX9_rank_31 : decode cX9_rank 31 = .ok (.goto 5, 3) := by decide +kernel
theorem dX9_rank_34 : decode cX9_rank 34 = .ok (.bipush (-3), 2) := by decide +kernel
theorem dX9_rank_36 : decode cX9_rank 36 = .ok (.ireturn, 1) := by decide +kernel
theorem dX9_ranked_0 : decode cX9_ranked 0 = .ok (.iload_n 1, 1) := by decide +kernel
theorem dX9_ranked_1 : decode cX9_ranked 1 = .ok (.invokestatic 80, 3) := by decide +kernel
theorem dX9_ranked_4 : decode cX9_ranked 4 = .ok (.ifCond .ne 6, 3) := by decide +kernel
theorem dX9_ranked_7 : decode cX9_ranked 7 = .ok (.bipush (-2), 2) := by decide +kernel
theorem dX9_ranked_9 : decode cX9_ranked 9 = .ok (.ireturn, 1) := by decide +kernel
theorem dX9_ranked_10 : decode cX9_ranked 10 = .ok (.iload_n 1, 1) := by decide +kernel
theorem dX9_ranked_11 : decode cX9_ranked 11 = .ok (.aload_n 0, 1) := by decide +kernel
theorem dX9_ranked_12 : decode cX9_ranked 12 = .ok (.getfield 12, 3) := by decide +kernel
theorem dX9_ranked_15 : decode cX9_ranked 15 = .ok (.getfield 96, 3) := by decide +kernel
theorem dX9_ranked_18 : decode cX9_ranked 18 = .ok (.if_icmp .ge 15, 3) := by decide +kernel
theorem dX9_ranked_21 : decode cX9_ranked 21 = .ok (.aload_n 0, 1) := by decide +kernel
theorem dX9_ranked_22 : decode cX9_ranked 22 = .ok (.getfield 12, 3) := by decide +kernel
theorem dX9_ranked_25 : decode cX9_ranked 25 = .ok (.getfield 148, 3) := by decide +kernel
theorem dX9_ranked_28 : decode cX9_ranked 28 = .ok (.iload_n 1, 1) := by decide +kernel
theorem dX9_ranked_29 : decode cX9_ranked 29 = .ok (.iaload, 1) := by decide +kernel
theorem dX9_ranked_30 : decode cX9_ranked 30 = .ok (.goto 4, 3) := by decide +kernel
theorem dX9_ranked_33 : decode cX9_ranked 33 = .ok (.iconst (-1), 1) := by decide +kernel
theorem dX9_ranked_34 : decode cX9_ranked 34 = .ok (.ireturn, 1) := by decide +kernel
theorem dX9_root_0 : decode cX9_root 0 = .ok (.aload_n 0, 1) := by decide +kernel
theorem dX9_root_1 : decode cX9_root 1 = .ok (.invokevirtual 151, 3) := by decide +kernel
theorem dX9_root_4 : decode cX9_root 4 = .ok (.aload_n 0, 1) := by decide +kernel
theorem dX9_root_5 : decode cX9_root 5 = .ok (.getfield 26, 3) := by decide +kernel
theorem dX9_root_8 : decode cX9_root 8 = .ok (.getfield 154, 3) := by decide +kernel
theorem dX9_root_11 : decode cX9_root 11 = .ok (.ireturn, 1) := by decide +kernel
theorem dX9_tree_0 : decode cX9_tree 0 = .ok (.iload_n 1, 1) := by decide +kernel
theorem dX9_tree_1 : decode cX9_tree 1 = .ok (.invokestatic 80, 3) := by decide +kernel
theorem dX9_tree_4 : decode cX9_tree 4 = .ok (.ifCond .eq 12, 3) := by decide +kernel
theorem dX9_tree_7 : decode cX9_tree 7 = .ok (.iload_n 2, 1) := by decide +kernel
theorem dX9_tree_8 : decode cX9_tree 8 = .ok (.ifCond .lt 8, 3) := by decide +kernel
theorem dX9_tree_11 : decode cX9_tree 11 = .ok (.iload_n 2, 1) := by decide +kernel
theorem dX9_tree_12 : decode cX9_tree 12 = .ok (.iconst 5, 1) := by decide +kernel
theorem dX9_tree_13 : decode cX9_tree 13 = .ok (.if_icmp .le 6, 3) := by decide +kernel
theorem dX9_tree_16 : decode cX9_tree 16 = .ok (.bipush (-2), 2) := by decide +kernel
theorem dX9_tree_18 : decode cX9_tree 18 = .ok (.ireturn, 1) := by decide +kernel
theorem dX9_tree_19 : decode cX9_tree 19 = .ok (.aload_n 0, 1) := by decide +kernel
theorem dX9_tree_20 : decode cX9_tree 20 = .ok (.getfield 12, 3) := by decide +kernel
theorem dX9_tree_23 : decode cX9_tree 23 = .ok (.getfield 88, 3) := by decide +kernel
theorem dX9_tree_26 : decode cX9_tree 26 = .ok (.iload_n 1, 1) := by decide +kernel
theorem dX9_tree_27 : decode cX9_tree 27 = .ok (.baload, 1) := by decide +kernel
theorem dX9_tree_28 : decode cX9_tree 28 = .ok (.ifCond .ne 6, 3) := by decide +kernel
theorem dX9_tree_31 : decode cX9_tree 31 = .ok (.bipush (-3), 2) := by decide +kernel
theorem dX9_tree_33 : decode cX9_tree 33 = .ok (.ireturn, 1) := by decide +kernel
theorem dX9_tree_34 : decode cX9_tree 34 = .ok (.aload_n 0, 1) := by decide +kernel
theorem dX9_tree_35 : decode cX9_tree 35 = .ok (.invokevirtual 151, 3) := by decide +kernel
theorem dX9_tree_38 : decode cX9_tree 38 = .ok (.iload_n 2, 1) := by decide +kernel
theorem dX9_tree_39 : decode cX9_tree 39 = .ok (.tableswitch 83 0 4 #[33, 43, 53, 63, 73], 33) := by decide +kernel
theorem dX9_tree_72 : decode cX9_tree 72 = .ok (.aload_n 0, 1) := by decide +kernel
theorem dX9_tree_73 : decode cX9_tree 73 = .ok (.getfield 26, 3) := by decide +kernel
theorem dX9_tree_76 : decode cX9_tree 76 = .ok (.getfield 157, 3) := by decide +kernel
theorem dX9_tree_79 : decode cX9_tree 79 = .ok (.iload_n 1, 1) := by decide +kernel
theorem dX9_tree_80 : decode cX9_tree 80 = .ok (.iaload, 1) := by decide +kernel
theorem dX9_tree_81 : decode cX9_tree 81 = .ok (.ireturn, 1) := by decide +kernel
theorem dX9_tree_82 : decode cX9_tree 82 = .ok (.aload_n 0, 1) := by decide +kernel
theorem dX9_tree_83 : decode cX9_tree 83 = .ok (.getfield 26, 3) := by decide +kernel
theorem dX9_tree_86 : decode cX9_tree 86 = .ok (.getfield 160, 3) := by decide +kernel
theorem dX9_tree_89 : decode cX9_tree 89 = .ok (.iload_n 1, 1) := by decide +kernel
theorem dX9_tree_90 : decode cX9_tree 90 = .ok (.iaload, 1) := by decide +kernel
theorem dX9_tree_91 : decode cX9_tree 91 = .ok (.ireturn, 1) := by decide +kernel
theorem dX9_tree_92 : decode cX9_tree 92 = .ok (.aload_n 0, 1) := by decide +kernel
theorem dX9_tree_93 : decode cX9_tree 93 = .ok (.getfield 26, 3) := by decide +kernel
theorem dX9_tree_96 : decode cX9_tree 96 = .ok (.getfield 163, 3) := by decide +kernel
theorem dX9_tree_99 : decode cX9_tree 99 = .ok (.iload_n 1, 1) := by decide +kernel
theorem dX9_tree_100 : decode cX9_tree 100 = .ok (.iaload, 1) := by decide +kernel
theorem dX9_tree_101 : decode cX9_tree 101 = .ok (.ireturn, 1) := by decide +kernel
theorem dX9_tree_102 : decode cX9_tree 102 = .ok (.aload_n 0, 1) := by decide +kernel
theorem dX9_tree_103 : decode cX9_tree 103 = .ok (.getfield 26, 3) := by decide +kernel
theorem dX9_tree_106 : decode cX9_tree 106 = .ok (.getfield 166, 3) := by decide +kernel
theorem dX9_tree_109 : decode cX9_tree 109 = .ok (.iload_n 1, 1) := by decide +kernel
theorem dX9_tree_110 : decode cX9_tree 110 = .ok (.iaload, 1) := by decide +kernel
theorem dX9_tree_111 : decode cX9_tree 111 = .ok (.ireturn, 1) := by decide +kernel
theorem dX9_tree_112 : decode cX9_tree 112 = .ok (.aload_n 0, 1) := by decide +kernel
theorem dX9_tree_113 : decode cX9_tree 113 = .ok (.getfield 26, 3) := by decide +kernel
theorem dX9_tree_116 : decode cX9_tree 116 = .ok (.getfield 169, 3) := by decide +kernel
theorem dX9_tree_119 : decode cX9_tree 119 = .ok (.iload_n 1, 1) := by decide +kernel
theorem dX9_tree_120 : decode cX9_tree 120 = .ok (.iaload, 1) := by decide +kernel
theorem dX9_tree_121 : decode cX9_tree 121 = .ok (.ireturn, 1) := by decide +kernel
theorem dX9_tree_122 : decode cX9_tree 122 = .ok (.aload_n 0, 1) := by decide +kernel
theorem dX9_tree_123 : decode cX9_tree 123 = .ok (.getfield 26, 3) := by decide +kernel
theorem dX9_tree_126 : decode cX9_tree 126 = .ok (.getfield 172, 3) := by decide +kernel
theorem dX9_tree_129 : decode cX9_tree 129 = .ok (.iload_n 1, 1) := by decide +kernel
theorem dX9_tree_130 : decode cX9_tree 130 = .ok (.iaload, 1) := by decide +kernel
theorem dX9_tree_131 : decode cX9_tree 131 = .ok (.ireturn, 1) := by decide +kernel
theorem dX9_end_0 : decode cX9_end 0 = .ok (.aload_n 0, 1) := by decide +kernel
theorem dX9_end_1 : decode cX9_end 1 = .ok (.iload_n 1, 1) := by decide +kernel
theorem dX9_end_2 : decode cX9_end 2 = .ok (.invokevirtual 141, 3) := by decide +kernel
theorem dX9_end_5 : decode cX9_end 5 = .ok (.ifCond .ne 6, 3) := by decide +kernel
theorem dX9_end_8 : decode cX9_end 8 = .ok (.ldc 144, 2) := by decide +kernel
theorem dX9_end_10 : decode cX9_end 10 = .ok (.ireturn, 1) := by decide +kernel
theorem dX9_end_11 : decode cX9_end 11 = .ok (.aload_n 0, 1) := by decide +kernel
theorem dX9_end_12 : decode cX9_end 12 = .ok (.invokevirtual 151, 3) := by decide +kernel
theorem dX9_end_15 : decode cX9_end 15 = .ok (.aload_n 0, 1) := by decide +kernel
theorem dX9_end_16 : decode cX9_end 16 = .ok (.getfield 26, 3) := by decide +kernel
theorem dX9_end_19 : decode cX9_end 19 = .ok (.getfield 175, 3) := by decide +kernel
theorem dX9_end_22 : decode cX9_end 22 = .ok (.iload_n 1, 1) := by decide +kernel
theorem dX9_end_23 : decode cX9_end 23 = .ok (.iaload, 1) := by decide +kernel
theorem dX9_end_24 : decode cX9_end 24 = .ok (.ireturn, 1) := by decide +kernel
theorem dX9_looks_0 : decode cX9_looks 0 = .ok (.iload_n 1, 1) := by decide +kernel
theorem dX9_looks_1 : decode cX9_looks 1 = .ok (.iload_n 2, 1) := by decide +kernel
theorem dX9_looks_2 : decode cX9_looks 2 = .ok (.invokestatic 84, 3) := by decide +kernel
theorem dX9_looks_5 : decode cX9_looks 5 = .ok (.ifCond .ne 6, 3) := by decide +kernel
theorem dX9_looks_8 : decode cX9_looks 8 = .ok (.bipush (-2), 2) := by decide +kernel
theorem dX9_looks_10 : decode cX9_looks 10 = .ok (.ireturn, 1) := by decide +kernel
theorem dX9_looks_11 : decode cX9_looks 11 = .ok (.aload_n 0, 1) := by decide +kernel
theorem dX9_looks_12 : decode cX9_looks 12 = .ok (.invokevirtual 151, 3) := by decide +kernel
theorem dX9_looks_15 : decode cX9_looks 15 = .ok (.aload_n 0, 1) := by decide +kernel
theorem dX9_looks_16 : decode cX9_looks 16 = .ok (.getfield 26, 3) := by decide +kernel
theorem dX9_looks_19 : decode cX9_looks 19 = .ok (.aload_n 0, 1) := by decide +kernel
theorem dX9_looks_20 : decode cX9_looks 20 = .ok (.getfield 12, 3) := by decide +kernel
theorem dX9_looks_23 : decode cX9_looks 23 = .ok (.iload_n 1, 1) := by decide +kernel
theorem dX9_looks_24 : decode cX9_looks 24 = .ok (.iload_n 2, 1) := by decide +kernel
theorem dX9_looks_25 : decode cX9_looks 25 = .ok (.invokevirtual 178, 3) := by decide +kernel
theorem dX9_looks_28 : decode cX9_looks 28 = .ok (.ireturn, 1) := by decide +kernel
theorem dX9_meets_0 : decode cX9_meets 0 = .ok (.iload_n 1, 1) := by decide +kernel
theorem dX9_meets_1 : decode cX9_meets 1 = .ok (.iload_n 2, 1) := by decide +kernel
theorem dX9_meets_2 : decode cX9_meets 2 = .ok (.invokestatic 84, 3) := by decide +kernel
theorem dX9_meets_5 : decode cX9_meets 5 = .ok (.ifCond .eq 10, 3) := by decide +kernel
theorem dX9_meets_8 : decode cX9_meets 8 = .ok (.iload_n 3, 1) := by decide +kernel
theorem dX9_meets_9 : decode cX9_meets 9 = .ok (.invokestatic 182, 3) := by decide +kernel
theorem dX9_meets_12 : decode cX9_meets 12 = .ok (.ifCond .ne 6, 3) := by decide +kernel
theorem dX9_meets_15 : decode cX9_meets 15 = .ok (.bipush (-2), 2) := by decide +kernel
theorem dX9_meets_17 : decode cX9_meets 17 = .ok (.ireturn, 1) := by decide +kernel
theorem dX9_meets_18 : decode cX9_meets 18 = .ok (.iload_n 3, 1) := by decide +kernel
theorem dX9_meets_19 : decode cX9_meets 19 = .ok (.iconst (-1), 1) := by decide +kernel
theorem dX9_meets_20 : decode cX9_meets 20 = .ok (.if_icmp .ne 15, 3) := by decide +kernel
theorem dX9_meets_23 : decode cX9_meets 23 = .ok (.aload_n 0, 1) := by decide +kernel
theorem dX9_meets_24 : decode cX9_meets 24 = .ok (.getfield 12, 3) := by decide +kernel
theorem dX9_meets_27 : decode cX9_meets 27 = .ok (.iload_n 1, 1) := by decide +kernel
theorem dX9_meets_28 : decode cX9_meets 28 = .ok (.iload_n 2, 1) := by decide +kernel
theorem dX9_meets_29 : decode cX9_meets 29 = .ok (.invokevirtual 185, 3) := by decide +kernel
theorem dX9_meets_32 : decode cX9_meets 32 = .ok (.goto 13, 3) := by decide +kernel
theorem dX9_meets_35 : decode cX9_meets 35 = .ok (.aload_n 0, 1) := by decide +kernel
theorem dX9_meets_36 : decode cX9_meets 36 = .ok (.getfield 12, 3) := by decide +kernel
theorem dX9_meets_39 : decode cX9_meets 39 = .ok (.iload_n 1, 1) := by decide +kernel
theorem dX9_meets_40 : decode cX9_meets 40 = .ok (.iload_n 2, 1) := by decide +kernel
theorem dX9_meets_41 : decode cX9_meets 41 = .ok (.iload_n 3, 1) := by decide +kernel
theorem dX9_meets_42 : decode cX9_meets 42 = .ok (.invokevirtual 189, 3) := by decide +kernel
theorem dX9_meets_45 : decode cX9_meets 45 = .ok (.ireturn, 1) := by decide +kernel
theorem dX9_holds_0 : decode cX9_holds 0 = .ok (.iload_n 1, 1) := by decide +kernel
theorem dX9_holds_1 : decode cX9_holds 1 = .ok (.invokestatic 193, 3) := by decide +kernel
theorem dX9_holds_4 : decode cX9_holds 4 = .ok (.ifCond .eq 10, 3) := by decide +kernel
theorem dX9_holds_7 : decode cX9_holds 7 = .ok (.iload_n 2, 1) := by decide +kernel
theorem dX9_holds_8 : decode cX9_holds 8 = .ok (.invokestatic 182, 3) := by decide +kernel
theorem dX9_holds_11 : decode cX9_holds 11 = .ok (.ifCond .ne 6, 3) := by decide +kernel
theorem dX9_holds_14 : decode cX9_holds 14 = .ok (.bipush (-2), 2) := by decide +kernel
theorem dX9_holds_16 : decode cX9_holds 16 = .ok (.ireturn, 1) := by decide +kernel
theorem dX9_holds_17 : decode cX9_holds 17 = .ok (.iload_n 2, 1) := by decide +kernel
theorem dX9_holds_18 : decode cX9_holds 18 = .ok (.iconst (-1), 1) := by decide +kernel
theorem dX9_holds_19 : decode cX9_holds 19 = .ok (.if_icmp .ne 17, 3) := by decide +kernel
theorem dX9_holds_22 : decode cX9_holds 22 = .ok (.aload_n 0, 1) := by decide +kernel
theorem dX9_holds_23 : decode cX9_holds 23 = .ok (.getfield 12, 3) := by decide +kernel
theorem dX9_holds_26 : decode cX9_holds 26 = .ok (.iload_n 1, 1) := by decide +kernel
theorem dX9_holds_27 : decode cX9_holds 27 = .ok (.iload_n 1, 1) := by decide +kernel
theorem dX9_holds_28 : decode cX9_holds 28 = .ok (.iconst 1, 1) := by decide +kernel
theorem dX9_holds_29 : decode cX9_holds 29 = .ok (.iadd, 1) := by decide +kernel
theorem dX9_holds_30 : decode cX9_holds 30 = .ok (.invokevirtual 185, 3) := by decide +kernel
theorem dX9_holds_33 : decode cX9_holds 33 = .ok (.goto 15, 3) := by decide +kernel
theorem dX9_holds_36 : decode cX9_holds 36 = .ok (.aload_n 0, 1) := by decide +kernel
theorem dX9_holds_37 : decode cX9_holds 37 = .ok (.getfield 12, 3) := by decide +kernel
theorem dX9_holds_40 : decode cX9_holds 40 = .ok (.iload_n 1, 1) := by decide +kernel
theorem dX9_holds_41 : decode cX9_holds 41 = .ok (.iload_n 1, 1) := by decide +kernel
theorem dX9_holds_42 : decode cX9_holds 42 = .ok (.iconst 1, 1) := by decide +kernel
theorem dX9_holds_43 : decode cX9_holds 43 = .ok (.iadd, 1) := by decide +kernel
theorem dX9_holds_44 : decode cX9_holds 44 = .ok (.iload_n 2, 1) := by decide +kernel
theorem dX9_holds_45 : decode cX9_holds 45 = .ok (.invokevirtual 189, 3) := by decide +kernel
theorem dX9_holds_48 : decode cX9_holds 48 = .ok (.ireturn, 1) := by decide +kernel
theorem dX9_taken_0 : decode cX9_taken 0 = .ok (.iload_n 1, 1) := by decide +kernel
theorem dX9_taken_1 : decode cX9_taken 1 = .ok (.iload_n 2, 1) := by decide +kernel
theorem dX9_taken_2 : decode cX9_taken 2 = .ok (.invokestatic 84, 3) := by decide +kernel
theorem dX9_taken_5 : decode cX9_taken 5 = .ok (.ifCond .ne 6, 3) := by decide +kernel
theorem dX9_taken_8 : decode cX9_taken 8 = .ok (.bipush (-2), 2) := by decide +kernel
theorem dX9_taken_10 : decode cX9_taken 10 = .ok (.ireturn, 1) := by decide +kernel
theorem dX9_taken_11 : decode cX9_taken 11 = .ok (.aload_n 0, 1) := by decide +kernel
theorem dX9_taken_12 : decode cX9_taken 12 = .ok (.invokevirtual 151, 3) := by decide +kernel
theorem dX9_taken_15 : decode cX9_taken 15 = .ok (.iload_n 2, 1) := by decide +kernel
theorem dX9_taken_16 : decode cX9_taken 16 = .ok (.iload_n 1, 1) := by decide +kernel
theorem dX9_taken_17 : decode cX9_taken 17 = .ok (.isub, 1) := by decide +kernel
theorem dX9_taken_18 : decode cX9_taken 18 = .ok (.aload_n 0, 1) := by decide +kernel
theorem dX9_taken_19 : decode cX9_taken 19 = .ok (.getfield 33, 3) := by decide +kernel
theorem dX9_taken_22 : decode cX9_taken 22 = .ok (.iload_n 1, 1) := by decide +kernel
theorem dX9_taken_23 : decode cX9_taken 23 = .ok (.iload_n 2, 1) := by decide +kernel
theorem dX9_taken_24 : decode cX9_taken 24 = .ok (.invokevirtual 196, 3) := by decide +kernel
theorem dX9_taken_27 : decode cX9_taken 27 = .ok (.isub, 1) := by decide +kernel
theorem dX9_taken_28 : decode cX9_taken 28 = .ok (.ireturn, 1) := by decide +kernel
theorem dX9_frees_0 : decode cX9_frees 0 = .ok (.iload_n 1, 1) := by decide +kernel
theorem dX9_frees_1 : decode cX9_frees 1 = .ok (.iload_n 2, 1) := by decide +kernel
theorem dX9_frees_2 : decode cX9_frees 2 = .ok (.invokestatic 84, 3) := by decide +kernel
theorem dX9_frees_5 : decode cX9_frees 5 = .ok (.ifCond .ne 6, 3) := by decide +kernel
theorem dX9_frees_8 : decode cX9_frees 8 = .ok (.bipush (-2), 2) := by decide +kernel
theorem dX9_frees_10 : decode cX9_frees 10 = .ok (.ireturn, 1) := by decide +kernel
theorem dX9_frees_11 : decode cX9_frees 11 = .ok (.aload_n 0, 1) := by decide +kernel
theorem dX9_frees_12 : decode cX9_frees 12 = .ok (.invokevirtual 151, 3) := by decide +kernel
theorem dX9_frees_15 : decode cX9_frees 15 = .ok (.aload_n 0, 1) := by decide +kernel
theorem dX9_frees_16 : decode cX9_frees 16 = .ok (.getfield 33, 3) := by decide +kernel
theorem dX9_frees_19 : decode cX9_frees 19 = .ok (.iload_n 1, 1) := by decide +kernel
theorem dX9_frees_20 : decode cX9_frees 20 = .ok (.iload_n 2, 1) := by decide +kernel
theorem dX9_frees_21 : decode cX9_frees 21 = .ok (.invokevirtual 199, 3) := by decide +kernel
theorem dX9_frees_24 : decode cX9_frees 24 = .ok (.ireturn, 1) := by decide +kernel
theorem dX9_free_0 : decode cX9_free 0 = .ok (.iload_n 1, 1) := by decide +kernel
theorem dX9_free_1 : decode cX9_free 1 = .ok (.iload_n 2, 1) := by decide +kernel
theorem dX9_free_2 : decode cX9_free 2 = .ok (.invokestatic 84, 3) := by decide +kernel
theorem dX9_free_5 : decode cX9_free 5 = .ok (.ifCond .eq 24, 3) := by decide +kernel
theorem dX9_free_8 : decode cX9_free 8 = .ok (.iload_n 3, 1) := by decide +kernel
theorem dX9_free_9 : decode cX9_free 9 = .ok (.ifCond .lt 20, 3) := by decide +kernel
theorem dX9_free_12 : decode cX9_free 12 = .ok (.iload_n 3, 1) := by decide +kernel
theorem dX9_free_13 : decode cX9_free 13 = .ok (.bipush 48, 2) := by decide +kernel
theorem dX9_free_15 : decode cX9_free 15 = .ok (.if_icmp .gt 14, 3) := by decide +kernel
theorem dX9_free_18 : decode cX9_free 18 = .ok (.iload 4, 2) := by decide +kernel
theorem dX9_free_20 : decode cX9_free 20 = .ok (.ifCond .lt 9, 3) := by decide +kernel
theorem dX9_free_23 : decode cX9_free 23 = .ok (.iload 4, 2) := by decide +kernel
theorem dX9_free_25 : decode cX9_free 25 = .ok (.iconst 1, 1) := by decide +kernel
theorem dX9_free_26 : decode cX9_free 26 = .ok (.if_icmp .le 6, 3) := by decide +kernel
theorem dX9_free_29 : decode cX9_free 29 = .ok (.ldc 144, 2) := by decide +kernel
theorem dX9_free_31 : decode cX9_free 31 = .ok (.ireturn, 1) := by decide +kernel
theorem dX9_free_32 : decode cX9_free 32 = .ok (.aload_n 0, 1) := by decide +kernel
theorem dX9_free_33 : decode cX9_free 33 = .ok (.invokevirtual 151, 3) := by decide +kernel
theorem dX9_free_36 : decode cX9_free 36 = .ok (.aload_n 0, 1) := by decide +kernel
theorem dX9_free_37 : decode cX9_free 37 = .ok (.getfield 33, 3) := by decide +kernel
theorem dX9_free_40 : decode cX9_free 40 = .ok (.iload_n 1, 1) := by decide +kernel
theorem dX9_free_41 : decode cX9_free 41 = .ok (.iload_n 2, 1) := by decide +kernel
theorem dX9_free_42 : decode cX9_free 42 = .ok (.iload_n 3, 1) := by decide +kernel
theorem dX9_free_43 : decode cX9_free 43 = .ok (.invokevirtual 202, 3) := by decide +kernel
theorem dX9_free_46 : decode cX9_free 46 = .ok (.istore 5, 2) := by decide +kernel
theorem dX9_free_48 : decode cX9_free 48 = .ok (.iload 5, 2) := by decide +kernel
theorem dX9_free_50 : decode cX9_free 50 = .ok (.iconst (-1), 1) := by decide +kernel
theorem dX9_free_51 : decode cX9_free 51 = .ok (.if_icmp .ne 6, 3) := by decide +kernel
theorem dX9_free_54 : decode cX9_free 54 = .ok (.ldc 144, 2) := by decide +kernel
theorem dX9_free_56 : decode cX9_free 56 = .ok (.ireturn, 1) := by decide +kernel
theorem dX9_free_57 : decode cX9_free 57 = .ok (.iload 4, 2) := by decide +kernel
theorem dX9_free_59 : decode cX9_free 59 = .ok (.ifCond .ne 20, 3) := by decide +kernel
theorem dX9_free_62 : decode cX9_free 62 = .ok (.aload_n 0, 1) := by decide +kernel
theorem dX9_free_63 : decode cX9_free 63 = .ok (.getfield 33, 3) := by decide +kernel
theorem dX9_free_66 : decode cX9_free 66 = .ok (.getfield 205, 3) := by decide +kernel
theorem dX9_free_69 : decode cX9_free 69 = .ok (.iload 5, 2) := by decide +kernel
theorem dX9_free_71 : decode cX9_free 71 = .ok (.iaload, 1) := by decide +kernel
theorem dX9_free_72 : decode cX9_free 72 = .ok (.iload_n 1, 1) := by decide +kernel
theorem dX9_free_73 : decode cX9_free 73 = .ok (.invokestatic 208, 3) := by decide +kernel
theorem dX9_free_76 : decode cX9_free 76 = .ok (.goto 17, 3) := by decide +kernel
theorem dX9_free_79 : decode cX9_free 79 = .ok (.aload_n 0, 1) := by decide +kernel
theorem dX9_free_80 : decode cX9_free 80 = .ok (.getfield 33, 3) := by decide +kernel
theorem dX9_free_83 : decode cX9_free 83 = .ok (.getfield 213, 3) := by decide +kernel
theorem dX9_free_86 : decode cX9_free 86 = .ok (.iload 5, 2) := by decide +kernel
theorem dX9_free_88 : decode cX9_free 88 = .ok (.iaload, 1) := by decide +kernel
theorem dX9_free_89 : decode cX9_free 89 = .ok (.iload_n 2, 1) := by decide +kernel
theorem dX9_free_90 : decode cX9_free 90 = .ok (.invokestatic 216, 3) := by decide +kernel
theorem dX9_free_93 : decode cX9_free 93 = .ok (.ireturn, 1) := by decide +kernel
theorem dX9_place_0 : decode cX9_place 0 = .ok (.iload_n 1, 1) := by decide +kernel
theorem dX9_place_1 : decode cX9_place 1 = .ok (.invokestatic 193, 3) := by decide +kernel
theorem dX9_place_4 : decode cX9_place 4 = .ok (.ifCond .eq 23, 3) := by decide +kernel
theorem dX9_place_7 : decode cX9_place 7 = .ok (.iload_n 2, 1) := by decide +kernel
theorem dX9_place_8 : decode cX9_place 8 = .ok (.iconst 1, 1) := by decide +kernel
theorem dX9_place_9 : decode cX9_place 9 = .ok (.if_icmp .lt 18, 3) := by decide +kernel
theorem dX9_place_12 : decode cX9_place 12 = .ok (.iload_n 2, 1) := by decide +kernel
theorem dX9_place_13 : decode cX9_place 13 = .ok (.ldc 219, 2) := by decide +kernel
theorem dX9_place_15 : decode cX9_place 15 = .ok (.if_icmp .gt 12, 3) := by decide +kernel
theorem dX9_place_18 : decode cX9_place 18 = .ok (.iload_n 3, 1) := by decide +kernel
theorem dX9_place_19 : decode cX9_place 19 = .ok (.ifCond .lt 8, 3) := by decide +kernel
theorem dX9_place_22 : decode cX9_place 22 = .ok (.iload_n 3, 1) := by decide +kernel
theorem dX9_place_23 : decode cX9_place 23 = .ok (.iconst 2, 1) := by decide +kernel
theorem dX9_place_24 : decode cX9_place 24 = .ok (.if_icmp .le 6, 3) := by decide +kernel
theorem dX9_place_27 : decode cX9_place 27 = .ok (.ldc 144, 2) := by decide +kernel
theorem dX9_place_29 : decode cX9_place 29 = .ok (.ireturn, 1) := by decide +kernel
theorem dX9_place_30 : decode cX9_place 30 = .ok (.aload_n 0, 1) := by decide +kernel
theorem dX9_place_31 : decode cX9_place 31 = .ok (.invokevirtual 151, 3) := by decide +kernel
theorem dX9_place_34 : decode cX9_place 34 = .ok (.iload_n 3, 1) := by decide +kernel
theorem dX9_place_35 : decode cX9_place 35 = .ok (.lookupswitch 45 #[(0, 25), (1, 35)], 25) := by decide +kernel
theorem dX9_place_60 : decode cX9_place 60 = .ok (.aload_n 0, 1) := by decide +kernel
theorem dX9_place_61 : decode cX9_place 61 = .ok (.getfield 33, 3) := by decide +kernel
theorem dX9_place_64 : decode cX9_place 64 = .ok (.iload_n 1, 1) := by decide +kernel
theorem dX9_place_65 : decode cX9_place 65 = .ok (.iload_n 2, 1) := by decide +kernel
theorem dX9_place_66 : decode cX9_place 66 = .ok (.invokevirtual 220, 3) := by decide +kernel
theorem dX9_place_69 : decode cX9_place 69 = .ok (.ireturn, 1) := by decide +kernel
theorem dX9_place_70 : decode cX9_place 70 = .ok (.aload_n 0, 1) := by decide +kernel
theorem dX9_place_71 : decode cX9_place 71 = .ok (.getfield 33, 3) := by decide +kernel
theorem dX9_place_74 : decode cX9_place 74 = .ok (.iload_n 1, 1) := by decide +kernel
theorem dX9_place_75 : decode cX9_place 75 = .ok (.iload_n 2, 1) := by decide +kernel
theorem dX9_place_76 : decode cX9_place 76 = .ok (.invokevirtual 223, 3) := by decide +kernel
theorem dX9_place_79 : decode cX9_place 79 = .ok (.ireturn, 1) := by decide +kernel
theorem dX9_place_80 : decode cX9_place 80 = .ok (.aload_n 0, 1) := by decide +kernel
theorem dX9_place_81 : decode cX9_place 81 = .ok (.getfield 33, 3) := by decide +kernel
theorem dX9_place_84 : decode cX9_place 84 = .ok (.iload_n 1, 1) := by decide +kernel
theorem dX9_place_85 : decode cX9_place 85 = .ok (.iload_n 2, 1) := by decide +kernel
theorem dX9_place_86 : decode cX9_place 86 = .ok (.invokevirtual 226, 3) := by decide +kernel
theorem dX9_place_89 : decode cX9_place 89 = .ok (.ireturn, 1) := by decide +kernel
theorem dX9_deep_0 : decode cX9_deep 0 = .ok (.aload_n 0, 1) := by decide +kernel
theorem dX9_deep_1 : decode cX9_deep 1 = .ok (.invokevirtual 151, 3) := by decide +kernel
theorem dX9_deep_4 : decode cX9_deep 4 = .ok (.aload_n 0, 1) := by decide +kernel
theorem dX9_deep_5 : decode cX9_deep 5 = .ok (.getfield 40, 3) := by decide +kernel
theorem dX9_deep_8 : decode cX9_deep 8 = .ok (.getfield 229, 3) := by decide +kernel
theorem dX9_deep_11 : decode cX9_deep 11 = .ok (.ireturn, 1) := by decide +kernel
theorem dX9_point_0 : decode cX9_point 0 = .ok (.aload_n 0, 1) := by decide +kernel
theorem dX9_point_1 : decode cX9_point 1 = .ok (.invokevirtual 151, 3) := by decide +kernel
theorem dX9_point_4 : decode cX9_point 4 = .ok (.aload_n 0, 1) := by decide +kernel
theorem dX9_point_5 : decode cX9_point 5 = .ok (.getfield 40, 3) := by decide +kernel
theorem dX9_point_8 : decode cX9_point 8 = .ok (.getfield 232, 3) := by decide +kernel
theorem dX9_point_11 : decode cX9_point 11 = .ok (.ireturn, 1) := by decide +kernel
theorem dX9_room_0 : decode cX9_room 0 = .ok (.iload_n 1, 1) := by decide +kernel
theorem dX9_room_1 : decode cX9_room 1 = .ok (.invokestatic 182, 3) := by decide +kernel
theorem dX9_room_4 : decode cX9_room 4 = .ok (.ifCond .ne 6, 3) := by decide +kernel
theorem dX9_room_7 : decode cX9_room 7 = .ok (.bipush (-2), 2) := by decide +kernel
theorem dX9_room_9 : decode cX9_room 9 = .ok (.ireturn, 1) := by decide +kernel
theorem dX9_room_10 : decode cX9_room 10 = .ok (.iload_n 1, 1) := by decide +kernel
theorem dX9_room_11 : decode cX9_room 11 = .ok (.iconst (-1), 1) := by decide +kernel
theorem dX9_room_12 : decode cX9_room 12 = .ok (.if_icmp .eq 18, 3) := by decide +kernel
theorem dX9_room_15 : decode cX9_room 15 = .ok (.aload_n 0, 1) := by decide +kernel
theorem dX9_room_16 : decode cX9_room 16 = .ok (.getfield 12, 3) := by decide +kernel
theorem dX9_room_19 : decode cX9_room 19 = .ok (.getfield 88, 3) := by decide +kernel
theorem dX9_room_22 : decode cX9_room 22 = .ok (.iload_n 1, 1) := by decide +kernel
theorem dX9_room_23 : decode cX9_room 23 = .ok (.baload, 1) := by decide +kernel
theorem dX9_room_24 : decode cX9_room 24 = .ok (.ifCond .ne 6, 3) := by decide +kernel
theorem dX9_room_27 : decode cX9_room 27 = .ok (.bipush (-3), 2) := by decide +kernel
theorem dX9_room_29 : decode cX9_room 29 = .ok (.ireturn, 1) := by decide +kernel
theorem dX9_room_30 : decode cX9_room 30 = .ok (.aload_n 0, 1) := by decide +kernel
theorem dX9_room_31 : decode cX9_room 31 = .ok (.invokevirtual 151, 3) := by decide +kernel
theorem dX9_room_34 : decode cX9_room 34 = .ok (.iload_n 1, 1) := by decide +kernel
theorem dX9_room_35 : decode cX9_room 35 = .ok (.iconst (-1), 1) := by decide +kernel
theorem dX9_room_36 : decode cX9_room 36 = .ok (.if_icmp .ne 13, 3) := by decide +kernel
theorem dX9_room_39 : decode cX9_room 39 = .ok (.aload_n 0, 1) := by decide +kernel
theorem dX9_room_40 : decode cX9_room 40 = .ok (.getfield 40, 3) := by decide +kernel
theorem dX9_room_43 : decode cX9_room 43 = .ok (.getfield 235, 3) := by decide +kernel
theorem dX9_room_46 : decode cX9_room 46 = .ok (.goto 12, 3) := by decide +kernel
theorem dX9_room_49 : decode cX9_room 49 = .ok (.aload_n 0, 1) := by decide +kernel
theorem dX9_room_50 : decode cX9_room 50 = .ok (.getfield 40, 3) := by decide +kernel
theorem dX9_room_53 : decode cX9_room 53 = .ok (.getfield 236, 3) := by decide +kernel
theorem dX9_room_56 : decode cX9_room 56 = .ok (.iload_n 1, 1) := by decide +kernel
theorem dX9_room_57 : decode cX9_room 57 = .ok (.iaload, 1) := by decide +kernel
theorem dX9_room_58 : decode cX9_room 58 = .ok (.ireturn, 1) := by decide +kernel
theorem dX9_keep_0 : decode cX9_keep 0 = .ok (.iload_n 1, 1) := by decide +kernel
theorem dX9_keep_1 : decode cX9_keep 1 = .ok (.invokestatic 182, 3) := by decide +kernel
theorem dX9_keep_4 : decode cX9_keep 4 = .ok (.ifCond .ne 6, 3) := by decide +kernel
theorem dX9_keep_7 : decode cX9_keep 7 = .ok (.bipush (-2), 2) := by decide +kernel
theorem dX9_keep_9 : decode cX9_keep 9 = .ok (.ireturn, 1) := by decide +kernel
theorem dX9_keep_10 : decode cX9_keep 10 = .ok (.aload_n 0, 1) := by decide +kernel
theorem dX9_keep_11 : decode cX9_keep 11 = .ok (.invokevirtual 151, 3) := by decide +kernel
theorem dX9_keep_14 : decode cX9_keep 14 = .ok (.iload_n 1, 1) := by decide +kernel
theorem dX9_keep_15 : decode cX9_keep 15 = .ok (.iconst (-1), 1) := by decide +kernel
theorem dX9_keep_16 : decode cX9_keep 16 = .ok (.if_icmp .ne 11, 3) := by decide +kernel
theorem dX9_keep_19 : decode cX9_keep 19 = .ok (.aload_n 0, 1) := by decide +kernel
theorem dX9_keep_20 : decode cX9_keep 20 = .ok (.getfield 47, 3) := by decide +kernel
theorem dX9_keep_23 : decode cX9_keep 23 = .ok (.getfield 239, 3) := by decide +kernel
theorem dX9_keep_26 : decode cX9_keep 26 = .ok (.ireturn, 1) := by decide +kernel
theorem dX9_keep_27 : decode cX9_keep 27 = .ok (.iload_n 1, 1) := by decide +kernel
theorem dX9_keep_28 : decode cX9_keep 28 = .ok (.aload_n 0, 1) := by decide +kernel
theorem dX9_keep_29 : decode cX9_keep 29 = .ok (.getfield 47, 3) := by decide +kernel
theorem dX9_keep_32 : decode cX9_keep 32 = .ok (.getfield 239, 3) := by decide +kernel
theorem dX9_keep_35 : decode cX9_keep 35 = .ok (.if_icmp .ge 15, 3) := by decide +kernel
theorem dX9_keep_38 : decode cX9_keep 38 = .ok (.aload_n 0, 1) := by decide +kernel
theorem dX9_keep_39 : decode cX9_keep 39 = .ok (.getfield 47, 3) := by decide +kernel
theorem dX9_keep_42 : decode cX9_keep 42 = .ok (.getfield 240, 3) := by decide +kernel
theorem dX9_keep_45 : decode cX9_keep 45 = .ok (.iload_n 1, 1) := by decide +kernel
theorem dX9_keep_46 : decode cX9_keep 46 = .ok (.iaload, 1) := by decide +kernel
theorem dX9_keep_47 : decode cX9_keep 47 = .ok (.goto 4, 3) := by decide +kernel
theorem dX9_keep_50 : decode cX9_keep 50 = .ok (.iconst (-1), 1) := by decide +kernel
theorem dX9_keep_51 : decode cX9_keep 51 = .ok (.ireturn, 1) := by decide +kernel
theorem dX9_clashes_0 : decode cX9_clashes 0 = .ok (.aload_n 0, 1) := by decide +kernel
theorem dX9_clashes_1 : decode cX9_clashes 1 = .ok (.invokevirtual 151, 3) := by decide +kernel
theorem dX9_clashes_4 : decode cX9_clashes 4 = .ok (.aload_n 0, 1) := by decide +kernel
theorem dX9_clashes_5 : decode cX9_clashes 5 = .ok (.getfield 54, 3) := by decide +kernel
theorem dX9_clashes_8 : decode cX9_clashes 8 = .ok (.getfield 243, 3) := by decide +kernel
theorem dX9_clashes_11 : decode cX9_clashes 11 = .ok (.ireturn, 1) := by decide +kernel
theorem dX9_clash_0 : decode cX9_clash 0 = .ok (.iload_n 1, 1) := by decide +kernel
theorem dX9_clash_1 : decode cX9_clash 1 = .ok (.ifCond .lt 19, 3) := by decide +kernel
theorem dX9_clash_4 : decode cX9_clash 4 = .ok (.iload_n 1, 1) := by decide +kernel
theorem dX9_clash_5 : decode cX9_clash 5 = .ok (.sipush 1128, 3) := by decide +kernel
theorem dX9_clash_8 : decode cX9_clash 8 = .ok (.if_icmp .ge 12, 3) := by decide +kernel
theorem dX9_clash_11 : decode cX9_clash 11 = .ok (.iload_n 2, 1) := by decide +kernel
theorem dX9_clash_12 : decode cX9_clash 12 = .ok (.ifCond .lt 8, 3) := by decide +kernel
theorem dX9_clash_15 : decode cX9_clash 15 = .ok (.iload_n 2, 1) := by decide +kernel
theorem dX9_clash_16 : decode cX9_clash 16 = .ok (.iconst 2, 1) := by decide +kernel
theorem dX9_clash_17 : decode cX9_clash 17 = .ok (.if_icmp .le 6, 3) := by decide +kernel
theorem dX9_clash_20 : decode cX9_clash 20 = .ok (.bipush (-2), 2) := by decide +kernel
theorem dX9_clash_22 : decode cX9_clash 22 = .ok (.ireturn, 1) := by decide +kernel
theorem dX9_clash_23 : decode cX9_clash 23 = .ok (.aload_n 0, 1) := by decide +kernel
theorem dX9_clash_24 : decode cX9_clash 24 = .ok (.invokevirtual 151, 3) := by decide +kernel
theorem dX9_clash_27 : decode cX9_clash 27 = .ok (.aload_n 0, 1) := by decide +kernel
theorem dX9_clash_28 : decode cX9_clash 28 = .ok (.getfield 54, 3) := by decide +kernel
theorem dX9_clash_31 : decode cX9_clash 31 = .ok (.iload_n 1, 1) := by decide +kernel
theorem dX9_clash_32 : decode cX9_clash 32 = .ok (.aload_n 0, 1) := by decide +kernel
theorem dX9_clash_33 : decode cX9_clash 33 = .ok (.getfield 12, 3) := by decide +kernel
theorem dX9_clash_36 : decode cX9_clash 36 = .ok (.getfield 96, 3) := by decide +kernel
theorem dX9_clash_39 : decode cX9_clash 39 = .ok (.invokevirtual 244, 3) := by decide +kernel
theorem dX9_clash_42 : decode cX9_clash 42 = .ok (.istore_n 3, 1) := by decide +kernel
theorem dX9_clash_43 : decode cX9_clash 43 = .ok (.iload_n 3, 1) := by decide +kernel
theorem dX9_clash_44 : decode cX9_clash 44 = .ok (.iconst (-1), 1) := by decide +kernel
theorem dX9_clash_45 : decode cX9_clash 45 = .ok (.if_icmp .ne 5, 3) := by decide +kernel
theorem dX9_clash_48 : decode cX9_clash 48 = .ok (.iconst (-1), 1) := by decide +kernel
theorem dX9_clash_49 : decode cX9_clash 49 = .ok (.ireturn, 1) := by decide +kernel
theorem dX9_clash_50 : decode cX9_clash 50 = .ok (.iload_n 3, 1) := by decide +kernel
theorem dX9_clash_51 : decode cX9_clash 51 = .ok (.iconst 1, 1) := by decide +kernel
theorem dX9_clash_52 : decode cX9_clash 52 = .ok (.iadd, 1) := by decide +kernel
theorem dX9_clash_53 : decode cX9_clash 53 = .ok (.iload_n 1, 1) := by decide +kernel
theorem dX9_clash_54 : decode cX9_clash 54 = .ok (.iadd, 1) := by decide +kernel
theorem dX9_clash_55 : decode cX9_clash 55 = .ok (.aload_n 0, 1) := by decide +kernel
theorem dX9_clash_56 : decode cX9_clash 56 = .ok (.getfield 54, 3) := by decide +kernel
theorem dX9_clash_59 : decode cX9_clash 59 = .ok (.getfield 247, 3) := by decide +kernel
theorem dX9_clash_62 : decode cX9_clash 62 = .ok (.iload_n 3, 1) := by decide +kernel
theorem dX9_clash_63 : decode cX9_clash 63 = .ok (.iaload, 1) := by decide +kernel
theorem dX9_clash_64 : decode cX9_clash 64 = .ok (.isub, 1) := by decide +kernel
theorem dX9_clash_65 : decode cX9_clash 65 = .ok (.istore 4, 2) := by decide +kernel
theorem dX9_clash_67 : decode cX9_clash 67 = .ok (.iload_n 2, 1) := by decide +kernel
theorem dX9_clash_68 : decode cX9_clash 68 = .ok (.lookupswitch 49 #[(0, 28), (1, 38)], 28) := by decide +kernel
theorem dX9_clash_96 : decode cX9_clash 96 = .ok (.aload_n 0, 1) := by decide +kernel
theorem dX9_clash_97 : decode cX9_clash 97 = .ok (.getfield 12, 3) := by decide +kernel
theorem dX9_clash_100 : decode cX9_clash 100 = .ok (.getfield 148, 3) := by decide +kernel
theorem dX9_clash_103 : decode cX9_clash 103 = .ok (.iload_n 3, 1) := by decide +kernel
theorem dX9_clash_104 : decode cX9_clash 104 = .ok (.iaload, 1) := by decide +kernel
theorem dX9_clash_105 : decode cX9_clash 105 = .ok (.ireturn, 1) := by decide +kernel
theorem dX9_clash_106 : decode cX9_clash 106 = .ok (.aload_n 0, 1) := by decide +kernel
theorem dX9_clash_107 : decode cX9_clash 107 = .ok (.getfield 12, 3) := by decide +kernel
theorem dX9_clash_110 : decode cX9_clash 110 = .ok (.getfield 148, 3) := by decide +kernel
theorem dX9_clash_113 : decode cX9_clash 113 = .ok (.iload 4, 2) := by decide +kernel
theorem dX9_clash_115 : decode cX9_clash 115 = .ok (.iaload, 1) := by decide +kernel
theorem dX9_clash_116 : decode cX9_clash 116 = .ok (.ireturn, 1) := by decide +kernel
theorem dX9_clash_117 : decode cX9_clash 117 = .ok (.aload_n 0, 1) := by decide +kernel
theorem dX9_clash_118 : decode cX9_clash 118 = .ok (.getfield 12, 3) := by decide +kernel
theorem dX9_clash_121 : decode cX9_clash 121 = .ok (.iload_n 3, 1) := by decide +kernel
theorem dX9_clash_122 : decode cX9_clash 122 = .ok (.iload 4, 2) := by decide +kernel
theorem dX9_clash_124 : decode cX9_clash 124 = .ok (.invokevirtual 250, 3) := by decide +kernel
theorem dX9_clash_127 : decode cX9_clash 127 = .ok (.ireturn, 1) := by decide +kernel
theorem dX9_alone_0 : decode cX9_alone 0 = .ok (.aload_n 0, 1) := by decide +kernel
theorem dX9_alone_1 : decode cX9_alone 1 = .ok (.invokevirtual 151, 3) := by decide +kernel
theorem dX9_alone_4 : decode cX9_alone 4 = .ok (.aload_n 0, 1) := by decide +kernel
theorem dX9_alone_5 : decode cX9_alone 5 = .ok (.getfield 61, 3) := by decide +kernel
theorem dX9_alone_8 : decode cX9_alone 8 = .ok (.getfield 253, 3) := by decide +kernel
theorem dX9_alone_11 : decode cX9_alone 11 = .ok (.lreturn, 1) := by decide +kernel
theorem dX9_group_0 : decode cX9_group 0 = .ok (.iload_n 1, 1) := by decide +kernel
theorem dX9_group_1 : decode cX9_group 1 = .ok (.invokestatic 182, 3) := by decide +kernel
theorem dX9_group_4 : decode cX9_group 4 = .ok (.ifCond .eq 12, 3) := by decide +kernel
theorem dX9_group_7 : decode cX9_group 7 = .ok (.iload_n 2, 1) := by decide +kernel
theorem dX9_group_8 : decode cX9_group 8 = .ok (.ifCond .lt 8, 3) := by decide +kernel
theorem dX9_group_11 : decode cX9_group 11 = .ok (.iload_n 2, 1) := by decide +kernel
theorem dX9_group_12 : decode cX9_group 12 = .ok (.iconst 1, 1) := by decide +kernel
theorem dX9_group_13 : decode cX9_group 13 = .ok (.if_icmp .le 6, 3) := by decide +kernel
theorem dX9_group_16 : decode cX9_group 16 = .ok (.bipush (-2), 2) := by decide +kernel
theorem dX9_group_18 : decode cX9_group 18 = .ok (.ireturn, 1) := by decide +kernel
theorem dX9_group_19 : decode cX9_group 19 = .ok (.iload_n 1, 1) := by decide +kernel
theorem dX9_group_20 : decode cX9_group 20 = .ok (.iconst (-1), 1) := by decide +kernel
theorem dX9_group_21 : decode cX9_group 21 = .ok (.if_icmp .eq 18, 3) := by decide +kernel
theorem dX9_group_24 : decode cX9_group 24 = .ok (.aload_n 0, 1) := by decide +kernel
theorem dX9_group_25 : decode cX9_group 25 = .ok (.getfield 12, 3) := by decide +kernel
theorem dX9_group_28 : decode cX9_group 28 = .ok (.getfield 88, 3) := by decide +kernel
theorem dX9_group_31 : decode cX9_group 31 = .ok (.iload_n 1, 1) := by decide +kernel
theorem dX9_group_32 : decode cX9_group 32 = .ok (.baload, 1) := by decide +kernel
theorem dX9_group_33 : decode cX9_group 33 = .ok (.ifCond .ne 6, 3) := by decide +kernel
theorem dX9_group_36 : decode cX9_group 36 = .ok (.bipush (-3), 2) := by decide +kernel
theorem dX9_group_38 : decode cX9_group 38 = .ok (.ireturn, 1) := by decide +kernel
theorem dX9_group_39 : decode cX9_group 39 = .ok (.aload_n 0, 1) := by decide +kernel
theorem dX9_group_40 : decode cX9_group 40 = .ok (.invokevirtual 151, 3) := by decide +kernel
theorem dX9_group_43 : decode cX9_group 43 = .ok (.iload_n 1, 1) := by decide +kernel
theorem dX9_group_44 : decode cX9_group 44 = .ok (.iconst (-1), 1) := by decide +kernel
theorem dX9_group_45 : decode cX9_group 45 = .ok (.if_icmp .ne 11, 3) := by decide +kernel
theorem dX9_group_48 : decode cX9_group 48 = .ok (.aload_n 0, 1) := by decide +kernel
theorem dX9_group_49 : decode cX9_group 49 = .ok (.getfield 61, 3) := by decide +kernel
theorem dX9_group_52 : decode cX9_group 52 = .ok (.getfield 257, 3) := by decide +kernel
theorem dX9_group_55 : decode cX9_group 55 = .ok (.ireturn, 1) := by decide +kernel
theorem dX9_group_56 : decode cX9_group 56 = .ok (.aload_n 0, 1) := by decide +kernel
theorem dX9_group_57 : decode cX9_group 57 = .ok (.getfield 61, 3) := by decide +kernel
theorem dX9_group_60 : decode cX9_group 60 = .ok (.getfield 258, 3) := by decide +kernel
theorem dX9_group_63 : decode cX9_group 63 = .ok (.iload_n 1, 1) := by decide +kernel
theorem dX9_group_64 : decode cX9_group 64 = .ok (.iaload, 1) := by decide +kernel
theorem dX9_group_65 : decode cX9_group 65 = .ok (.istore_n 3, 1) := by decide +kernel
theorem dX9_group_66 : decode cX9_group 66 = .ok (.iload_n 2, 1) := by decide +kernel
theorem dX9_group_67 : decode cX9_group 67 = .ok (.ifCond .ne 15, 3) := by decide +kernel
theorem dX9_group_70 : decode cX9_group 70 = .ok (.aload_n 0, 1) := by decide +kernel
theorem dX9_group_71 : decode cX9_group 71 = .ok (.getfield 61, 3) := by decide +kernel
theorem dX9_group_74 : decode cX9_group 74 = .ok (.getfield 261, 3) := by decide +kernel
theorem dX9_group_77 : decode cX9_group 77 = .ok (.iload_n 3, 1) := by decide +kernel
theorem dX9_group_78 : decode cX9_group 78 = .ok (.iaload, 1) := by decide +kernel
theorem dX9_group_79 : decode cX9_group 79 = .ok (.goto 12, 3) := by decide +kernel
theorem dX9_group_82 : decode cX9_group 82 = .ok (.aload_n 0, 1) := by decide +kernel
theorem dX9_group_83 : decode cX9_group 83 = .ok (.getfield 61, 3) := by decide +kernel
theorem dX9_group_86 : decode cX9_group 86 = .ok (.getfield 264, 3) := by decide +kernel
theorem dX9_group_89 : decode cX9_group 89 = .ok (.iload_n 3, 1) := by decide +kernel
theorem dX9_group_90 : decode cX9_group 90 = .ok (.iaload, 1) := by decide +kernel
theorem dX9_group_91 : decode cX9_group 91 = .ok (.ireturn, 1) := by decide +kernel
theorem dX9_sheet_0 : decode cX9_sheet 0 = .ok (.iload_n 1, 1) := by decide +kernel
theorem dX9_sheet_1 : decode cX9_sheet 1 = .ok (.invokestatic 124, 3) := by decide +kernel
theorem dX9_sheet_4 : decode cX9_sheet 4 = .ok (.ifCond .eq 16, 3) := by decide +kernel
theorem dX9_sheet_7 : decode cX9_sheet 7 = .ok (.iload_n 2, 1) := by decide +kernel
theorem dX9_sheet_8 : decode cX9_sheet 8 = .ok (.invokestatic 265, 3) := by decide +kernel
theorem dX9_sheet_11 : decode cX9_sheet 11 = .ok (.ifCond .eq 9, 3) := by decide +kernel
theorem dX9_sheet_14 : decode cX9_sheet 14 = .ok (.iload_n 3, 1) := by decide +kernel
theorem dX9_sheet_15 : decode cX9_sheet 15 = .ok (.bipush 60, 2) := by decide +kernel
theorem dX9_sheet_17 : decode cX9_sheet 17 = .ok (.if_icmp .le 6, 3) := by decide +kernel
theorem dX9_sheet_20 : decode cX9_sheet 20 = .ok (.bipush (-2), 2) := by decide +kernel
theorem dX9_sheet_22 : decode cX9_sheet 22 = .ok (.ireturn, 1) := by decide +kernel
theorem dX9_sheet_23 : decode cX9_sheet 23 = .ok (.iload_n 3, 1) := by decide +kernel
theorem dX9_sheet_24 : decode cX9_sheet 24 = .ok (.ifCond .ge 9, 3) := by decide +kernel
theorem dX9_sheet_27 : decode cX9_sheet 27 = .ok (.aload_n 0, 1) := by decide +kernel
theorem dX9_sheet_28 : decode cX9_sheet 28 = .ok (.iconst 5, 1) := by decide +kernel
theorem dX9_sheet_29 : decode cX9_sheet 29 = .ok (.invokevirtual 130, 3) := by decide +kernel
theorem dX9_sheet_32 : decode cX9_sheet 32 = .ok (.ireturn, 1) := by decide +kernel
theorem dX9_sheet_33 : decode cX9_sheet 33 = .ok (.aload_n 0, 1) := by decide +kernel
theorem dX9_sheet_34 : decode cX9_sheet 34 = .ok (.getfield 67, 3) := by decide +kernel
theorem dX9_sheet_37 : decode cX9_sheet 37 = .ok (.iload_n 1, 1) := by decide +kernel
theorem dX9_sheet_38 : decode cX9_sheet 38 = .ok (.aaload, 1) := by decide +kernel
theorem dX9_sheet_39 : decode cX9_sheet 39 = .ok (.iload_n 2, 1) := by decide +kernel
theorem dX9_sheet_40 : decode cX9_sheet 40 = .ok (.iload_n 3, 1) := by decide +kernel
theorem dX9_sheet_41 : decode cX9_sheet 41 = .ok (.invokevirtual 268, 3) := by decide +kernel
theorem dX9_sheet_44 : decode cX9_sheet 44 = .ok (.iload_n 3, 1) := by decide +kernel
theorem dX9_sheet_45 : decode cX9_sheet 45 = .ok (.ireturn, 1) := by decide +kernel
theorem dX9_lose_0 : decode cX9_lose 0 = .ok (.iload_n 1, 1) := by decide +kernel
theorem dX9_lose_1 : decode cX9_lose 1 = .ok (.invokestatic 124, 3) := by decide +kernel
theorem dX9_lose_4 : decode cX9_lose 4 = .ok (.ifCond .ne 6, 3) := by decide +kernel
theorem dX9_lose_7 : decode cX9_lose 7 = .ok (.bipush (-2), 2) := by decide +kernel
theorem dX9_lose_9 : decode cX9_lose 9 = .ok (.ireturn, 1) := by decide +kernel
theorem dX9_lose_10 : decode cX9_lose 10 = .ok (.aload_n 0, 1) := by decide +kernel
theorem dX9_lose_11 : decode cX9_lose 11 = .ok (.getfield 67, 3) := by decide +kernel
theorem dX9_lose_14 : decode cX9_lose 14 = .ok (.iload_n 1, 1) := by decide +kernel
theorem dX9_lose_15 : decode cX9_lose 15 = .ok (.aaload, 1) := by decide +kernel
theorem dX9_lose_16 : decode cX9_lose 16 = .ok (.getfield 127, 3) := by decide +kernel
theorem dX9_lose_19 : decode cX9_lose 19 = .ok (.ifCond .eq 9, 3) := by decide +kernel
theorem dX9_lose_22 : decode cX9_lose 22 = .ok (.aload_n 0, 1) := by decide +kernel
theorem dX9_lose_23 : decode cX9_lose 23 = .ok (.iconst 1, 1) := by decide +kernel
theorem dX9_lose_24 : decode cX9_lose 24 = .ok (.invokevirtual 130, 3) := by decide +kernel
theorem dX9_lose_27 : decode cX9_lose 27 = .ok (.ireturn, 1) := by decide +kernel
theorem dX9_lose_28 : decode cX9_lose 28 = .ok (.aload_n 0, 1) := by decide +kernel
theorem dX9_lose_29 : decode cX9_lose 29 = .ok (.getfield 67, 3) := by decide +kernel
theorem dX9_lose_32 : decode cX9_lose 32 = .ok (.iload_n 1, 1) := by decide +kernel
theorem dX9_lose_33 : decode cX9_lose 33 = .ok (.aaload, 1) := by decide +kernel
theorem dX9_lose_34 : decode cX9_lose 34 = .ok (.iconst 1, 1) := by decide +kernel
theorem dX9_lose_35 : decode cX9_lose 35 = .ok (.putfield 127, 3) := by decide +kernel
theorem dX9_lose_38 : decode cX9_lose 38 = .ok (.aload_n 0, 1) := by decide +kernel
theorem dX9_lose_39 : decode cX9_lose 39 = .ok (.getfield 67, 3) := by decide +kernel
theorem dX9_lose_42 : decode cX9_lose 42 = .ok (.iload_n 1, 1) := by decide +kernel
theorem dX9_lose_43 : decode cX9_lose 43 = .ok (.aaload, 1) := by decide +kernel
theorem dX9_lose_44 : decode cX9_lose 44 = .ok (.getfield 134, 3) := by decide +kernel
theorem dX9_lose_47 : decode cX9_lose 47 = .ok (.ireturn, 1) := by decide +kernel
theorem dX9_lay_0 : decode cX9_lay 0 = .ok (.aload_n 0, 1) := by decide +kernel
theorem dX9_lay_1 : decode cX9_lay 1 = .ok (.iload_n 1, 1) := by decide +kernel
theorem dX9_lay_2 : decode cX9_lay 2 = .ok (.iload_n 2, 1) := by decide +kernel
theorem dX9_lay_3 : decode cX9_lay 3 = .ok (.iload_n 3, 1) := by decide +kernel
theorem dX9_lay_4 : decode cX9_lay 4 = .ok (.invokevirtual 272, 3) := by decide +kernel
theorem dX9_lay_7 : decode cX9_lay 7 = .ok (.istore 5, 2) := by decide +kernel
theorem dX9_lay_9 : decode cX9_lay 9 = .ok (.iload 5, 2) := by decide +kernel
theorem dX9_lay_11 : decode cX9_lay 11 = .ok (.ifCond .eq 6, 3) := by decide +kernel
theorem dX9_lay_14 : decode cX9_lay 14 = .ok (.iload 5, 2) := by decide +kernel
theorem dX9_lay_16 : decode cX9_lay 16 = .ok (.ireturn, 1) := by decide +kernel
theorem dX9_lay_17 : decode cX9_lay 17 = .ok (.aload_n 0, 1) := by decide +kernel
theorem dX9_lay_18 : decode cX9_lay 18 = .ok (.getfield 67, 3) := by decide +kernel
theorem dX9_lay_21 : decode cX9_lay 21 = .ok (.iload_n 1, 1) := by decide +kernel
theorem dX9_lay_22 : decode cX9_lay 22 = .ok (.aaload, 1) := by decide +kernel
theorem dX9_lay_23 : decode cX9_lay 23 = .ok (.iload_n 3, 1) := by decide +kernel
