theorem dX0_init_0 : decode cX0_init 0 = .ok (.aload_n 0, 1) := by decide +kernel
theorem dX0_init_1 : decode cX0_init 1 = .ok (.invokespecial 3, 3) := by decide +kernel
theorem dX0_init_4 : decode cX0_init 4 = .ok (.aload_n 0, 1) := by decide +kernel
theorem dX0_init_5 : decode cX0_init 5 = .ok (.bipush 64, 2) := by decide +kernel
theorem dX0_init_7 : decode cX0_init 7 = .ok (.newarray .int, 2) := by decide +kernel
theorem dX0_init_9 : decode cX0_init 9 = .ok (.putfield 9, 3) := by decide +kernel
theorem dX0_init_12 : decode cX0_init 12 = .ok (.aload_n 0, 1) := by decide +kernel
theorem dX0_init_13 : decode cX0_init 13 = .ok (.bipush 64, 2) := by decide +kernel
theorem dX0_init_15 : decode cX0_init 15 = .ok (.newarray .boolean, 2) := by decide +kernel
theorem dX0_init_17 : decode cX0_init 17 = .ok (.putfield 15, 3) := by decide +kernel
theorem dX0_init_20 : decode cX0_init 20 = .ok (.aload_n 0, 1) := by decide +kernel
theorem dX0_init_21 : decode cX0_init 21 = .ok (.bipush 64, 2) := by decide +kernel
theorem dX0_init_23 : decode cX0_init 23 = .ok (.newarray .int, 2) := by decide +kernel
theorem dX0_init_25 : decode cX0_init 25 = .ok (.putfield 19, 3) := by decide +kernel
theorem dX0_init_28 : decode cX0_init 28 = .ok (.aload_n 0, 1) := by decide +kernel
theorem dX0_init_29 : decode cX0_init 29 = .ok (.bipush 64, 2) := by decide +kernel
theorem dX0_init_31 : decode cX0_init 31 = .ok (.newarray .int, 2) := by decide +kernel
theorem dX0_init_33 : decode cX0_init 33 = .ok (.putfield 22, 3) := by decide +kernel
theorem dX0_init_36 : decode cX0_init 36 = .ok (.aload_n 0, 1) := by decide +kernel
theorem dX0_init_37 : decode cX0_init 37 = .ok (.iconst 0, 1) := by decide +kernel
theorem dX0_init_38 : decode cX0_init 38 = .ok (.putfield 25, 3) := by decide +kernel
theorem dX0_init_41 : decode cX0_init 41 = .ok (.aload_n 0, 1) := by decide +kernel
theorem dX0_init_42 : decode cX0_init 42 = .ok (.iconst 0, 1) := by decide +kernel
theorem dX0_init_43 : decode cX0_init 43 = .ok (.putfield 29, 3) := by decide +kernel
theorem dX0_init_46 : decode cX0_init 46 = .ok (.return_, 1) := by decide +kernel
theorem dX0_note_0 : decode cX0_note 0 = .ok (.aload_n 0, 1) := by decide +kernel
theorem dX0_note_1 : decode cX0_note 1 = .ok (.getfield 9, 3) := by decide +kernel
theorem dX0_note_4 : decode cX0_note 4 = .ok (.aload_n 0, 1) := by decide +kernel
theorem dX0_note_5 : decode cX0_note 5 = .ok (.getfield 25, 3) := by decide +kernel
theorem dX0_note_8 : decode cX0_note 8 = .ok (.iload_n 1, 1) := by decide +kernel
theorem dX0_note_9 : decode cX0_note 9 = .ok (.iastore, 1) := by decide +kernel
theorem dX0_note_10 : decode cX0_note 10 = .ok (.aload_n 0, 1) := by decide +kernel
theorem dX0_note_11 : decode cX0_note 11 = .ok (.getfield 15, 3) := by decide +kernel
theorem dX0_note_14 : decode cX0_note 14 = .ok (.aload_n 0, 1) := by decide +kernel
theorem dX0_note_15 : decode cX0_note 15 = .ok (.getfield 25, 3) := by decide +kernel
theorem dX0_note_18 : decode cX0_note 18 = .ok (.aload_n 2, 1) := by decide +kernel
theorem dX0_note_19 : decode cX0_note 19 = .ok (.getfield 32, 3) := by decide +kernel
theorem dX0_note_22 : decode cX0_note 22 = .ok (.iload_n 1, 1) := by decide +kernel
theorem dX0_note_23 : decode cX0_note 23 = .ok (.baload, 1) := by decide +kernel
theorem dX0_note_24 : decode cX0_note 24 = .ok (.bastore, 1) := by decide +kernel
theorem dX0_note_25 : decode cX0_note 25 = .ok (.aload_n 0, 1) := by decide +kernel
theorem dX0_note_26 : decode cX0_note 26 = .ok (.getfield 19, 3) := by decide +kernel
theorem dX0_note_29 : decode cX0_note 29 = .ok (.aload_n 0, 1) := by decide +kernel
theorem dX0_note_30 : decode cX0_note 30 = .ok (.getfield 25, 3) := by decide +kernel
theorem dX0_note_33 : decode cX0_note 33 = .ok (.aload_n 2, 1) := by decide +kernel
theorem dX0_note_34 : decode cX0_note 34 = .ok (.getfield 35, 3) := by decide +kernel
theorem dX0_note_37 : decode cX0_note 37 = .ok (.iload_n 1, 1) := by decide +kernel
theorem dX0_note_38 : decode cX0_note 38 = .ok (.iaload, 1) := by decide +kernel
theorem dX0_note_39 : decode cX0_note 39 = .ok (.iastore, 1) := by decide +kernel
theorem dX0_note_40 : decode cX0_note 40 = .ok (.aload_n 0, 1) := by decide +kernel
theorem dX0_note_41 : decode cX0_note 41 = .ok (.getfield 22, 3) := by decide +kernel
theorem dX0_note_44 : decode cX0_note 44 = .ok (.aload_n 0, 1) := by decide +kernel
theorem dX0_note_45 : decode cX0_note 45 = .ok (.getfield 25, 3) := by decide +kernel
theorem dX0_note_48 : decode cX0_note 48 = .ok (.aload_n 2, 1) := by decide +kernel
theorem dX0_note_49 : decode cX0_note 49 = .ok (.getfield 36, 3) := by decide +kernel
theorem dX0_note_52 : decode cX0_note 52 = .ok (.iload_n 1, 1) := by decide +kernel
theorem dX0_note_53 : decode cX0_note 53 = .ok (.iaload, 1) := by decide +kernel
theorem dX0_note_54 : decode cX0_note 54 = .ok (.iastore, 1) := by decide +kernel
theorem dX0_note_55 : decode cX0_note 55 = .ok (.aload_n 0, 1) := by decide +kernel
theorem dX0_note_56 : decode cX0_note 56 = .ok (.aload_n 0, 1) := by decide +kernel
theorem dX0_note_57 : decode cX0_note 57 = .ok (.getfield 25, 3) := by decide +kernel
theorem dX0_note_60 : decode cX0_note 60 = .ok (.iconst 1, 1) := by decide +kernel
theorem dX0_note_61 : decode cX0_note 61 = .ok (.iadd, 1) := by decide +kernel
theorem dX0_note_62 : decode cX0_note 62 = .ok (.bipush 64, 2) := by decide +kernel
theorem dX0_note_64 : decode cX0_note 64 = .ok (.if_icmp .ge 12, 3) := by decide +kernel
theorem dX0_note_67 : decode cX0_note 67 = .ok (.aload_n 0, 1) := by decide +kernel
theorem dX0_note_68 : decode cX0_note 68 = .ok (.getfield 25, 3) := by decide +kernel
theorem dX0_note_71 : decode cX0_note 71 = .ok (.iconst 1, 1) := by decide +kernel
theorem dX0_note_72 : decode cX0_note 72 = .ok (.iadd, 1) := by decide +kernel
theorem dX0_note_73 : decode cX0_note 73 = .ok (.goto 4, 3) := by decide +kernel
theorem dX0_note_76 : decode cX0_note 76 = .ok (.iconst 0, 1) := by decide +kernel
theorem dX0_note_77 : decode cX0_note 77 = .ok (.putfield 25, 3) := by decide +kernel
theorem dX0_note_80 : decode cX0_note 80 = .ok (.aload_n 0, 1) := by decide +kernel
theorem dX0_note_81 : decode cX0_note 81 = .ok (.aload_n 0, 1) := by decide +kernel
theorem dX0_note_82 : decode cX0_note 82 = .ok (.getfield 29, 3) := by decide +kernel
theorem dX0_note_85 : decode cX0_note 85 = .ok (.iconst 1, 1) := by decide +kernel
theorem dX0_note_86 : decode cX0_note 86 = .ok (.iadd, 1) := by decide +kernel
theorem dX0_note_87 : decode cX0_note 87 = .ok (.bipush 64, 2) := by decide +kernel
theorem dX0_note_89 : decode cX0_note 89 = .ok (.invokestatic 37, 3) := by decide +kernel
theorem dX0_note_92 : decode cX0_note 92 = .ok (.putfield 29, 3) := by decide +kernel
theorem dX0_note_95 : decode cX0_note 95 = .ok (.return_, 1) := by decide +kernel
theorem dX0_takeLast_0 : decode cX0_takeLast 0 = .ok (.aload_n 0, 1) := by decide +kernel
theorem dX0_takeLast_1 : decode cX0_takeLast 1 = .ok (.aload_n 0, 1) := by decide +kernel
theorem dX0_takeLast_2 : decode cX0_takeLast 2 = .ok (.getfield 25, 3) := by decide +kernel
theorem dX0_takeLast_5 : decode cX0_takeLast 5 = .ok (.ifCond .le 12, 3) := by decide +kernel
theorem dX0_takeLast_8 : decode cX0_takeLast 8 = .ok (.aload_n 0, 1) := by decide +kernel
theorem dX0_takeLast_9 : decode cX0_takeLast 9 = .ok (.getfield 25, 3) := by decide +kernel
theorem dX0_takeLast_12 : decode cX0_takeLast 12 = .ok (.iconst 1, 1) := by decide +kernel
theorem dX0_takeLast_13 : decode cX0_takeLast 13 = .ok (.isub, 1) := by decide +kernel
theorem dX0_takeLast_14 : decode cX0_takeLast 14 = .ok (.goto 5, 3) := by decide +kernel
theorem dX0_takeLast_17 : decode cX0_takeLast 17 = .ok (.bipush 63, 2) := by decide +kernel
theorem dX0_takeLast_19 : decode cX0_takeLast 19 = .ok (.putfield 25, 3) := by decide +kernel
theorem dX0_takeLast_22 : decode cX0_takeLast 22 = .ok (.aload_n 0, 1) := by decide +kernel
theorem dX0_takeLast_23 : decode cX0_takeLast 23 = .ok (.dup, 1) := by decide +kernel
theorem dX0_takeLast_24 : decode cX0_takeLast 24 = .ok (.getfield 29, 3) := by decide +kernel
theorem dX0_takeLast_27 : decode cX0_takeLast 27 = .ok (.iconst 1, 1) := by decide +kernel
theorem dX0_takeLast_28 : decode cX0_takeLast 28 = .ok (.isub, 1) := by decide +kernel
theorem dX0_takeLast_29 : decode cX0_takeLast 29 = .ok (.putfield 29, 3) := by decide +kernel
theorem dX0_takeLast_32 : decode cX0_takeLast 32 = .ok (.aload_n 0, 1) := by decide +kernel
theorem dX0_takeLast_33 : decode cX0_takeLast 33 = .ok (.getfield 25, 3) := by decide +kernel
theorem dX0_takeLast_36 : decode cX0_takeLast 36 = .ok (.ireturn, 1) := by decide +kernel
theorem dX1_init_0 : decode cX1_init 0 = .ok (.aload_n 0, 1) := by decide +kernel
theorem dX1_init_1 : decode cX1_init 1 = .ok (.invokespecial 3, 3) := by decide +kernel
theorem dX1_init_4 : decode cX1_init 4 = .ok (.aload_n 0, 1) := by decide +kernel
theorem dX1_init_5 : decode cX1_init 5 = .ok (.bipush 49, 2) := by decide +kernel
theorem dX1_init_7 : decode cX1_init 7 = .ok (.newarray .int, 2) := by decide +kernel
theorem dX1_init_9 : decode cX1_init 9 = .ok (.putfield 9, 3) := by decide +kernel
theorem dX1_init_12 : decode cX1_init 12 = .ok (.aload_n 0, 1) := by decide +kernel
theorem dX1_init_13 : decode cX1_init 13 = .ok (.bipush 49, 2) := by decide +kernel
theorem dX1_init_15 : decode cX1_init 15 = .ok (.newarray .int, 2) := by decide +kernel
theorem dX1_init_17 : decode cX1_init 17 = .ok (.putfield 15, 3) := by decide +kernel
theorem dX1_init_20 : decode cX1_init 20 = .ok (.aload_n 0, 1) := by decide +kernel
theorem dX1_init_21 : decode cX1_init 21 = .ok (.iconst 0, 1) := by decide +kernel
theorem dX1_init_22 : decode cX1_init 22 = .ok (.putfield 18, 3) := by decide +kernel
theorem dX1_init_25 : decode cX1_init 25 = .ok (.return_, 1) := by decide +kernel
theorem dX1_build_0 : decode cX1_build 0 = .ok (.aload_n 0, 1) := by decide +kernel
theorem dX1_build_1 : decode cX1_build 1 = .ok (.iconst 0, 1) := by decide +kernel
theorem dX1_build_2 : decode cX1_build 2 = .ok (.putfield 18, 3) := by decide +kernel
theorem dX1_build_5 : decode cX1_build 5 = .ok (.ldc 22, 2) := by decide +kernel
theorem dX1_build_7 : decode cX1_build 7 = .ok (.istore_n 2, 1) := by decide +kernel
theorem dX1_build_8 : decode cX1_build 8 = .ok (.iconst 0, 1) := by decide +kernel
theorem dX1_build_9 : decode cX1_build 9 = .ok (.istore_n 3, 1) := by decide +kernel
theorem dX1_build_10 : decode cX1_build 10 = .ok (.iload_n 3, 1) := by decide +kernel
theorem dX1_build_11 : decode cX1_build 11 = .ok (.aload_n 1, 1) := by decide +kernel
theorem dX1_build_12 : decode cX1_build 12 = .ok (.getfield 23, 3) := by decide +kernel
theorem dX1_build_15 : decode cX1_build 15 = .ok (.if_icmp .ge 41, 3) := by decide +kernel
theorem dX1_build_18 : decode cX1_build 18 = .ok (.aload_n 1, 1) := by decide +kernel
theorem dX1_build_19 : decode cX1_build 19 = .ok (.getfield 26, 3) := by decide +kernel
theorem dX1_build_22 : decode cX1_build 22 = .ok (.iload_n 3, 1) := by decide +kernel
theorem dX1_build_23 : decode cX1_build 23 = .ok (.iaload, 1) := by decide +kernel
theorem dX1_build_24 : decode cX1_build 24 = .ok (.istore 4, 2) := by decide +kernel
theorem dX1_build_26 : decode cX1_build 26 = .ok (.aload_n 0, 1) := by decide +kernel
theorem dX1_build_27 : decode cX1_build 27 = .ok (.iload_n 2, 1) := by decide +kernel
theorem dX1_build_28 : decode cX1_build 28 = .ok (.aload_n 1, 1) := by decide +kernel
theorem dX1_build_29 : decode cX1_build 29 = .ok (.getfield 29, 3) := by decide +kernel
theorem dX1_build_32 : decode cX1_build 32 = .ok (.iload 4, 2) := by decide +kernel
theorem dX1_build_34 : decode cX1_build 34 = .ok (.iaload, 1) := by decide +kernel
theorem dX1_build_35 : decode cX1_build 35 = .ok (.invokevirtual 32, 3) := by decide +kernel
theorem dX1_build_38 : decode cX1_build 38 = .ok (.iload_n 2, 1) := by decide +kernel
theorem dX1_build_39 : decode cX1_build 39 = .ok (.aload_n 1, 1) := by decide +kernel
theorem dX1_build_40 : decode cX1_build 40 = .ok (.getfield 36, 3) := by decide +kernel
theorem dX1_build_43 : decode cX1_build 43 = .ok (.iload 4, 2) := by decide +kernel
theorem dX1_build_45 : decode cX1_build 45 = .ok (.iaload, 1) := by decide +kernel
theorem dX1_build_46 : decode cX1_build 46 = .ok (.invokestatic 39, 3) := by decide +kernel
theorem dX1_build_49 : decode cX1_build 49 = .ok (.istore_n 2, 1) := by decide +kernel
theorem dX1_build_50 : decode cX1_build 50 = .ok (.iinc 3 1, 3) := by decide +kernel
theorem dX1_build_53 : decode cX1_build 53 = .ok (.goto (-43), 3) := by decide +kernel
theorem dX1_build_56 : decode cX1_build 56 = .ok (.aload_n 0, 1) := by decide +kernel
theorem dX1_build_57 : decode cX1_build 57 = .ok (.iload_n 2, 1) := by decide +kernel
theorem dX1_build_58 : decode cX1_build 58 = .ok (.ldc 45, 2) := by decide +kernel
theorem dX1_build_60 : decode cX1_build 60 = .ok (.invokevirtual 32, 3) := by decide +kernel
theorem dX1_build_63 : decode cX1_build 63 = .ok (.return_, 1) := by decide +kernel
theorem dX1_addPart_0 : decode cX1_addPart 0 = .ok (.iload_n 1, 1) := by decide +kernel
theorem dX1_addPart_1 : decode cX1_addPart 1 = .ok (.iload_n 2, 1) := by decide +kernel
theorem dX1_addPart_2 : decode cX1_addPart 2 = .ok (.if_icmp .ge 42, 3) := by decide +kernel
theorem dX1_addPart_5 : decode cX1_addPart 5 = .ok (.aload_n 0, 1) := by decide +kernel
theorem dX1_addPart_6 : decode cX1_addPart 6 = .ok (.getfield 18, 3) := by decide +kernel
theorem dX1_addPart_9 : decode cX1_addPart 9 = .ok (.bipush 48, 2) := by decide +kernel
theorem dX1_addPart_11 : decode cX1_addPart 11 = .ok (.if_icmp .gt 33, 3) := by decide +kernel
theorem dX1_addPart_14 : decode cX1_addPart 14 = .ok (.aload_n 0, 1) := by decide +kernel
theorem dX1_addPart_15 : decode cX1_addPart 15 = .ok (.getfield 9, 3) := by decide +kernel
theorem dX1_addPart_18 : decode cX1_addPart 18 = .ok (.aload_n 0, 1) := by decide +kernel
theorem dX1_addPart_19 : decode cX1_addPart 19 = .ok (.getfield 18, 3) := by decide +kernel
theorem dX1_addPart_22 : decode cX1_addPart 22 = .ok (.iload_n 1, 1) := by decide +kernel
theorem dX1_addPart_23 : decode cX1_addPart 23 = .ok (.iastore, 1) := by decide +kernel
theorem dX1_addPart_24 : decode cX1_addPart 24 = .ok (.aload_n 0, 1) := by decide +kernel
theorem dX1_addPart_25 : decode cX1_addPart 25 = .ok (.getfield 15, 3) := by decide +kernel
theorem dX1_addPart_28 : decode cX1_addPart 28 = .ok (.aload_n 0, 1) := by decide +kernel
theorem dX1_addPart_29 : decode cX1_addPart 29 = .ok (.getfield 18, 3) := by decide +kernel
theorem dX1_addPart_32 : decode cX1_addPart 32 = .ok (.iload_n 2, 1) := by decide +kernel
theorem dX1_addPart_33 : decode cX1_addPart 33 = .ok (.iastore, 1) := by decide +kernel
theorem dX1_addPart_34 : decode cX1_addPart 34 = .ok (.aload_n 0, 1) := by decide +kernel
theorem dX1_addPart_35 : decode cX1_addPart 35 = .ok (.dup, 1) := by decide +kernel
theorem dX1_addPart_36 : decode cX1_addPart 36 = .ok (.getfield 18, 3) := by decide +kernel
theorem dX1_addPart_39 : decode cX1_addPart 39 = .ok (.iconst 1, 1) := by decide +kernel
theorem dX1_addPart_40 : decode cX1_addPart 40 = .ok (.iadd, 1) := by decide +kernel
theorem dX1_addPart_41 : decode cX1_addPart 41 = .ok (.putfield 18, 3) := by decide +kernel
theorem dX1_addPart_44 : decode cX1_addPart 44 = .ok (.return_, 1) := by decide +kernel
theorem dX1_pointsOf_0 : decode cX1_pointsOf 0 = .ok (.aload_n 0, 1) := by decide +kernel
theorem dX1_pointsOf_1 : decode cX1_pointsOf 1 = .ok (.getfield 15, 3) := by decide +kernel
theorem dX1_pointsOf_4 : decode cX1_pointsOf 4 = .ok (.iload_n 1, 1) := by decide +kernel
theorem dX1_pointsOf_5 : decode cX1_pointsOf 5 = .ok (.iaload, 1) := by decide +kernel
theorem dX1_pointsOf_6 : decode cX1_pointsOf 6 = .ok (.iload_n 3, 1) := by decide +kernel
theorem dX1_pointsOf_7 : decode cX1_pointsOf 7 = .ok (.invokestatic 46, 3) := by decide +kernel
theorem dX1_pointsOf_10 : decode cX1_pointsOf 10 = .ok (.aload_n 0, 1) := by decide +kernel
theorem dX1_pointsOf_11 : decode cX1_pointsOf 11 = .ok (.getfield 9, 3) := by decide +kernel
theorem dX1_pointsOf_14 : decode cX1_pointsOf 14 = .ok (.iload_n 1, 1) := by decide +kernel
theorem dX1_pointsOf_15 : decode cX1_pointsOf 15 = .ok (.iaload, 1) := by decide +kernel
theorem dX1_pointsOf_16 : decode cX1_pointsOf 16 = .ok (.iload_n 2, 1) := by decide +kernel
theorem dX1_pointsOf_17 : decode cX1_pointsOf 17 = .ok (.invokestatic 39, 3) := by decide +kernel
theorem dX1_pointsOf_20 : decode cX1_pointsOf 20 = .ok (.isub, 1) := by decide +kernel
theorem dX1_pointsOf_21 : decode cX1_pointsOf 21 = .ok (.iconst 0, 1) := by decide +kernel
theorem dX1_pointsOf_22 : decode cX1_pointsOf 22 = .ok (.invokestatic 39, 3) := by decide +kernel
theorem dX1_pointsOf_25 : decode cX1_pointsOf 25 = .ok (.ireturn, 1) := by decide +kernel
theorem dX1_pointsWithin_0 : decode cX1_pointsWithin 0 = .ok (.iconst 0, 1) := by decide +kernel
theorem dX1_pointsWithin_1 : decode cX1_pointsWithin 1 = .ok (.istore_n 3, 1) := by decide +kernel
theorem dX1_pointsWithin_2 : decode cX1_pointsWithin 2 = .ok (.iconst 0, 1) := by decide +kernel
theorem dX1_pointsWithin_3 : decode cX1_pointsWithin 3 = .ok (.istore 4, 2) := by decide +kernel
theorem dX1_pointsWithin_5 : decode cX1_pointsWithin 5 = .ok (.iload 4, 2) := by decide +kernel
theorem dX1_pointsWithin_7 : decode cX1_pointsWithin 7 = .ok (.aload_n 0, 1) := by decide +kernel
theorem dX1_pointsWithin_8 : decode cX1_pointsWithin 8 = .ok (.getfield 18, 3) := by decide +kernel
theorem dX1_pointsWithin_11 : decode cX1_pointsWithin 11 = .ok (.if_icmp .ge 20, 3) := by decide +kernel
theorem dX1_pointsWithin_14 : decode cX1_pointsWithin 14 = .ok (.iload_n 3, 1) := by decide +kernel
theorem dX1_pointsWithin_15 : decode cX1_pointsWithin 15 = .ok (.aload_n 0, 1) := by decide +kernel
theorem dX1_pointsWithin_16 : decode cX1_pointsWithin 16 = .ok (.iload 4, 2) := by decide +kernel
theorem dX1_pointsWithin_18 : decode cX1_pointsWithin 18 = .ok (.iload_n 1, 1) := by decide +kernel
theorem dX1_pointsWithin_19 : decode cX1_pointsWithin 19 = .ok (.iload_n 2, 1) := by decide +kernel
theorem dX1_pointsWithin_20 : decode cX1_pointsWithin 20 = .ok (.invokevirtual 49, 3) := by decide +kernel
theorem dX1_pointsWithin_23 : decode cX1_pointsWithin 23 = .ok (.iadd, 1) := by decide +kernel
theorem dX1_pointsWithin_24 : decode cX1_pointsWithin 24 = .ok (.istore_n 3, 1) := by decide +kernel
theorem dX1_pointsWithin_25 : decode cX1_pointsWithin 25 = .ok (.iinc 4 1, 3) := by decide +kernel
theorem dX1_pointsWithin_28 : decode cX1_pointsWithin 28 = .ok (.goto (-23), 3) := by decide +kernel
theorem dX1_pointsWithin_31 : decode cX1_pointsWithin 31 = .ok (.iload_n 3, 1) := by decide +kernel
theorem dX1_pointsWithin_32 : decode cX1_pointsWithin 32 = .ok (.ireturn, 1) := by decide +kernel
theorem dX1_partsWithin_0 : decode cX1_partsWithin 0 = .ok (.iconst 0, 1) := by decide +kernel
theorem dX1_partsWithin_1 : decode cX1_partsWithin 1 = .ok (.istore_n 3, 1) := by decide +kernel
theorem dX1_partsWithin_2 : decode cX1_partsWithin 2 = .ok (.iconst 0, 1) := by decide +kernel
theorem dX1_partsWithin_3 : decode cX1_partsWithin 3 = .ok (.istore 4, 2) := by decide +kernel
theorem dX1_partsWithin_5 : decode cX1_partsWithin 5 = .ok (.iload 4, 2) := by decide +kernel
theorem dX1_partsWithin_7 : decode cX1_partsWithin 7 = .ok (.aload_n 0, 1) := by decide +kernel
theorem dX1_partsWithin_8 : decode cX1_partsWithin 8 = .ok (.getfield 18, 3) := by decide +kernel
theorem dX1_partsWithin_11 : decode cX1_partsWithin 11 = .ok (.if_icmp .ge 28, 3) := by decide +kernel
theorem dX1_partsWithin_14 : decode cX1_partsWithin 14 = .ok (.iload_n 3, 1) := by decide +kernel
theorem dX1_partsWithin_15 : decode cX1_partsWithin 15 = .ok (.aload_n 0, 1) := by decide +kernel
theorem dX1_partsWithin_16 : decode cX1_partsWithin 16 = .ok (.iload 4, 2) := by decide +kernel
theorem dX1_partsWithin_18 : decode cX1_partsWithin 18 = .ok (.iload_n 1, 1) := by decide +kernel
theorem dX1_partsWithin_19 : decode cX1_partsWithin 19 = .ok (.iload_n 2, 1) := by decide +kernel
theorem dX1_partsWithin_20 : decode cX1_partsWithin 20 = .ok (.invokevirtual 49, 3) := by decide +kernel
theorem dX1_partsWithin_23 : decode cX1_partsWithin 23 = .ok (.ifCond .le 7, 3) := by decide +kernel
theorem dX1_partsWithin_26 : decode cX1_partsWithin 26 = .ok (.iconst 1, 1) := by decide +kernel
theorem dX1_partsWithin_27 : decode cX1_partsWithin 27 = .ok (.goto 4, 3) := by decide +kernel
theorem dX1_partsWithin_30 : decode cX1_partsWithin 30 = .ok (.iconst 0, 1) := by decide +kernel
theorem dX1_partsWithin_31 : decode cX1_partsWithin 31 = .ok (.iadd, 1) := by decide +kernel
theorem dX1_partsWithin_32 : decode cX1_partsWithin 32 = .ok (.istore_n 3, 1) := by decide +kernel
theorem dX1_partsWithin_33 : decode cX1_partsWithin 33 = .ok (.iinc 4 1, 3) := by decide +kernel
theorem dX1_partsWithin_36 : decode cX1_partsWithin 36 = .ok (.goto (-31), 3) := by decide +kernel
theorem dX1_partsWithin_39 : decode cX1_partsWithin 39 = .ok (.iload_n 3, 1) := by decide +kernel
theorem dX1_partsWithin_40 : decode cX1_partsWithin 40 = .ok (.ireturn, 1) := by decide +kernel
theorem dX1_partAt_0 : decode cX1_partAt 0 = .ok (.iconst 0, 1) := by decide +kernel
theorem dX1_partAt_1 : decode cX1_partAt 1 = .ok (.istore 4, 2) := by decide +kernel
theorem dX1_partAt_3 : decode cX1_partAt 3 = .ok (.iconst 0, 1) := by decide +kernel
theorem dX1_partAt_4 : decode cX1_partAt 4 = .ok (.istore 5, 2) := by decide +kernel
theorem dX1_partAt_6 : decode cX1_partAt 6 = .ok (.iload 5, 2) := by decide +kernel
theorem dX1_partAt_8 : decode cX1_partAt 8 = .ok (.aload_n 0, 1) := by decide +kernel
theorem dX1_partAt_9 : decode cX1_partAt 9 = .ok (.getfield 18, 3) := by decide +kernel
theorem dX1_partAt_12 : decode cX1_partAt 12 = .ok (.if_icmp .ge 32, 3) := by decide +kernel
theorem dX1_partAt_15 : decode cX1_partAt 15 = .ok (.aload_n 0, 1) := by decide +kernel
theorem dX1_partAt_16 : decode cX1_partAt 16 = .ok (.iload 5, 2) := by decide +kernel
theorem dX1_partAt_18 : decode cX1_partAt 18 = .ok (.iload_n 1, 1) := by decide +kernel
theorem dX1_partAt_19 : decode cX1_partAt 19 = .ok (.iload_n 2, 1) := by decide +kernel
theorem dX1_partAt_20 : decode cX1_partAt 20 = .ok (.invokevirtual 49, 3) := by decide +kernel
theorem dX1_partAt_23 : decode cX1_partAt 23 = .ok (.ifCond .le 15, 3) := by decide +kernel
theorem dX1_partAt_26 : decode cX1_partAt 26 = .ok (.iload 4, 2) := by decide +kernel
theorem dX1_partAt_28 : decode cX1_partAt 28 = .ok (.iload_n 3, 1) := by decide +kernel
theorem dX1_partAt_29 : decode cX1_partAt 29 = .ok (.if_icmp .ne 6, 3) := by decide +kernel
theorem dX1_partAt_32 : decode cX1_partAt 32 = .ok (.iload 5, 2) := by decide +kernel
theorem dX1_partAt_34 : decode cX1_partAt 34 = .ok (.ireturn, 1) := by decide +kernel
theorem dX1_partAt_35 : decode cX1_partAt 35 = .ok (.iinc 4 1, 3) := by decide +kernel
theorem dX1_partAt_38 : decode cX1_partAt 38 = .ok (.iinc 5 1, 3) := by decide +kernel
theorem dX1_partAt_41 : decode cX1_partAt 41 = .ok (.goto (-35), 3) := by decide +kernel
theorem dX1_partAt_44 : decode cX1_partAt 44 = .ok (.iconst (-1), 1) := by decide +kernel
theorem dX1_partAt_45 : decode cX1_partAt 45 = .ok (.ireturn, 1) := by decide +kernel
theorem dX1_nextPlace_0 : decode cX1_nextPlace 0 = .ok (.iconst 0, 1) := by decide +kernel
theorem dX1_nextPlace_1 : decode cX1_nextPlace 1 = .ok (.istore_n 3, 1) := by decide +kernel
theorem dX1_nextPlace_2 : decode cX1_nextPlace 2 = .ok (.iload_n 3, 1) := by decide +kernel
theorem dX1_nextPlace_3 : decode cX1_nextPlace 3 = .ok (.aload_n 0, 1) := by decide +kernel
theorem dX1_nextPlace_4 : decode cX1_nextPlace 4 = .ok (.getfield 18, 3) := by decide +kernel
theorem dX1_nextPlace_7 : decode cX1_nextPlace 7 = .ok (.if_icmp .ge 37, 3) := by decide +kernel
theorem dX1_nextPlace_10 : decode cX1_nextPlace 10 = .ok (.aload_n 0, 1) := by decide +kernel
theorem dX1_nextPlace_11 : decode cX1_nextPlace 11 = .ok (.getfield 9, 3) := by decide +kernel
theorem dX1_nextPlace_14 : decode cX1_nextPlace 14 = .ok (.iload_n 3, 1) := by decide +kernel
theorem dX1_nextPlace_15 : decode cX1_nextPlace 15 = .ok (.iaload, 1) := by decide +kernel
theorem dX1_nextPlace_16 : decode cX1_nextPlace 16 = .ok (.iload_n 1, 1) := by decide +kernel
theorem dX1_nextPlace_17 : decode cX1_nextPlace 17 = .ok (.invokestatic 39, 3) := by decide +kernel
theorem dX1_nextPlace_20 : decode cX1_nextPlace 20 = .ok (.istore 4, 2) := by decide +kernel
theorem dX1_nextPlace_22 : decode cX1_nextPlace 22 = .ok (.iload 4, 2) := by decide +kernel
theorem dX1_nextPlace_24 : decode cX1_nextPlace 24 = .ok (.iload_n 2, 1) := by decide +kernel
theorem dX1_nextPlace_25 : decode cX1_nextPlace 25 = .ok (.iadd, 1) := by decide +kernel
theorem dX1_nextPlace_26 : decode cX1_nextPlace 26 = .ok (.aload_n 0, 1) := by decide +kernel
theorem dX1_nextPlace_27 : decode cX1_nextPlace 27 = .ok (.getfield 15, 3) := by decide +kernel
theorem dX1_nextPlace_30 : decode cX1_nextPlace 30 = .ok (.iload_n 3, 1) := by decide +kernel
theorem dX1_nextPlace_31 : decode cX1_nextPlace 31 = .ok (.iaload, 1) := by decide +kernel
theorem dX1_nextPlace_32 : decode cX1_nextPlace 32 = .ok (.if_icmp .gt 6, 3) := by decide +kernel
theorem dX1_nextPlace_35 : decode cX1_nextPlace 35 = .ok (.iload 4, 2) := by decide +kernel
theorem dX1_nextPlace_37 : decode cX1_nextPlace 37 = .ok (.ireturn, 1) := by decide +kernel
theorem dX1_nextPlace_38 : decode cX1_nextPlace 38 = .ok (.iinc 3 1, 3) := by decide +kernel
theorem dX1_nextPlace_41 : decode cX1_nextPlace 41 = .ok (.goto (-39), 3) := by decide +kernel
theorem dX1_nextPlace_44 : decode cX1_nextPlace 44 = .ok (.ldc 53, 2) := by decide +kernel
theorem dX1_nextPlace_46 : decode cX1_nextPlace 46 = .ok (.ireturn, 1) := by decide +kernel
theorem dX1_lastPlace_0 : decode cX1_lastPlace 0 = .ok (.aload_n 0, 1) := by decide +kernel
theorem dX1_lastPlace_1 : decode cX1_lastPlace 1 = .ok (.getfield 18, 3) := by decide +kernel
theorem dX1_lastPlace_4 : decode cX1_lastPlace 4 = .ok (.iconst 1, 1) := by decide +kernel
theorem dX1_lastPlace_5 : decode cX1_lastPlace 5 = .ok (.isub, 1) := by decide +kernel
theorem dX1_lastPlace_6 : decode cX1_lastPlace 6 = .ok (.istore_n 3, 1) := by decide +kernel
theorem dX1_lastPlace_7 : decode cX1_lastPlace 7 = .ok (.iload_n 3, 1) := by decide +kernel
theorem dX1_lastPlace_8 : decode cX1_lastPlace 8 = .ok (.ifCond .lt 37, 3) := by decide +kernel
theorem dX1_lastPlace_11 : decode cX1_lastPlace 11 = .ok (.aload_n 0, 1) := by decide +kernel
theorem dX1_lastPlace_12 : decode cX1_lastPlace 12 = .ok (.getfield 15, 3) := by decide +kernel
theorem dX1_lastPlace_15 : decode cX1_lastPlace 15 = .ok (.iload_n 3, 1) := by decide +kernel
theorem dX1_lastPlace_16 : decode cX1_lastPlace 16 = .ok (.iaload, 1) := by decide +kernel
theorem dX1_lastPlace_17 : decode cX1_lastPlace 17 = .ok (.iload_n 1, 1) := by decide +kernel
theorem dX1_lastPlace_18 : decode cX1_lastPlace 18 = .ok (.invokestatic 46, 3) := by decide +kernel
theorem dX1_lastPlace_21 : decode cX1_lastPlace 21 = .ok (.iload_n 2, 1) := by decide +kernel
theorem dX1_lastPlace_22 : decode cX1_lastPlace 22 = .ok (.isub, 1) := by decide +kernel
theorem dX1_lastPlace_23 : decode cX1_lastPlace 23 = .ok (.istore 4, 2) := by decide +kernel
theorem dX1_lastPlace_25 : decode cX1_lastPlace 25 = .ok (.iload 4, 2) := by decide +kernel
theorem dX1_lastPlace_27 : decode cX1_lastPlace 27 = .ok (.aload_n 0, 1) := by decide +kernel
theorem dX1_lastPlace_28 : decode cX1_lastPlace 28 = .ok (.getfield 9, 3) := by decide +kernel
theorem dX1_lastPlace_31 : decode cX1_lastPlace 31 = .ok (.iload_n 3, 1) := by decide +kernel
theorem dX1_lastPlace_32 : decode cX1_lastPlace 32 = .ok (.iaload, 1) := by decide +kernel
theorem dX1_lastPlace_33 : decode cX1_lastPlace 33 = .ok (.if_icmp .lt 6, 3) := by decide +kernel
theorem dX1_lastPlace_36 : decode cX1_lastPlace 36 = .ok (.iload 4, 2) := by decide +kernel
theorem dX1_lastPlace_38 : decode cX1_lastPlace 38 = .ok (.ireturn, 1) := by decide +kernel
theorem dX1_lastPlace_39 : decode cX1_lastPlace 39 = .ok (.iinc 3 (-1), 3) := by decide +kernel
theorem dX1_lastPlace_42 : decode cX1_lastPlace 42 = .ok (.goto (-35), 3) := by decide +kernel
theorem dX1_lastPlace_45 : decode cX1_lastPlace 45 = .ok (.ldc 53, 2) := by decide +kernel
theorem dX1_lastPlace_47 : decode cX1_lastPlace 47 = .ok (.ireturn, 1) := by decide +kernel
theorem dX1_nearestPlace_0 : decode cX1_nearestPlace 0 = .ok (.aload_n 0, 1) := by decide +kernel
theorem dX1_nearestPlace_1 : decode cX1_nearestPlace 1 = .ok (.iload_n 1, 1) := by decide +kernel
theorem dX1_nearestPlace_2 : decode cX1_nearestPlace 2 = .ok (.iload_n 2, 1) := by decide +kernel
theorem dX1_nearestPlace_3 : decode cX1_nearestPlace 3 = .ok (.invokevirtual 54, 3) := by decide +kernel
theorem dX1_nearestPlace_6 : decode cX1_nearestPlace 6 = .ok (.istore_n 3, 1) := by decide +kernel
theorem dX1_nearestPlace_7 : decode cX1_nearestPlace 7 = .ok (.aload_n 0, 1) := by decide +kernel
theorem dX1_nearestPlace_8 : decode cX1_nearestPlace 8 = .ok (.iload_n 1, 1) := by decide +kernel
theorem dX1_nearestPlace_9 : decode cX1_nearestPlace 9 = .ok (.iload_n 2, 1) := by decide +kernel
theorem dX1_nearestPlace_10 : decode cX1_nearestPlace 10 = .ok (.iadd, 1) := by decide +kernel
theorem dX1_nearestPlace_11 : decode cX1_nearestPlace 11 = .ok (.iload_n 2, 1) := by decide +kernel
theorem dX1_nearestPlace_12 : decode cX1_nearestPlace 12 = .ok (.invokevirtual 57, 3) := by decide +kernel
theorem dX1_nearestPlace_15 : decode cX1_nearestPlace 15 = .ok (.istore 4, 2) := by decide +kernel
theorem dX1_nearestPlace_17 : decode cX1_nearestPlace 17 = .ok (.iload 4, 2) := by decide +kernel
theorem dX1_nearestPlace_19 : decode cX1_nearestPlace 19 = .ok (.ldc 53, 2) := by decide +kernel
theorem dX1_nearestPlace_21 : decode cX1_nearestPlace 21 = .ok (.if_icmp .ne 5, 3) := by decide +kernel
theorem dX1_nearestPlace_24 : decode cX1_nearestPlace 24 = .ok (.iload_n 3, 1) := by decide +kernel
theorem dX1_nearestPlace_25 : decode cX1_nearestPlace 25 = .ok (.ireturn, 1) := by decide +kernel
theorem dX1_nearestPlace_26 : decode cX1_nearestPlace 26 = .ok (.iload_n 3, 1) := by decide +kernel
theorem dX1_nearestPlace_27 : decode cX1_nearestPlace 27 = .ok (.ldc 53, 2) := by decide +kernel
theorem dX1_nearestPlace_29 : decode cX1_nearestPlace 29 = .ok (.if_icmp .ne 6, 3) := by decide +kernel
theorem dX1_nearestPlace_32 : decode cX1_nearestPlace 32 = .ok (.iload 4, 2) := by decide +kernel
theorem dX1_nearestPlace_34 : decode cX1_nearestPlace 34 = .ok (.ireturn, 1) := by decide +kernel
theorem dX1_nearestPlace_35 : decode cX1_nearestPlace 35 = .ok (.iload_n 1, 1) := by decide +kernel
theorem dX1_nearestPlace_36 : decode cX1_nearestPlace 36 = .ok (.iload 4, 2) := by decide +kernel
theorem dX1_nearestPlace_38 : decode cX1_nearestPlace 38 = .ok (.isub, 1) := by decide +kernel
theorem dX1_nearestPlace_39 : decode cX1_nearestPlace 39 = .ok (.iload_n 3, 1) := by decide +kernel
theorem dX1_nearestPlace_40 : decode cX1_nearestPlace 40 = .ok (.iload_n 1, 1) := by decide +kernel
theorem dX1_nearestPlace_41 : decode cX1_nearestPlace 41 = .ok (.isub, 1) := by decide +kernel
theorem dX1_nearestPlace_42 : decode cX1_nearestPlace 42 = .ok (.if_icmp .gt 8, 3) := by decide +kernel
theorem dX1_nearestPlace_45 : decode cX1_nearestPlace 45 = .ok (.iload 4, 2) := by decide +kernel
theorem dX1_nearestPlace_47 : decode cX1_nearestPlace 47 = .ok (.goto 4, 3) := by decide +kernel
theorem dX1_nearestPlace_50 : decode cX1_nearestPlace 50 = .ok (.iload_n 3, 1) := by decide +kernel
theorem dX1_nearestPlace_51 : decode cX1_nearestPlace 51 = .ok (.ireturn, 1) := by decide +kernel
theorem dX2_init_0 : decode cX2_init 0 = .ok (.aload_n 0, 1) := by decide +kernel
theorem dX2_init_1 : decode cX2_init 1 = .ok (.invokespecial 3, 3) := by decide +kernel
theorem dX2_init_4 : decode cX2_init 4 = .ok (.aload_n 0, 1) := by decide +kernel
theorem dX2_init_5 : decode cX2_init 5 = .ok (.bipush 48, 2) := by decide +kernel
theorem dX2_init_7 : decode cX2_init 7 = .ok (.newarray .int, 2) := by decide +kernel
theorem dX2_init_9 : decode cX2_init 9 = .ok (.putfield 9, 3) := by decide +kernel
theorem dX2_init_12 : decode cX2_init 12 = .ok (.aload_n 0, 1) := by decide +kernel
theorem dX2_init_13 : decode cX2_init 13 = .ok (.bipush 48, 2) := by decide +kernel
theorem dX2_init_15 : decode cX2_init 15 = .ok (.newarray .int, 2) := by decide +kernel
theorem dX2_init_17 : decode cX2_init 17 = .ok (.putfield 15, 3) := by decide +kernel
theorem dX2_init_20 : decode cX2_init 20 = .ok (.aload_n 0, 1) := by decide +kernel
theorem dX2_init_21 : decode cX2_init 21 = .ok (.bipush 48, 2) := by decide +kernel
theorem dX2_init_23 : decode cX2_init 23 = .ok (.newarray .int, 2) := by decide +kernel
theorem dX2_init_25 : decode cX2_init 25 = .ok (.putfield 18, 3) := by decide +kernel
theorem dX2_init_28 : decode cX2_init 28 = .ok (.aload_n 0, 1) := by decide +kernel
theorem dX2_init_29 : decode cX2_init 29 = .ok (.iconst 0, 1) := by decide +kernel
theorem dX2_init_30 : decode cX2_init 30 = .ok (.putfield 21, 3) := by decide +kernel
theorem dX2_init_33 : decode cX2_init 33 = .ok (.aload_n 0, 1) := by decide +kernel
theorem dX2_init_34 : decode cX2_init 34 = .ok (.lconst 0, 1) := by decide +kernel
theorem dX2_init_35 : decode cX2_init 35 = .ok (.putfield 25, 3) := by decide +kernel
theorem dX2_init_38 : decode cX2_init 38 = .ok (.return_, 1) := by decide +kernel
theorem dX2_build_0 : decode cX2_build 0 = .ok (.aload_n 0, 1) := by decide +kernel
theorem dX2_build_1 : decode cX2_build 1 = .ok (.iconst 0, 1) := by decide +kernel
theorem dX2_build_2 : decode cX2_build 2 = .ok (.putfield 21, 3) := by decide +kernel
theorem dX2_build_5 : decode cX2_build 5 = .ok (.ldc 29, 2) := by decide +kernel
theorem dX2_build_7 : decode cX2_build 7 = .ok (.istore_n 2, 1) := by decide +kernel
theorem dX2_build_8 : decode cX2_build 8 = .ok (.iconst 0, 1) := by decide +kernel
theorem dX2_build_9 : decode cX2_build 9 = .ok (.istore_n 3, 1) := by decide +kernel
theorem dX2_build_10 : decode cX2_build 10 = .ok (.iload_n 3, 1) := by decide +kernel
theorem dX2_build_11 : decode cX2_build 11 = .ok (.aload_n 1, 1) := by decide +kernel
theorem dX2_build_12 : decode cX2_build 12 = .ok (.getfield 30, 3) := by decide +kernel
theorem dX2_build_15 : decode cX2_build 15 = .ok (.if_icmp .ge 83, 3) := by decide +kernel
theorem dX2_build_18 : decode cX2_build 18 = .ok (.aload_n 1, 1) := by decide +kernel
theorem dX2_build_19 : decode cX2_build 19 = .ok (.getfield 33, 3) := by decide +kernel
theorem dX2_build_22 : decode cX2_build 22 = .ok (.iload_n 3, 1) := by decide +kernel
theorem dX2_build_23 : decode cX2_build 23 = .ok (.iaload, 1) := by decide +kernel
theorem dX2_build_24 : decode cX2_build 24 = .ok (.istore 4, 2) := by decide +kernel
theorem dX2_build_26 : decode cX2_build 26 = .ok (.aload_n 1, 1) := by decide +kernel
theorem dX2_build_27 : decode cX2_build 27 = .ok (.getfield 36, 3) := by decide +kernel
theorem dX2_build_30 : decode cX2_build 30 = .ok (.iload 4, 2) := by decide +kernel
theorem dX2_build_32 : decode cX2_build 32 = .ok (.iaload, 1) := by decide +kernel
theorem dX2_build_33 : decode cX2_build 33 = .ok (.iload_n 2, 1) := by decide +kernel
theorem dX2_build_34 : decode cX2_build 34 = .ok (.if_icmp .lt 34, 3) := by decide +kernel
theorem dX2_build_37 : decode cX2_build 37 = .ok (.aload_n 0, 1) := by decide +kernel
theorem dX2_build_38 : decode cX2_build 38 = .ok (.getfield 15, 3) := by decide +kernel
theorem dX2_build_41 : decode cX2_build 41 = .ok (.aload_n 0, 1) := by decide +kernel
theorem dX2_build_42 : decode cX2_build 42 = .ok (.getfield 21, 3) := by decide +kernel
theorem dX2_build_45 : decode cX2_build 45 = .ok (.iload 4, 2) := by decide +kernel
theorem dX2_build_47 : decode cX2_build 47 = .ok (.iastore, 1) := by decide +kernel
theorem dX2_build_48 : decode cX2_build 48 = .ok (.aload_n 0, 1) := by decide +kernel
theorem dX2_build_49 : decode cX2_build 49 = .ok (.getfield 18, 3) := by decide +kernel
theorem dX2_build_52 : decode cX2_build 52 = .ok (.aload_n 0, 1) := by decide +kernel
theorem dX2_build_53 : decode cX2_build 53 = .ok (.getfield 21, 3) := by decide +kernel
theorem dX2_build_56 : decode cX2_build 56 = .ok (.iconst 0, 1) := by decide +kernel
theorem dX2_build_57 : decode cX2_build 57 = .ok (.iastore, 1) := by decide +kernel
theorem dX2_build_58 : decode cX2_build 58 = .ok (.aload_n 0, 1) := by decide +kernel
theorem dX2_build_59 : decode cX2_build 59 = .ok (.dup, 1) := by decide +kernel
theorem dX2_build_60 : decode cX2_build 60 = .ok (.getfield 21, 3) := by decide +kernel
theorem dX2_build_63 : decode cX2_build 63 = .ok (.iconst 1, 1) := by decide +kernel
theorem dX2_build_64 : decode cX2_build 64 = .ok (.iadd, 1) := by decide +kernel
theorem dX2_build_65 : decode cX2_build 65 = .ok (.putfield 21, 3) := by decide +kernel
theorem dX2_build_68 : decode cX2_build 68 = .ok (.aload_n 0, 1) := by decide +kernel
theorem dX2_build_69 : decode cX2_build 69 = .ok (.iload 4, 2) := by decide +kernel
theorem dX2_build_71 : decode cX2_build 71 = .ok (.aload_n 0, 1) := by decide +kernel
theorem dX2_build_72 : decode cX2_build 72 = .ok (.getfield 21, 3) := by decide +kernel
theorem dX2_build_75 : decode cX2_build 75 = .ok (.iconst 1, 1) := by decide +kernel
theorem dX2_build_76 : decode cX2_build 76 = .ok (.isub, 1) := by decide +kernel
theorem dX2_build_77 : decode cX2_build 77 = .ok (.invokevirtual 39, 3) := by decide +kernel
theorem dX2_build_80 : decode cX2_build 80 = .ok (.iload_n 2, 1) := by decide +kernel
theorem dX2_build_81 : decode cX2_build 81 = .ok (.aload_n 1, 1) := by decide +kernel
theorem dX2_build_82 : decode cX2_build 82 = .ok (.getfield 43, 3) := by decide +kernel
theorem dX2_build_85 : decode cX2_build 85 = .ok (.iload 4, 2) := by decide +kernel
theorem dX2_build_87 : decode cX2_build 87 = .ok (.iaload, 1) := by decide +kernel
theorem dX2_build_88 : decode cX2_build 88 = .ok (.invokestatic 46, 3) := by decide +kernel
theorem dX2_build_91 : decode cX2_build 91 = .ok (.istore_n 2, 1) := by decide +kernel
theorem dX2_build_92 : decode cX2_build 92 = .ok (.iinc 3 1, 3) := by decide +kernel
theorem dX2_build_95 : decode cX2_build 95 = .ok (.goto (-85), 3) := by decide +kernel
theorem dX2_build_98 : decode cX2_build 98 = .ok (.aload_n 0, 1) := by decide +kernel
theorem dX2_build_99 : decode cX2_build 99 = .ok (.aload_n 1, 1) := by decide +kernel
theorem dX2_build_100 : decode cX2_build 100 = .ok (.invokevirtual 52, 3) := by decide +kernel
theorem dX2_build_103 : decode cX2_build 103 = .ok (.return_, 1) := by decide +kernel
theorem dX2_addMember_0 : decode cX2_addMember 0 = .ok (.aload_n 0, 1) := by decide +kernel
theorem dX2_addMember_1 : decode cX2_addMember 1 = .ok (.getfield 9, 3) := by decide +kernel
theorem dX2_addMember_4 : decode cX2_addMember 4 = .ok (.iload_n 1, 1) := by decide +kernel
theorem dX2_addMember_5 : decode cX2_addMember 5 = .ok (.iload_n 2, 1) := by decide +kernel
theorem dX2_addMember_6 : decode cX2_addMember 6 = .ok (.iastore, 1) := by decide +kernel
theorem dX2_addMember_7 : decode cX2_addMember 7 = .ok (.aload_n 0, 1) := by decide +kernel
theorem dX2_addMember_8 : decode cX2_addMember 8 = .ok (.getfield 15, 3) := by decide +kernel
theorem dX2_addMember_11 : decode cX2_addMember 11 = .ok (.iload_n 2, 1) := by decide +kernel
theorem dX2_addMember_12 : decode cX2_addMember 12 = .ok (.aload_n 0, 1) := by decide +kernel
theorem dX2_addMember_13 : decode cX2_addMember 13 = .ok (.getfield 15, 3) := by decide +kernel
theorem dX2_addMember_16 : decode cX2_addMember 16 = .ok (.iload_n 2, 1) := by decide +kernel
theorem dX2_addMember_17 : decode cX2_addMember 17 = .ok (.iaload, 1) := by decide +kernel
theorem dX2_addMember_18 : decode cX2_addMember 18 = .ok (.iload_n 1, 1) := by decide +kernel
theorem dX2_addMember_19 : decode cX2_addMember 19 = .ok (.invokestatic 56, 3) := by decide +kernel
theorem dX2_addMember_22 : decode cX2_addMember 22 = .ok (.iastore, 1) := by decide +kernel
theorem dX2_addMember_23 : decode cX2_addMember 23 = .ok (.aload_n 0, 1) := by decide +kernel
theorem dX2_addMember_24 : decode cX2_addMember 24 = .ok (.getfield 18, 3) := by decide +kernel
theorem dX2_addMember_27 : decode cX2_addMember 27 = .ok (.iload_n 2, 1) := by decide +kernel
theorem dX2_addMember_28 : decode cX2_addMember 28 = .ok (.dup2, 1) := by decide +kernel
theorem dX2_addMember_29 : decode cX2_addMember 29 = .ok (.iaload, 1) := by decide +kernel
theorem dX2_addMember_30 : decode cX2_addMember 30 = .ok (.iconst 1, 1) := by decide +kernel
theorem dX2_addMember_31 : decode cX2_addMember 31 = .ok (.iadd, 1) := by decide +kernel
theorem dX2_addMember_32 : decode cX2_addMember 32 = .ok (.iastore, 1) := by decide +kernel
theorem dX2_addMember_33 : decode cX2_addMember 33 = .ok (.return_, 1) := by decide +kernel
theorem dX2_seeAlone_0 : decode cX2_seeAlone 0 = .ok (.aload_n 0, 1) := by decide +kernel
theorem dX2_seeAlone_1 : decode cX2_seeAlone 1 = .ok (.lconst 0, 1) := by decide +kernel
theorem dX2_seeAlone_2 : decode cX2_seeAlone 2 = .ok (.putfield 25, 3) := by decide +kernel
theorem dX2_seeAlone_5 : decode cX2_seeAlone 5 = .ok (.iconst 0, 1) := by decide +kernel
theorem dX2_seeAlone_6 : decode cX2_seeAlone 6 = .ok (.istore_n 2, 1) := by decide +kernel
theorem dX2_seeAlone_7 : decode cX2_seeAlone 7 = .ok (.iload_n 2, 1) := by decide +kernel
theorem dX2_seeAlone_8 : decode cX2_seeAlone 8 = .ok (.bipush 48, 2) := by decide +kernel
theorem dX2_seeAlone_10 : decode cX2_seeAlone 10 = .ok (.if_icmp .ge 45, 3) := by decide +kernel
theorem dX2_seeAlone_13 : decode cX2_seeAlone 13 = .ok (.aload_n 1, 1) := by decide +kernel
theorem dX2_seeAlone_14 : decode cX2_seeAlone 14 = .ok (.getfield 59, 3) := by decide +kernel
theorem dX2_seeAlone_17 : decode cX2_seeAlone 17 = .ok (.iload_n 2, 1) := by decide +kernel
theorem dX2_seeAlone_18 : decode cX2_seeAlone 18 = .ok (.baload, 1) := by decide +kernel
theorem dX2_seeAlone_19 : decode cX2_seeAlone 19 = .ok (.ifCond .eq 30, 3) := by decide +kernel
theorem dX2_seeAlone_22 : decode cX2_seeAlone 22 = .ok (.aload_n 0, 1) := by decide +kernel
theorem dX2_seeAlone_23 : decode cX2_seeAlone 23 = .ok (.getfield 18, 3) := by decide +kernel
theorem dX2_seeAlone_26 : decode cX2_seeAlone 26 = .ok (.aload_n 0, 1) := by decide +kernel
theorem dX2_seeAlone_27 : decode cX2_seeAlone 27 = .ok (.getfield 9, 3) := by decide +kernel
theorem dX2_seeAlone_30 : decode cX2_seeAlone 30 = .ok (.iload_n 2, 1) := by decide +kernel
theorem dX2_seeAlone_31 : decode cX2_seeAlone 31 = .ok (.iaload, 1) := by decide +kernel
theorem dX2_seeAlone_32 : decode cX2_seeAlone 32 = .ok (.iaload, 1) := by decide +kernel
theorem dX2_seeAlone_33 : decode cX2_seeAlone 33 = .ok (.iconst 1, 1) := by decide +kernel
theorem dX2_seeAlone_34 : decode cX2_seeAlone 34 = .ok (.if_icmp .ne 15, 3) := by decide +kernel
theorem dX2_seeAlone_37 : decode cX2_seeAlone 37 = .ok (.aload_n 0, 1) := by decide +kernel
theorem dX2_seeAlone_38 : decode cX2_seeAlone 38 = .ok (.dup, 1) := by decide +kernel
theorem dX2_seeAlone_39 : decode cX2_seeAlone 39 = .ok (.getfield 25, 3) := by decide +kernel
theorem dX2_seeAlone_42 : decode cX2_seeAlone 42 = .ok (.lconst 1, 1) := by decide +kernel
theorem dX2_seeAlone_43 : decode cX2_seeAlone 43 = .ok (.iload_n 2, 1) := by decide +kernel
theorem dX2_seeAlone_44 : decode cX2_seeAlone 44 = .ok (.lshl, 1) := by decide +kernel
theorem dX2_seeAlone_45 : decode cX2_seeAlone 45 = .ok (.lor, 1) := by decide +kernel
theorem dX2_seeAlone_46 : decode cX2_seeAlone 46 = .ok (.putfield 25, 3) := by decide +kernel
theorem dX2_seeAlone_49 : decode cX2_seeAlone 49 = .ok (.iinc 2 1, 3) := by decide +kernel
theorem dX2_seeAlone_52 : decode cX2_seeAlone 52 = .ok (.goto (-45), 3) := by decide +kernel
theorem dX2_seeAlone_55 : decode cX2_seeAlone 55 = .ok (.return_, 1) := by decide +kernel
theorem dX3_init_0 : decode cX3_init 0 = .ok (.aload_n 0, 1) := by decide +kernel
theorem dX3_init_1 : decode cX3_init 1 = .ok (.invokespecial 3, 3) := by decide +kernel
theorem dX3_init_4 : decode cX3_init 4 = .ok (.aload_n 0, 1) := by decide +kernel
theorem dX3_init_5 : decode cX3_init 5 = .ok (.bipush 48, 2) := by decide +kernel
theorem dX3_init_7 : decode cX3_init 7 = .ok (.newarray .int, 2) := by decide +kernel
theorem dX3_init_9 : decode cX3_init 9 = .ok (.putfield 9, 3) := by decide +kernel
theorem dX3_init_12 : decode cX3_init 12 = .ok (.aload_n 0, 1) := by decide +kernel
theorem dX3_init_13 : decode cX3_init 13 = .ok (.bipush 48, 2) := by decide +kernel
theorem dX3_init_15 : decode cX3_init 15 = .ok (.newarray .int, 2) := by decide +kernel
theorem dX3_init_17 : decode cX3_init 17 = .ok (.putfield 15, 3) := by decide +kernel
theorem dX3_init_20 : decode cX3_init 20 = .ok (.aload_n 0, 1) := by decide +kernel
theorem dX3_init_21 : decode cX3_init 21 = .ok (.iconst 0, 1) := by decide +kernel
theorem dX3_init_22 : decode cX3_init 22 = .ok (.putfield 18, 3) := by decide +kernel
theorem dX3_init_25 : decode cX3_init 25 = .ok (.return_, 1) := by decide +kernel
theorem dX3_build_0 : decode cX3_build 0 = .ok (.aload_n 0, 1) := by decide +kernel
theorem dX3_build_1 : decode cX3_build 1 = .ok (.aload_n 1, 1) := by decide +kernel
theorem dX3_build_2 : decode cX3_build 2 = .ok (.invokevirtual 22, 3) := by decide +kernel
theorem dX3_build_5 : decode cX3_build 5 = .ok (.aload_n 0, 1) := by decide +kernel
theorem dX3_build_6 : decode cX3_build 6 = .ok (.iconst 0, 1) := by decide +kernel
theorem dX3_build_7 : decode cX3_build 7 = .ok (.putfield 18, 3) := by decide +kernel
theorem dX3_build_10 : decode cX3_build 10 = .ok (.ldc 26, 2) := by decide +kernel
theorem dX3_build_12 : decode cX3_build 12 = .ok (.istore_n 2, 1) := by decide +kernel
theorem dX3_build_13 : decode cX3_build 13 = .ok (.iconst 0, 1) := by decide +kernel
theorem dX3_build_14 : decode cX3_build 14 = .ok (.istore_n 3, 1) := by decide +kernel
theorem dX3_build_15 : decode cX3_build 15 = .ok (.iload_n 3, 1) := by decide +kernel
theorem dX3_build_16 : decode cX3_build 16 = .ok (.aload_n 1, 1) := by decide +kernel
theorem dX3_build_17 : decode cX3_build 17 = .ok (.getfield 27, 3) := by decide +kernel
theorem dX3_build_20 : decode cX3_build 20 = .ok (.if_icmp .ge 57, 3) := by decide +kernel
theorem dX3_build_23 : decode cX3_build 23 = .ok (.aload_n 0, 1) := by decide +kernel
theorem dX3_build_24 : decode cX3_build 24 = .ok (.getfield 9, 3) := by decide +kernel
theorem dX3_build_27 : decode cX3_build 27 = .ok (.iload_n 3, 1) := by decide +kernel
theorem dX3_build_28 : decode cX3_build 28 = .ok (.iaload, 1) := by decide +kernel
theorem dX3_build_29 : decode cX3_build 29 = .ok (.istore 4, 2) := by decide +kernel
theorem dX3_build_31 : decode cX3_build 31 = .ok (.aload_n 1, 1) := by decide +kernel
theorem dX3_build_32 : decode cX3_build 32 = .ok (.getfield 30, 3) := by decide +kernel
theorem dX3_build_35 : decode cX3_build 35 = .ok (.iload 4, 2) := by decide +kernel
theorem dX3_build_37 : decode cX3_build 37 = .ok (.iaload, 1) := by decide +kernel
theorem dX3_build_38 : decode cX3_build 38 = .ok (.iload_n 2, 1) := by decide +kernel
theorem dX3_build_39 : decode cX3_build 39 = .ok (.if_icmp .lt 32, 3) := by decide +kernel
theorem dX3_build_42 : decode cX3_build 42 = .ok (.aload_n 0, 1) := by decide +kernel
theorem dX3_build_43 : decode cX3_build 43 = .ok (.getfield 15, 3) := by decide +kernel
theorem dX3_build_46 : decode cX3_build 46 = .ok (.aload_n 0, 1) := by decide +kernel
theorem dX3_build_47 : decode cX3_build 47 = .ok (.getfield 18, 3) := by decide +kernel
theorem dX3_build_50 : decode cX3_build 50 = .ok (.iload 4, 2) := by decide +kernel
theorem dX3_build_52 : decode cX3_build 52 = .ok (.iastore, 1) := by decide +kernel
theorem dX3_build_53 : decode cX3_build 53 = .ok (.aload_n 0, 1) := by decide +kernel
theorem dX3_build_54 : decode cX3_build 54 = .ok (.dup, 1) := by decide +kernel
theorem dX3_build_55 : decode cX3_build 55 = .ok (.getfield 18, 3) := by decide +kernel
theorem dX3_build_58 : decode cX3_build 58 = .ok (.iconst 1, 1) := by decide +kernel
theorem dX3_build_59 : decode cX3_build 59 = .ok (.iadd, 1) := by decide +kernel
theorem dX3_build_60 : decode cX3_build 60 = .ok (.putfield 18, 3) := by decide +kernel
theorem dX3_build_63 : decode cX3_build 63 = .ok (.aload_n 1, 1) := by decide +kernel
theorem dX3_build_64 : decode cX3_build 64 = .ok (.getfield 33, 3) := by decide +kernel
theorem dX3_build_67 : decode cX3_build 67 = .ok (.iload 4, 2) := by decide +kernel
theorem dX3_build_69 : decode cX3_build 69 = .ok (.iaload, 1) := by decide +kernel
theorem dX3_build_70 : decode cX3_build 70 = .ok (.istore_n 2, 1) := by decide +kernel
theorem dX3_build_71 : decode cX3_build 71 = .ok (.iinc 3 1, 3) := by decide +kernel
theorem dX3_build_74 : decode cX3_build 74 = .ok (.goto (-59), 3) := by decide +kernel
theorem dX3_build_77 : decode cX3_build 77 = .ok (.return_, 1) := by decide +kernel
theorem dX3_sortByTo_0 : decode cX3_sortByTo 0 = .ok (.iconst 0, 1) := by decide +kernel
theorem dX3_sortByTo_1 : decode cX3_sortByTo 1 = .ok (.istore_n 2, 1) := by decide +kernel
theorem dX3_sortByTo_2 : decode cX3_sortByTo 2 = .ok (.iload_n 2, 1) := by decide +kernel
theorem dX3_sortByTo_3 : decode cX3_sortByTo 3 = .ok (.aload_n 1, 1) := by decide +kernel
theorem dX3_sortByTo_4 : decode cX3_sortByTo 4 = .ok (.getfield 27, 3) := by decide +kernel
theorem dX3_sortByTo_7 : decode cX3_sortByTo 7 = .ok (.if_icmp .ge 77, 3) := by decide +kernel
theorem dX3_sortByTo_10 : decode cX3_sortByTo 10 = .ok (.aload_n 1, 1) := by decide +kernel
theorem dX3_sortByTo_11 : decode cX3_sortByTo 11 = .ok (.getfield 36, 3) := by decide +kernel
theorem dX3_sortByTo_14 : decode cX3_sortByTo 14 = .ok (.iload_n 2, 1) := by decide +kernel
theorem dX3_sortByTo_15 : decode cX3_sortByTo 15 = .ok (.iaload, 1) := by decide +kernel
theorem dX3_sortByTo_16 : decode cX3_sortByTo 16 = .ok (.istore_n 3, 1) := by decide +kernel
theorem dX3_sortByTo_17 : decode cX3_sortByTo 17 = .ok (.iload_n 2, 1) := by decide +kernel
theorem dX3_sortByTo_18 : decode cX3_sortByTo 18 = .ok (.istore 4, 2) := by decide +kernel
theorem dX3_sortByTo_20 : decode cX3_sortByTo 20 = .ok (.iload 4, 2) := by decide +kernel
theorem dX3_sortByTo_22 : decode cX3_sortByTo 22 = .ok (.ifCond .le 48, 3) := by decide +kernel
theorem dX3_sortByTo_25 : decode cX3_sortByTo 25 = .ok (.aload_n 1, 1) := by decide +kernel
theorem dX3_sortByTo_26 : decode cX3_sortByTo 26 = .ok (.getfield 33, 3) := by decide +kernel
theorem dX3_sortByTo_29 : decode cX3_sortByTo 29 = .ok (.aload_n 0, 1) := by decide +kernel
theorem dX3_sortByTo_30 : decode cX3_sortByTo 30 = .ok (.getfield 9, 3) := by decide +kernel
theorem dX3_sortByTo_33 : decode cX3_sortByTo 33 = .ok (.iload 4, 2) := by decide +kernel
theorem dX3_sortByTo_35 : decode cX3_sortByTo 35 = .ok (.iconst 1, 1) := by decide +kernel
theorem dX3_sortByTo_36 : decode cX3_sortByTo 36 = .ok (.isub, 1) := by decide +kernel
theorem dX3_sortByTo_37 : decode cX3_sortByTo 37 = .ok (.iaload, 1) := by decide +kernel
theorem dX3_sortByTo_38 : decode cX3_sortByTo 38 = .ok (.iaload, 1) := by decide +kernel
theorem dX3_sortByTo_39 : decode cX3_sortByTo 39 = .ok (.aload_n 1, 1) := by decide +kernel
theorem dX3_sortByTo_40 : decode cX3_sortByTo 40 = .ok (.getfield 33, 3) := by decide +kernel
theorem dX3_sortByTo_43 : decode cX3_sortByTo 43 = .ok (.iload_n 3, 1) := by decide +kernel
theorem dX3_sortByTo_44 : decode cX3_sortByTo 44 = .ok (.iaload, 1) := by decide +kernel
theorem dX3_sortByTo_45 : decode cX3_sortByTo 45 = .ok (.if_icmp .le 25, 3) := by decide +kernel
theorem dX3_sortByTo_48 : decode cX3_sortByTo 48 = .ok (.aload_n 0, 1) := by decide +kernel
theorem dX3_sortByTo_49 : decode cX3_sortByTo 49 = .ok (.getfield 9, 3) := by decide +kernel
theorem dX3_sortByTo_52 : decode cX3_sortByTo 52 = .ok (.iload 4, 2) := by decide +kernel
theorem dX3_sortByTo_54 : decode cX3_sortByTo 54 = .ok (.aload_n 0, 1) := by decide +kernel
theorem dX3_sortByTo_55 : decode cX3_sortByTo 55 = .ok (.getfield 9, 3) := by decide +kernel
theorem dX3_sortByTo_58 : decode cX3_sortByTo 58 = .ok (.iload 4, 2) := by decide +kernel
theorem dX3_sortByTo_60 : decode cX3_sortByTo 60 = .ok (.iconst 1, 1) := by decide +kernel
theorem dX3_sortByTo_61 : decode cX3_sortByTo 61 = .ok (.isub, 1) := by decide +kernel
theorem dX3_sortByTo_62 : decode cX3_sortByTo 62 = .ok (.iaload, 1) := by decide +kernel
theorem dX3_sortByTo_63 : decode cX3_sortByTo 63 = .ok (.iastore, 1) := by decide +kernel
theorem dX3_sortByTo_64 : decode cX3_sortByTo 64 = .ok (.iinc 4 (-1), 3) := by decide +kernel
theorem dX3_sortByTo_67 : decode cX3_sortByTo 67 = .ok (.goto (-47), 3) := by decide +kernel
theorem dX3_sortByTo_70 : decode cX3_sortByTo 70 = .ok (.aload_n 0, 1) := by decide +kernel
theorem dX3_sortByTo_71 : decode cX3_sortByTo 71 = .ok (.getfield 9, 3) := by decide +kernel
theorem dX3_sortByTo_74 : decode cX3_sortByTo 74 = .ok (.iload 4, 2) := by decide +kernel
theorem dX3_sortByTo_76 : decode cX3_sortByTo 76 = .ok (.iload_n 3, 1) := by decide +kernel
theorem dX3_sortByTo_77 : decode cX3_sortByTo 77 = .ok (.iastore, 1) := by decide +kernel
theorem dX3_sortByTo_78 : decode cX3_sortByTo 78 = .ok (.iinc 2 1, 3) := by decide +kernel
theorem dX3_sortByTo_81 : decode cX3_sortByTo 81 = .ok (.goto (-79), 3) := by decide +kernel
theorem dX3_sortByTo_84 : decode cX3_sortByTo 84 = .ok (.return_, 1) := by decide +kernel
theorem dX4_init_0 : decode cX4_init 0 = .ok (.aload_n 0, 1) := by decide +kernel
theorem dX4_init_1 : decode cX4_init 1 = .ok (.invokespecial 3, 3) := by decide +kernel
theorem dX4_init_4 : decode cX4_init 4 = .ok (.aload_n 0, 1) := by decide +kernel
theorem dX4_init_5 : decode cX4_init 5 = .ok (.bipush 48, 2) := by decide +kernel
theorem dX4_init_7 : decode cX4_init 7 = .ok (.newarray .int, 2) := by decide +kernel
theorem dX4_init_9 : decode cX4_init 9 = .ok (.putfield 9, 3) := by decide +kernel
theorem dX4_init_12 : decode cX4_init 12 = .ok (.aload_n 0, 1) := by decide +kernel
theorem dX4_init_13 : decode cX4_init 13 = .ok (.iconst 0, 1) := by decide +kernel
theorem dX4_init_14 : decode cX4_init 14 = .ok (.putfield 15, 3) := by decide +kernel
theorem dX4_init_17 : decode cX4_init 17 = .ok (.return_, 1) := by decide +kernel
theorem dX4_build_0 : decode cX4_build 0 = .ok (.aload_n 0, 1) := by decide +kernel
theorem dX4_build_1 : decode cX4_build 1 = .ok (.iconst 0, 1) := by decide +kernel
theorem dX4_build_2 : decode cX4_build 2 = .ok (.putfield 15, 3) := by decide +kernel
theorem dX4_build_5 : decode cX4_build 5 = .ok (.iconst 0, 1) := by decide +kernel
theorem dX4_build_6 : decode cX4_build 6 = .ok (.istore_n 2, 1) := by decide +kernel
theorem dX4_build_7 : decode cX4_build 7 = .ok (.iload_n 2, 1) := by decide +kernel
theorem dX4_build_8 : decode cX4_build 8 = .ok (.aload_n 1, 1) := by decide +kernel
theorem dX4_build_9 : decode cX4_build 9 = .ok (.getfield 19, 3) := by decide +kernel
theorem dX4_build_12 : decode cX4_build 12 = .ok (.if_icmp .ge 82, 3) := by decide +kernel
theorem dX4_build_15 : decode cX4_build 15 = .ok (.aload_n 0, 1) := by decide +kernel
theorem dX4_build_16 : decode cX4_build 16 = .ok (.getfield 9, 3) := by decide +kernel
theorem dX4_build_19 : decode cX4_build 19 = .ok (.iload_n 2, 1) := by decide +kernel
theorem dX4_build_20 : decode cX4_build 20 = .ok (.aload_n 0, 1) := by decide +kernel
theorem dX4_build_21 : decode cX4_build 21 = .ok (.getfield 15, 3) := by decide +kernel
theorem dX4_build_24 : decode cX4_build 24 = .ok (.iastore, 1) := by decide +kernel
theorem dX4_build_25 : decode cX4_build 25 = .ok (.aload_n 1, 1) := by decide +kernel
theorem dX4_build_26 : decode cX4_build 26 = .ok (.getfield 22, 3) := by decide +kernel
theorem dX4_build_29 : decode cX4_build 29 = .ok (.aload_n 1, 1) := by decide +kernel
theorem dX4_build_30 : decode cX4_build 30 = .ok (.getfield 25, 3) := by decide +kernel
theorem dX4_build_33 : decode cX4_build 33 = .ok (.iload_n 2, 1) := by decide +kernel
theorem dX4_build_34 : decode cX4_build 34 = .ok (.iaload, 1) := by decide +kernel
theorem dX4_build_35 : decode cX4_build 35 = .ok (.iaload, 1) := by decide +kernel
theorem dX4_build_36 : decode cX4_build 36 = .ok (.istore_n 3, 1) := by decide +kernel
theorem dX4_build_37 : decode cX4_build 37 = .ok (.iload_n 2, 1) := by decide +kernel
theorem dX4_build_38 : decode cX4_build 38 = .ok (.iconst 1, 1) := by decide +kernel
theorem dX4_build_39 : decode cX4_build 39 = .ok (.iadd, 1) := by decide +kernel
theorem dX4_build_40 : decode cX4_build 40 = .ok (.istore 4, 2) := by decide +kernel
theorem dX4_build_42 : decode cX4_build 42 = .ok (.iload 4, 2) := by decide +kernel
theorem dX4_build_44 : decode cX4_build 44 = .ok (.aload_n 1, 1) := by decide +kernel
theorem dX4_build_45 : decode cX4_build 45 = .ok (.getfield 19, 3) := by decide +kernel
theorem dX4_build_48 : decode cX4_build 48 = .ok (.if_icmp .ge 25, 3) := by decide +kernel
theorem dX4_build_51 : decode cX4_build 51 = .ok (.aload_n 1, 1) := by decide +kernel
theorem dX4_build_52 : decode cX4_build 52 = .ok (.getfield 28, 3) := by decide +kernel
theorem dX4_build_55 : decode cX4_build 55 = .ok (.aload_n 1, 1) := by decide +kernel
theorem dX4_build_56 : decode cX4_build 56 = .ok (.getfield 25, 3) := by decide +kernel
theorem dX4_build_59 : decode cX4_build 59 = .ok (.iload 4, 2) := by decide +kernel
theorem dX4_build_61 : decode cX4_build 61 = .ok (.iaload, 1) := by decide +kernel
theorem dX4_build_62 : decode cX4_build 62 = .ok (.iaload, 1) := by decide +kernel
theorem dX4_build_63 : decode cX4_build 63 = .ok (.iload_n 3, 1) := by decide +kernel
theorem dX4_build_64 : decode cX4_build 64 = .ok (.if_icmp .ge 9, 3) := by decide +kernel
theorem dX4_build_67 : decode cX4_build 67 = .ok (.iinc 4 1, 3) := by decide +kernel
theorem dX4_build_70 : decode cX4_build 70 = .ok (.goto (-28), 3) := by decide +kernel
theorem dX4_build_73 : decode cX4_build 73 = .ok (.aload_n 0, 1) := by decide +kernel
theorem dX4_build_74 : decode cX4_build 74 = .ok (.dup, 1) := by decide +kernel
theorem dX4_build_75 : decode cX4_build 75 = .ok (.getfield 15, 3) := by decide +kernel
theorem dX4_build_78 : decode cX4_build 78 = .ok (.iload 4, 2) := by decide +kernel
theorem dX4_build_80 : decode cX4_build 80 = .ok (.iload_n 2, 1) := by decide +kernel
theorem dX4_build_81 : decode cX4_build 81 = .ok (.isub, 1) := by decide +kernel
theorem dX4_build_82 : decode cX4_build 82 = .ok (.iconst 1, 1) := by decide +kernel
theorem dX4_build_83 : decode cX4_build 83 = .ok (.isub, 1) := by decide +kernel
theorem dX4_build_84 : decode cX4_build 84 = .ok (.iadd, 1) := by decide +kernel
theorem dX4_build_85 : decode cX4_build 85 = .ok (.putfield 15, 3) := by decide +kernel
theorem dX4_build_88 : decode cX4_build 88 = .ok (.iinc 2 1, 3) := by decide +kernel
theorem dX4_build_91 : decode cX4_build 91 = .ok (.goto (-84), 3) := by decide +kernel
theorem dX4_build_94 : decode cX4_build 94 = .ok (.return_, 1) := by decide +kernel
theorem dX4_rankAhead_0 : decode cX4_rankAhead 0 = .ok (.iload_n 1, 1) := by decide +kernel
theorem dX4_rankAhead_1 : decode cX4_rankAhead 1 = .ok (.aload_n 0, 1) := by decide +kernel
theorem dX4_rankAhead_2 : decode cX4_rankAhead 2 = .ok (.getfield 15, 3) := by decide +kernel
theorem dX4_rankAhead_5 : decode cX4_rankAhead 5 = .ok (.if_icmp .lt 5, 3) := by decide +kernel
theorem dX4_rankAhead_8 : decode cX4_rankAhead 8 = .ok (.iconst (-1), 1) := by decide +kernel
theorem dX4_rankAhead_9 : decode cX4_rankAhead 9 = .ok (.ireturn, 1) := by decide +kernel
theorem dX4_rankAhead_10 : decode cX4_rankAhead 10 = .ok (.iload_n 2, 1) := by decide +kernel
theorem dX4_rankAhead_11 : decode cX4_rankAhead 11 = .ok (.iconst 1, 1) := by decide +kernel
theorem dX4_rankAhead_12 : decode cX4_rankAhead 12 = .ok (.isub, 1) := by decide +kernel
theorem dX4_rankAhead_13 : decode cX4_rankAhead 13 = .ok (.istore_n 3, 1) := by decide +kernel
theorem dX4_rankAhead_14 : decode cX4_rankAhead 14 = .ok (.iload_n 3, 1) := by decide +kernel
theorem dX4_rankAhead_15 : decode cX4_rankAhead 15 = .ok (.ifCond .lt 21, 3) := by decide +kernel
theorem dX4_rankAhead_18 : decode cX4_rankAhead 18 = .ok (.aload_n 0, 1) := by decide +kernel
theorem dX4_rankAhead_19 : decode cX4_rankAhead 19 = .ok (.getfield 9, 3) := by decide +kernel
theorem dX4_rankAhead_22 : decode cX4_rankAhead 22 = .ok (.iload_n 3, 1) := by decide +kernel
theorem dX4_rankAhead_23 : decode cX4_rankAhead 23 = .ok (.iaload, 1) := by decide +kernel
theorem dX4_rankAhead_24 : decode cX4_rankAhead 24 = .ok (.iload_n 1, 1) := by decide +kernel
theorem dX4_rankAhead_25 : decode cX4_rankAhead 25 = .ok (.if_icmp .gt 5, 3) := by decide +kernel
theorem dX4_rankAhead_28 : decode cX4_rankAhead 28 = .ok (.iload_n 3, 1) := by decide +kernel
theorem dX4_rankAhead_29 : decode cX4_rankAhead 29 = .ok (.ireturn, 1) := by decide +kernel
theorem dX4_rankAhead_30 : decode cX4_rankAhead 30 = .ok (.iinc 3 (-1), 3) := by decide +kernel
theorem dX4_rankAhead_33 : decode cX4_rankAhead 33 = .ok (.goto (-19), 3) := by decide +kernel
theorem dX4_rankAhead_36 : decode cX4_rankAhead 36 = .ok (.iconst (-1), 1) := by decide +kernel
theorem dX4_rankAhead_37 : decode cX4_rankAhead 37 = .ok (.ireturn, 1) := by decide +kernel
theorem dX5_init_0 : decode cX5_init 0 = .ok (.aload_n 0, 1) := by decide +kernel
theorem dX5_init_1 : decode cX5_init 1 = .ok (.invokespecial 3, 3) := by decide +kernel
theorem dX5_init_4 : decode cX5_init 4 = .ok (.aload_n 0, 1) := by decide +kernel
theorem dX5_init_5 : decode cX5_init 5 = .ok (.bipush 48, 2) := by decide +kernel
theorem dX5_init_7 : decode cX5_init 7 = .ok (.newarray .int, 2) := by decide +kernel
theorem dX5_init_9 : decode cX5_init 9 = .ok (.putfield 9, 3) := by decide +kernel
theorem dX5_init_12 : decode cX5_init 12 = .ok (.aload_n 0, 1) := by decide +kernel
theorem dX5_init_13 : decode cX5_init 13 = .ok (.bipush 48, 2) := by decide +kernel
theorem dX5_init_15 : decode cX5_init 15 = .ok (.newarray .int, 2) := by decide +kernel
theorem dX5_init_17 : decode cX5_init 17 = .ok (.putfield 15, 3) := by decide +kernel
theorem dX5_init_20 : decode cX5_init 20 = .ok (.aload_n 0, 1) := by decide +kernel
theorem dX5_init_21 : decode cX5_init 21 = .ok (.iconst 0, 1) := by decide +kernel
theorem dX5_init_22 : decode cX5_init 22 = .ok (.putfield 18, 3) := by decide +kernel
theorem dX5_init_25 : decode cX5_init 25 = .ok (.aload_n 0, 1) := by decide +kernel
theorem dX5_init_26 : decode cX5_init 26 = .ok (.iconst 0, 1) := by decide +kernel
theorem dX5_init_27 : decode cX5_init 27 = .ok (.putfield 22, 3) := by decide +kernel
theorem dX5_init_30 : decode cX5_init 30 = .ok (.aload_n 0, 1) := by decide +kernel
theorem dX5_init_31 : decode cX5_init 31 = .ok (.ldc 25, 2) := by decide +kernel
theorem dX5_init_33 : decode cX5_init 33 = .ok (.putfield 26, 3) := by decide +kernel
theorem dX5_init_36 : decode cX5_init 36 = .ok (.return_, 1) := by decide +kernel
theorem dX5_build_0 : decode cX5_build 0 = .ok (.aload_n 0, 1) := by decide +kernel
theorem dX5_build_1 : decode cX5_build 1 = .ok (.iconst 0, 1) := by decide +kernel
theorem dX5_build_2 : decode cX5_build 2 = .ok (.putfield 18, 3) := by decide +kernel
theorem dX5_build_5 : decode cX5_build 5 = .ok (.aload_n 0, 1) := by decide +kernel
theorem dX5_build_6 : decode cX5_build 6 = .ok (.iconst 0, 1) := by decide +kernel
theorem dX5_build_7 : decode cX5_build 7 = .ok (.putfield 22, 3) := by decide +kernel
theorem dX5_build_10 : decode cX5_build 10 = .ok (.aload_n 0, 1) := by decide +kernel
theorem dX5_build_11 : decode cX5_build 11 = .ok (.ldc 25, 2) := by decide +kernel
theorem dX5_build_13 : decode cX5_build 13 = .ok (.putfield 26, 3) := by decide +kernel
theorem dX5_build_16 : decode cX5_build 16 = .ok (.iconst 0, 1) := by decide +kernel
theorem dX5_build_17 : decode cX5_build 17 = .ok (.istore_n 2, 1) := by decide +kernel
theorem dX5_build_18 : decode cX5_build 18 = .ok (.iload_n 2, 1) := by decide +kernel
theorem dX5_build_19 : decode cX5_build 19 = .ok (.aload_n 1, 1) := by decide +kernel
theorem dX5_build_20 : decode cX5_build 20 = .ok (.getfield 29, 3) := by decide +kernel
theorem dX5_build_23 : decode cX5_build 23 = .ok (.if_icmp .ge 43, 3) := by decide +kernel
theorem dX5_build_26 : decode cX5_build 26 = .ok (.aload_n 1, 1) := by decide +kernel
theorem dX5_build_27 : decode cX5_build 27 = .ok (.getfield 32, 3) := by decide +kernel
theorem dX5_build_30 : decode cX5_build 30 = .ok (.iload_n 2, 1) := by decide +kernel
theorem dX5_build_31 : decode cX5_build 31 = .ok (.iaload, 1) := by decide +kernel
theorem dX5_build_32 : decode cX5_build 32 = .ok (.istore_n 3, 1) := by decide +kernel
theorem dX5_build_33 : decode cX5_build 33 = .ok (.aload_n 0, 1) := by decide +kernel
theorem dX5_build_34 : decode cX5_build 34 = .ok (.iload_n 3, 1) := by decide +kernel
theorem dX5_build_35 : decode cX5_build 35 = .ok (.aload_n 1, 1) := by decide +kernel
theorem dX5_build_36 : decode cX5_build 36 = .ok (.getfield 35, 3) := by decide +kernel
theorem dX5_build_39 : decode cX5_build 39 = .ok (.iload_n 3, 1) := by decide +kernel
theorem dX5_build_40 : decode cX5_build 40 = .ok (.iaload, 1) := by decide +kernel
theorem dX5_build_41 : decode cX5_build 41 = .ok (.aload_n 1, 1) := by decide +kernel
theorem dX5_build_42 : decode cX5_build 42 = .ok (.getfield 38, 3) := by decide +kernel
theorem dX5_build_45 : decode cX5_build 45 = .ok (.iload_n 3, 1) := by decide +kernel
theorem dX5_build_46 : decode cX5_build 46 = .ok (.iaload, 1) := by decide +kernel
theorem dX5_build_47 : decode cX5_build 47 = .ok (.invokevirtual 41, 3) := by decide +kernel
theorem dX5_build_50 : decode cX5_build 50 = .ok (.aload_n 0, 1) := by decide +kernel
theorem dX5_build_51 : decode cX5_build 51 = .ok (.aload_n 1, 1) := by decide +kernel
theorem dX5_build_52 : decode cX5_build 52 = .ok (.getfield 35, 3) := by decide +kernel
theorem dX5_build_55 : decode cX5_build 55 = .ok (.iload_n 3, 1) := by decide +kernel
theorem dX5_build_56 : decode cX5_build 56 = .ok (.iaload, 1) := by decide +kernel
theorem dX5_build_57 : decode cX5_build 57 = .ok (.invokevirtual 45, 3) := by decide +kernel
theorem dX5_build_60 : decode cX5_build 60 = .ok (.iinc 2 1, 3) := by decide +kernel
theorem dX5_build_63 : decode cX5_build 63 = .ok (.goto (-45), 3) := by decide +kernel
theorem dX5_build_66 : decode cX5_build 66 = .ok (.return_, 1) := by decide +kernel
theorem dX5_giveRoom_0 : decode cX5_giveRoom 0 = .ok (.iconst 0, 1) := by decide +kernel
theorem dX5_giveRoom_1 : decode cX5_giveRoom 1 = .ok (.istore 4, 2) := by decide +kernel
theorem dX5_giveRoom_3 : decode cX5_giveRoom 3 = .ok (.iload 4, 2) := by decide +kernel
theorem dX5_giveRoom_5 : decode cX5_giveRoom 5 = .ok (.aload_n 0, 1) := by decide +kernel
theorem dX5_giveRoom_6 : decode cX5_giveRoom 6 = .ok (.getfield 18, 3) := by decide +kernel
theorem dX5_giveRoom_9 : decode cX5_giveRoom 9 = .ok (.if_icmp .ge 20, 3) := by decide +kernel
theorem dX5_giveRoom_12 : decode cX5_giveRoom 12 = .ok (.aload_n 0, 1) := by decide +kernel
theorem dX5_giveRoom_13 : decode cX5_giveRoom 13 = .ok (.getfield 15, 3) := by decide +kernel
theorem dX5_giveRoom_16 : decode cX5_giveRoom 16 = .ok (.iload 4, 2) := by decide +kernel
theorem dX5_giveRoom_18 : decode cX5_giveRoom 18 = .ok (.iaload, 1) := by decide +kernel
theorem dX5_giveRoom_19 : decode cX5_giveRoom 19 = .ok (.iload_n 2, 1) := by decide +kernel
theorem dX5_giveRoom_20 : decode cX5_giveRoom 20 = .ok (.if_icmp .le 9, 3) := by decide +kernel
theorem dX5_giveRoom_23 : decode cX5_giveRoom 23 = .ok (.iinc 4 1, 3) := by decide +kernel
theorem dX5_giveRoom_26 : decode cX5_giveRoom 26 = .ok (.goto (-23), 3) := by decide +kernel
theorem dX5_giveRoom_29 : decode cX5_giveRoom 29 = .ok (.aload_n 0, 1) := by decide +kernel
theorem dX5_giveRoom_30 : decode cX5_giveRoom 30 = .ok (.getfield 9, 3) := by decide +kernel
theorem dX5_giveRoom_33 : decode cX5_giveRoom 33 = .ok (.iload_n 1, 1) := by decide +kernel
theorem dX5_giveRoom_34 : decode cX5_giveRoom 34 = .ok (.iload 4, 2) := by decide +kernel
theorem dX5_giveRoom_36 : decode cX5_giveRoom 36 = .ok (.iastore, 1) := by decide +kernel
theorem dX5_giveRoom_37 : decode cX5_giveRoom 37 = .ok (.aload_n 0, 1) := by decide +kernel
theorem dX5_giveRoom_38 : decode cX5_giveRoom 38 = .ok (.getfield 15, 3) := by decide +kernel
theorem dX5_giveRoom_41 : decode cX5_giveRoom 41 = .ok (.iload 4, 2) := by decide +kernel
theorem dX5_giveRoom_43 : decode cX5_giveRoom 43 = .ok (.iload_n 3, 1) := by decide +kernel
theorem dX5_giveRoom_44 : decode cX5_giveRoom 44 = .ok (.iastore, 1) := by decide +kernel
theorem dX5_giveRoom_45 : decode cX5_giveRoom 45 = .ok (.aload_n 0, 1) := by decide +kernel
theorem dX5_giveRoom_46 : decode cX5_giveRoom 46 = .ok (.aload_n 0, 1) := by decide +kernel
theorem dX5_giveRoom_47 : decode cX5_giveRoom 47 = .ok (.getfield 18, 3) := by decide +kernel
theorem dX5_giveRoom_50 : decode cX5_giveRoom 50 = .ok (.iload 4, 2) := by decide +kernel
theorem dX5_giveRoom_52 : decode cX5_giveRoom 52 = .ok (.iconst 1, 1) := by decide +kernel
theorem dX5_giveRoom_53 : decode cX5_giveRoom 53 = .ok (.iadd, 1) := by decide +kernel
theorem dX5_giveRoom_54 : decode cX5_giveRoom 54 = .ok (.invokestatic 49, 3) := by decide +kernel
theorem dX5_giveRoom_57 : decode cX5_giveRoom 57 = .ok (.putfield 18, 3) := by decide +kernel
theorem dX5_giveRoom_60 : decode cX5_giveRoom 60 = .ok (.return_, 1) := by decide +kernel
theorem dX5_seeDepth_0 : decode cX5_seeDepth 0 = .ok (.iconst 0, 1) := by decide +kernel
theorem dX5_seeDepth_1 : decode cX5_seeDepth 1 = .ok (.istore_n 2, 1) := by decide +kernel
theorem dX5_seeDepth_2 : decode cX5_seeDepth 2 = .ok (.iconst 0, 1) := by decide +kernel
theorem dX5_seeDepth_3 : decode cX5_seeDepth 3 = .ok (.istore_n 3, 1) := by decide +kernel
theorem dX5_seeDepth_4 : decode cX5_seeDepth 4 = .ok (.iload_n 3, 1) := by decide +kernel
theorem dX5_seeDepth_5 : decode cX5_seeDepth 5 = .ok (.aload_n 0, 1) := by decide +kernel
theorem dX5_seeDepth_6 : decode cX5_seeDepth 6 = .ok (.getfield 18, 3) := by decide +kernel
theorem dX5_seeDepth_9 : decode cX5_seeDepth 9 = .ok (.if_icmp .ge 27, 3) := by decide +kernel
theorem dX5_seeDepth_12 : decode cX5_seeDepth 12 = .ok (.iload_n 2, 1) := by decide +kernel
theorem dX5_seeDepth_13 : decode cX5_seeDepth 13 = .ok (.aload_n 0, 1) := by decide +kernel
theorem dX5_seeDepth_14 : decode cX5_seeDepth 14 = .ok (.getfield 15, 3) := by decide +kernel
theorem dX5_seeDepth_17 : decode cX5_seeDepth 17 = .ok (.iload_n 3, 1) := by decide +kernel
theorem dX5_seeDepth_18 : decode cX5_seeDepth 18 = .ok (.iaload, 1) := by decide +kernel
theorem dX5_seeDepth_19 : decode cX5_seeDepth 19 = .ok (.iload_n 1, 1) := by decide +kernel
theorem dX5_seeDepth_20 : decode cX5_seeDepth 20 = .ok (.if_icmp .le 7, 3) := by decide +kernel
theorem dX5_seeDepth_23 : decode cX5_seeDepth 23 = .ok (.iconst 1, 1) := by decide +kernel
theorem dX5_seeDepth_24 : decode cX5_seeDepth 24 = .ok (.goto 4, 3) := by decide +kernel
theorem dX5_seeDepth_27 : decode cX5_seeDepth 27 = .ok (.iconst 0, 1) := by decide +kernel
theorem dX5_seeDepth_28 : decode cX5_seeDepth 28 = .ok (.iadd, 1) := by decide +kernel
theorem dX5_seeDepth_29 : decode cX5_seeDepth 29 = .ok (.istore_n 2, 1) := by decide +kernel
theorem dX5_seeDepth_30 : decode cX5_seeDepth 30 = .ok (.iinc 3 1, 3) := by decide +kernel
theorem dX5_seeDepth_33 : decode cX5_seeDepth 33 = .ok (.goto (-29), 3) := by decide +kernel
theorem dX5_seeDepth_36 : decode cX5_seeDepth 36 = .ok (.iload_n 2, 1) := by decide +kernel
theorem dX5_seeDepth_37 : decode cX5_seeDepth 37 = .ok (.aload_n 0, 1) := by decide +kernel
theorem dX5_seeDepth_38 : decode cX5_seeDepth 38 = .ok (.getfield 22, 3) := by decide +kernel
theorem dX5_seeDepth_41 : decode cX5_seeDepth 41 = .ok (.if_icmp .le 13, 3) := by decide +kernel
theorem dX5_seeDepth_44 : decode cX5_seeDepth 44 = .ok (.aload_n 0, 1) := by decide +kernel
theorem dX5_seeDepth_45 : decode cX5_seeDepth 45 = .ok (.iload_n 2, 1) := by decide +kernel
theorem dX5_seeDepth_46 : decode cX5_seeDepth 46 = .ok (.putfield 22, 3) := by decide +kernel
theorem dX5_seeDepth_49 : decode cX5_seeDepth 49 = .ok (.aload_n 0, 1) := by decide +kernel
theorem dX5_seeDepth_50 : decode cX5_seeDepth 50 = .ok (.iload_n 1, 1) := by decide +kernel
theorem dX5_seeDepth_51 : decode cX5_seeDepth 51 = .ok (.putfield 26, 3) := by decide +kernel
theorem dX5_seeDepth_54 : decode cX5_seeDepth 54 = .ok (.return_, 1) := by decide +kernel
theorem dX6_init_0 : decode cX6_init 0 = .ok (.aload_n 0, 1) := by decide +kernel
theorem dX6_init_1 : decode cX6_init 1 = .ok (.invokespecial 3, 3) := by decide +kernel
theorem dX6_init_4 : decode cX6_init 4 = .ok (.aload_n 0, 1) := by decide +kernel
theorem dX6_init_5 : decode cX6_init 5 = .ok (.bipush 60, 2) := by decide +kernel
theorem dX6_init_7 : decode cX6_init 7 = .ok (.newarray .int, 2) := by decide +kernel
theorem dX6_init_9 : decode cX6_init 9 = .ok (.putfield 9, 3) := by decide +kernel
theorem dX6_init_12 : decode cX6_init 12 = .ok (.aload_n 0, 1) := by decide +kernel
theorem dX6_init_13 : decode cX6_init 13 = .ok (.iconst 1, 1) := by decide +kernel
theorem dX6_init_14 : decode cX6_init 14 = .ok (.putfield 15, 3) := by decide +kernel
theorem dX6_init_17 : decode cX6_init 17 = .ok (.aload_n 0, 1) := by decide +kernel
theorem dX6_init_18 : decode cX6_init 18 = .ok (.iconst 0, 1) := by decide +kernel
theorem dX6_init_19 : decode cX6_init 19 = .ok (.putfield 19, 3) := by decide +kernel
theorem dX6_init_22 : decode cX6_init 22 = .ok (.aload_n 0, 1) := by decide +kernel
theorem dX6_init_23 : decode cX6_init 23 = .ok (.iconst 0, 1) := by decide +kernel
theorem dX6_init_24 : decode cX6_init 24 = .ok (.putfield 23, 3) := by decide +kernel
theorem dX6_init_27 : decode cX6_init 27 = .ok (.return_, 1) := by decide +kernel
theorem dX6_makeNew_0 : decode cX6_makeNew 0 = .ok (.aload_n 0, 1) := by decide +kernel
theorem dX6_makeNew_1 : decode cX6_makeNew 1 = .ok (.iconst 0, 1) := by decide +kernel
theorem dX6_makeNew_2 : decode cX6_makeNew 2 = .ok (.putfield 15, 3) := by decide +kernel
theorem dX6_makeNew_5 : decode cX6_makeNew 5 = .ok (.aload_n 0, 1) := by decide +kernel
theorem dX6_makeNew_6 : decode cX6_makeNew 6 = .ok (.iload_n 1, 1) := by decide +kernel
theorem dX6_makeNew_7 : decode cX6_makeNew 7 = .ok (.putfield 19, 3) := by decide +kernel
theorem dX6_makeNew_10 : decode cX6_makeNew 10 = .ok (.aload_n 0, 1) := by decide +kernel
theorem dX6_makeNew_11 : decode cX6_makeNew 11 = .ok (.iload_n 2, 1) := by decide +kernel
theorem dX6_makeNew_12 : decode cX6_makeNew 12 = .ok (.putfield 23, 3) := by decide +kernel
theorem dX6_makeNew_15 : decode cX6_makeNew 15 = .ok (.iconst 0, 1) := by decide +kernel
theorem dX6_makeNew_16 : decode cX6_makeNew 16 = .ok (.istore_n 3, 1) := by decide +kernel
theorem dX6_makeNew_17 : decode cX6_makeNew 17 = .ok (.iload_n 3, 1) := by decide +kernel
theorem dX6_makeNew_18 : decode cX6_makeNew 18 = .ok (.aload_n 0, 1) := by decide +kernel
theorem dX6_makeNew_19 : decode cX6_makeNew 19 = .ok (.getfield 23, 3) := by decide +kernel
theorem dX6_makeNew_22 : decode cX6_makeNew 22 = .ok (.if_icmp .ge 16, 3) := by decide +kernel
theorem dX6_makeNew_25 : decode cX6_makeNew 25 = .ok (.aload_n 0, 1) := by decide +kernel
theorem dX6_makeNew_26 : decode cX6_makeNew 26 = .ok (.getfield 9, 3) := by decide +kernel
theorem dX6_makeNew_29 : decode cX6_makeNew 29 = .ok (.iload_n 3, 1) := by decide +kernel
theorem dX6_makeNew_30 : decode cX6_makeNew 30 = .ok (.iconst 0, 1) := by decide +kernel
theorem dX6_makeNew_31 : decode cX6_makeNew 31 = .ok (.iastore, 1) := by decide +kernel
theorem dX6_makeNew_32 : decode cX6_makeNew 32 = .ok (.iinc 3 1, 3) := by decide +kernel
theorem dX6_makeNew_35 : decode cX6_makeNew 35 = .ok (.goto (-18), 3) := by decide +kernel
theorem dX6_makeNew_38 : decode cX6_makeNew 38 = .ok (.return_, 1) := by decide +kernel
theorem dX6_hasItems_0 : decode cX6_hasItems 0 = .ok (.iload_n 1, 1) := by decide +kernel
theorem dX6_hasItems_1 : decode cX6_hasItems 1 = .ok (.ifCond .lt 29, 3) := by decide +kernel
theorem dX6_hasItems_4 : decode cX6_hasItems 4 = .ok (.iload_n 2, 1) := by decide +kernel
theorem dX6_hasItems_5 : decode cX6_hasItems 5 = .ok (.ifCond .lt 25, 3) := by decide +kernel
theorem dX6_hasItems_8 : decode cX6_hasItems 8 = .ok (.iload_n 1, 1) := by decide +kernel
theorem dX6_hasItems_9 : decode cX6_hasItems 9 = .ok (.aload_n 0, 1) := by decide +kernel
theorem dX6_hasItems_10 : decode cX6_hasItems 10 = .ok (.getfield 23, 3) := by decide +kernel
theorem dX6_hasItems_13 : decode cX6_hasItems 13 = .ok (.if_icmp .gt 17, 3) := by decide +kernel
theorem dX6_hasItems_16 : decode cX6_hasItems 16 = .ok (.iload_n 2, 1) := by decide +kernel
theorem dX6_hasItems_17 : decode cX6_hasItems 17 = .ok (.aload_n 0, 1) := by decide +kernel
theorem dX6_hasItems_18 : decode cX6_hasItems 18 = .ok (.getfield 23, 3) := by decide +kernel
theorem dX6_hasItems_21 : decode cX6_hasItems 21 = .ok (.iload_n 1, 1) := by decide +kernel
theorem dX6_hasItems_22 : decode cX6_hasItems 22 = .ok (.isub, 1) := by decide +kernel
theorem dX6_hasItems_23 : decode cX6_hasItems 23 = .ok (.if_icmp .gt 7, 3) := by decide +kernel
theorem dX6_hasItems_26 : decode cX6_hasItems 26 = .ok (.iconst 1, 1) := by decide +kernel
theorem dX6_hasItems_27 : decode cX6_hasItems 27 = .ok (.goto 4, 3) := by decide +kernel
theorem dX6_hasItems_30 : decode cX6_hasItems 30 = .ok (.iconst 0, 1) := by decide +kernel
theorem dX6_hasItems_31 : decode cX6_hasItems 31 = .ok (.ireturn, 1) := by decide +kernel
theorem dX6_setItem_0 : decode cX6_setItem 0 = .ok (.aload_n 0, 1) := by decide +kernel
theorem dX6_setItem_1 : decode cX6_setItem 1 = .ok (.getfield 19, 3) := by decide +kernel
theorem dX6_setItem_4 : decode cX6_setItem 4 = .ok (.ifCond .ne 14, 3) := by decide +kernel
theorem dX6_setItem_7 : decode cX6_setItem 7 = .ok (.aload_n 0, 1) := by decide +kernel
theorem dX6_setItem_8 : decode cX6_setItem 8 = .ok (.getfield 9, 3) := by decide +kernel
theorem dX6_setItem_11 : decode cX6_setItem 11 = .ok (.iload_n 1, 1) := by decide +kernel
theorem dX6_setItem_12 : decode cX6_setItem 12 = .ok (.iload_n 2, 1) := by decide +kernel
theorem dX6_setItem_13 : decode cX6_setItem 13 = .ok (.i2b, 1) := by decide +kernel
theorem dX6_setItem_14 : decode cX6_setItem 14 = .ok (.iastore, 1) := by decide +kernel
theorem dX6_setItem_15 : decode cX6_setItem 15 = .ok (.goto 29, 3) := by decide +kernel
theorem dX6_setItem_18 : decode cX6_setItem 18 = .ok (.aload_n 0, 1) := by decide +kernel
theorem dX6_setItem_19 : decode cX6_setItem 19 = .ok (.getfield 19, 3) := by decide +kernel
theorem dX6_setItem_22 : decode cX6_setItem 22 = .ok (.iconst 1, 1) := by decide +kernel
theorem dX6_setItem_23 : decode cX6_setItem 23 = .ok (.if_icmp .ne 14, 3) := by decide +kernel
theorem dX6_setItem_26 : decode cX6_setItem 26 = .ok (.aload_n 0, 1) := by decide +kernel
theorem dX6_setItem_27 : decode cX6_setItem 27 = .ok (.getfield 9, 3) := by decide +kernel
theorem dX6_setItem_30 : decode cX6_setItem 30 = .ok (.iload_n 1, 1) := by decide +kernel
theorem dX6_setItem_31 : decode cX6_setItem 31 = .ok (.iload_n 2, 1) := by decide +kernel
theorem dX6_setItem_32 : decode cX6_setItem 32 = .ok (.i2s, 1) := by decide +kernel
theorem dX6_setItem_33 : decode cX6_setItem 33 = .ok (.iastore, 1) := by decide +kernel
theorem dX6_setItem_34 : decode cX6_setItem 34 = .ok (.goto 10, 3) := by decide +kernel
theorem dX6_setItem_37 : decode cX6_setItem 37 = .ok (.aload_n 0, 1) := by decide +kernel
theorem dX6_setItem_38 : decode cX6_setItem 38 = .ok (.getfield 9, 3) := by decide +kernel
theorem dX6_setItem_41 : decode cX6_setItem 41 = .ok (.iload_n 1, 1) := by decide +kernel
theorem dX6_setItem_42 : decode cX6_setItem 42 = .ok (.iload_n 2, 1) := by decide +kernel
theorem dX6_setItem_43 : decode cX6_setItem 43 = .ok (.iastore, 1) := by decide +kernel
theorem dX6_setItem_44 : decode cX6_setItem 44 = .ok (.return_, 1) := by decide +kernel
theorem dX7_init_0 : decode cX7_init 0 = .ok (.aload_n 0, 1) := by decide +kernel
theorem dX7_init_1 : decode cX7_init 1 = .ok (.invokespecial 3, 3) := by decide +kernel
theorem dX7_init_4 : decode cX7_init 4 = .ok (.aload_n 0, 1) := by decide +kernel
theorem dX7_init_5 : decode cX7_init 5 = .ok (.bipush 48, 2) := by decide +kernel
theorem dX7_init_7 : decode cX7_init 7 = .ok (.newarray .int, 2) := by decide +kernel
theorem dX7_init_9 : decode cX7_init 9 = .ok (.putfield 9, 3) := by decide +kernel
theorem dX7_init_12 : decode cX7_init 12 = .ok (.aload_n 0, 1) := by decide +kernel
theorem dX7_init_13 : decode cX7_init 13 = .ok (.bipush 48, 2) := by decide +kernel
theorem dX7_init_15 : decode cX7_init 15 = .ok (.newarray .int, 2) := by decide +kernel
theorem dX7_init_17 : decode cX7_init 17 = .ok (.putfield 15, 3) := by decide +kernel
theorem dX7_init_20 : decode cX7_init 20 = .ok (.aload_n 0, 1) := by decide +kernel
theorem dX7_init_21 : decode cX7_init 21 = .ok (.bipush 48, 2) := by decide +kernel
theorem dX7_init_23 : decode cX7_init 23 = .ok (.newarray .boolean, 2) := by decide +kernel
theorem dX7_init_25 : decode cX7_init 25 = .ok (.putfield 18, 3) := by decide +kernel
theorem dX7_init_28 : decode cX7_init 28 = .ok (.aload_n 0, 1) := by decide +kernel
theorem dX7_init_29 : decode cX7_init 29 = .ok (.bipush 48, 2) := by decide +kernel
theorem dX7_init_31 : decode cX7_init 31 = .ok (.newarray .int, 2) := by decide +kernel
theorem dX7_init_33 : decode cX7_init 33 = .ok (.putfield 22, 3) := by decide +kernel
theorem dX7_init_36 : decode cX7_init 36 = .ok (.aload_n 0, 1) := by decide +kernel
theorem dX7_init_37 : decode cX7_init 37 = .ok (.bipush 48, 2) := by decide +kernel
theorem dX7_init_39 : decode cX7_init 39 = .ok (.newarray .int, 2) := by decide +kernel
theorem dX7_init_41 : decode cX7_init 41 = .ok (.putfield 25, 3) := by decide +kernel
theorem dX7_init_44 : decode cX7_init 44 = .ok (.aload_n 0, 1) := by decide +kernel
theorem dX7_init_45 : decode cX7_init 45 = .ok (.iconst 0, 1) := by decide +kernel
theorem dX7_init_46 : decode cX7_init 46 = .ok (.putfield 28, 3) := by decide +kernel
theorem dX7_init_49 : decode cX7_init 49 = .ok (.return_, 1) := by decide +kernel
theorem dX7_add_0 : decode cX7_add 0 = .ok (.aload_n 0, 1) := by decide +kernel
theorem dX7_add_1 : decode cX7_add 1 = .ok (.getfield 9, 3) := by decide +kernel
theorem dX7_add_4 : decode cX7_add 4 = .ok (.iload_n 1, 1) := by decide +kernel
theorem dX7_add_5 : decode cX7_add 5 = .ok (.iload_n 2, 1) := by decide +kernel
theorem dX7_add_6 : decode cX7_add 6 = .ok (.iastore, 1) := by decide +kernel
theorem dX7_add_7 : decode cX7_add 7 = .ok (.aload_n 0, 1) := by decide +kernel
theorem dX7_add_8 : decode cX7_add 8 = .ok (.getfield 15, 3) := by decide +kernel
theorem dX7_add_11 : decode cX7_add 11 = .ok (.iload_n 1, 1) := by decide +kernel
theorem dX7_add_12 : decode cX7_add 12 = .ok (.iload_n 3, 1) := by decide +kernel
theorem dX7_add_13 : decode cX7_add 13 = .ok (.iastore, 1) := by decide +kernel
theorem dX7_add_14 : decode cX7_add 14 = .ok (.aload_n 0, 1) := by decide +kernel
theorem dX7_add_15 : decode cX7_add 15 = .ok (.getfield 18, 3) := by decide +kernel
theorem dX7_add_18 : decode cX7_add 18 = .ok (.iload_n 1, 1) := by decide +kernel
theorem dX7_add_19 : decode cX7_add 19 = .ok (.iconst 1, 1) := by decide +kernel
theorem dX7_add_20 : decode cX7_add 20 = .ok (.bastore, 1) := by decide +kernel
theorem dX7_add_21 : decode cX7_add 21 = .ok (.aload_n 0, 1) := by decide +kernel
theorem dX7_add_22 : decode cX7_add 22 = .ok (.getfield 28, 3) := by decide +kernel
theorem dX7_add_25 : decode cX7_add 25 = .ok (.istore 4, 2) := by decide +kernel
theorem dX7_add_27 : decode cX7_add 27 = .ok (.iload 4, 2) := by decide +kernel
theorem dX7_add_29 : decode cX7_add 29 = .ok (.ifCond .le 41, 3) := by decide +kernel
theorem dX7_add_32 : decode cX7_add 32 = .ok (.aload_n 0, 1) := by decide +kernel
theorem dX7_add_33 : decode cX7_add 33 = .ok (.iload_n 1, 1) := by decide +kernel
theorem dX7_add_34 : decode cX7_add 34 = .ok (.aload_n 0, 1) := by decide +kernel
theorem dX7_add_35 : decode cX7_add 35 = .ok (.getfield 22, 3) := by decide +kernel
theorem dX7_add_38 : decode cX7_add 38 = .ok (.iload 4, 2) := by decide +kernel
theorem dX7_add_40 : decode cX7_add 40 = .ok (.iconst 1, 1) := by decide +kernel
theorem dX7_add_41 : decode cX7_add 41 = .ok (.isub, 1) := by decide +kernel
theorem dX7_add_42 : decode cX7_add 42 = .ok (.iaload, 1) := by decide +kernel
theorem dX7_add_43 : decode cX7_add 43 = .ok (.invokevirtual 32, 3) := by decide +kernel
theorem dX7_add_46 : decode cX7_add 46 = .ok (.ifCond .eq 24, 3) := by decide +kernel
theorem dX7_add_49 : decode cX7_add 49 = .ok (.aload_n 0, 1) := by decide +kernel
theorem dX7_add_50 : decode cX7_add 50 = .ok (.aload_n 0, 1) := by decide +kernel
theorem dX7_add_51 : decode cX7_add 51 = .ok (.getfield 22, 3) := by decide +kernel
theorem dX7_add_54 : decode cX7_add 54 = .ok (.iload 4, 2) := by decide +kernel
theorem dX7_add_56 : decode cX7_add 56 = .ok (.iconst 1, 1) := by decide +kernel
theorem dX7_add_57 : decode cX7_add 57 = .ok (.isub, 1) := by decide +kernel
theorem dX7_add_58 : decode cX7_add 58 = .ok (.iaload, 1) := by decide +kernel
theorem dX7_add_59 : decode cX7_add 59 = .ok (.iload 4, 2) := by decide +kernel
theorem dX7_add_61 : decode cX7_add 61 = .ok (.invokevirtual 36, 3) := by decide +kernel
theorem dX7_add_64 : decode cX7_add 64 = .ok (.iinc 4 (-1), 3) := by decide +kernel
theorem dX7_add_67 : decode cX7_add 67 = .ok (.goto (-40), 3) := by decide +kernel
theorem dX7_add_70 : decode cX7_add 70 = .ok (.aload_n 0, 1) := by decide +kernel
theorem dX7_add_71 : decode cX7_add 71 = .ok (.iload_n 1, 1) := by decide +kernel
theorem dX7_add_72 : decode cX7_add 72 = .ok (.iload 4, 2) := by decide +kernel
theorem dX7_add_74 : decode cX7_add 74 = .ok (.invokevirtual 36, 3) := by decide +kernel
theorem dX7_add_77 : decode cX7_add 77 = .ok (.aload_n 0, 1) := by decide +kernel
theorem dX7_add_78 : decode cX7_add 78 = .ok (.dup, 1) := by decide +kernel
theorem dX7_add_79 : decode cX7_add 79 = .ok (.getfield 28, 3) := by decide +kernel
theorem dX7_add_82 : decode cX7_add 82 = .ok (.iconst 1, 1) := by decide +kernel
theorem dX7_add_83 : decode cX7_add 83 = .ok (.iadd, 1) := by decide +kernel
theorem dX7_add_84 : decode cX7_add 84 = .ok (.putfield 28, 3) := by decide +kernel
theorem dX7_add_87 : decode cX7_add 87 = .ok (.return_, 1) := by decide +kernel
theorem dX7_remove_0 : decode cX7_remove 0 = .ok (.aload_n 0, 1) := by decide +kernel
theorem dX7_remove_1 : decode cX7_remove 1 = .ok (.getfield 18, 3) := by decide +kernel
theorem dX7_remove_4 : decode cX7_remove 4 = .ok (.iload_n 1, 1) := by decide +kernel
theorem dX7_remove_5 : decode cX7_remove 5 = .ok (.iconst 0, 1) := by decide +kernel
theorem dX7_remove_6 : decode cX7_remove 6 = .ok (.bastore, 1) := by decide +kernel
theorem dX7_remove_7 : decode cX7_remove 7 = .ok (.aload_n 0, 1) := by decide +kernel
theorem dX7_remove_8 : decode cX7_remove 8 = .ok (.dup, 1) := by decide +kernel
theorem dX7_remove_9 : decode cX7_remove 9 = .ok (.getfield 28, 3) := by decide +kernel
theorem dX7_remove_12 : decode cX7_remove 12 = .ok (.iconst 1, 1) := by decide +kernel
theorem dX7_remove_13 : decode cX7_remove 13 = .ok (.isub, 1) := by decide +kernel
theorem dX7_remove_14 : decode cX7_remove 14 = .ok (.putfield 28, 3) := by decide +kernel
theorem dX7_remove_17 : decode cX7_remove 17 = .ok (.aload_n 0, 1) := by decide +kernel
theorem dX7_remove_18 : decode cX7_remove 18 = .ok (.getfield 25, 3) := by decide +kernel
theorem dX7_remove_21 : decode cX7_remove 21 = .ok (.iload_n 1, 1) := by decide +kernel
theorem dX7_remove_22 : decode cX7_remove 22 = .ok (.iaload, 1) := by decide +kernel
theorem dX7_remove_23 : decode cX7_remove 23 = .ok (.istore_n 2, 1) := by decide +kernel
theorem dX7_remove_24 : decode cX7_remove 24 = .ok (.iload_n 2, 1) := by decide +kernel
theorem dX7_remove_25 : decode cX7_remove 25 = .ok (.aload_n 0, 1) := by decide +kernel
theorem dX7_remove_26 : decode cX7_remove 26 = .ok (.getfield 28, 3) := by decide +kernel
theorem dX7_remove_29 : decode cX7_remove 29 = .ok (.if_icmp .ge 22, 3) := by decide +kernel
theorem dX7_remove_32 : decode cX7_remove 32 = .ok (.aload_n 0, 1) := by decide +kernel
theorem dX7_remove_33 : decode cX7_remove 33 = .ok (.aload_n 0, 1) := by decide +kernel
theorem dX7_remove_34 : decode cX7_remove 34 = .ok (.getfield 22, 3) := by decide +kernel
theorem dX7_remove_37 : decode cX7_remove 37 = .ok (.iload_n 2, 1) := by decide +kernel
theorem dX7_remove_38 : decode cX7_remove 38 = .ok (.iconst 1, 1) := by decide +kernel
theorem dX7_remove_39 : decode cX7_remove 39 = .ok (.iadd, 1) := by decide +kernel
theorem dX7_remove_40 : decode cX7_remove 40 = .ok (.iaload, 1) := by decide +kernel
theorem dX7_remove_41 : decode cX7_remove 41 = .ok (.iload_n 2, 1) := by decide +kernel
theorem dX7_remove_42 : decode cX7_remove 42 = .ok (.invokevirtual 36, 3) := by decide +kernel
theorem dX7_remove_45 : decode cX7_remove 45 = .ok (.iinc 2 1, 3) := by decide +kernel
theorem dX7_remove_48 : decode cX7_remove 48 = .ok (.goto (-24), 3) := by decide +kernel
theorem dX7_remove_51 : decode cX7_remove 51 = .ok (.return_, 1) := by decide +kernel
theorem dX7_setRank_0 : decode cX7_setRank 0 = .ok (.aload_n 0, 1) := by decide +kernel
theorem dX7_setRank_1 : decode cX7_setRank 1 = .ok (.getfield 22, 3) := by decide +kernel
theorem dX7_setRank_4 : decode cX7_setRank 4 = .ok (.iload_n 2, 1) := by decide +kernel
theorem dX7_setRank_5 : decode cX7_setRank 5 = .ok (.iload_n 1, 1) := by decide +kernel
theorem dX7_setRank_6 : decode cX7_setRank 6 = .ok (.iastore, 1) := by decide +kernel
theorem dX7_setRank_7 : decode cX7_setRank 7 = .ok (.aload_n 0, 1) := by decide +kernel
theorem dX7_setRank_8 : decode cX7_setRank 8 = .ok (.getfield 25, 3) := by decide +kernel
theorem dX7_setRank_11 : decode cX7_setRank 11 = .ok (.iload_n 1, 1) := by decide +kernel
theorem dX7_setRank_12 : decode cX7_setRank 12 = .ok (.iload_n 2, 1) := by decide +kernel
theorem dX7_setRank_13 : decode cX7_setRank 13 = .ok (.iastore, 1) := by decide +kernel
theorem dX7_setRank_14 : decode cX7_setRank 14 = .ok (.return_, 1) := by decide +kernel
theorem dX7_isAhead_0 : decode cX7_isAhead 0 = .ok (.aload_n 0, 1) := by decide +kernel
theorem dX7_isAhead_1 : decode cX7_isAhead 1 = .ok (.getfield 9, 3) := by decide +kernel
theorem dX7_isAhead_4 : decode cX7_isAhead 4 = .ok (.iload_n 1, 1) := by decide +kernel
theorem dX7_isAhead_5 : decode cX7_isAhead 5 = .ok (.iaload, 1) := by decide +kernel
theorem dX7_isAhead_6 : decode cX7_isAhead 6 = .ok (.aload_n 0, 1) := by decide +kernel
theorem dX7_isAhead_7 : decode cX7_isAhead 7 = .ok (.getfield 9, 3) := by decide +kernel
theorem dX7_isAhead_10 : decode cX7_isAhead 10 = .ok (.iload_n 2, 1) := by decide +kernel
theorem dX7_isAhead_11 : decode cX7_isAhead 11 = .ok (.iaload, 1) := by decide +kernel
theorem dX7_isAhead_12 : decode cX7_isAhead 12 = .ok (.if_icmp .eq 24, 3) := by decide +kernel
theorem dX7_isAhead_15 : decode cX7_isAhead 15 = .ok (.aload_n 0, 1) := by decide +kernel
theorem dX7_isAhead_16 : decode cX7_isAhead 16 = .ok (.getfield 9, 3) := by decide +kernel
theorem dX7_isAhead_19 : decode cX7_isAhead 19 = .ok (.iload_n 1, 1) := by decide +kernel
theorem dX7_isAhead_20 : decode cX7_isAhead 20 = .ok (.iaload, 1) := by decide +kernel
theorem dX7_isAhead_21 : decode cX7_isAhead 21 = .ok (.aload_n 0, 1) := by decide +kernel
theorem dX7_isAhead_22 : decode cX7_isAhead 22 = .ok (.getfield 9, 3) := by decide +kernel
theorem dX7_isAhead_25 : decode cX7_isAhead 25 = .ok (.iload_n 2, 1) := by decide +kernel
theorem dX7_isAhead_26 : decode cX7_isAhead 26 = .ok (.iaload, 1) := by decide +kernel
theorem dX7_isAhead_27 : decode cX7_isAhead 27 = .ok (.if_icmp .ge 7, 3) := by decide +kernel
theorem dX7_isAhead_30 : decode cX7_isAhead 30 = .ok (.iconst 1, 1) := by decide +kernel
theorem dX7_isAhead_31 : decode cX7_isAhead 31 = .ok (.goto 4, 3) := by decide +kernel
theorem dX7_isAhead_34 : decode cX7_isAhead 34 = .ok (.iconst 0, 1) := by decide +kernel
theorem dX7_isAhead_35 : decode cX7_isAhead 35 = .ok (.ireturn, 1) := by decide +kernel
theorem dX7_isAhead_36 : decode cX7_isAhead 36 = .ok (.aload_n 0, 1) := by decide +kernel
theorem dX7_isAhead_37 : decode cX7_isAhead 37 = .ok (.getfield 15, 3) := by decide +kernel
theorem dX7_isAhead_40 : decode cX7_isAhead 40 = .ok (.iload_n 1, 1) := by decide +kernel
theorem dX7_isAhead_41 : decode cX7_isAhead 41 = .ok (.iaload, 1) := by decide +kernel
theorem dX7_isAhead_42 : decode cX7_isAhead 42 = .ok (.aload_n 0, 1) := by decide +kernel
theorem dX7_isAhead_43 : decode cX7_isAhead 43 = .ok (.getfield 15, 3) := by decide +kernel
theorem dX7_isAhead_46 : decode cX7_isAhead 46 = .ok (.iload_n 2, 1) := by decide +kernel
theorem dX7_isAhead_47 : decode cX7_isAhead 47 = .ok (.iaload, 1) := by decide +kernel
theorem dX7_isAhead_48 : decode cX7_isAhead 48 = .ok (.if_icmp .eq 24, 3) := by decide +kernel
theorem dX7_isAhead_51 : decode cX7_isAhead 51 = .ok (.aload_n 0, 1) := by decide +kernel
theorem dX7_isAhead_52 : decode cX7_isAhead 52 = .ok (.getfield 15, 3) := by decide +kernel
theorem dX7_isAhead_55 : decode cX7_isAhead 55 = .ok (.iload_n 1, 1) := by decide +kernel
theorem dX7_isAhead_56 : decode cX7_isAhead 56 = .ok (.iaload, 1) := by decide +kernel
theorem dX7_isAhead_57 : decode cX7_isAhead 57 = .ok (.aload_n 0, 1) := by decide +kernel
theorem dX7_isAhead_58 : decode cX7_isAhead 58 = .ok (.getfield 15, 3) := by decide +kernel
theorem dX7_isAhead_61 : decode cX7_isAhead 61 = .ok (.iload_n 2, 1) := by decide +kernel
theorem dX7_isAhead_62 : decode cX7_isAhead 62 = .ok (.iaload, 1) := by decide +kernel
theorem dX7_isAhead_63 : decode cX7_isAhead 63 = .ok (.if_icmp .ge 7, 3) := by decide +kernel
theorem dX7_isAhead_66 : decode cX7_isAhead 66 = .ok (.iconst 1, 1) := by decide +kernel
theorem dX7_isAhead_67 : decode cX7_isAhead 67 = .ok (.goto 4, 3) := by decide +kernel
theorem dX7_isAhead_70 : decode cX7_isAhead 70 = .ok (.iconst 0, 1) := by decide +kernel
theorem dX7_isAhead_71 : decode cX7_isAhead 71 = .ok (.ireturn, 1) := by decide +kernel
theorem dX7_isAhead_72 : decode cX7_isAhead 72 = .ok (.iload_n 1, 1) := by decide +kernel
theorem dX7_isAhead_73 : decode cX7_isAhead 73 = .ok (.iload_n 2, 1) := by decide +kernel
theorem dX7_isAhead_74 : decode cX7_isAhead 74 = .ok (.if_icmp .ge 7, 3) := by decide +kernel
theorem dX7_isAhead_77 : decode cX7_isAhead 77 = .ok (.iconst 1, 1) := by decide +kernel
theorem dX7_isAhead_78 : decode cX7_isAhead 78 = .ok (.goto 4, 3) := by decide +kernel
theorem dX7_isAhead_81 : decode cX7_isAhead 81 = .ok (.iconst 0, 1) := by decide +kernel
theorem dX7_isAhead_82 : decode cX7_isAhead 82 = .ok (.ireturn, 1) := by decide +kernel
theorem dX7_leastUnused_0 : decode cX7_leastUnused 0 = .ok (.iconst 0, 1) := by decide +kernel
theorem dX7_leastUnused_1 : decode cX7_leastUnused 1 = .ok (.istore_n 1, 1) := by decide +kernel
theorem dX7_leastUnused_2 : decode cX7_leastUnused 2 = .ok (.iload_n 1, 1) := by decide +kernel
theorem dX7_leastUnused_3 : decode cX7_leastUnused 3 = .ok (.bipush 48, 2) := by decide +kernel
theorem dX7_leastUnused_5 : decode cX7_leastUnused 5 = .ok (.if_icmp .ge 20, 3) := by decide +kernel
theorem dX7_leastUnused_8 : decode cX7_leastUnused 8 = .ok (.aload_n 0, 1) := by decide +kernel
theorem dX7_leastUnused_9 : decode cX7_leastUnused 9 = .ok (.getfield 18, 3) := by decide +kernel
theorem dX7_leastUnused_12 : decode cX7_leastUnused 12 = .ok (.iload_n 1, 1) := by decide +kernel
theorem dX7_leastUnused_13 : decode cX7_leastUnused 13 = .ok (.baload, 1) := by decide +kernel
theorem dX7_leastUnused_14 : decode cX7_leastUnused 14 = .ok (.ifCond .ne 5, 3) := by decide +kernel
theorem dX7_leastUnused_17 : decode cX7_leastUnused 17 = .ok (.iload_n 1, 1) := by decide +kernel
theorem dX7_leastUnused_18 : decode cX7_leastUnused 18 = .ok (.ireturn, 1) := by decide +kernel
theorem dX7_leastUnused_19 : decode cX7_leastUnused 19 = .ok (.iinc 1 1, 3) := by decide +kernel
theorem dX7_leastUnused_22 : decode cX7_leastUnused 22 = .ok (.goto (-20), 3) := by decide +kernel
theorem dX7_leastUnused_25 : decode cX7_leastUnused 25 = .ok (.iconst (-1), 1) := by decide +kernel
theorem dX7_leastUnused_26 : decode cX7_leastUnused 26 = .ok (.ireturn, 1) := by decide +kernel
theorem dX7_meetsStretch_0 : decode cX7_meetsStretch 0 = .ok (.aload_n 0, 1) := by decide +kernel
theorem dX7_meetsStretch_1 : decode cX7_meetsStretch 1 = .ok (.getfield 9, 3) := by decide +kernel
theorem dX7_meetsStretch_4 : decode cX7_meetsStretch 4 = .ok (.iload_n 1, 1) := by decide +kernel
theorem dX7_meetsStretch_5 : decode cX7_meetsStretch 5 = .ok (.iaload, 1) := by decide +kernel
theorem dX7_meetsStretch_6 : decode cX7_meetsStretch 6 = .ok (.iload_n 3, 1) := by decide +kernel
theorem dX7_meetsStretch_7 : decode cX7_meetsStretch 7 = .ok (.if_icmp .ge 17, 3) := by decide +kernel
theorem dX7_meetsStretch_10 : decode cX7_meetsStretch 10 = .ok (.aload_n 0, 1) := by decide +kernel
theorem dX7_meetsStretch_11 : decode cX7_meetsStretch 11 = .ok (.getfield 15, 3) := by decide +kernel
theorem dX7_meetsStretch_14 : decode cX7_meetsStretch 14 = .ok (.iload_n 1, 1) := by decide +kernel
theorem dX7_meetsStretch_15 : decode cX7_meetsStretch 15 = .ok (.iaload, 1) := by decide +kernel
theorem dX7_meetsStretch_16 : decode cX7_meetsStretch 16 = .ok (.iload_n 2, 1) := by decide +kernel
theorem dX7_meetsStretch_17 : decode cX7_meetsStretch 17 = .ok (.if_icmp .le 7, 3) := by decide +kernel
theorem dX7_meetsStretch_20 : decode cX7_meetsStretch 20 = .ok (.iconst 1, 1) := by decide +kernel
theorem dX7_meetsStretch_21 : decode cX7_meetsStretch 21 = .ok (.goto 4, 3) := by decide +kernel
theorem dX7_meetsStretch_24 : decode cX7_meetsStretch 24 = .ok (.iconst 0, 1) := by decide +kernel
theorem dX7_meetsStretch_25 : decode cX7_meetsStretch 25 = .ok (.ireturn, 1) := by decide +kernel
theorem dX7_meeting_0 : decode cX7_meeting 0 = .ok (.iconst 0, 1) := by decide +kernel
theorem dX7_meeting_1 : decode cX7_meeting 1 = .ok (.istore_n 3, 1) := by decide +kernel
theorem dX7_meeting_2 : decode cX7_meeting 2 = .ok (.iconst 0, 1) := by decide +kernel
theorem dX7_meeting_3 : decode cX7_meeting 3 = .ok (.istore 4, 2) := by decide +kernel
theorem dX7_meeting_5 : decode cX7_meeting 5 = .ok (.iload 4, 2) := by decide +kernel
theorem dX7_meeting_7 : decode cX7_meeting 7 = .ok (.aload_n 0, 1) := by decide +kernel
theorem dX7_meeting_8 : decode cX7_meeting 8 = .ok (.getfield 28, 3) := by decide +kernel
theorem dX7_meeting_11 : decode cX7_meeting 11 = .ok (.if_icmp .ge 28, 3) := by decide +kernel
theorem dX7_meeting_14 : decode cX7_meeting 14 = .ok (.aload_n 0, 1) := by decide +kernel
theorem dX7_meeting_15 : decode cX7_meeting 15 = .ok (.aload_n 0, 1) := by decide +kernel
theorem dX7_meeting_16 : decode cX7_meeting 16 = .ok (.getfield 22, 3) := by decide +kernel
theorem dX7_meeting_19 : decode cX7_meeting 19 = .ok (.iload 4, 2) := by decide +kernel
theorem dX7_meeting_21 : decode cX7_meeting 21 = .ok (.iaload, 1) := by decide +kernel
theorem dX7_meeting_22 : decode cX7_meeting 22 = .ok (.iload_n 1, 1) := by decide +kernel
theorem dX7_meeting_23 : decode cX7_meeting 23 = .ok (.iload_n 2, 1) := by decide +kernel
theorem dX7_meeting_24 : decode cX7_meeting 24 = .ok (.invokevirtual 40, 3) := by decide +kernel
theorem dX7_meeting_27 : decode cX7_meeting 27 = .ok (.ifCond .eq 6, 3) := by decide +kernel
theorem dX7_meeting_30 : decode cX7_meeting 30 = .ok (.iinc 3 1, 3) := by decide +kernel
theorem dX7_meeting_33 : decode cX7_meeting 33 = .ok (.iinc 4 1, 3) := by decide +kernel
theorem dX7_meeting_36 : decode cX7_meeting 36 = .ok (.goto (-31), 3) := by decide +kernel
theorem dX7_meeting_39 : decode cX7_meeting 39 = .ok (.iload_n 3, 1) := by decide +kernel
theorem dX7_meeting_40 : decode cX7_meeting 40 = .ok (.ireturn, 1) := by decide +kernel
theorem dX7_meetingAt_0 : decode cX7_meetingAt 0 = .ok (.iconst 0, 1) := by decide +kernel
theorem dX7_meetingAt_1 : decode cX7_meetingAt 1 = .ok (.istore 4, 2) := by decide +kernel
theorem dX7_meetingAt_3 : decode cX7_meetingAt 3 = .ok (.iconst 0, 1) := by decide +kernel
theorem dX7_meetingAt_4 : decode cX7_meetingAt 4 = .ok (.istore 5, 2) := by decide +kernel
theorem dX7_meetingAt_6 : decode cX7_meetingAt 6 = .ok (.iload 5, 2) := by decide +kernel
theorem dX7_meetingAt_8 : decode cX7_meetingAt 8 = .ok (.aload_n 0, 1) := by decide +kernel
theorem dX7_meetingAt_9 : decode cX7_meetingAt 9 = .ok (.getfield 28, 3) := by decide +kernel
theorem dX7_meetingAt_12 : decode cX7_meetingAt 12 = .ok (.if_icmp .ge 42, 3) := by decide +kernel
theorem dX7_meetingAt_15 : decode cX7_meetingAt 15 = .ok (.aload_n 0, 1) := by decide +kernel
theorem dX7_meetingAt_16 : decode cX7_meetingAt 16 = .ok (.aload_n 0, 1) := by decide +kernel
theorem dX7_meetingAt_17 : decode cX7_meetingAt 17 = .ok (.getfield 22, 3) := by decide +kernel
theorem dX7_meetingAt_20 : decode cX7_meetingAt 20 = .ok (.iload 5, 2) := by decide +kernel
theorem dX7_meetingAt_22 : decode cX7_meetingAt 22 = .ok (.iaload, 1) := by decide +kernel
theorem dX7_meetingAt_23 : decode cX7_meetingAt 23 = .ok (.iload_n 1, 1) := by decide +kernel
theorem dX7_meetingAt_24 : decode cX7_meetingAt 24 = .ok (.iload_n 2, 1) := by decide +kernel
theorem dX7_meetingAt_25 : decode cX7_meetingAt 25 = .ok (.invokevirtual 40, 3) := by decide +kernel
theorem dX7_meetingAt_28 : decode cX7_meetingAt 28 = .ok (.ifCond .eq 20, 3) := by decide +kernel
theorem dX7_meetingAt_31 : decode cX7_meetingAt 31 = .ok (.iload 4, 2) := by decide +kernel
theorem dX7_meetingAt_33 : decode cX7_meetingAt 33 = .ok (.iload_n 3, 1) := by decide +kernel
theorem dX7_meetingAt_34 : decode cX7_meetingAt 34 = .ok (.if_icmp .ne 11, 3) := by decide +kernel
theorem dX7_meetingAt_37 : decode cX7_meetingAt 37 = .ok (.aload_n 0, 1) := by decide +kernel
theorem dX7_meetingAt_38 : decode cX7_meetingAt 38 = .ok (.getfield 22, 3) := by decide +kernel
theorem dX7_meetingAt_41 : decode cX7_meetingAt 41 = .ok (.iload 5, 2) := by decide +kernel
theorem dX7_meetingAt_43 : decode cX7_meetingAt 43 = .ok (.iaload, 1) := by decide +kernel
theorem dX7_meetingAt_44 : decode cX7_meetingAt 44 = .ok (.ireturn, 1) := by decide +kernel
theorem dX7_meetingAt_45 : decode cX7_meetingAt 45 = .ok (.iinc 4 1, 3) := by decide +kernel
theorem dX7_meetingAt_48 : decode cX7_meetingAt 48 = .ok (.iinc 5 1, 3) := by decide +kernel
theorem dX7_meetingAt_51 : decode cX7_meetingAt 51 = .ok (.goto (-45), 3) := by decide +kernel
theorem dX7_meetingAt_54 : decode cX7_meetingAt 54 = .ok (.iconst (-1), 1) := by decide +kernel
theorem dX7_meetingAt_55 : decode cX7_meetingAt 55 = .ok (.ireturn, 1) := by decide +kernel
theorem dX7_shared_0 : decode cX7_shared 0 = .ok (.aload_n 0, 1) := by decide +kernel
theorem dX7_shared_1 : decode cX7_shared 1 = .ok (.getfield 22, 3) := by decide +kernel
theorem dX7_shared_4 : decode cX7_shared 4 = .ok (.iload_n 1, 1) := by decide +kernel
theorem dX7_shared_5 : decode cX7_shared 5 = .ok (.iaload, 1) := by decide +kernel
theorem dX7_shared_6 : decode cX7_shared 6 = .ok (.istore_n 3, 1) := by decide +kernel
theorem dX7_shared_7 : decode cX7_shared 7 = .ok (.aload_n 0, 1) := by decide +kernel
theorem dX7_shared_8 : decode cX7_shared 8 = .ok (.getfield 22, 3) := by decide +kernel
theorem dX7_shared_11 : decode cX7_shared 11 = .ok (.iload_n 2, 1) := by decide +kernel
theorem dX7_shared_12 : decode cX7_shared 12 = .ok (.iaload, 1) := by decide +kernel
theorem dX7_shared_13 : decode cX7_shared 13 = .ok (.istore 4, 2) := by decide +kernel
theorem dX7_shared_15 : decode cX7_shared 15 = .ok (.aload_n 0, 1) := by decide +kernel
theorem dX7_shared_16 : decode cX7_shared 16 = .ok (.getfield 15, 3) := by decide +kernel
theorem dX7_shared_19 : decode cX7_shared 19 = .ok (.iload_n 3, 1) := by decide +kernel
theorem dX7_shared_20 : decode cX7_shared 20 = .ok (.iaload, 1) := by decide +kernel
theorem dX7_shared_21 : decode cX7_shared 21 = .ok (.aload_n 0, 1) := by decide +kernel
theorem dX7_shared_22 : decode cX7_shared 22 = .ok (.getfield 15, 3) := by decide +kernel
theorem dX7_shared_25 : decode cX7_shared 25 = .ok (.iload 4, 2) := by decide +kernel
theorem dX7_shared_27 : decode cX7_shared 27 = .ok (.iaload, 1) := by decide +kernel
theorem dX7_shared_28 : decode cX7_shared 28 = .ok (.invokestatic 44, 3) := by decide +kernel
theorem dX7_shared_31 : decode cX7_shared 31 = .ok (.aload_n 0, 1) := by decide +kernel
theorem dX7_shared_32 : decode cX7_shared 32 = .ok (.getfield 9, 3) := by decide +kernel
theorem dX7_shared_35 : decode cX7_shared 35 = .ok (.iload 4, 2) := by decide +kernel
theorem dX7_shared_37 : decode cX7_shared 37 = .ok (.iaload, 1) := by decide +kernel
theorem dX7_shared_38 : decode cX7_shared 38 = .ok (.isub, 1) := by decide +kernel
theorem dX7_shared_39 : decode cX7_shared 39 = .ok (.ireturn, 1) := by decide +kernel
theorem dX8_init_0 : decode cX8_init 0 = .ok (.aload_n 0, 1) := by decide +kernel
theorem dX8_init_1 : decode cX8_init 1 = .ok (.invokespecial 3, 3) := by decide +kernel
theorem dX8_init_4 : decode cX8_init 4 = .ok (.aload_n 0, 1) := by decide +kernel
theorem dX8_init_5 : decode cX8_init 5 = .ok (.bipush 48, 2) := by decide +kernel
theorem dX8_init_7 : decode cX8_init 7 = .ok (.newarray .int, 2) := by decide +kernel
theorem dX8_init_9 : decode cX8_init 9 = .ok (.putfield 9, 3) := by decide +kernel
theorem dX8_init_12 : decode cX8_init 12 = .ok (.aload_n 0, 1) := by decide +kernel
theorem dX8_init_13 : decode cX8_init 13 = .ok (.bipush 48, 2) := by decide +kernel
theorem dX8_init_15 : decode cX8_init 15 = .ok (.newarray .int, 2) := by decide +kernel
theorem dX8_init_17 : decode cX8_init 17 = .ok (.putfield 15, 3) := by decide +kernel
theorem dX8_init_20 : decode cX8_init 20 = .ok (.aload_n 0, 1) := by decide +kernel
theorem dX8_init_21 : decode cX8_init 21 = .ok (.bipush 48, 2) := by decide +kernel
theorem dX8_init_23 : decode cX8_init 23 = .ok (.newarray .int, 2) := by decide +kernel
theorem dX8_init_25 : decode cX8_init 25 = .ok (.putfield 18, 3) := by decide +kernel
theorem dX8_init_28 : decode cX8_init 28 = .ok (.aload_n 0, 1) := by decide +kernel
theorem dX8_init_29 : decode cX8_init 29 = .ok (.bipush 48, 2) := by decide +kernel
theorem dX8_init_31 : decode cX8_init 31 = .ok (.newarray .int, 2) := by decide +kernel
theorem dX8_init_33 : decode cX8_init 33 = .ok (.putfield 21, 3) := by decide +kernel
theorem dX8_init_36 : decode cX8_init 36 = .ok (.aload_n 0, 1) := by decide +kernel
theorem dX8_init_37 : decode cX8_init 37 = .ok (.bipush 48, 2) := by decide +kernel
theorem dX8_init_39 : decode cX8_init 39 = .ok (.newarray .int, 2) := by decide +kernel
theorem dX8_init_41 : decode cX8_init 41 = .ok (.putfield 24, 3) := by decide +kernel
theorem dX8_init_44 : decode cX8_init 44 = .ok (.aload_n 0, 1) := by decide +kernel
theorem dX8_init_45 : decode cX8_init 45 = .ok (.bipush 48, 2) := by decide +kernel
