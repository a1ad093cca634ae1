theorem dX10_takenIn_39 : decode cX10_takenIn 39 = .ok (.istore 4, 2) := by decide +kernel
theorem dX10_takenIn_41 : decode cX10_takenIn 41 = .ok (.iinc 5 1, 3) := by decide +kernel
theorem dX10_takenIn_44 : decode cX10_takenIn 44 = .ok (.goto (-29), 3) := by decide +kernel
theorem dX10_takenIn_47 : decode cX10_takenIn 47 = .ok (.iload 4, 2) := by decide +kernel
theorem dX10_takenIn_49 : decode cX10_takenIn 49 = .ok (.ireturn, 1) := by decide +kernel
theorem dX10_taken_0 : decode cX10_taken 0 = .ok (.aload_n 0, 1) := by decide +kernel
theorem dX10_taken_1 : decode cX10_taken 1 = .ok (.invokevirtual 188, 3) := by decide +kernel
theorem dX10_taken_4 : decode cX10_taken 4 = .ok (.iload_n 1, 1) := by decide +kernel
theorem dX10_taken_5 : decode cX10_taken 5 = .ok (.iload_n 2, 1) := by decide +kernel
theorem dX10_taken_6 : decode cX10_taken 6 = .ok (.invokestatic 148, 3) := by decide +kernel
theorem dX10_taken_9 : decode cX10_taken 9 = .ok (.ifCond .eq 12, 3) := by decide +kernel
theorem dX10_taken_12 : decode cX10_taken 12 = .ok (.aload_n 0, 1) := by decide +kernel
theorem dX10_taken_13 : decode cX10_taken 13 = .ok (.iload_n 1, 1) := by decide +kernel
theorem dX10_taken_14 : decode cX10_taken 14 = .ok (.iload_n 2, 1) := by decide +kernel
theorem dX10_taken_15 : decode cX10_taken 15 = .ok (.invokevirtual 227, 3) := by decide +kernel
theorem dX10_taken_18 : decode cX10_taken 18 = .ok (.goto 5, 3) := by decide +kernel
theorem dX10_taken_21 : decode cX10_taken 21 = .ok (.bipush (-2), 2) := by decide +kernel
theorem dX10_taken_23 : decode cX10_taken 23 = .ok (.ireturn, 1) := by decide +kernel
theorem dX10_frees_0 : decode cX10_frees 0 = .ok (.aload_n 0, 1) := by decide +kernel
theorem dX10_frees_1 : decode cX10_frees 1 = .ok (.invokevirtual 188, 3) := by decide +kernel
theorem dX10_frees_4 : decode cX10_frees 4 = .ok (.iload_n 1, 1) := by decide +kernel
theorem dX10_frees_5 : decode cX10_frees 5 = .ok (.iload_n 2, 1) := by decide +kernel
theorem dX10_frees_6 : decode cX10_frees 6 = .ok (.invokestatic 148, 3) := by decide +kernel
theorem dX10_frees_9 : decode cX10_frees 9 = .ok (.ifCond .eq 12, 3) := by decide +kernel
theorem dX10_frees_12 : decode cX10_frees 12 = .ok (.aload_n 0, 1) := by decide +kernel
theorem dX10_frees_13 : decode cX10_frees 13 = .ok (.iload_n 1, 1) := by decide +kernel
theorem dX10_frees_14 : decode cX10_frees 14 = .ok (.iload_n 2, 1) := by decide +kernel
theorem dX10_frees_15 : decode cX10_frees 15 = .ok (.invokevirtual 224, 3) := by decide +kernel
theorem dX10_frees_18 : decode cX10_frees 18 = .ok (.goto 5, 3) := by decide +kernel
theorem dX10_frees_21 : decode cX10_frees 21 = .ok (.bipush (-2), 2) := by decide +kernel
theorem dX10_frees_23 : decode cX10_frees 23 = .ok (.ireturn, 1) := by decide +kernel
theorem dX10_freeBy_0 : decode cX10_freeBy 0 = .ok (.iload_n 3, 1) := by decide +kernel
theorem dX10_freeBy_1 : decode cX10_freeBy 1 = .ok (.aload_n 0, 1) := by decide +kernel
theorem dX10_freeBy_2 : decode cX10_freeBy 2 = .ok (.iload_n 1, 1) := by decide +kernel
theorem dX10_freeBy_3 : decode cX10_freeBy 3 = .ok (.iload_n 2, 1) := by decide +kernel
theorem dX10_freeBy_4 : decode cX10_freeBy 4 = .ok (.invokevirtual 224, 3) := by decide +kernel
theorem dX10_freeBy_7 : decode cX10_freeBy 7 = .ok (.if_icmp .lt 8, 3) := by decide +kernel
theorem dX10_freeBy_10 : decode cX10_freeBy 10 = .ok (.ldc 129, 2) := by decide +kernel
theorem dX10_freeBy_12 : decode cX10_freeBy 12 = .ok (.goto 23, 3) := by decide +kernel
theorem dX10_freeBy_15 : decode cX10_freeBy 15 = .ok (.iload 4, 2) := by decide +kernel
theorem dX10_freeBy_17 : decode cX10_freeBy 17 = .ok (.ifCond .ne 12, 3) := by decide +kernel
theorem dX10_freeBy_20 : decode cX10_freeBy 20 = .ok (.aload_n 0, 1) := by decide +kernel
theorem dX10_freeBy_21 : decode cX10_freeBy 21 = .ok (.getfield 83, 3) := by decide +kernel
theorem dX10_freeBy_24 : decode cX10_freeBy 24 = .ok (.iload_n 3, 1) := by decide +kernel
theorem dX10_freeBy_25 : decode cX10_freeBy 25 = .ok (.iaload, 1) := by decide +kernel
theorem dX10_freeBy_26 : decode cX10_freeBy 26 = .ok (.goto 9, 3) := by decide +kernel
theorem dX10_freeBy_29 : decode cX10_freeBy 29 = .ok (.aload_n 0, 1) := by decide +kernel
theorem dX10_freeBy_30 : decode cX10_freeBy 30 = .ok (.getfield 86, 3) := by decide +kernel
theorem dX10_freeBy_33 : decode cX10_freeBy 33 = .ok (.iload_n 3, 1) := by decide +kernel
theorem dX10_freeBy_34 : decode cX10_freeBy 34 = .ok (.iaload, 1) := by decide +kernel
theorem dX10_freeBy_35 : decode cX10_freeBy 35 = .ok (.ireturn, 1) := by decide +kernel
theorem dX10_free_0 : decode cX10_free 0 = .ok (.aload_n 0, 1) := by decide +kernel
theorem dX10_free_1 : decode cX10_free 1 = .ok (.invokevirtual 188, 3) := by decide +kernel
theorem dX10_free_4 : decode cX10_free 4 = .ok (.iload_n 1, 1) := by decide +kernel
theorem dX10_free_5 : decode cX10_free 5 = .ok (.iload_n 2, 1) := by decide +kernel
theorem dX10_free_6 : decode cX10_free 6 = .ok (.invokestatic 148, 3) := by decide +kernel
theorem dX10_free_9 : decode cX10_free 9 = .ok (.ifCond .eq 35, 3) := by decide +kernel
theorem dX10_free_12 : decode cX10_free 12 = .ok (.iload_n 3, 1) := by decide +kernel
theorem dX10_free_13 : decode cX10_free 13 = .ok (.i2l, 1) := by decide +kernel
theorem dX10_free_14 : decode cX10_free 14 = .ok (.lconst 0, 1) := by decide +kernel
theorem dX10_free_15 : decode cX10_free 15 = .ok (.ldc2_w 230, 3) := by decide +kernel
theorem dX10_free_18 : decode cX10_free 18 = .ok (.invokestatic 101, 3) := by decide +kernel
theorem dX10_free_21 : decode cX10_free 21 = .ok (.ifCond .eq 23, 3) := by decide +kernel
theorem dX10_free_24 : decode cX10_free 24 = .ok (.iload 4, 2) := by decide +kernel
theorem dX10_free_26 : decode cX10_free 26 = .ok (.invokestatic 174, 3) := by decide +kernel
theorem dX10_free_29 : decode cX10_free 29 = .ok (.ifCond .eq 15, 3) := by decide +kernel
theorem dX10_free_32 : decode cX10_free 32 = .ok (.aload_n 0, 1) := by decide +kernel
theorem dX10_free_33 : decode cX10_free 33 = .ok (.iload_n 1, 1) := by decide +kernel
theorem dX10_free_34 : decode cX10_free 34 = .ok (.iload_n 2, 1) := by decide +kernel
theorem dX10_free_35 : decode cX10_free 35 = .ok (.iload_n 3, 1) := by decide +kernel
theorem dX10_free_36 : decode cX10_free 36 = .ok (.iload 4, 2) := by decide +kernel
theorem dX10_free_38 : decode cX10_free 38 = .ok (.invokevirtual 232, 3) := by decide +kernel
theorem dX10_free_41 : decode cX10_free 41 = .ok (.goto 5, 3) := by decide +kernel
theorem dX10_free_44 : decode cX10_free 44 = .ok (.ldc 129, 2) := by decide +kernel
theorem dX10_free_46 : decode cX10_free 46 = .ok (.ireturn, 1) := by decide +kernel
theorem dX10_isPlace_0 : decode cX10_isPlace 0 = .ok (.iload_n 1, 1) := by decide +kernel
theorem dX10_isPlace_1 : decode cX10_isPlace 1 = .ok (.ldc 235, 2) := by decide +kernel
theorem dX10_isPlace_3 : decode cX10_isPlace 3 = .ok (.if_icmp .lt 15, 3) := by decide +kernel
theorem dX10_isPlace_6 : decode cX10_isPlace 6 = .ok (.iload_n 1, 1) := by decide +kernel
theorem dX10_isPlace_7 : decode cX10_isPlace 7 = .ok (.ldc 236, 2) := by decide +kernel
theorem dX10_isPlace_9 : decode cX10_isPlace 9 = .ok (.iload_n 2, 1) := by decide +kernel
theorem dX10_isPlace_10 : decode cX10_isPlace 10 = .ok (.isub, 1) := by decide +kernel
theorem dX10_isPlace_11 : decode cX10_isPlace 11 = .ok (.if_icmp .gt 7, 3) := by decide +kernel
theorem dX10_isPlace_14 : decode cX10_isPlace 14 = .ok (.iconst 1, 1) := by decide +kernel
theorem dX10_isPlace_15 : decode cX10_isPlace 15 = .ok (.goto 4, 3) := by decide +kernel
theorem dX10_isPlace_18 : decode cX10_isPlace 18 = .ok (.iconst 0, 1) := by decide +kernel
theorem dX10_isPlace_19 : decode cX10_isPlace 19 = .ok (.istore_n 3, 1) := by decide +kernel
theorem dX10_isPlace_20 : decode cX10_isPlace 20 = .ok (.iconst 0, 1) := by decide +kernel
theorem dX10_isPlace_21 : decode cX10_isPlace 21 = .ok (.istore 4, 2) := by decide +kernel
theorem dX10_isPlace_23 : decode cX10_isPlace 23 = .ok (.iload 4, 2) := by decide +kernel
theorem dX10_isPlace_25 : decode cX10_isPlace 25 = .ok (.aload_n 0, 1) := by decide +kernel
theorem dX10_isPlace_26 : decode cX10_isPlace 26 = .ok (.getfield 142, 3) := by decide +kernel
theorem dX10_isPlace_29 : decode cX10_isPlace 29 = .ok (.if_icmp .ge 37, 3) := by decide +kernel
theorem dX10_isPlace_32 : decode cX10_isPlace 32 = .ok (.iload_n 3, 1) := by decide +kernel
theorem dX10_isPlace_33 : decode cX10_isPlace 33 = .ok (.ifCond .eq 33, 3) := by decide +kernel
theorem dX10_isPlace_36 : decode cX10_isPlace 36 = .ok (.aload_n 0, 1) := by decide +kernel
theorem dX10_isPlace_37 : decode cX10_isPlace 37 = .ok (.aload_n 0, 1) := by decide +kernel
theorem dX10_isPlace_38 : decode cX10_isPlace 38 = .ok (.getfield 44, 3) := by decide +kernel
theorem dX10_isPlace_41 : decode cX10_isPlace 41 = .ok (.iload 4, 2) := by decide +kernel
theorem dX10_isPlace_43 : decode cX10_isPlace 43 = .ok (.iaload, 1) := by decide +kernel
theorem dX10_isPlace_44 : decode cX10_isPlace 44 = .ok (.iload_n 1, 1) := by decide +kernel
theorem dX10_isPlace_45 : decode cX10_isPlace 45 = .ok (.iload_n 1, 1) := by decide +kernel
theorem dX10_isPlace_46 : decode cX10_isPlace 46 = .ok (.iload_n 2, 1) := by decide +kernel
theorem dX10_isPlace_47 : decode cX10_isPlace 47 = .ok (.iadd, 1) := by decide +kernel
theorem dX10_isPlace_48 : decode cX10_isPlace 48 = .ok (.invokevirtual 215, 3) := by decide +kernel
theorem dX10_isPlace_51 : decode cX10_isPlace 51 = .ok (.ifCond .ne 7, 3) := by decide +kernel
theorem dX10_isPlace_54 : decode cX10_isPlace 54 = .ok (.iconst 1, 1) := by decide +kernel
theorem dX10_isPlace_55 : decode cX10_isPlace 55 = .ok (.goto 4, 3) := by decide +kernel
theorem dX10_isPlace_58 : decode cX10_isPlace 58 = .ok (.iconst 0, 1) := by decide +kernel
theorem dX10_isPlace_59 : decode cX10_isPlace 59 = .ok (.istore_n 3, 1) := by decide +kernel
theorem dX10_isPlace_60 : decode cX10_isPlace 60 = .ok (.iinc 4 1, 3) := by decide +kernel
theorem dX10_isPlace_63 : decode cX10_isPlace 63 = .ok (.goto (-40), 3) := by decide +kernel
theorem dX10_isPlace_66 : decode cX10_isPlace 66 = .ok (.iload_n 3, 1) := by decide +kernel
theorem dX10_isPlace_67 : decode cX10_isPlace 67 = .ok (.ireturn, 1) := by decide +kernel
theorem dX10_far_0 : decode cX10_far 0 = .ok (.iload_n 0, 1) := by decide +kernel
theorem dX10_far_1 : decode cX10_far 1 = .ok (.iload_n 1, 1) := by decide +kernel
theorem dX10_far_2 : decode cX10_far 2 = .ok (.if_icmp .ge 9, 3) := by decide +kernel
theorem dX10_far_5 : decode cX10_far 5 = .ok (.iload_n 1, 1) := by decide +kernel
theorem dX10_far_6 : decode cX10_far 6 = .ok (.iload_n 0, 1) := by decide +kernel
theorem dX10_far_7 : decode cX10_far 7 = .ok (.isub, 1) := by decide +kernel
theorem dX10_far_8 : decode cX10_far 8 = .ok (.goto 6, 3) := by decide +kernel
theorem dX10_far_11 : decode cX10_far 11 = .ok (.iload_n 0, 1) := by decide +kernel
theorem dX10_far_12 : decode cX10_far 12 = .ok (.iload_n 1, 1) := by decide +kernel
theorem dX10_far_13 : decode cX10_far 13 = .ok (.isub, 1) := by decide +kernel
theorem dX10_far_14 : decode cX10_far 14 = .ok (.ireturn, 1) := by decide +kernel
theorem dX10_isNearer_0 : decode cX10_isNearer 0 = .ok (.iload_n 0, 1) := by decide +kernel
theorem dX10_isNearer_1 : decode cX10_isNearer 1 = .ok (.iload_n 2, 1) := by decide +kernel
theorem dX10_isNearer_2 : decode cX10_isNearer 2 = .ok (.invokestatic 237, 3) := by decide +kernel
theorem dX10_isNearer_5 : decode cX10_isNearer 5 = .ok (.iload_n 1, 1) := by decide +kernel
theorem dX10_isNearer_6 : decode cX10_isNearer 6 = .ok (.iload_n 2, 1) := by decide +kernel
theorem dX10_isNearer_7 : decode cX10_isNearer 7 = .ok (.invokestatic 237, 3) := by decide +kernel
theorem dX10_isNearer_10 : decode cX10_isNearer 10 = .ok (.if_icmp .lt 21, 3) := by decide +kernel
theorem dX10_isNearer_13 : decode cX10_isNearer 13 = .ok (.iload_n 0, 1) := by decide +kernel
theorem dX10_isNearer_14 : decode cX10_isNearer 14 = .ok (.iload_n 2, 1) := by decide +kernel
theorem dX10_isNearer_15 : decode cX10_isNearer 15 = .ok (.invokestatic 237, 3) := by decide +kernel
theorem dX10_isNearer_18 : decode cX10_isNearer 18 = .ok (.iload_n 1, 1) := by decide +kernel
theorem dX10_isNearer_19 : decode cX10_isNearer 19 = .ok (.iload_n 2, 1) := by decide +kernel
theorem dX10_isNearer_20 : decode cX10_isNearer 20 = .ok (.invokestatic 237, 3) := by decide +kernel
theorem dX10_isNearer_23 : decode cX10_isNearer 23 = .ok (.if_icmp .ne 12, 3) := by decide +kernel
theorem dX10_isNearer_26 : decode cX10_isNearer 26 = .ok (.iload_n 0, 1) := by decide +kernel
theorem dX10_isNearer_27 : decode cX10_isNearer 27 = .ok (.iload_n 1, 1) := by decide +kernel
theorem dX10_isNearer_28 : decode cX10_isNearer 28 = .ok (.if_icmp .ge 7, 3) := by decide +kernel
theorem dX10_isNearer_31 : decode cX10_isNearer 31 = .ok (.iconst 1, 1) := by decide +kernel
theorem dX10_isNearer_32 : decode cX10_isNearer 32 = .ok (.goto 4, 3) := by decide +kernel
theorem dX10_isNearer_35 : decode cX10_isNearer 35 = .ok (.iconst 0, 1) := by decide +kernel
theorem dX10_isNearer_36 : decode cX10_isNearer 36 = .ok (.ireturn, 1) := by decide +kernel
theorem dX10_better_0 : decode cX10_better 0 = .ok (.aload_n 0, 1) := by decide +kernel
theorem dX10_better_1 : decode cX10_better 1 = .ok (.iload_n 2, 1) := by decide +kernel
theorem dX10_better_2 : decode cX10_better 2 = .ok (.iload 4, 2) := by decide +kernel
theorem dX10_better_4 : decode cX10_better 4 = .ok (.invokevirtual 240, 3) := by decide +kernel
theorem dX10_better_7 : decode cX10_better 7 = .ok (.ifCond .eq 34, 3) := by decide +kernel
theorem dX10_better_10 : decode cX10_better 10 = .ok (.iload 5, 2) := by decide +kernel
theorem dX10_better_12 : decode cX10_better 12 = .ok (.iconst 2, 1) := by decide +kernel
theorem dX10_better_13 : decode cX10_better 13 = .ok (.if_icmp .eq 24, 3) := by decide +kernel
theorem dX10_better_16 : decode cX10_better 16 = .ok (.iload 5, 2) := by decide +kernel
theorem dX10_better_18 : decode cX10_better 18 = .ok (.ifCond .ne 11, 3) := by decide +kernel
theorem dX10_better_21 : decode cX10_better 21 = .ok (.iload_n 2, 1) := by decide +kernel
theorem dX10_better_22 : decode cX10_better 22 = .ok (.iload_n 3, 1) := by decide +kernel
theorem dX10_better_23 : decode cX10_better 23 = .ok (.if_icmp .lt 18, 3) := by decide +kernel
theorem dX10_better_26 : decode cX10_better 26 = .ok (.goto 11, 3) := by decide +kernel
theorem dX10_better_29 : decode cX10_better 29 = .ok (.iload_n 2, 1) := by decide +kernel
theorem dX10_better_30 : decode cX10_better 30 = .ok (.iload_n 3, 1) := by decide +kernel
theorem dX10_better_31 : decode cX10_better 31 = .ok (.iload 4, 2) := by decide +kernel
theorem dX10_better_33 : decode cX10_better 33 = .ok (.isub, 1) := by decide +kernel
theorem dX10_better_34 : decode cX10_better 34 = .ok (.if_icmp .gt 7, 3) := by decide +kernel
theorem dX10_better_37 : decode cX10_better 37 = .ok (.iconst 1, 1) := by decide +kernel
theorem dX10_better_38 : decode cX10_better 38 = .ok (.goto 4, 3) := by decide +kernel
theorem dX10_better_41 : decode cX10_better 41 = .ok (.iconst 0, 1) := by decide +kernel
theorem dX10_better_42 : decode cX10_better 42 = .ok (.istore 6, 2) := by decide +kernel
theorem dX10_better_44 : decode cX10_better 44 = .ok (.iload 6, 2) := by decide +kernel
theorem dX10_better_46 : decode cX10_better 46 = .ok (.ifCond .eq 22, 3) := by decide +kernel
theorem dX10_better_49 : decode cX10_better 49 = .ok (.iload_n 1, 1) := by decide +kernel
theorem dX10_better_50 : decode cX10_better 50 = .ok (.ldc 129, 2) := by decide +kernel
theorem dX10_better_52 : decode cX10_better 52 = .ok (.if_icmp .eq 12, 3) := by decide +kernel
theorem dX10_better_55 : decode cX10_better 55 = .ok (.iload_n 2, 1) := by decide +kernel
theorem dX10_better_56 : decode cX10_better 56 = .ok (.iload_n 1, 1) := by decide +kernel
theorem dX10_better_57 : decode cX10_better 57 = .ok (.iload_n 3, 1) := by decide +kernel
theorem dX10_better_58 : decode cX10_better 58 = .ok (.invokestatic 243, 3) := by decide +kernel
theorem dX10_better_61 : decode cX10_better 61 = .ok (.ifCond .eq 7, 3) := by decide +kernel
theorem dX10_better_64 : decode cX10_better 64 = .ok (.iload_n 2, 1) := by decide +kernel
theorem dX10_better_65 : decode cX10_better 65 = .ok (.goto 4, 3) := by decide +kernel
theorem dX10_better_68 : decode cX10_better 68 = .ok (.iload_n 1, 1) := by decide +kernel
theorem dX10_better_69 : decode cX10_better 69 = .ok (.ireturn, 1) := by decide +kernel
theorem dX10_placeBy_0 : decode cX10_placeBy 0 = .ok (.aload_n 0, 1) := by decide +kernel
theorem dX10_placeBy_1 : decode cX10_placeBy 1 = .ok (.ldc 129, 2) := by decide +kernel
theorem dX10_placeBy_3 : decode cX10_placeBy 3 = .ok (.iload_n 3, 1) := by decide +kernel
theorem dX10_placeBy_4 : decode cX10_placeBy 4 = .ok (.iconst 1, 1) := by decide +kernel
theorem dX10_placeBy_5 : decode cX10_placeBy 5 = .ok (.if_icmp .ne 9, 3) := by decide +kernel
theorem dX10_placeBy_8 : decode cX10_placeBy 8 = .ok (.iload_n 1, 1) := by decide +kernel
theorem dX10_placeBy_9 : decode cX10_placeBy 9 = .ok (.iload_n 2, 1) := by decide +kernel
theorem dX10_placeBy_10 : decode cX10_placeBy 10 = .ok (.isub, 1) := by decide +kernel
theorem dX10_placeBy_11 : decode cX10_placeBy 11 = .ok (.goto 4, 3) := by decide +kernel
theorem dX10_placeBy_14 : decode cX10_placeBy 14 = .ok (.iload_n 1, 1) := by decide +kernel
theorem dX10_placeBy_15 : decode cX10_placeBy 15 = .ok (.iload_n 1, 1) := by decide +kernel
theorem dX10_placeBy_16 : decode cX10_placeBy 16 = .ok (.iload_n 2, 1) := by decide +kernel
theorem dX10_placeBy_17 : decode cX10_placeBy 17 = .ok (.iload_n 3, 1) := by decide +kernel
theorem dX10_placeBy_18 : decode cX10_placeBy 18 = .ok (.invokevirtual 246, 3) := by decide +kernel
theorem dX10_placeBy_21 : decode cX10_placeBy 21 = .ok (.istore 4, 2) := by decide +kernel
theorem dX10_placeBy_23 : decode cX10_placeBy 23 = .ok (.aload_n 0, 1) := by decide +kernel
theorem dX10_placeBy_24 : decode cX10_placeBy 24 = .ok (.iload 4, 2) := by decide +kernel
theorem dX10_placeBy_26 : decode cX10_placeBy 26 = .ok (.ldc 235, 2) := by decide +kernel
theorem dX10_placeBy_28 : decode cX10_placeBy 28 = .ok (.iload_n 1, 1) := by decide +kernel
theorem dX10_placeBy_29 : decode cX10_placeBy 29 = .ok (.iload_n 2, 1) := by decide +kernel
theorem dX10_placeBy_30 : decode cX10_placeBy 30 = .ok (.iload_n 3, 1) := by decide +kernel
theorem dX10_placeBy_31 : decode cX10_placeBy 31 = .ok (.invokevirtual 246, 3) := by decide +kernel
theorem dX10_placeBy_34 : decode cX10_placeBy 34 = .ok (.istore 4, 2) := by decide +kernel
theorem dX10_placeBy_36 : decode cX10_placeBy 36 = .ok (.aload_n 0, 1) := by decide +kernel
theorem dX10_placeBy_37 : decode cX10_placeBy 37 = .ok (.iload 4, 2) := by decide +kernel
theorem dX10_placeBy_39 : decode cX10_placeBy 39 = .ok (.ldc 236, 2) := by decide +kernel
theorem dX10_placeBy_41 : decode cX10_placeBy 41 = .ok (.iload_n 2, 1) := by decide +kernel
theorem dX10_placeBy_42 : decode cX10_placeBy 42 = .ok (.isub, 1) := by decide +kernel
theorem dX10_placeBy_43 : decode cX10_placeBy 43 = .ok (.iload_n 1, 1) := by decide +kernel
theorem dX10_placeBy_44 : decode cX10_placeBy 44 = .ok (.iload_n 2, 1) := by decide +kernel
theorem dX10_placeBy_45 : decode cX10_placeBy 45 = .ok (.iload_n 3, 1) := by decide +kernel
theorem dX10_placeBy_46 : decode cX10_placeBy 46 = .ok (.invokevirtual 246, 3) := by decide +kernel
theorem dX10_placeBy_49 : decode cX10_placeBy 49 = .ok (.istore 4, 2) := by decide +kernel
theorem dX10_placeBy_51 : decode cX10_placeBy 51 = .ok (.iconst 0, 1) := by decide +kernel
theorem dX10_placeBy_52 : decode cX10_placeBy 52 = .ok (.istore 5, 2) := by decide +kernel
theorem dX10_placeBy_54 : decode cX10_placeBy 54 = .ok (.iload 5, 2) := by decide +kernel
theorem dX10_placeBy_56 : decode cX10_placeBy 56 = .ok (.aload_n 0, 1) := by decide +kernel
theorem dX10_placeBy_57 : decode cX10_placeBy 57 = .ok (.getfield 142, 3) := by decide +kernel
theorem dX10_placeBy_60 : decode cX10_placeBy 60 = .ok (.if_icmp .ge 57, 3) := by decide +kernel
theorem dX10_placeBy_63 : decode cX10_placeBy 63 = .ok (.aload_n 0, 1) := by decide +kernel
theorem dX10_placeBy_64 : decode cX10_placeBy 64 = .ok (.iload 4, 2) := by decide +kernel
theorem dX10_placeBy_66 : decode cX10_placeBy 66 = .ok (.aload_n 0, 1) := by decide +kernel
theorem dX10_placeBy_67 : decode cX10_placeBy 67 = .ok (.getfield 29, 3) := by decide +kernel
theorem dX10_placeBy_70 : decode cX10_placeBy 70 = .ok (.aload_n 0, 1) := by decide +kernel
theorem dX10_placeBy_71 : decode cX10_placeBy 71 = .ok (.getfield 44, 3) := by decide +kernel
theorem dX10_placeBy_74 : decode cX10_placeBy 74 = .ok (.iload 5, 2) := by decide +kernel
theorem dX10_placeBy_76 : decode cX10_placeBy 76 = .ok (.iaload, 1) := by decide +kernel
theorem dX10_placeBy_77 : decode cX10_placeBy 77 = .ok (.iaload, 1) := by decide +kernel
theorem dX10_placeBy_78 : decode cX10_placeBy 78 = .ok (.iload_n 1, 1) := by decide +kernel
theorem dX10_placeBy_79 : decode cX10_placeBy 79 = .ok (.iload_n 2, 1) := by decide +kernel
theorem dX10_placeBy_80 : decode cX10_placeBy 80 = .ok (.iload_n 3, 1) := by decide +kernel
theorem dX10_placeBy_81 : decode cX10_placeBy 81 = .ok (.invokevirtual 246, 3) := by decide +kernel
theorem dX10_placeBy_84 : decode cX10_placeBy 84 = .ok (.istore 4, 2) := by decide +kernel
theorem dX10_placeBy_86 : decode cX10_placeBy 86 = .ok (.aload_n 0, 1) := by decide +kernel
theorem dX10_placeBy_87 : decode cX10_placeBy 87 = .ok (.iload 4, 2) := by decide +kernel
theorem dX10_placeBy_89 : decode cX10_placeBy 89 = .ok (.aload_n 0, 1) := by decide +kernel
theorem dX10_placeBy_90 : decode cX10_placeBy 90 = .ok (.getfield 26, 3) := by decide +kernel
theorem dX10_placeBy_93 : decode cX10_placeBy 93 = .ok (.aload_n 0, 1) := by decide +kernel
theorem dX10_placeBy_94 : decode cX10_placeBy 94 = .ok (.getfield 44, 3) := by decide +kernel
theorem dX10_placeBy_97 : decode cX10_placeBy 97 = .ok (.iload 5, 2) := by decide +kernel
theorem dX10_placeBy_99 : decode cX10_placeBy 99 = .ok (.iaload, 1) := by decide +kernel
theorem dX10_placeBy_100 : decode cX10_placeBy 100 = .ok (.iaload, 1) := by decide +kernel
theorem dX10_placeBy_101 : decode cX10_placeBy 101 = .ok (.iload_n 2, 1) := by decide +kernel
theorem dX10_placeBy_102 : decode cX10_placeBy 102 = .ok (.isub, 1) := by decide +kernel
theorem dX10_placeBy_103 : decode cX10_placeBy 103 = .ok (.iload_n 1, 1) := by decide +kernel
theorem dX10_placeBy_104 : decode cX10_placeBy 104 = .ok (.iload_n 2, 1) := by decide +kernel
theorem dX10_placeBy_105 : decode cX10_placeBy 105 = .ok (.iload_n 3, 1) := by decide +kernel
theorem dX10_placeBy_106 : decode cX10_placeBy 106 = .ok (.invokevirtual 246, 3) := by decide +kernel
theorem dX10_placeBy_109 : decode cX10_placeBy 109 = .ok (.istore 4, 2) := by decide +kernel
theorem dX10_placeBy_111 : decode cX10_placeBy 111 = .ok (.iinc 5 1, 3) := by decide +kernel
theorem dX10_placeBy_114 : decode cX10_placeBy 114 = .ok (.goto (-60), 3) := by decide +kernel
theorem dX10_placeBy_117 : decode cX10_placeBy 117 = .ok (.iload 4, 2) := by decide +kernel
theorem dX10_placeBy_119 : decode cX10_placeBy 119 = .ok (.ireturn, 1) := by decide +kernel
theorem dX10_place_0 : decode cX10_place 0 = .ok (.aload_n 0, 1) := by decide +kernel
theorem dX10_place_1 : decode cX10_place 1 = .ok (.invokevirtual 188, 3) := by decide +kernel
theorem dX10_place_4 : decode cX10_place 4 = .ok (.iload_n 1, 1) := by decide +kernel
theorem dX10_place_5 : decode cX10_place 5 = .ok (.invokestatic 136, 3) := by decide +kernel
theorem dX10_place_8 : decode cX10_place 8 = .ok (.ifCond .eq 37, 3) := by decide +kernel
theorem dX10_place_11 : decode cX10_place 11 = .ok (.iload_n 2, 1) := by decide +kernel
theorem dX10_place_12 : decode cX10_place 12 = .ok (.i2l, 1) := by decide +kernel
theorem dX10_place_13 : decode cX10_place 13 = .ok (.lconst 1, 1) := by decide +kernel
theorem dX10_place_14 : decode cX10_place 14 = .ok (.ldc2_w 134, 3) := by decide +kernel
theorem dX10_place_17 : decode cX10_place 17 = .ok (.invokestatic 101, 3) := by decide +kernel
theorem dX10_place_20 : decode cX10_place 20 = .ok (.ifCond .eq 25, 3) := by decide +kernel
theorem dX10_place_23 : decode cX10_place 23 = .ok (.iload_n 3, 1) := by decide +kernel
theorem dX10_place_24 : decode cX10_place 24 = .ok (.i2l, 1) := by decide +kernel
theorem dX10_place_25 : decode cX10_place 25 = .ok (.lconst 0, 1) := by decide +kernel
theorem dX10_place_26 : decode cX10_place 26 = .ok (.ldc2_w 115, 3) := by decide +kernel
theorem dX10_place_29 : decode cX10_place 29 = .ok (.invokestatic 101, 3) := by decide +kernel
theorem dX10_place_32 : decode cX10_place 32 = .ok (.ifCond .eq 13, 3) := by decide +kernel
theorem dX10_place_35 : decode cX10_place 35 = .ok (.aload_n 0, 1) := by decide +kernel
theorem dX10_place_36 : decode cX10_place 36 = .ok (.iload_n 1, 1) := by decide +kernel
theorem dX10_place_37 : decode cX10_place 37 = .ok (.iload_n 2, 1) := by decide +kernel
theorem dX10_place_38 : decode cX10_place 38 = .ok (.iload_n 3, 1) := by decide +kernel
theorem dX10_place_39 : decode cX10_place 39 = .ok (.invokevirtual 250, 3) := by decide +kernel
theorem dX10_place_42 : decode cX10_place 42 = .ok (.goto 5, 3) := by decide +kernel
theorem dX10_place_45 : decode cX10_place 45 = .ok (.ldc 129, 2) := by decide +kernel
theorem dX10_place_47 : decode cX10_place 47 = .ok (.ireturn, 1) := by decide +kernel
theorem dX10_deepest_0 : decode cX10_deepest 0 = .ok (.iconst 0, 1) := by decide +kernel
theorem dX10_deepest_1 : decode cX10_deepest 1 = .ok (.istore_n 2, 1) := by decide +kernel
theorem dX10_deepest_2 : decode cX10_deepest 2 = .ok (.ldc 129, 2) := by decide +kernel
theorem dX10_deepest_4 : decode cX10_deepest 4 = .ok (.istore_n 3, 1) := by decide +kernel
theorem dX10_deepest_5 : decode cX10_deepest 5 = .ok (.iconst 0, 1) := by decide +kernel
theorem dX10_deepest_6 : decode cX10_deepest 6 = .ok (.istore 4, 2) := by decide +kernel
theorem dX10_deepest_8 : decode cX10_deepest 8 = .ok (.iload 4, 2) := by decide +kernel
theorem dX10_deepest_10 : decode cX10_deepest 10 = .ok (.aload_n 0, 1) := by decide +kernel
theorem dX10_deepest_11 : decode cX10_deepest 11 = .ok (.getfield 142, 3) := by decide +kernel
theorem dX10_deepest_14 : decode cX10_deepest 14 = .ok (.if_icmp .ge 56, 3) := by decide +kernel
theorem dX10_deepest_17 : decode cX10_deepest 17 = .ok (.aload_n 0, 1) := by decide +kernel
theorem dX10_deepest_18 : decode cX10_deepest 18 = .ok (.getfield 26, 3) := by decide +kernel
theorem dX10_deepest_21 : decode cX10_deepest 21 = .ok (.aload_n 0, 1) := by decide +kernel
theorem dX10_deepest_22 : decode cX10_deepest 22 = .ok (.getfield 44, 3) := by decide +kernel
theorem dX10_deepest_25 : decode cX10_deepest 25 = .ok (.iload 4, 2) := by decide +kernel
theorem dX10_deepest_27 : decode cX10_deepest 27 = .ok (.iaload, 1) := by decide +kernel
theorem dX10_deepest_28 : decode cX10_deepest 28 = .ok (.iaload, 1) := by decide +kernel
theorem dX10_deepest_29 : decode cX10_deepest 29 = .ok (.istore 5, 2) := by decide +kernel
theorem dX10_deepest_31 : decode cX10_deepest 31 = .ok (.aload_n 0, 1) := by decide +kernel
theorem dX10_deepest_32 : decode cX10_deepest 32 = .ok (.iload 5, 2) := by decide +kernel
theorem dX10_deepest_34 : decode cX10_deepest 34 = .ok (.iload 5, 2) := by decide +kernel
theorem dX10_deepest_36 : decode cX10_deepest 36 = .ok (.iconst 1, 1) := by decide +kernel
theorem dX10_deepest_37 : decode cX10_deepest 37 = .ok (.iadd, 1) := by decide +kernel
theorem dX10_deepest_38 : decode cX10_deepest 38 = .ok (.iconst (-1), 1) := by decide +kernel
theorem dX10_deepest_39 : decode cX10_deepest 39 = .ok (.invokevirtual 221, 3) := by decide +kernel
theorem dX10_deepest_42 : decode cX10_deepest 42 = .ok (.istore 6, 2) := by decide +kernel
theorem dX10_deepest_44 : decode cX10_deepest 44 = .ok (.iload 6, 2) := by decide +kernel
theorem dX10_deepest_46 : decode cX10_deepest 46 = .ok (.iload_n 2, 1) := by decide +kernel
theorem dX10_deepest_47 : decode cX10_deepest 47 = .ok (.if_icmp .le 8, 3) := by decide +kernel
theorem dX10_deepest_50 : decode cX10_deepest 50 = .ok (.iload 5, 2) := by decide +kernel
theorem dX10_deepest_52 : decode cX10_deepest 52 = .ok (.goto 4, 3) := by decide +kernel
theorem dX10_deepest_55 : decode cX10_deepest 55 = .ok (.iload_n 3, 1) := by decide +kernel
theorem dX10_deepest_56 : decode cX10_deepest 56 = .ok (.istore_n 3, 1) := by decide +kernel
theorem dX10_deepest_57 : decode cX10_deepest 57 = .ok (.iload 6, 2) := by decide +kernel
theorem dX10_deepest_59 : decode cX10_deepest 59 = .ok (.iload_n 2, 1) := by decide +kernel
theorem dX10_deepest_60 : decode cX10_deepest 60 = .ok (.invokestatic 198, 3) := by decide +kernel
theorem dX10_deepest_63 : decode cX10_deepest 63 = .ok (.istore_n 2, 1) := by decide +kernel
theorem dX10_deepest_64 : decode cX10_deepest 64 = .ok (.iinc 4 1, 3) := by decide +kernel
theorem dX10_deepest_67 : decode cX10_deepest 67 = .ok (.goto (-59), 3) := by decide +kernel
theorem dX10_deepest_70 : decode cX10_deepest 70 = .ok (.iload_n 1, 1) := by decide +kernel
theorem dX10_deepest_71 : decode cX10_deepest 71 = .ok (.ifCond .ne 7, 3) := by decide +kernel
theorem dX10_deepest_74 : decode cX10_deepest 74 = .ok (.iload_n 2, 1) := by decide +kernel
theorem dX10_deepest_75 : decode cX10_deepest 75 = .ok (.goto 4, 3) := by decide +kernel
theorem dX10_deepest_78 : decode cX10_deepest 78 = .ok (.iload_n 3, 1) := by decide +kernel
theorem dX10_deepest_79 : decode cX10_deepest 79 = .ok (.ireturn, 1) := by decide +kernel
theorem dX10_deep_0 : decode cX10_deep 0 = .ok (.aload_n 0, 1) := by decide +kernel
theorem dX10_deep_1 : decode cX10_deep 1 = .ok (.invokevirtual 188, 3) := by decide +kernel
theorem dX10_deep_4 : decode cX10_deep 4 = .ok (.aload_n 0, 1) := by decide +kernel
theorem dX10_deep_5 : decode cX10_deep 5 = .ok (.iconst 0, 1) := by decide +kernel
theorem dX10_deep_6 : decode cX10_deep 6 = .ok (.invokevirtual 253, 3) := by decide +kernel
theorem dX10_deep_9 : decode cX10_deep 9 = .ok (.ireturn, 1) := by decide +kernel
theorem dX10_point_0 : decode cX10_point 0 = .ok (.aload_n 0, 1) := by decide +kernel
theorem dX10_point_1 : decode cX10_point 1 = .ok (.invokevirtual 188, 3) := by decide +kernel
theorem dX10_point_4 : decode cX10_point 4 = .ok (.aload_n 0, 1) := by decide +kernel
theorem dX10_point_5 : decode cX10_point 5 = .ok (.iconst 1, 1) := by decide +kernel
theorem dX10_point_6 : decode cX10_point 6 = .ok (.invokevirtual 253, 3) := by decide +kernel
theorem dX10_point_9 : decode cX10_point 9 = .ok (.ireturn, 1) := by decide +kernel
theorem dX10_meetsRank_0 : decode cX10_meetsRank 0 = .ok (.aload_n 0, 1) := by decide +kernel
theorem dX10_meetsRank_1 : decode cX10_meetsRank 1 = .ok (.aload_n 0, 1) := by decide +kernel
theorem dX10_meetsRank_2 : decode cX10_meetsRank 2 = .ok (.getfield 44, 3) := by decide +kernel
theorem dX10_meetsRank_5 : decode cX10_meetsRank 5 = .ok (.iload_n 1, 1) := by decide +kernel
theorem dX10_meetsRank_6 : decode cX10_meetsRank 6 = .ok (.iaload, 1) := by decide +kernel
theorem dX10_meetsRank_7 : decode cX10_meetsRank 7 = .ok (.aload_n 0, 1) := by decide +kernel
theorem dX10_meetsRank_8 : decode cX10_meetsRank 8 = .ok (.getfield 26, 3) := by decide +kernel
theorem dX10_meetsRank_11 : decode cX10_meetsRank 11 = .ok (.aload_n 0, 1) := by decide +kernel
theorem dX10_meetsRank_12 : decode cX10_meetsRank 12 = .ok (.getfield 44, 3) := by decide +kernel
theorem dX10_meetsRank_15 : decode cX10_meetsRank 15 = .ok (.iload_n 2, 1) := by decide +kernel
theorem dX10_meetsRank_16 : decode cX10_meetsRank 16 = .ok (.iaload, 1) := by decide +kernel
theorem dX10_meetsRank_17 : decode cX10_meetsRank 17 = .ok (.iaload, 1) := by decide +kernel
theorem dX10_meetsRank_18 : decode cX10_meetsRank 18 = .ok (.aload_n 0, 1) := by decide +kernel
theorem dX10_meetsRank_19 : decode cX10_meetsRank 19 = .ok (.getfield 29, 3) := by decide +kernel
theorem dX10_meetsRank_22 : decode cX10_meetsRank 22 = .ok (.aload_n 0, 1) := by decide +kernel
theorem dX10_meetsRank_23 : decode cX10_meetsRank 23 = .ok (.getfield 44, 3) := by decide +kernel
theorem dX10_meetsRank_26 : decode cX10_meetsRank 26 = .ok (.iload_n 2, 1) := by decide +kernel
theorem dX10_meetsRank_27 : decode cX10_meetsRank 27 = .ok (.iaload, 1) := by decide +kernel
theorem dX10_meetsRank_28 : decode cX10_meetsRank 28 = .ok (.iaload, 1) := by decide +kernel
theorem dX10_meetsRank_29 : decode cX10_meetsRank 29 = .ok (.invokevirtual 215, 3) := by decide +kernel
theorem dX10_meetsRank_32 : decode cX10_meetsRank 32 = .ok (.ireturn, 1) := by decide +kernel
theorem dX10_isUsed_0 : decode cX10_isUsed 0 = .ok (.iconst 0, 1) := by decide +kernel
theorem dX10_isUsed_1 : decode cX10_isUsed 1 = .ok (.istore_n 3, 1) := by decide +kernel
theorem dX10_isUsed_2 : decode cX10_isUsed 2 = .ok (.iconst 0, 1) := by decide +kernel
theorem dX10_isUsed_3 : decode cX10_isUsed 3 = .ok (.istore 4, 2) := by decide +kernel
theorem dX10_isUsed_5 : decode cX10_isUsed 5 = .ok (.iload 4, 2) := by decide +kernel
theorem dX10_isUsed_7 : decode cX10_isUsed 7 = .ok (.iload_n 1, 1) := by decide +kernel
theorem dX10_isUsed_8 : decode cX10_isUsed 8 = .ok (.if_icmp .ge 40, 3) := by decide +kernel
theorem dX10_isUsed_11 : decode cX10_isUsed 11 = .ok (.iload_n 3, 1) := by decide +kernel
theorem dX10_isUsed_12 : decode cX10_isUsed 12 = .ok (.ifCond .ne 24, 3) := by decide +kernel
theorem dX10_isUsed_15 : decode cX10_isUsed 15 = .ok (.aload_n 0, 1) := by decide +kernel
theorem dX10_isUsed_16 : decode cX10_isUsed 16 = .ok (.getfield 89, 3) := by decide +kernel
theorem dX10_isUsed_19 : decode cX10_isUsed 19 = .ok (.iload 4, 2) := by decide +kernel
theorem dX10_isUsed_21 : decode cX10_isUsed 21 = .ok (.iaload, 1) := by decide +kernel
theorem dX10_isUsed_22 : decode cX10_isUsed 22 = .ok (.iload_n 2, 1) := by decide +kernel
theorem dX10_isUsed_23 : decode cX10_isUsed 23 = .ok (.if_icmp .ne 17, 3) := by decide +kernel
theorem dX10_isUsed_26 : decode cX10_isUsed 26 = .ok (.aload_n 0, 1) := by decide +kernel
theorem dX10_isUsed_27 : decode cX10_isUsed 27 = .ok (.iload 4, 2) := by decide +kernel
theorem dX10_isUsed_29 : decode cX10_isUsed 29 = .ok (.iload_n 1, 1) := by decide +kernel
theorem dX10_isUsed_30 : decode cX10_isUsed 30 = .ok (.invokevirtual 256, 3) := by decide +kernel
theorem dX10_isUsed_33 : decode cX10_isUsed 33 = .ok (.ifCond .eq 7, 3) := by decide +kernel
theorem dX10_isUsed_36 : decode cX10_isUsed 36 = .ok (.iconst 1, 1) := by decide +kernel
theorem dX10_isUsed_37 : decode cX10_isUsed 37 = .ok (.goto 4, 3) := by decide +kernel
theorem dX10_isUsed_40 : decode cX10_isUsed 40 = .ok (.iconst 0, 1) := by decide +kernel
theorem dX10_isUsed_41 : decode cX10_isUsed 41 = .ok (.istore_n 3, 1) := by decide +kernel
theorem dX10_isUsed_42 : decode cX10_isUsed 42 = .ok (.iinc 4 1, 3) := by decide +kernel
theorem dX10_isUsed_45 : decode cX10_isUsed 45 = .ok (.goto (-40), 3) := by decide +kernel
theorem dX10_isUsed_48 : decode cX10_isUsed 48 = .ok (.iload_n 3, 1) := by decide +kernel
theorem dX10_isUsed_49 : decode cX10_isUsed 49 = .ok (.ireturn, 1) := by decide +kernel
theorem dX10_gives_0 : decode cX10_gives 0 = .ok (.iconst 0, 1) := by decide +kernel
theorem dX10_gives_1 : decode cX10_gives 1 = .ok (.istore_n 1, 1) := by decide +kernel
theorem dX10_gives_2 : decode cX10_gives 2 = .ok (.iconst 0, 1) := by decide +kernel
theorem dX10_gives_3 : decode cX10_gives 3 = .ok (.istore_n 2, 1) := by decide +kernel
theorem dX10_gives_4 : decode cX10_gives 4 = .ok (.iload_n 2, 1) := by decide +kernel
theorem dX10_gives_5 : decode cX10_gives 5 = .ok (.aload_n 0, 1) := by decide +kernel
theorem dX10_gives_6 : decode cX10_gives 6 = .ok (.getfield 142, 3) := by decide +kernel
theorem dX10_gives_9 : decode cX10_gives 9 = .ok (.if_icmp .ge 56, 3) := by decide +kernel
theorem dX10_gives_12 : decode cX10_gives 12 = .ok (.aload_n 0, 1) := by decide +kernel
theorem dX10_gives_13 : decode cX10_gives 13 = .ok (.getfield 89, 3) := by decide +kernel
theorem dX10_gives_16 : decode cX10_gives 16 = .ok (.iload_n 2, 1) := by decide +kernel
theorem dX10_gives_17 : decode cX10_gives 17 = .ok (.iconst 0, 1) := by decide +kernel
theorem dX10_gives_18 : decode cX10_gives 18 = .ok (.iastore, 1) := by decide +kernel
theorem dX10_gives_19 : decode cX10_gives 19 = .ok (.aload_n 0, 1) := by decide +kernel
theorem dX10_gives_20 : decode cX10_gives 20 = .ok (.iload_n 2, 1) := by decide +kernel
theorem dX10_gives_21 : decode cX10_gives 21 = .ok (.aload_n 0, 1) := by decide +kernel
theorem dX10_gives_22 : decode cX10_gives 22 = .ok (.getfield 89, 3) := by decide +kernel
theorem dX10_gives_25 : decode cX10_gives 25 = .ok (.iload_n 2, 1) := by decide +kernel
theorem dX10_gives_26 : decode cX10_gives 26 = .ok (.iaload, 1) := by decide +kernel
theorem dX10_gives_27 : decode cX10_gives 27 = .ok (.invokevirtual 259, 3) := by decide +kernel
theorem dX10_gives_30 : decode cX10_gives 30 = .ok (.ifCond .eq 16, 3) := by decide +kernel
theorem dX10_gives_33 : decode cX10_gives 33 = .ok (.aload_n 0, 1) := by decide +kernel
theorem dX10_gives_34 : decode cX10_gives 34 = .ok (.getfield 89, 3) := by decide +kernel
theorem dX10_gives_37 : decode cX10_gives 37 = .ok (.iload_n 2, 1) := by decide +kernel
theorem dX10_gives_38 : decode cX10_gives 38 = .ok (.dup2, 1) := by decide +kernel
theorem dX10_gives_39 : decode cX10_gives 39 = .ok (.iaload, 1) := by decide +kernel
theorem dX10_gives_40 : decode cX10_gives 40 = .ok (.iconst 1, 1) := by decide +kernel
theorem dX10_gives_41 : decode cX10_gives 41 = .ok (.iadd, 1) := by decide +kernel
theorem dX10_gives_42 : decode cX10_gives 42 = .ok (.iastore, 1) := by decide +kernel
theorem dX10_gives_43 : decode cX10_gives 43 = .ok (.goto (-24), 3) := by decide +kernel
theorem dX10_gives_46 : decode cX10_gives 46 = .ok (.aload_n 0, 1) := by decide +kernel
theorem dX10_gives_47 : decode cX10_gives 47 = .ok (.getfield 89, 3) := by decide +kernel
theorem dX10_gives_50 : decode cX10_gives 50 = .ok (.iload_n 2, 1) := by decide +kernel
theorem dX10_gives_51 : decode cX10_gives 51 = .ok (.iaload, 1) := by decide +kernel
theorem dX10_gives_52 : decode cX10_gives 52 = .ok (.iconst 1, 1) := by decide +kernel
theorem dX10_gives_53 : decode cX10_gives 53 = .ok (.iadd, 1) := by decide +kernel
theorem dX10_gives_54 : decode cX10_gives 54 = .ok (.iload_n 1, 1) := by decide +kernel
theorem dX10_gives_55 : decode cX10_gives 55 = .ok (.invokestatic 198, 3) := by decide +kernel
theorem dX10_gives_58 : decode cX10_gives 58 = .ok (.istore_n 1, 1) := by decide +kernel
theorem dX10_gives_59 : decode cX10_gives 59 = .ok (.iinc 2 1, 3) := by decide +kernel
theorem dX10_gives_62 : decode cX10_gives 62 = .ok (.goto (-58), 3) := by decide +kernel
theorem dX10_gives_65 : decode cX10_gives 65 = .ok (.iload_n 1, 1) := by decide +kernel
theorem dX10_gives_66 : decode cX10_gives 66 = .ok (.ireturn, 1) := by decide +kernel
theorem dX10_roomBy_0 : decode cX10_roomBy 0 = .ok (.aload_n 0, 1) := by decide +kernel
theorem dX10_roomBy_1 : decode cX10_roomBy 1 = .ok (.invokevirtual 262, 3) := by decide +kernel
theorem dX10_roomBy_4 : decode cX10_roomBy 4 = .ok (.istore_n 2, 1) := by decide +kernel
theorem dX10_roomBy_5 : decode cX10_roomBy 5 = .ok (.iload_n 1, 1) := by decide +kernel
theorem dX10_roomBy_6 : decode cX10_roomBy 6 = .ok (.iconst (-1), 1) := by decide +kernel
theorem dX10_roomBy_7 : decode cX10_roomBy 7 = .ok (.if_icmp .ne 7, 3) := by decide +kernel
theorem dX10_roomBy_10 : decode cX10_roomBy 10 = .ok (.iload_n 2, 1) := by decide +kernel
theorem dX10_roomBy_11 : decode cX10_roomBy 11 = .ok (.goto 28, 3) := by decide +kernel
theorem dX10_roomBy_14 : decode cX10_roomBy 14 = .ok (.aload_n 0, 1) := by decide +kernel
theorem dX10_roomBy_15 : decode cX10_roomBy 15 = .ok (.getfield 22, 3) := by decide +kernel
theorem dX10_roomBy_18 : decode cX10_roomBy 18 = .ok (.iload_n 1, 1) := by decide +kernel
theorem dX10_roomBy_19 : decode cX10_roomBy 19 = .ok (.baload, 1) := by decide +kernel
theorem dX10_roomBy_20 : decode cX10_roomBy 20 = .ok (.ifCond .eq 17, 3) := by decide +kernel
theorem dX10_roomBy_23 : decode cX10_roomBy 23 = .ok (.aload_n 0, 1) := by decide +kernel
theorem dX10_roomBy_24 : decode cX10_roomBy 24 = .ok (.getfield 89, 3) := by decide +kernel
theorem dX10_roomBy_27 : decode cX10_roomBy 27 = .ok (.aload_n 0, 1) := by decide +kernel
theorem dX10_roomBy_28 : decode cX10_roomBy 28 = .ok (.getfield 47, 3) := by decide +kernel
theorem dX10_roomBy_31 : decode cX10_roomBy 31 = .ok (.iload_n 1, 1) := by decide +kernel
theorem dX10_roomBy_32 : decode cX10_roomBy 32 = .ok (.iaload, 1) := by decide +kernel
theorem dX10_roomBy_33 : decode cX10_roomBy 33 = .ok (.iaload, 1) := by decide +kernel
theorem dX10_roomBy_34 : decode cX10_roomBy 34 = .ok (.goto 5, 3) := by decide +kernel
theorem dX10_roomBy_37 : decode cX10_roomBy 37 = .ok (.bipush (-3), 2) := by decide +kernel
theorem dX10_roomBy_39 : decode cX10_roomBy 39 = .ok (.ireturn, 1) := by decide +kernel
theorem dX10_room_0 : decode cX10_room 0 = .ok (.aload_n 0, 1) := by decide +kernel
theorem dX10_room_1 : decode cX10_room 1 = .ok (.invokevirtual 188, 3) := by decide +kernel
theorem dX10_room_4 : decode cX10_room 4 = .ok (.iload_n 1, 1) := by decide +kernel
theorem dX10_room_5 : decode cX10_room 5 = .ok (.i2l, 1) := by decide +kernel
theorem dX10_room_6 : decode cX10_room 6 = .ok (.ldc2_w 219, 3) := by decide +kernel
theorem dX10_room_9 : decode cX10_room 9 = .ok (.ldc2_w 130, 3) := by decide +kernel
theorem dX10_room_12 : decode cX10_room 12 = .ok (.invokestatic 101, 3) := by decide +kernel
theorem dX10_room_15 : decode cX10_room 15 = .ok (.ifCond .eq 11, 3) := by decide +kernel
theorem dX10_room_18 : decode cX10_room 18 = .ok (.aload_n 0, 1) := by decide +kernel
theorem dX10_room_19 : decode cX10_room 19 = .ok (.iload_n 1, 1) := by decide +kernel
theorem dX10_room_20 : decode cX10_room 20 = .ok (.invokevirtual 265, 3) := by decide +kernel
theorem dX10_room_23 : decode cX10_room 23 = .ok (.goto 5, 3) := by decide +kernel
theorem dX10_room_26 : decode cX10_room 26 = .ok (.bipush (-2), 2) := by decide +kernel
theorem dX10_room_28 : decode cX10_room 28 = .ok (.ireturn, 1) := by decide +kernel
theorem dX10_keeps_0 : decode cX10_keeps 0 = .ok (.iconst 0, 1) := by decide +kernel
theorem dX10_keeps_1 : decode cX10_keeps 1 = .ok (.istore_n 1, 1) := by decide +kernel
theorem dX10_keeps_2 : decode cX10_keeps 2 = .ok (.iload_n 1, 1) := by decide +kernel
theorem dX10_keeps_3 : decode cX10_keeps 3 = .ok (.aload_n 0, 1) := by decide +kernel
theorem dX10_keeps_4 : decode cX10_keeps 4 = .ok (.getfield 142, 3) := by decide +kernel
theorem dX10_keeps_7 : decode cX10_keeps 7 = .ok (.if_icmp .ge 74, 3) := by decide +kernel
theorem dX10_keeps_10 : decode cX10_keeps 10 = .ok (.iload_n 1, 1) := by decide +kernel
theorem dX10_keeps_11 : decode cX10_keeps 11 = .ok (.istore_n 2, 1) := by decide +kernel
theorem dX10_keeps_12 : decode cX10_keeps 12 = .ok (.iload_n 2, 1) := by decide +kernel
theorem dX10_keeps_13 : decode cX10_keeps 13 = .ok (.ifCond .le 55, 3) := by decide +kernel
theorem dX10_keeps_16 : decode cX10_keeps 16 = .ok (.aload_n 0, 1) := by decide +kernel
theorem dX10_keeps_17 : decode cX10_keeps 17 = .ok (.getfield 29, 3) := by decide +kernel
theorem dX10_keeps_20 : decode cX10_keeps 20 = .ok (.aload_n 0, 1) := by decide +kernel
theorem dX10_keeps_21 : decode cX10_keeps 21 = .ok (.getfield 44, 3) := by decide +kernel
theorem dX10_keeps_24 : decode cX10_keeps 24 = .ok (.iload_n 1, 1) := by decide +kernel
theorem dX10_keeps_25 : decode cX10_keeps 25 = .ok (.iaload, 1) := by decide +kernel
theorem dX10_keeps_26 : decode cX10_keeps 26 = .ok (.iaload, 1) := by decide +kernel
theorem dX10_keeps_27 : decode cX10_keeps 27 = .ok (.aload_n 0, 1) := by decide +kernel
theorem dX10_keeps_28 : decode cX10_keeps 28 = .ok (.getfield 29, 3) := by decide +kernel
theorem dX10_keeps_31 : decode cX10_keeps 31 = .ok (.aload_n 0, 1) := by decide +kernel
theorem dX10_keeps_32 : decode cX10_keeps 32 = .ok (.getfield 44, 3) := by decide +kernel
theorem dX10_keeps_35 : decode cX10_keeps 35 = .ok (.aload_n 0, 1) := by decide +kernel
theorem dX10_keeps_36 : decode cX10_keeps 36 = .ok (.getfield 92, 3) := by decide +kernel
theorem dX10_keeps_39 : decode cX10_keeps 39 = .ok (.iload_n 2, 1) := by decide +kernel
theorem dX10_keeps_40 : decode cX10_keeps 40 = .ok (.iconst 1, 1) := by decide +kernel
theorem dX10_keeps_41 : decode cX10_keeps 41 = .ok (.isub, 1) := by decide +kernel
theorem dX10_keeps_42 : decode cX10_keeps 42 = .ok (.iaload, 1) := by decide +kernel
theorem dX10_keeps_43 : decode cX10_keeps 43 = .ok (.iaload, 1) := by decide +kernel
theorem dX10_keeps_44 : decode cX10_keeps 44 = .ok (.iaload, 1) := by decide +kernel
theorem dX10_keeps_45 : decode cX10_keeps 45 = .ok (.if_icmp .ge 23, 3) := by decide +kernel
theorem dX10_keeps_48 : decode cX10_keeps 48 = .ok (.aload_n 0, 1) := by decide +kernel
theorem dX10_keeps_49 : decode cX10_keeps 49 = .ok (.getfield 92, 3) := by decide +kernel
theorem dX10_keeps_52 : decode cX10_keeps 52 = .ok (.iload_n 2, 1) := by decide +kernel
theorem dX10_keeps_53 : decode cX10_keeps 53 = .ok (.aload_n 0, 1) := by decide +kernel
theorem dX10_keeps_54 : decode cX10_keeps 54 = .ok (.getfield 92, 3) := by decide +kernel
theorem dX10_keeps_57 : decode cX10_keeps 57 = .ok (.iload_n 2, 1) := by decide +kernel
theorem dX10_keeps_58 : decode cX10_keeps 58 = .ok (.iconst 1, 1) := by decide +kernel
theorem dX10_keeps_59 : decode cX10_keeps 59 = .ok (.isub, 1) := by decide +kernel
theorem dX10_keeps_60 : decode cX10_keeps 60 = .ok (.iaload, 1) := by decide +kernel
theorem dX10_keeps_61 : decode cX10_keeps 61 = .ok (.iastore, 1) := by decide +kernel
theorem dX10_keeps_62 : decode cX10_keeps 62 = .ok (.iinc 2 (-1), 3) := by decide +kernel
theorem dX10_keeps_65 : decode cX10_keeps 65 = .ok (.goto (-53), 3) := by decide +kernel
theorem dX10_keeps_68 : decode cX10_keeps 68 = .ok (.aload_n 0, 1) := by decide +kernel
theorem dX10_keeps_69 : decode cX10_keeps 69 = .ok (.getfield 92, 3) := by decide +kernel
theorem dX10_keeps_72 : decode cX10_keeps 72 = .ok (.iload_n 2, 1) := by decide +kernel
theorem dX10_keeps_73 : decode cX10_keeps 73 = .ok (.iload_n 1, 1) := by decide +kernel
theorem dX10_keeps_74 : decode cX10_keeps 74 = .ok (.iastore, 1) := by decide +kernel
theorem dX10_keeps_75 : decode cX10_keeps 75 = .ok (.iinc 1 1, 3) := by decide +kernel
theorem dX10_keeps_78 : decode cX10_keeps 78 = .ok (.goto (-76), 3) := by decide +kernel
theorem dX10_keeps_81 : decode cX10_keeps 81 = .ok (.iconst 0, 1) := by decide +kernel
theorem dX10_keeps_82 : decode cX10_keeps 82 = .ok (.istore_n 1, 1) := by decide +kernel
theorem dX10_keeps_83 : decode cX10_keeps 83 = .ok (.iconst 0, 1) := by decide +kernel
theorem dX10_keeps_84 : decode cX10_keeps 84 = .ok (.istore_n 2, 1) := by decide +kernel
theorem dX10_keeps_85 : decode cX10_keeps 85 = .ok (.iload_n 2, 1) := by decide +kernel
theorem dX10_keeps_86 : decode cX10_keeps 86 = .ok (.aload_n 0, 1) := by decide +kernel
theorem dX10_keeps_87 : decode cX10_keeps 87 = .ok (.getfield 142, 3) := by decide +kernel
theorem dX10_keeps_90 : decode cX10_keeps 90 = .ok (.if_icmp .ge 75, 3) := by decide +kernel
theorem dX10_keeps_93 : decode cX10_keeps 93 = .ok (.iconst 1, 1) := by decide +kernel
theorem dX10_keeps_94 : decode cX10_keeps 94 = .ok (.istore_n 3, 1) := by decide +kernel
theorem dX10_keeps_95 : decode cX10_keeps 95 = .ok (.iconst 0, 1) := by decide +kernel
theorem dX10_keeps_96 : decode cX10_keeps 96 = .ok (.istore 4, 2) := by decide +kernel
theorem dX10_keeps_98 : decode cX10_keeps 98 = .ok (.iload 4, 2) := by decide +kernel
theorem dX10_keeps_100 : decode cX10_keeps 100 = .ok (.iload_n 1, 1) := by decide +kernel
theorem dX10_keeps_101 : decode cX10_keeps 101 = .ok (.if_icmp .ge 39, 3) := by decide +kernel
theorem dX10_keeps_104 : decode cX10_keeps 104 = .ok (.iload_n 3, 1) := by decide +kernel
theorem dX10_keeps_105 : decode cX10_keeps 105 = .ok (.ifCond .eq 27, 3) := by decide +kernel
theorem dX10_keeps_108 : decode cX10_keeps 108 = .ok (.aload_n 0, 1) := by decide +kernel
theorem dX10_keeps_109 : decode cX10_keeps 109 = .ok (.aload_n 0, 1) := by decide +kernel
theorem dX10_keeps_110 : decode cX10_keeps 110 = .ok (.getfield 95, 3) := by decide +kernel
theorem dX10_keeps_113 : decode cX10_keeps 113 = .ok (.iload 4, 2) := by decide +kernel
theorem dX10_keeps_115 : decode cX10_keeps 115 = .ok (.iaload, 1) := by decide +kernel
theorem dX10_keeps_116 : decode cX10_keeps 116 = .ok (.aload_n 0, 1) := by decide +kernel
theorem dX10_keeps_117 : decode cX10_keeps 117 = .ok (.getfield 92, 3) := by decide +kernel
theorem dX10_keeps_120 : decode cX10_keeps 120 = .ok (.iload_n 2, 1) := by decide +kernel
theorem dX10_keeps_121 : decode cX10_keeps 121 = .ok (.iaload, 1) := by decide +kernel
theorem dX10_keeps_122 : decode cX10_keeps 122 = .ok (.invokevirtual 256, 3) := by decide +kernel
theorem dX10_keeps_125 : decode cX10_keeps 125 = .ok (.ifCond .ne 7, 3) := by decide +kernel
theorem dX10_keeps_128 : decode cX10_keeps 128 = .ok (.iconst 1, 1) := by decide +kernel
theorem dX10_keeps_129 : decode cX10_keeps 129 = .ok (.goto 4, 3) := by decide +kernel
theorem dX10_keeps_132 : decode cX10_keeps 132 = .ok (.iconst 0, 1) := by decide +kernel
theorem dX10_keeps_133 : decode cX10_keeps 133 = .ok (.istore_n 3, 1) := by decide +kernel
theorem dX10_keeps_134 : decode cX10_keeps 134 = .ok (.iinc 4 1, 3) := by decide +kernel
theorem dX10_keeps_137 : decode cX10_keeps 137 = .ok (.goto (-39), 3) := by decide +kernel
theorem dX10_keeps_140 : decode cX10_keeps 140 = .ok (.iload_n 3, 1) := by decide +kernel
theorem dX10_keeps_141 : decode cX10_keeps 141 = .ok (.ifCond .eq 18, 3) := by decide +kernel
theorem dX10_keeps_144 : decode cX10_keeps 144 = .ok (.aload_n 0, 1) := by decide +kernel
theorem dX10_keeps_145 : decode cX10_keeps 145 = .ok (.getfield 95, 3) := by decide +kernel
theorem dX10_keeps_148 : decode cX10_keeps 148 = .ok (.iload_n 1, 1) := by decide +kernel
theorem dX10_keeps_149 : decode cX10_keeps 149 = .ok (.aload_n 0, 1) := by decide +kernel
theorem dX10_keeps_150 : decode cX10_keeps 150 = .ok (.getfield 92, 3) := by decide +kernel
theorem dX10_keeps_153 : decode cX10_keeps 153 = .ok (.iload_n 2, 1) := by decide +kernel
theorem dX10_keeps_154 : decode cX10_keeps 154 = .ok (.iaload, 1) := by decide +kernel
theorem dX10_keeps_155 : decode cX10_keeps 155 = .ok (.iastore, 1) := by decide +kernel
theorem dX10_keeps_156 : decode cX10_keeps 156 = .ok (.iinc 1 1, 3) := by decide +kernel
theorem dX10_keeps_159 : decode cX10_keeps 159 = .ok (.iinc 2 1, 3) := by decide +kernel
theorem dX10_keeps_162 : decode cX10_keeps 162 = .ok (.goto (-77), 3) := by decide +kernel
theorem dX10_keeps_165 : decode cX10_keeps 165 = .ok (.iload_n 1, 1) := by decide +kernel
theorem dX10_keeps_166 : decode cX10_keeps 166 = .ok (.ireturn, 1) := by decide +kernel
theorem dX10_keepBy_0 : decode cX10_keepBy 0 = .ok (.aload_n 0, 1) := by decide +kernel
theorem dX10_keepBy_1 : decode cX10_keepBy 1 = .ok (.invokevirtual 268, 3) := by decide +kernel
theorem dX10_keepBy_4 : decode cX10_keepBy 4 = .ok (.istore_n 2, 1) := by decide +kernel
theorem dX10_keepBy_5 : decode cX10_keepBy 5 = .ok (.iload_n 1, 1) := by decide +kernel
theorem dX10_keepBy_6 : decode cX10_keepBy 6 = .ok (.iconst (-1), 1) := by decide +kernel
theorem dX10_keepBy_7 : decode cX10_keepBy 7 = .ok (.if_icmp .ne 7, 3) := by decide +kernel
theorem dX10_keepBy_10 : decode cX10_keepBy 10 = .ok (.iload_n 2, 1) := by decide +kernel
theorem dX10_keepBy_11 : decode cX10_keepBy 11 = .ok (.goto 23, 3) := by decide +kernel
theorem dX10_keepBy_14 : decode cX10_keepBy 14 = .ok (.iload_n 1, 1) := by decide +kernel
theorem dX10_keepBy_15 : decode cX10_keepBy 15 = .ok (.iload_n 2, 1) := by decide +kernel
theorem dX10_keepBy_16 : decode cX10_keepBy 16 = .ok (.if_icmp .ge 17, 3) := by decide +kernel
theorem dX10_keepBy_19 : decode cX10_keepBy 19 = .ok (.aload_n 0, 1) := by decide +kernel
theorem dX10_keepBy_20 : decode cX10_keepBy 20 = .ok (.getfield 44, 3) := by decide +kernel
theorem dX10_keepBy_23 : decode cX10_keepBy 23 = .ok (.aload_n 0, 1) := by decide +kernel
theorem dX10_keepBy_24 : decode cX10_keepBy 24 = .ok (.getfield 95, 3) := by decide +kernel
theorem dX10_keepBy_27 : decode cX10_keepBy 27 = .ok (.iload_n 1, 1) := by decide +kernel
theorem dX10_keepBy_28 : decode cX10_keepBy 28 = .ok (.iaload, 1) := by decide +kernel
theorem dX10_keepBy_29 : decode cX10_keepBy 29 = .ok (.iaload, 1) := by decide +kernel
theorem dX10_keepBy_30 : decode cX10_keepBy 30 = .ok (.goto 4, 3) := by decide +kernel
theorem dX10_keepBy_33 : decode cX10_keepBy 33 = .ok (.iconst (-1), 1) := by decide +kernel
theorem dX10_keepBy_34 : decode cX10_keepBy 34 = .ok (.ireturn, 1) := by decide +kernel
theorem dX10_keep_0 : decode cX10_keep 0 = .ok (.aload_n 0, 1) := by decide +kernel
theorem dX10_keep_1 : decode cX10_keep 1 = .ok (.invokevirtual 188, 3) := by decide +kernel
theorem dX10_keep_4 : decode cX10_keep 4 = .ok (.iload_n 1, 1) := by decide +kernel
theorem dX10_keep_5 : decode cX10_keep 5 = .ok (.i2l, 1) := by decide +kernel
theorem dX10_keep_6 : decode cX10_keep 6 = .ok (.ldc2_w 219, 3) := by decide +kernel
theorem dX10_keep_9 : decode cX10_keep 9 = .ok (.ldc2_w 130, 3) := by decide +kernel
theorem dX10_keep_12 : decode cX10_keep 12 = .ok (.invokestatic 101, 3) := by decide +kernel
theorem dX10_keep_15 : decode cX10_keep 15 = .ok (.ifCond .eq 11, 3) := by decide +kernel
theorem dX10_keep_18 : decode cX10_keep 18 = .ok (.aload_n 0, 1) := by decide +kernel
theorem dX10_keep_19 : decode cX10_keep 19 = .ok (.iload_n 1, 1) := by decide +kernel
theorem dX10_keep_20 : decode cX10_keep 20 = .ok (.invokevirtual 271, 3) := by decide +kernel
theorem dX10_keep_23 : decode cX10_keep 23 = .ok (.goto 5, 3) := by decide +kernel
theorem dX10_keep_26 : decode cX10_keep 26 = .ok (.bipush (-2), 2) := by decide +kernel
theorem dX10_keep_28 : decode cX10_keep 28 = .ok (.ireturn, 1) := by decide +kernel
theorem dX10_manyClashes_0 : decode cX10_manyClashes 0 = .ok (.iconst 0, 1) := by decide +kernel
theorem dX10_manyClashes_1 : decode cX10_manyClashes 1 = .ok (.istore_n 1, 1) := by decide +kernel
theorem dX10_manyClashes_2 : decode cX10_manyClashes 2 = .ok (.iconst 0, 1) := by decide +kernel
theorem dX10_manyClashes_3 : decode cX10_manyClashes 3 = .ok (.istore_n 2, 1) := by decide +kernel
theorem dX10_manyClashes_4 : decode cX10_manyClashes 4 = .ok (.iload_n 2, 1) := by decide +kernel
theorem dX10_manyClashes_5 : decode cX10_manyClashes 5 = .ok (.aload_n 0, 1) := by decide +kernel
theorem dX10_manyClashes_6 : decode cX10_manyClashes 6 = .ok (.getfield 142, 3) := by decide +kernel
theorem dX10_manyClashes_9 : decode cX10_manyClashes 9 = .ok (.if_icmp .ge 44, 3) := by decide +kernel
theorem dX10_manyClashes_12 : decode cX10_manyClashes 12 = .ok (.iload_n 2, 1) := by decide +kernel
theorem dX10_manyClashes_13 : decode cX10_manyClashes 13 = .ok (.iconst 1, 1) := by decide +kernel
theorem dX10_manyClashes_14 : decode cX10_manyClashes 14 = .ok (.iadd, 1) := by decide +kernel
theorem dX10_manyClashes_15 : decode cX10_manyClashes 15 = .ok (.istore_n 3, 1) := by decide +kernel
theorem dX10_manyClashes_16 : decode cX10_manyClashes 16 = .ok (.iload_n 3, 1) := by decide +kernel
theorem dX10_manyClashes_17 : decode cX10_manyClashes 17 = .ok (.aload_n 0, 1) := by decide +kernel
theorem dX10_manyClashes_18 : decode cX10_manyClashes 18 = .ok (.getfield 142, 3) := by decide +kernel
theorem dX10_manyClashes_21 : decode cX10_manyClashes 21 = .ok (.if_icmp .ge 26, 3) := by decide +kernel
theorem dX10_manyClashes_24 : decode cX10_manyClashes 24 = .ok (.iload_n 1, 1) := by decide +kernel
theorem dX10_manyClashes_25 : decode cX10_manyClashes 25 = .ok (.aload_n 0, 1) := by decide +kernel
theorem dX10_manyClashes_26 : decode cX10_manyClashes 26 = .ok (.iload_n 2, 1) := by decide +kernel
theorem dX10_manyClashes_27 : decode cX10_manyClashes 27 = .ok (.iload_n 3, 1) := by decide +kernel
theorem dX10_manyClashes_28 : decode cX10_manyClashes 28 = .ok (.invokevirtual 256, 3) := by decide +kernel
theorem dX10_manyClashes_31 : decode cX10_manyClashes 31 = .ok (.ifCond .eq 7, 3) := by decide +kernel
theorem dX10_manyClashes_34 : decode cX10_manyClashes 34 = .ok (.iconst 1, 1) := by decide +kernel
theorem dX10_manyClashes_35 : decode cX10_manyClashes 35 = .ok (.goto 4, 3) := by decide +kernel
theorem dX10_manyClashes_38 : decode cX10_manyClashes 38 = .ok (.iconst 0, 1) := by decide +kernel
theorem dX10_manyClashes_39 : decode cX10_manyClashes 39 = .ok (.iadd, 1) := by decide +kernel
theorem dX10_manyClashes_40 : decode cX10_manyClashes 40 = .ok (.istore_n 1, 1) := by decide +kernel
theorem dX10_manyClashes_41 : decode cX10_manyClashes 41 = .ok (.iinc 3 1, 3) := by decide +kernel
theorem dX10_manyClashes_44 : decode cX10_manyClashes 44 = .ok (.goto (-28), 3) := by decide +kernel
theorem dX10_manyClashes_47 : decode cX10_manyClashes 47 = .ok (.iinc 2 1, 3) := by decide +kernel
theorem dX10_manyClashes_50 : decode cX10_manyClashes 50 = .ok (.goto (-46), 3) := by decide +kernel
theorem dX10_manyClashes_53 : decode cX10_manyClashes 53 = .ok (.iload_n 1, 1) := by decide +kernel
theorem dX10_manyClashes_54 : decode cX10_manyClashes 54 = .ok (.ireturn, 1) := by decide +kernel
theorem dX10_clashes_0 : decode cX10_clashes 0 = .ok (.aload_n 0, 1) := by decide +kernel
theorem dX10_clashes_1 : decode cX10_clashes 1 = .ok (.invokevirtual 188, 3) := by decide +kernel
theorem dX10_clashes_4 : decode cX10_clashes 4 = .ok (.aload_n 0, 1) := by decide +kernel
theorem dX10_clashes_5 : decode cX10_clashes 5 = .ok (.invokevirtual 274, 3) := by decide +kernel
theorem dX10_clashes_8 : decode cX10_clashes 8 = .ok (.ireturn, 1) := by decide +kernel
theorem dX10_clashOf_0 : decode cX10_clashOf 0 = .ok (.aload_n 0, 1) := by decide +kernel
theorem dX10_clashOf_1 : decode cX10_clashOf 1 = .ok (.getfield 44, 3) := by decide +kernel
theorem dX10_clashOf_4 : decode cX10_clashOf 4 = .ok (.iload_n 1, 1) := by decide +kernel
theorem dX10_clashOf_5 : decode cX10_clashOf 5 = .ok (.iaload, 1) := by decide +kernel
theorem dX10_clashOf_6 : decode cX10_clashOf 6 = .ok (.istore 4, 2) := by decide +kernel
theorem dX10_clashOf_8 : decode cX10_clashOf 8 = .ok (.aload_n 0, 1) := by decide +kernel
theorem dX10_clashOf_9 : decode cX10_clashOf 9 = .ok (.getfield 44, 3) := by decide +kernel
theorem dX10_clashOf_12 : decode cX10_clashOf 12 = .ok (.iload_n 2, 1) := by decide +kernel
theorem dX10_clashOf_13 : decode cX10_clashOf 13 = .ok (.iaload, 1) := by decide +kernel
theorem dX10_clashOf_14 : decode cX10_clashOf 14 = .ok (.istore 5, 2) := by decide +kernel
theorem dX10_clashOf_16 : decode cX10_clashOf 16 = .ok (.iload_n 3, 1) := by decide +kernel
theorem dX10_clashOf_17 : decode cX10_clashOf 17 = .ok (.ifCond .ne 8, 3) := by decide +kernel
theorem dX10_clashOf_20 : decode cX10_clashOf 20 = .ok (.iload 4, 2) := by decide +kernel
theorem dX10_clashOf_22 : decode cX10_clashOf 22 = .ok (.goto 48, 3) := by decide +kernel
theorem dX10_clashOf_25 : decode cX10_clashOf 25 = .ok (.iload_n 3, 1) := by decide +kernel
theorem dX10_clashOf_26 : decode cX10_clashOf 26 = .ok (.iconst 1, 1) := by decide +kernel
theorem dX10_clashOf_27 : decode cX10_clashOf 27 = .ok (.if_icmp .ne 8, 3) := by decide +kernel
theorem dX10_clashOf_30 : decode cX10_clashOf 30 = .ok (.iload 5, 2) := by decide +kernel
theorem dX10_clashOf_32 : decode cX10_clashOf 32 = .ok (.goto 38, 3) := by decide +kernel
theorem dX10_clashOf_35 : decode cX10_clashOf 35 = .ok (.aload_n 0, 1) := by decide +kernel
theorem dX10_clashOf_36 : decode cX10_clashOf 36 = .ok (.getfield 29, 3) := by decide +kernel
theorem dX10_clashOf_39 : decode cX10_clashOf 39 = .ok (.iload 4, 2) := by decide +kernel
theorem dX10_clashOf_41 : decode cX10_clashOf 41 = .ok (.iaload, 1) := by decide +kernel
theorem dX10_clashOf_42 : decode cX10_clashOf 42 = .ok (.aload_n 0, 1) := by decide +kernel
theorem dX10_clashOf_43 : decode cX10_clashOf 43 = .ok (.getfield 29, 3) := by decide +kernel
theorem dX10_clashOf_46 : decode cX10_clashOf 46 = .ok (.iload 5, 2) := by decide +kernel
theorem dX10_clashOf_48 : decode cX10_clashOf 48 = .ok (.iaload, 1) := by decide +kernel
theorem dX10_clashOf_49 : decode cX10_clashOf 49 = .ok (.invokestatic 277, 3) := by decide +kernel
theorem dX10_clashOf_52 : decode cX10_clashOf 52 = .ok (.aload_n 0, 1) := by decide +kernel
theorem dX10_clashOf_53 : decode cX10_clashOf 53 = .ok (.getfield 26, 3) := by decide +kernel
theorem dX10_clashOf_56 : decode cX10_clashOf 56 = .ok (.iload 4, 2) := by decide +kernel
theorem dX10_clashOf_58 : decode cX10_clashOf 58 = .ok (.iaload, 1) := by decide +kernel
theorem dX10_clashOf_59 : decode cX10_clashOf 59 = .ok (.aload_n 0, 1) := by decide +kernel
theorem dX10_clashOf_60 : decode cX10_clashOf 60 = .ok (.getfield 26, 3) := by decide +kernel
theorem dX10_clashOf_63 : decode cX10_clashOf 63 = .ok (.iload 5, 2) := by decide +kernel
theorem dX10_clashOf_65 : decode cX10_clashOf 65 = .ok (.iaload, 1) := by decide +kernel
theorem dX10_clashOf_66 : decode cX10_clashOf 66 = .ok (.invokestatic 198, 3) := by decide +kernel
theorem dX10_clashOf_69 : decode cX10_clashOf 69 = .ok (.isub, 1) := by decide +kernel
theorem dX10_clashOf_70 : decode cX10_clashOf 70 = .ok (.ireturn, 1) := by decide +kernel
theorem dX10_clashBy_0 : decode cX10_clashBy 0 = .ok (.iconst 0, 1) := by decide +kernel
theorem dX10_clashBy_1 : decode cX10_clashBy 1 = .ok (.istore_n 3, 1) := by decide +kernel
theorem dX10_clashBy_2 : decode cX10_clashBy 2 = .ok (.iconst (-1), 1) := by decide +kernel
theorem dX10_clashBy_3 : decode cX10_clashBy 3 = .ok (.istore 4, 2) := by decide +kernel
theorem dX10_clashBy_5 : decode cX10_clashBy 5 = .ok (.iconst 0, 1) := by decide +kernel
theorem dX10_clashBy_6 : decode cX10_clashBy 6 = .ok (.istore 5, 2) := by decide +kernel
theorem dX10_clashBy_8 : decode cX10_clashBy 8 = .ok (.iload 5, 2) := by decide +kernel
theorem dX10_clashBy_10 : decode cX10_clashBy 10 = .ok (.aload_n 0, 1) := by decide +kernel
theorem dX10_clashBy_11 : decode cX10_clashBy 11 = .ok (.getfield 142, 3) := by decide +kernel
theorem dX10_clashBy_14 : decode cX10_clashBy 14 = .ok (.if_icmp .ge 65, 3) := by decide +kernel
theorem dX10_clashBy_17 : decode cX10_clashBy 17 = .ok (.iload 5, 2) := by decide +kernel
theorem dX10_clashBy_19 : decode cX10_clashBy 19 = .ok (.iconst 1, 1) := by decide +kernel
theorem dX10_clashBy_20 : decode cX10_clashBy 20 = .ok (.iadd, 1) := by decide +kernel
theorem dX10_clashBy_21 : decode cX10_clashBy 21 = .ok (.istore 6, 2) := by decide +kernel
theorem dX10_clashBy_23 : decode cX10_clashBy 23 = .ok (.iload 6, 2) := by decide +kernel
theorem dX10_clashBy_25 : decode cX10_clashBy 25 = .ok (.aload_n 0, 1) := by decide +kernel
theorem dX10_clashBy_26 : decode cX10_clashBy 26 = .ok (.getfield 142, 3) := by decide +kernel
theorem dX10_clashBy_29 : decode cX10_clashBy 29 = .ok (.if_icmp .ge 44, 3) := by decide +kernel
theorem dX10_clashBy_32 : decode cX10_clashBy 32 = .ok (.aload_n 0, 1) := by decide +kernel
theorem dX10_clashBy_33 : decode cX10_clashBy 33 = .ok (.iload 5, 2) := by decide +kernel
theorem dX10_clashBy_35 : decode cX10_clashBy 35 = .ok (.iload 6, 2) := by decide +kernel
theorem dX10_clashBy_37 : decode cX10_clashBy 37 = .ok (.invokevirtual 256, 3) := by decide +kernel
theorem dX10_clashBy_40 : decode cX10_clashBy 40 = .ok (.ifCond .eq 27, 3) := by decide +kernel
theorem dX10_clashBy_43 : decode cX10_clashBy 43 = .ok (.iload_n 3, 1) := by decide +kernel
theorem dX10_clashBy_44 : decode cX10_clashBy 44 = .ok (.iload_n 1, 1) := by decide +kernel
theorem dX10_clashBy_45 : decode cX10_clashBy 45 = .ok (.if_icmp .ne 15, 3) := by decide +kernel
theorem dX10_clashBy_48 : decode cX10_clashBy 48 = .ok (.aload_n 0, 1) := by decide +kernel
theorem dX10_clashBy_49 : decode cX10_clashBy 49 = .ok (.iload 5, 2) := by decide +kernel
theorem dX10_clashBy_51 : decode cX10_clashBy 51 = .ok (.iload 6, 2) := by decide +kernel
theorem dX10_clashBy_53 : decode cX10_clashBy 53 = .ok (.iload_n 2, 1) := by decide +kernel
theorem dX10_clashBy_54 : decode cX10_clashBy 54 = .ok (.invokevirtual 280, 3) := by decide +kernel
theorem dX10_clashBy_57 : decode cX10_clashBy 57 = .ok (.goto 5, 3) := by decide +kernel
theorem dX10_clashBy_60 : decode cX10_clashBy 60 = .ok (.iload 4, 2) := by decide +kernel
theorem dX10_clashBy_62 : decode cX10_clashBy 62 = .ok (.istore 4, 2) := by decide +kernel
theorem dX10_clashBy_64 : decode cX10_clashBy 64 = .ok (.iinc 3 1, 3) := by decide +kernel
theorem dX10_clashBy_67 : decode cX10_clashBy 67 = .ok (.iinc 6 1, 3) := by decide +kernel
theorem dX10_clashBy_70 : decode cX10_clashBy 70 = .ok (.goto (-47), 3) := by decide +kernel
theorem dX10_clashBy_73 : decode cX10_clashBy 73 = .ok (.iinc 5 1, 3) := by decide +kernel
theorem dX10_clashBy_76 : decode cX10_clashBy 76 = .ok (.goto (-68), 3) := by decide +kernel
theorem dX10_clashBy_79 : decode cX10_clashBy 79 = .ok (.iload 4, 2) := by decide +kernel
theorem dX10_clashBy_81 : decode cX10_clashBy 81 = .ok (.ireturn, 1) := by decide +kernel
theorem dX10_clash_0 : decode cX10_clash 0 = .ok (.aload_n 0, 1) := by decide +kernel
theorem dX10_clash_1 : decode cX10_clash 1 = .ok (.invokevirtual 188, 3) := by decide +kernel
theorem dX10_clash_4 : decode cX10_clash 4 = .ok (.iload_n 1, 1) := by decide +kernel
theorem dX10_clash_5 : decode cX10_clash 5 = .ok (.i2l, 1) := by decide +kernel
theorem dX10_clash_6 : decode cX10_clash 6 = .ok (.lconst 0, 1) := by decide +kernel
theorem dX10_clash_7 : decode cX10_clash 7 = .ok (.ldc2_w 283, 3) := by decide +kernel
theorem dX10_clash_10 : decode cX10_clash 10 = .ok (.invokestatic 101, 3) := by decide +kernel
theorem dX10_clash_13 : decode cX10_clash 13 = .ok (.ifCond .eq 24, 3) := by decide +kernel
theorem dX10_clash_16 : decode cX10_clash 16 = .ok (.iload_n 2, 1) := by decide +kernel
theorem dX10_clash_17 : decode cX10_clash 17 = .ok (.i2l, 1) := by decide +kernel
theorem dX10_clash_18 : decode cX10_clash 18 = .ok (.lconst 0, 1) := by decide +kernel
theorem dX10_clash_19 : decode cX10_clash 19 = .ok (.ldc2_w 115, 3) := by decide +kernel
theorem dX10_clash_22 : decode cX10_clash 22 = .ok (.invokestatic 101, 3) := by decide +kernel
theorem dX10_clash_25 : decode cX10_clash 25 = .ok (.ifCond .eq 12, 3) := by decide +kernel
theorem dX10_clash_28 : decode cX10_clash 28 = .ok (.aload_n 0, 1) := by decide +kernel
theorem dX10_clash_29 : decode cX10_clash 29 = .ok (.iload_n 1, 1) := by decide +kernel
theorem dX10_clash_30 : decode cX10_clash 30 = .ok (.iload_n 2, 1) := by decide +kernel
theorem dX10_clash_31 : decode cX10_clash 31 = .ok (.invokevirtual 285, 3) := by decide +kernel
theorem dX10_clash_34 : decode cX10_clash 34 = .ok (.goto 5, 3) := by decide +kernel
theorem dX10_clash_37 : decode cX10_clash 37 = .ok (.bipush (-2), 2) := by decide +kernel
theorem dX10_clash_39 : decode cX10_clash 39 = .ok (.ireturn, 1) := by decide +kernel
theorem dX10_aloneNow_0 : decode cX10_aloneNow 0 = .ok (.lconst 0, 1) := by decide +kernel
theorem dX10_aloneNow_1 : decode cX10_aloneNow 1 = .ok (.lstore_n 1, 1) := by decide +kernel
theorem dX10_aloneNow_2 : decode cX10_aloneNow 2 = .ok (.iconst 0, 1) := by decide +kernel
theorem dX10_aloneNow_3 : decode cX10_aloneNow 3 = .ok (.istore_n 3, 1) := by decide +kernel
theorem dX10_aloneNow_4 : decode cX10_aloneNow 4 = .ok (.iload_n 3, 1) := by decide +kernel
theorem dX10_aloneNow_5 : decode cX10_aloneNow 5 = .ok (.aload_n 0, 1) := by decide +kernel
theorem dX10_aloneNow_6 : decode cX10_aloneNow 6 = .ok (.getfield 142, 3) := by decide +kernel
theorem dX10_aloneNow_9 : decode cX10_aloneNow 9 = .ok (.if_icmp .ge 51, 3) := by decide +kernel
theorem dX10_aloneNow_12 : decode cX10_aloneNow 12 = .ok (.aload_n 0, 1) := by decide +kernel
theorem dX10_aloneNow_13 : decode cX10_aloneNow 13 = .ok (.getfield 44, 3) := by decide +kernel
theorem dX10_aloneNow_16 : decode cX10_aloneNow 16 = .ok (.iload_n 3, 1) := by decide +kernel
theorem dX10_aloneNow_17 : decode cX10_aloneNow 17 = .ok (.iaload, 1) := by decide +kernel
theorem dX10_aloneNow_18 : decode cX10_aloneNow 18 = .ok (.istore 4, 2) := by decide +kernel
theorem dX10_aloneNow_20 : decode cX10_aloneNow 20 = .ok (.lload_n 1, 1) := by decide +kernel
theorem dX10_aloneNow_21 : decode cX10_aloneNow 21 = .ok (.aload_n 0, 1) := by decide +kernel
theorem dX10_aloneNow_22 : decode cX10_aloneNow 22 = .ok (.aload_n 0, 1) := by decide +kernel
theorem dX10_aloneNow_23 : decode cX10_aloneNow 23 = .ok (.getfield 26, 3) := by decide +kernel
theorem dX10_aloneNow_26 : decode cX10_aloneNow 26 = .ok (.iload 4, 2) := by decide +kernel
theorem dX10_aloneNow_28 : decode cX10_aloneNow 28 = .ok (.iaload, 1) := by decide +kernel
theorem dX10_aloneNow_29 : decode cX10_aloneNow 29 = .ok (.aload_n 0, 1) := by decide +kernel
theorem dX10_aloneNow_30 : decode cX10_aloneNow 30 = .ok (.getfield 29, 3) := by decide +kernel
theorem dX10_aloneNow_33 : decode cX10_aloneNow 33 = .ok (.iload 4, 2) := by decide +kernel
theorem dX10_aloneNow_35 : decode cX10_aloneNow 35 = .ok (.iaload, 1) := by decide +kernel
theorem dX10_aloneNow_36 : decode cX10_aloneNow 36 = .ok (.iconst (-1), 1) := by decide +kernel
theorem dX10_aloneNow_37 : decode cX10_aloneNow 37 = .ok (.invokevirtual 221, 3) := by decide +kernel
theorem dX10_aloneNow_40 : decode cX10_aloneNow 40 = .ok (.iconst 1, 1) := by decide +kernel
theorem dX10_aloneNow_41 : decode cX10_aloneNow 41 = .ok (.if_icmp .ne 10, 3) := by decide +kernel
theorem dX10_aloneNow_44 : decode cX10_aloneNow 44 = .ok (.lconst 1, 1) := by decide +kernel
theorem dX10_aloneNow_45 : decode cX10_aloneNow 45 = .ok (.iload 4, 2) := by decide +kernel
theorem dX10_aloneNow_47 : decode cX10_aloneNow 47 = .ok (.lshl, 1) := by decide +kernel
theorem dX10_aloneNow_48 : decode cX10_aloneNow 48 = .ok (.goto 4, 3) := by decide +kernel
theorem dX10_aloneNow_51 : decode cX10_aloneNow 51 = .ok (.lconst 0, 1) := by decide +kernel
theorem dX10_aloneNow_52 : decode cX10_aloneNow 52 = .ok (.lor, 1) := by decide +kernel
theorem dX10_aloneNow_53 : decode cX10_aloneNow 53 = .ok (.lstore_n 1, 1) := by decide +kernel
theorem dX10_aloneNow_54 : decode cX10_aloneNow 54 = .ok (.iinc 3 1, 3) := by decide +kernel
theorem dX10_aloneNow_57 : decode cX10_aloneNow 57 = .ok (.goto (-53), 3) := by decide +kernel
theorem dX10_aloneNow_60 : decode cX10_aloneNow 60 = .ok (.lload_n 1, 1) := by decide +kernel
theorem dX10_aloneNow_61 : decode cX10_aloneNow 61 = .ok (.lreturn, 1) := by decide +kernel
theorem dX10_alone_0 : decode cX10_alone 0 = .ok (.aload_n 0, 1) := by decide +kernel
theorem dX10_alone_1 : decode cX10_alone 1 = .ok (.invokevirtual 188, 3) := by decide +kernel
theorem dX10_alone_4 : decode cX10_alone 4 = .ok (.aload_n 0, 1) := by decide +kernel
theorem dX10_alone_5 : decode cX10_alone 5 = .ok (.invokevirtual 288, 3) := by decide +kernel
theorem dX10_alone_8 : decode cX10_alone 8 = .ok (.lreturn, 1) := by decide +kernel
theorem dX10_gathers_0 : decode cX10_gathers 0 = .ok (.iconst 0, 1) := by decide +kernel
theorem dX10_gathers_1 : decode cX10_gathers 1 = .ok (.istore_n 1, 1) := by decide +kernel
theorem dX10_gathers_2 : decode cX10_gathers 2 = .ok (.ldc 235, 2) := by decide +kernel
theorem dX10_gathers_4 : decode cX10_gathers 4 = .ok (.istore_n 2, 1) := by decide +kernel
theorem dX10_gathers_5 : decode cX10_gathers 5 = .ok (.iconst 0, 1) := by decide +kernel
theorem dX10_gathers_6 : decode cX10_gathers 6 = .ok (.istore_n 3, 1) := by decide +kernel
theorem dX10_gathers_7 : decode cX10_gathers 7 = .ok (.iconst 0, 1) := by decide +kernel
theorem dX10_gathers_8 : decode cX10_gathers 8 = .ok (.istore 4, 2) := by decide +kernel
theorem dX10_gathers_10 : decode cX10_gathers 10 = .ok (.iload 4, 2) := by decide +kernel
theorem dX10_gathers_12 : decode cX10_gathers 12 = .ok (.aload_n 0, 1) := by decide +kernel
theorem dX10_gathers_13 : decode cX10_gathers 13 = .ok (.getfield 142, 3) := by decide +kernel
theorem dX10_gathers_16 : decode cX10_gathers 16 = .ok (.if_icmp .ge 107, 3) := by decide +kernel
theorem dX10_gathers_19 : decode cX10_gathers 19 = .ok (.aload_n 0, 1) := by decide +kernel
theorem dX10_gathers_20 : decode cX10_gathers 20 = .ok (.getfield 44, 3) := by decide +kernel
theorem dX10_gathers_23 : decode cX10_gathers 23 = .ok (.iload 4, 2) := by decide +kernel
theorem dX10_gathers_25 : decode cX10_gathers 25 = .ok (.iaload, 1) := by decide +kernel
theorem dX10_gathers_26 : decode cX10_gathers 26 = .ok (.istore 5, 2) := by decide +kernel
theorem dX10_gathers_28 : decode cX10_gathers 28 = .ok (.iload 4, 2) := by decide +kernel
theorem dX10_gathers_30 : decode cX10_gathers 30 = .ok (.ifCond .eq 14, 3) := by decide +kernel
theorem dX10_gathers_33 : decode cX10_gathers 33 = .ok (.aload_n 0, 1) := by decide +kernel
theorem dX10_gathers_34 : decode cX10_gathers 34 = .ok (.getfield 26, 3) := by decide +kernel
theorem dX10_gathers_37 : decode cX10_gathers 37 = .ok (.iload 5, 2) := by decide +kernel
theorem dX10_gathers_39 : decode cX10_gathers 39 = .ok (.iaload, 1) := by decide +kernel
theorem dX10_gathers_40 : decode cX10_gathers 40 = .ok (.iload_n 2, 1) := by decide +kernel
theorem dX10_gathers_41 : decode cX10_gathers 41 = .ok (.if_icmp .lt 26, 3) := by decide +kernel
theorem dX10_gathers_44 : decode cX10_gathers 44 = .ok (.iinc 1 1, 3) := by decide +kernel
theorem dX10_gathers_47 : decode cX10_gathers 47 = .ok (.iload 4, 2) := by decide +kernel
theorem dX10_gathers_49 : decode cX10_gathers 49 = .ok (.istore_n 3, 1) := by decide +kernel
theorem dX10_gathers_50 : decode cX10_gathers 50 = .ok (.aload_n 0, 1) := by decide +kernel
theorem dX10_gathers_51 : decode cX10_gathers 51 = .ok (.getfield 29, 3) := by decide +kernel
theorem dX10_gathers_54 : decode cX10_gathers 54 = .ok (.iload 5, 2) := by decide +kernel
theorem dX10_gathers_56 : decode cX10_gathers 56 = .ok (.iaload, 1) := by decide +kernel
theorem dX10_gathers_57 : decode cX10_gathers 57 = .ok (.istore_n 2, 1) := by decide +kernel
theorem dX10_gathers_58 : decode cX10_gathers 58 = .ok (.aload_n 0, 1) := by decide +kernel
theorem dX10_gathers_59 : decode cX10_gathers 59 = .ok (.getfield 98, 3) := by decide +kernel
theorem dX10_gathers_62 : decode cX10_gathers 62 = .ok (.iload 4, 2) := by decide +kernel
theorem dX10_gathers_64 : decode cX10_gathers 64 = .ok (.iload 5, 2) := by decide +kernel
theorem dX10_gathers_66 : decode cX10_gathers 66 = .ok (.iastore, 1) := by decide +kernel
theorem dX10_gathers_67 : decode cX10_gathers 67 = .ok (.aload_n 0, 1) := by decide +kernel
theorem dX10_gathers_68 : decode cX10_gathers 68 = .ok (.getfield 29, 3) := by decide +kernel
theorem dX10_gathers_71 : decode cX10_gathers 71 = .ok (.iload 5, 2) := by decide +kernel
theorem dX10_gathers_73 : decode cX10_gathers 73 = .ok (.iaload, 1) := by decide +kernel
theorem dX10_gathers_74 : decode cX10_gathers 74 = .ok (.iload_n 2, 1) := by decide +kernel
theorem dX10_gathers_75 : decode cX10_gathers 75 = .ok (.invokestatic 198, 3) := by decide +kernel
theorem dX10_gathers_78 : decode cX10_gathers 78 = .ok (.istore_n 2, 1) := by decide +kernel
theorem dX10_gathers_79 : decode cX10_gathers 79 = .ok (.aload_n 0, 1) := by decide +kernel
theorem dX10_gathers_80 : decode cX10_gathers 80 = .ok (.getfield 98, 3) := by decide +kernel
theorem dX10_gathers_83 : decode cX10_gathers 83 = .ok (.iload_n 3, 1) := by decide +kernel
theorem dX10_gathers_84 : decode cX10_gathers 84 = .ok (.iaload, 1) := by decide +kernel
theorem dX10_gathers_85 : decode cX10_gathers 85 = .ok (.iload 5, 2) := by decide +kernel
theorem dX10_gathers_87 : decode cX10_gathers 87 = .ok (.invokestatic 277, 3) := by decide +kernel
theorem dX10_gathers_90 : decode cX10_gathers 90 = .ok (.istore 6, 2) := by decide +kernel
theorem dX10_gathers_92 : decode cX10_gathers 92 = .ok (.iload_n 3, 1) := by decide +kernel
theorem dX10_gathers_93 : decode cX10_gathers 93 = .ok (.istore 7, 2) := by decide +kernel
theorem dX10_gathers_95 : decode cX10_gathers 95 = .ok (.iload 7, 2) := by decide +kernel
theorem dX10_gathers_97 : decode cX10_gathers 97 = .ok (.iload 4, 2) := by decide +kernel
theorem dX10_gathers_99 : decode cX10_gathers 99 = .ok (.if_icmp .gt 18, 3) := by decide +kernel
theorem dX10_gathers_102 : decode cX10_gathers 102 = .ok (.aload_n 0, 1) := by decide +kernel
theorem dX10_gathers_103 : decode cX10_gathers 103 = .ok (.getfield 98, 3) := by decide +kernel
theorem dX10_gathers_106 : decode cX10_gathers 106 = .ok (.iload 7, 2) := by decide +kernel
theorem dX10_gathers_108 : decode cX10_gathers 108 = .ok (.iload 6, 2) := by decide +kernel
theorem dX10_gathers_110 : decode cX10_gathers 110 = .ok (.iastore, 1) := by decide +kernel
theorem dX10_gathers_111 : decode cX10_gathers 111 = .ok (.iinc 7 1, 3) := by decide +kernel
theorem dX10_gathers_114 : decode cX10_gathers 114 = .ok (.goto (-19), 3) := by decide +kernel
theorem dX10_gathers_117 : decode cX10_gathers 117 = .ok (.iinc 4 1, 3) := by decide +kernel
theorem dX10_gathers_120 : decode cX10_gathers 120 = .ok (.goto (-110), 3) := by decide +kernel
theorem dX10_gathers_123 : decode cX10_gathers 123 = .ok (.iload_n 1, 1) := by decide +kernel
theorem dX10_gathers_124 : decode cX10_gathers 124 = .ok (.ireturn, 1) := by decide +kernel
theorem dX10_groupOf_0 : decode cX10_groupOf 0 = .ok (.aload_n 0, 1) := by decide +kernel
theorem dX10_groupOf_1 : decode cX10_groupOf 1 = .ok (.getfield 98, 3) := by decide +kernel
theorem dX10_groupOf_4 : decode cX10_groupOf 4 = .ok (.aload_n 0, 1) := by decide +kernel
theorem dX10_groupOf_5 : decode cX10_groupOf 5 = .ok (.getfield 47, 3) := by decide +kernel
theorem dX10_groupOf_8 : decode cX10_groupOf 8 = .ok (.iload_n 1, 1) := by decide +kernel
theorem dX10_groupOf_9 : decode cX10_groupOf 9 = .ok (.iaload, 1) := by decide +kernel
theorem dX10_groupOf_10 : decode cX10_groupOf 10 = .ok (.iaload, 1) := by decide +kernel
theorem dX10_groupOf_11 : decode cX10_groupOf 11 = .ok (.istore_n 3, 1) := by decide +kernel
theorem dX10_groupOf_12 : decode cX10_groupOf 12 = .ok (.iconst 0, 1) := by decide +kernel
theorem dX10_groupOf_13 : decode cX10_groupOf 13 = .ok (.istore 4, 2) := by decide +kernel
theorem dX10_groupOf_15 : decode cX10_groupOf 15 = .ok (.iconst 0, 1) := by decide +kernel
theorem dX10_groupOf_16 : decode cX10_groupOf 16 = .ok (.istore 5, 2) := by decide +kernel
theorem dX10_groupOf_18 : decode cX10_groupOf 18 = .ok (.iload 5, 2) := by decide +kernel
theorem dX10_groupOf_20 : decode cX10_groupOf 20 = .ok (.aload_n 0, 1) := by decide +kernel
theorem dX10_groupOf_21 : decode cX10_groupOf 21 = .ok (.getfield 142, 3) := by decide +kernel
theorem dX10_groupOf_24 : decode cX10_groupOf 24 = .ok (.if_icmp .ge 30, 3) := by decide +kernel
theorem dX10_groupOf_27 : decode cX10_groupOf 27 = .ok (.iload 4, 2) := by decide +kernel
theorem dX10_groupOf_29 : decode cX10_groupOf 29 = .ok (.aload_n 0, 1) := by decide +kernel
theorem dX10_groupOf_30 : decode cX10_groupOf 30 = .ok (.getfield 98, 3) := by decide +kernel
theorem dX10_groupOf_33 : decode cX10_groupOf 33 = .ok (.iload 5, 2) := by decide +kernel
theorem dX10_groupOf_35 : decode cX10_groupOf 35 = .ok (.iaload, 1) := by decide +kernel
theorem dX10_groupOf_36 : decode cX10_groupOf 36 = .ok (.iload_n 3, 1) := by decide +kernel
theorem dX10_groupOf_37 : decode cX10_groupOf 37 = .ok (.if_icmp .ne 7, 3) := by decide +kernel
theorem dX10_groupOf_40 : decode cX10_groupOf 40 = .ok (.iconst 1, 1) := by decide +kernel
theorem dX10_groupOf_41 : decode cX10_groupOf 41 = .ok (.goto 4, 3) := by decide +kernel
theorem dX10_groupOf_44 : decode cX10_groupOf 44 = .ok (.iconst 0, 1) := by decide +kernel
theorem dX10_groupOf_45 : decode cX10_groupOf 45 = .ok (.iadd, 1) := by decide +kernel
theorem dX10_groupOf_46 : decode cX10_groupOf 46 = .ok (.istore 4, 2) := by decide +kernel
theorem dX10_groupOf_48 : decode cX10_groupOf 48 = .ok (.iinc 5 1, 3) := by decide +kernel
theorem dX10_groupOf_51 : decode cX10_groupOf 51 = .ok (.goto (-33), 3) := by decide +kernel
theorem dX10_groupOf_54 : decode cX10_groupOf 54 = .ok (.iload_n 2, 1) := by decide +kernel
theorem dX10_groupOf_55 : decode cX10_groupOf 55 = .ok (.ifCond .ne 7, 3) := by decide +kernel
theorem dX10_groupOf_58 : decode cX10_groupOf 58 = .ok (.iload_n 3, 1) := by decide +kernel
theorem dX10_groupOf_59 : decode cX10_groupOf 59 = .ok (.goto 5, 3) := by decide +kernel
theorem dX10_groupOf_62 : decode cX10_groupOf 62 = .ok (.iload 4, 2) := by decide +kernel
theorem dX10_groupOf_64 : decode cX10_groupOf 64 = .ok (.ireturn, 1) := by decide +kernel
theorem dX10_groupBy_0 : decode cX10_groupBy 0 = .ok (.aload_n 0, 1) := by decide +kernel
theorem dX10_groupBy_1 : decode cX10_groupBy 1 = .ok (.invokevirtual 292, 3) := by decide +kernel
theorem dX10_groupBy_4 : decode cX10_groupBy 4 = .ok (.istore_n 3, 1) := by decide +kernel
theorem dX10_groupBy_5 : decode cX10_groupBy 5 = .ok (.iload_n 1, 1) := by decide +kernel
theorem dX10_groupBy_6 : decode cX10_groupBy 6 = .ok (.iconst (-1), 1) := by decide +kernel
theorem dX10_groupBy_7 : decode cX10_groupBy 7 = .ok (.if_icmp .ne 7, 3) := by decide +kernel
theorem dX10_groupBy_10 : decode cX10_groupBy 10 = .ok (.iload_n 3, 1) := by decide +kernel
theorem dX10_groupBy_11 : decode cX10_groupBy 11 = .ok (.goto 23, 3) := by decide +kernel
theorem dX10_groupBy_14 : decode cX10_groupBy 14 = .ok (.aload_n 0, 1) := by decide +kernel
theorem dX10_groupBy_15 : decode cX10_groupBy 15 = .ok (.getfield 22, 3) := by decide +kernel
theorem dX10_groupBy_18 : decode cX10_groupBy 18 = .ok (.iload_n 1, 1) := by decide +kernel
theorem dX10_groupBy_19 : decode cX10_groupBy 19 = .ok (.baload, 1) := by decide +kernel
theorem dX10_groupBy_20 : decode cX10_groupBy 20 = .ok (.ifCond .eq 12, 3) := by decide +kernel
theorem dX10_groupBy_23 : decode cX10_groupBy 23 = .ok (.aload_n 0, 1) := by decide +kernel
theorem dX10_groupBy_24 : decode cX10_groupBy 24 = .ok (.iload_n 1, 1) := by decide +kernel
theorem dX10_groupBy_25 : decode cX10_groupBy 25 = .ok (.iload_n 2, 1) := by decide +kernel
theorem dX10_groupBy_26 : decode cX10_groupBy 26 = .ok (.invokevirtual 295, 3) := by decide +kernel
theorem dX10_groupBy_29 : decode cX10_groupBy 29 = .ok (.goto 5, 3) := by decide +kernel
theorem dX10_groupBy_32 : decode cX10_groupBy 32 = .ok (.bipush (-3), 2) := by decide +kernel
theorem dX10_groupBy_34 : decode cX10_groupBy 34 = .ok (.ireturn, 1) := by decide +kernel
theorem dX10_group_0 : decode cX10_group 0 = .ok (.aload_n 0, 1) := by decide +kernel
theorem dX10_group_1 : decode cX10_group 1 = .ok (.invokevirtual 188, 3) := by decide +kernel
theorem dX10_group_4 : decode cX10_group 4 = .ok (.iload_n 1, 1) := by decide +kernel
theorem dX10_group_5 : decode cX10_group 5 = .ok (.i2l, 1) := by decide +kernel
theorem dX10_group_6 : decode cX10_group 6 = .ok (.ldc2_w 219, 3) := by decide +kernel
theorem dX10_group_9 : decode cX10_group 9 = .ok (.ldc2_w 130, 3) := by decide +kernel
theorem dX10_group_12 : decode cX10_group 12 = .ok (.invokestatic 101, 3) := by decide +kernel
theorem dX10_group_15 : decode cX10_group 15 = .ok (.ifCond .eq 19, 3) := by decide +kernel
theorem dX10_group_18 : decode cX10_group 18 = .ok (.iload_n 2, 1) := by decide +kernel
theorem dX10_group_19 : decode cX10_group 19 = .ok (.invokestatic 174, 3) := by decide +kernel
theorem dX10_group_22 : decode cX10_group 22 = .ok (.ifCond .eq 12, 3) := by decide +kernel
theorem dX10_group_25 : decode cX10_group 25 = .ok (.aload_n 0, 1) := by decide +kernel
theorem dX10_group_26 : decode cX10_group 26 = .ok (.iload_n 1, 1) := by decide +kernel
theorem dX10_group_27 : decode cX10_group 27 = .ok (.iload_n 2, 1) := by decide +kernel
theorem dX10_group_28 : decode cX10_group 28 = .ok (.invokevirtual 298, 3) := by decide +kernel
theorem dX10_group_31 : decode cX10_group 31 = .ok (.goto 5, 3) := by decide +kernel
theorem dX10_group_34 : decode cX10_group 34 = .ok (.bipush (-2), 2) := by decide +kernel
theorem dX10_group_36 : decode cX10_group 36 = .ok (.ireturn, 1) := by decide +kernel
theorem dX10_write_0 : decode cX10_write 0 = .ok (.iload_n 1, 1) := by decide +kernel
theorem dX10_write_1 : decode cX10_write 1 = .ok (.iload_n 2, 1) := by decide +kernel
theorem dX10_write_2 : decode cX10_write 2 = .ok (.invokestatic 148, 3) := by decide +kernel
theorem dX10_write_5 : decode cX10_write 5 = .ok (.ifCond .eq 10, 3) := by decide +kernel
theorem dX10_write_8 : decode cX10_write 8 = .ok (.iload_n 3, 1) := by decide +kernel
theorem dX10_write_9 : decode cX10_write 9 = .ok (.invokestatic 111, 3) := by decide +kernel
theorem dX10_write_12 : decode cX10_write 12 = .ok (.ifCond .ne 6, 3) := by decide +kernel
theorem dX10_write_15 : decode cX10_write 15 = .ok (.bipush (-2), 2) := by decide +kernel
theorem dX10_write_17 : decode cX10_write 17 = .ok (.ireturn, 1) := by decide +kernel
theorem dX10_write_18 : decode cX10_write 18 = .ok (.aload_n 0, 1) := by decide +kernel
theorem dX10_write_19 : decode cX10_write 19 = .ok (.getfield 7, 3) := by decide +kernel
theorem dX10_write_22 : decode cX10_write 22 = .ok (.iload_n 3, 1) := by decide +kernel
theorem dX10_write_23 : decode cX10_write 23 = .ok (.iaload, 1) := by decide +kernel
theorem dX10_write_24 : decode cX10_write 24 = .ok (.ifCond .ge 9, 3) := by decide +kernel
theorem dX10_write_27 : decode cX10_write 27 = .ok (.aload_n 0, 1) := by decide +kernel
theorem dX10_write_28 : decode cX10_write 28 = .ok (.iconst 1, 1) := by decide +kernel
theorem dX10_write_29 : decode cX10_write 29 = .ok (.invokevirtual 117, 3) := by decide +kernel
theorem dX10_write_32 : decode cX10_write 32 = .ok (.ireturn, 1) := by decide +kernel
theorem dX10_write_33 : decode cX10_write 33 = .ok (.aload_n 0, 1) := by decide +kernel
theorem dX10_write_34 : decode cX10_write 34 = .ok (.invokevirtual 188, 3) := by decide +kernel
theorem dX10_write_37 : decode cX10_write 37 = .ok (.aload_n 0, 1) := by decide +kernel
theorem dX10_write_38 : decode cX10_write 38 = .ok (.getfield 13, 3) := by decide +kernel
theorem dX10_write_41 : decode cX10_write 41 = .ok (.iload_n 3, 1) := by decide +kernel
theorem dX10_write_42 : decode cX10_write 42 = .ok (.iaload, 1) := by decide +kernel
theorem dX10_write_43 : decode cX10_write 43 = .ok (.aload_n 0, 1) := by decide +kernel
theorem dX10_write_44 : decode cX10_write 44 = .ok (.iload_n 1, 1) := by decide +kernel
theorem dX10_write_45 : decode cX10_write 45 = .ok (.iload_n 2, 1) := by decide +kernel
theorem dX10_write_46 : decode cX10_write 46 = .ok (.iconst (-1), 1) := by decide +kernel
theorem dX10_write_47 : decode cX10_write 47 = .ok (.invokevirtual 221, 3) := by decide +kernel
theorem dX10_write_50 : decode cX10_write 50 = .ok (.invokestatic 277, 3) := by decide +kernel
theorem dX10_write_53 : decode cX10_write 53 = .ok (.istore 4, 2) := by decide +kernel
theorem dX10_write_55 : decode cX10_write 55 = .ok (.iconst 0, 1) := by decide +kernel
theorem dX10_write_56 : decode cX10_write 56 = .ok (.istore 5, 2) := by decide +kernel
theorem dX10_write_58 : decode cX10_write 58 = .ok (.iload 5, 2) := by decide +kernel
theorem dX10_write_60 : decode cX10_write 60 = .ok (.iload 4, 2) := by decide +kernel
theorem dX10_write_62 : decode cX10_write 62 = .ok (.if_icmp .ge 38, 3) := by decide +kernel
theorem dX10_write_65 : decode cX10_write 65 = .ok (.aload_n 0, 1) := by decide +kernel
theorem dX10_write_66 : decode cX10_write 66 = .ok (.getfield 16, 3) := by decide +kernel
theorem dX10_write_69 : decode cX10_write 69 = .ok (.bipush 60, 2) := by decide +kernel
theorem dX10_write_71 : decode cX10_write 71 = .ok (.iload_n 3, 1) := by decide +kernel
theorem dX10_write_72 : decode cX10_write 72 = .ok (.imul, 1) := by decide +kernel
theorem dX10_write_73 : decode cX10_write 73 = .ok (.iload 5, 2) := by decide +kernel
theorem dX10_write_75 : decode cX10_write 75 = .ok (.iadd, 1) := by decide +kernel
theorem dX10_write_76 : decode cX10_write 76 = .ok (.aload_n 0, 1) := by decide +kernel
theorem dX10_write_77 : decode cX10_write 77 = .ok (.getfield 7, 3) := by decide +kernel
theorem dX10_write_80 : decode cX10_write 80 = .ok (.iload_n 3, 1) := by decide +kernel
theorem dX10_write_81 : decode cX10_write 81 = .ok (.iaload, 1) := by decide +kernel
theorem dX10_write_82 : decode cX10_write 82 = .ok (.aload_n 0, 1) := by decide +kernel
theorem dX10_write_83 : decode cX10_write 83 = .ok (.iload_n 1, 1) := by decide +kernel
theorem dX10_write_84 : decode cX10_write 84 = .ok (.iload_n 2, 1) := by decide +kernel
theorem dX10_write_85 : decode cX10_write 85 = .ok (.iload 5, 2) := by decide +kernel
theorem dX10_write_87 : decode cX10_write 87 = .ok (.invokevirtual 221, 3) := by decide +kernel
theorem dX10_write_90 : decode cX10_write 90 = .ok (.invokestatic 125, 3) := by decide +kernel
theorem dX10_write_93 : decode cX10_write 93 = .ok (.iastore, 1) := by decide +kernel
theorem dX10_write_94 : decode cX10_write 94 = .ok (.iinc 5 1, 3) := by decide +kernel
theorem dX10_write_97 : decode cX10_write 97 = .ok (.goto (-39), 3) := by decide +kernel
theorem dX10_write_100 : decode cX10_write 100 = .ok (.iload 4, 2) := by decide +kernel
theorem dX10_write_102 : decode cX10_write 102 = .ok (.ireturn, 1) := by decide +kernel
theorem dX10_count_0 : decode cX10_count 0 = .ok (.aload_n 0, 1) := by decide +kernel
theorem dX10_count_1 : decode cX10_count 1 = .ok (.invokevirtual 204, 3) := by decide +kernel
theorem dX10_count_4 : decode cX10_count 4 = .ok (.iload_n 1, 1) := by decide +kernel
theorem dX10_count_5 : decode cX10_count 5 = .ok (.tableswitch 119 0 8 #[51, 56, 61, 84, 90, 96, 102, 109, 114], 51) := by decide +kernel
theorem dX10_count_56 : decode cX10_count 56 = .ok (.aload_n 0, 1) := by decide +kernel
theorem dX10_count_57 : decode cX10_count 57 = .ok (.getfield 142, 3) := by decide +kernel
theorem dX10_count_60 : decode cX10_count 60 = .ok (.ireturn, 1) := by decide +kernel
theorem dX10_count_61 : decode cX10_count 61 = .ok (.aload_n 0, 1) := by decide +kernel
theorem dX10_count_62 : decode cX10_count 62 = .ok (.getfield 139, 3) := by decide +kernel
theorem dX10_count_65 : decode cX10_count 65 = .ok (.ireturn, 1) := by decide +kernel
theorem dX10_count_66 : decode cX10_count 66 = .ok (.aload_n 0, 1) := by decide +kernel
theorem dX10_count_67 : decode cX10_count 67 = .ok (.getfield 142, 3) := by decide +kernel
theorem dX10_count_70 : decode cX10_count 70 = .ok (.ifCond .ne 7, 3) := by decide +kernel
theorem dX10_count_73 : decode cX10_count 73 = .ok (.iconst 0, 1) := by decide +kernel
theorem dX10_count_74 : decode cX10_count 74 = .ok (.goto 14, 3) := by decide +kernel
theorem dX10_count_77 : decode cX10_count 77 = .ok (.aload_n 0, 1) := by decide +kernel
theorem dX10_count_78 : decode cX10_count 78 = .ok (.getfield 68, 3) := by decide +kernel
theorem dX10_count_81 : decode cX10_count 81 = .ok (.aload_n 0, 1) := by decide +kernel
theorem dX10_count_82 : decode cX10_count 82 = .ok (.getfield 50, 3) := by decide +kernel
theorem dX10_count_85 : decode cX10_count 85 = .ok (.iconst 0, 1) := by decide +kernel
theorem dX10_count_86 : decode cX10_count 86 = .ok (.iaload, 1) := by decide +kernel
theorem dX10_count_87 : decode cX10_count 87 = .ok (.iaload, 1) := by decide +kernel
theorem dX10_count_88 : decode cX10_count 88 = .ok (.ireturn, 1) := by decide +kernel
theorem dX10_count_89 : decode cX10_count 89 = .ok (.aload_n 0, 1) := by decide +kernel
theorem dX10_count_90 : decode cX10_count 90 = .ok (.iconst 0, 1) := by decide +kernel
theorem dX10_count_91 : decode cX10_count 91 = .ok (.invokevirtual 253, 3) := by decide +kernel
theorem dX10_count_94 : decode cX10_count 94 = .ok (.ireturn, 1) := by decide +kernel
theorem dX10_count_95 : decode cX10_count 95 = .ok (.aload_n 0, 1) := by decide +kernel
theorem dX10_count_96 : decode cX10_count 96 = .ok (.iconst (-1), 1) := by decide +kernel
theorem dX10_count_97 : decode cX10_count 97 = .ok (.invokevirtual 265, 3) := by decide +kernel
theorem dX10_count_100 : decode cX10_count 100 = .ok (.ireturn, 1) := by decide +kernel
theorem dX10_count_101 : decode cX10_count 101 = .ok (.aload_n 0, 1) := by decide +kernel
theorem dX10_count_102 : decode cX10_count 102 = .ok (.iconst (-1), 1) := by decide +kernel
theorem dX10_count_103 : decode cX10_count 103 = .ok (.invokevirtual 271, 3) := by decide +kernel
theorem dX10_count_106 : decode cX10_count 106 = .ok (.ireturn, 1) := by decide +kernel
theorem dX10_count_107 : decode cX10_count 107 = .ok (.aload_n 0, 1) := by decide +kernel
theorem dX10_count_108 : decode cX10_count 108 = .ok (.iconst (-1), 1) := by decide +kernel
theorem dX10_count_109 : decode cX10_count 109 = .ok (.iconst 0, 1) := by decide +kernel
theorem dX10_count_110 : decode cX10_count 110 = .ok (.invokevirtual 298, 3) := by decide +kernel
theorem dX10_count_113 : decode cX10_count 113 = .ok (.ireturn, 1) := by decide +kernel
theorem dX10_count_114 : decode cX10_count 114 = .ok (.aload_n 0, 1) := by decide +kernel
theorem dX10_count_115 : decode cX10_count 115 = .ok (.invokevirtual 274, 3) := by decide +kernel
theorem dX10_count_118 : decode cX10_count 118 = .ok (.ireturn, 1) := by decide +kernel
theorem dX10_count_119 : decode cX10_count 119 = .ok (.aload_n 0, 1) := by decide +kernel
theorem dX10_count_120 : decode cX10_count 120 = .ok (.getfield 105, 3) := by decide +kernel
theorem dX10_count_123 : decode cX10_count 123 = .ok (.ireturn, 1) := by decide +kernel
theorem dX10_count_124 : decode cX10_count 124 = .ok (.bipush (-2), 2) := by decide +kernel
theorem dX10_count_126 : decode cX10_count 126 = .ok (.ireturn, 1) := by decide +kernel
theorem dX10_tellsKey_0 : decode cX10_tellsKey 0 = .ok (.ldc2_w 301, 3) := by decide +kernel
theorem dX10_tellsKey_3 : decode cX10_tellsKey 3 = .ok (.lload_n 1, 1) := by decide +kernel
theorem dX10_tellsKey_4 : decode cX10_tellsKey 4 = .ok (.lmul, 1) := by decide +kernel
theorem dX10_tellsKey_5 : decode cX10_tellsKey 5 = .ok (.aload_n 0, 1) := by decide +kernel
theorem dX10_tellsKey_6 : decode cX10_tellsKey 6 = .ok (.iload_n 3, 1) := by decide +kernel
theorem dX10_tellsKey_7 : decode cX10_tellsKey 7 = .ok (.iconst 0, 1) := by decide +kernel
theorem dX10_tellsKey_8 : decode cX10_tellsKey 8 = .ok (.invokevirtual 303, 3) := by decide +kernel
theorem dX10_tellsKey_11 : decode cX10_tellsKey 11 = .ok (.i2l, 1) := by decide +kernel
theorem dX10_tellsKey_12 : decode cX10_tellsKey 12 = .ok (.ladd, 1) := by decide +kernel
theorem dX10_tellsKey_13 : decode cX10_tellsKey 13 = .ok (.lstore 4, 2) := by decide +kernel
theorem dX10_tellsKey_15 : decode cX10_tellsKey 15 = .ok (.ldc2_w 301, 3) := by decide +kernel
theorem dX10_tellsKey_18 : decode cX10_tellsKey 18 = .ok (.lload 4, 2) := by decide +kernel
theorem dX10_tellsKey_20 : decode cX10_tellsKey 20 = .ok (.lmul, 1) := by decide +kernel
theorem dX10_tellsKey_21 : decode cX10_tellsKey 21 = .ok (.aload_n 0, 1) := by decide +kernel
theorem dX10_tellsKey_22 : decode cX10_tellsKey 22 = .ok (.iload_n 3, 1) := by decide +kernel
theorem dX10_tellsKey_23 : decode cX10_tellsKey 23 = .ok (.iconst 1, 1) := by decide +kernel
theorem dX10_tellsKey_24 : decode cX10_tellsKey 24 = .ok (.invokevirtual 303, 3) := by decide +kernel
theorem dX10_tellsKey_27 : decode cX10_tellsKey 27 = .ok (.i2l, 1) := by decide +kernel
theorem dX10_tellsKey_28 : decode cX10_tellsKey 28 = .ok (.ladd, 1) := by decide +kernel
theorem dX10_tellsKey_29 : decode cX10_tellsKey 29 = .ok (.lstore 4, 2) := by decide +kernel
theorem dX10_tellsKey_31 : decode cX10_tellsKey 31 = .ok (.ldc2_w 301, 3) := by decide +kernel
theorem dX10_tellsKey_34 : decode cX10_tellsKey 34 = .ok (.lload 4, 2) := by decide +kernel
theorem dX10_tellsKey_36 : decode cX10_tellsKey 36 = .ok (.lmul, 1) := by decide +kernel
theorem dX10_tellsKey_37 : decode cX10_tellsKey 37 = .ok (.aload_n 0, 1) := by decide +kernel
theorem dX10_tellsKey_38 : decode cX10_tellsKey 38 = .ok (.iload_n 3, 1) := by decide +kernel
theorem dX10_tellsKey_39 : decode cX10_tellsKey 39 = .ok (.invokevirtual 306, 3) := by decide +kernel
theorem dX10_tellsKey_42 : decode cX10_tellsKey 42 = .ok (.i2l, 1) := by decide +kernel
theorem dX10_tellsKey_43 : decode cX10_tellsKey 43 = .ok (.ladd, 1) := by decide +kernel
theorem dX10_tellsKey_44 : decode cX10_tellsKey 44 = .ok (.lstore 4, 2) := by decide +kernel
theorem dX10_tellsKey_46 : decode cX10_tellsKey 46 = .ok (.iconst 0, 1) := by decide +kernel
theorem dX10_tellsKey_47 : decode cX10_tellsKey 47 = .ok (.istore 6, 2) := by decide +kernel
theorem dX10_tellsKey_49 : decode cX10_tellsKey 49 = .ok (.iload 6, 2) := by decide +kernel
theorem dX10_tellsKey_51 : decode cX10_tellsKey 51 = .ok (.bipush 6, 2) := by decide +kernel
theorem dX10_tellsKey_53 : decode cX10_tellsKey 53 = .ok (.if_icmp .ge 26, 3) := by decide +kernel
theorem dX10_tellsKey_56 : decode cX10_tellsKey 56 = .ok (.ldc2_w 301, 3) := by decide +kernel
theorem dX10_tellsKey_59 : decode cX10_tellsKey 59 = .ok (.lload 4, 2) := by decide +kernel
theorem dX10_tellsKey_61 : decode cX10_tellsKey 61 = .ok (.lmul, 1) := by decide +kernel
theorem dX10_tellsKey_62 : decode cX10_tellsKey 62 = .ok (.aload_n 0, 1) := by decide +kernel
theorem dX10_tellsKey_63 : decode cX10_tellsKey 63 = .ok (.iload_n 3, 1) := by decide +kernel
theorem dX10_tellsKey_64 : decode cX10_tellsKey 64 = .ok (.iload 6, 2) := by decide +kernel
theorem dX10_tellsKey_66 : decode cX10_tellsKey 66 = .ok (.invokevirtual 309, 3) := by decide +kernel
theorem dX10_tellsKey_69 : decode cX10_tellsKey 69 = .ok (.i2l, 1) := by decide +kernel
theorem dX10_tellsKey_70 : decode cX10_tellsKey 70 = .ok (.ladd, 1) := by decide +kernel
theorem dX10_tellsKey_71 : decode cX10_tellsKey 71 = .ok (.lstore 4, 2) := by decide +kernel
theorem dX10_tellsKey_73 : decode cX10_tellsKey 73 = .ok (.iinc 6 1, 3) := by decide +kernel
theorem dX10_tellsKey_76 : decode cX10_tellsKey 76 = .ok (.goto (-27), 3) := by decide +kernel
theorem dX10_tellsKey_79 : decode cX10_tellsKey 79 = .ok (.ldc2_w 301, 3) := by decide +kernel
theorem dX10_tellsKey_82 : decode cX10_tellsKey 82 = .ok (.lload 4, 2) := by decide +kernel
theorem dX10_tellsKey_84 : decode cX10_tellsKey 84 = .ok (.lmul, 1) := by decide +kernel
theorem dX10_tellsKey_85 : decode cX10_tellsKey 85 = .ok (.aload_n 0, 1) := by decide +kernel
theorem dX10_tellsKey_86 : decode cX10_tellsKey 86 = .ok (.iload_n 3, 1) := by decide +kernel
theorem dX10_tellsKey_87 : decode cX10_tellsKey 87 = .ok (.invokevirtual 312, 3) := by decide +kernel
theorem dX10_tellsKey_90 : decode cX10_tellsKey 90 = .ok (.i2l, 1) := by decide +kernel
theorem dX10_tellsKey_91 : decode cX10_tellsKey 91 = .ok (.ladd, 1) := by decide +kernel
theorem dX10_tellsKey_92 : decode cX10_tellsKey 92 = .ok (.lstore 4, 2) := by decide +kernel
theorem dX10_tellsKey_94 : decode cX10_tellsKey 94 = .ok (.ldc2_w 301, 3) := by decide +kernel
theorem dX10_tellsKey_97 : decode cX10_tellsKey 97 = .ok (.lload 4, 2) := by decide +kernel
theorem dX10_tellsKey_99 : decode cX10_tellsKey 99 = .ok (.lmul, 1) := by decide +kernel
theorem dX10_tellsKey_100 : decode cX10_tellsKey 100 = .ok (.aload_n 0, 1) := by decide +kernel
theorem dX10_tellsKey_101 : decode cX10_tellsKey 101 = .ok (.iload_n 3, 1) := by decide +kernel
theorem dX10_tellsKey_102 : decode cX10_tellsKey 102 = .ok (.invokevirtual 265, 3) := by decide +kernel
theorem dX10_tellsKey_105 : decode cX10_tellsKey 105 = .ok (.i2l, 1) := by decide +kernel
theorem dX10_tellsKey_106 : decode cX10_tellsKey 106 = .ok (.ladd, 1) := by decide +kernel
theorem dX10_tellsKey_107 : decode cX10_tellsKey 107 = .ok (.lstore 4, 2) := by decide +kernel
theorem dX10_tellsKey_109 : decode cX10_tellsKey 109 = .ok (.ldc2_w 301, 3) := by decide +kernel
theorem dX10_tellsKey_112 : decode cX10_tellsKey 112 = .ok (.lload 4, 2) := by decide +kernel
theorem dX10_tellsKey_114 : decode cX10_tellsKey 114 = .ok (.lmul, 1) := by decide +kernel
theorem dX10_tellsKey_115 : decode cX10_tellsKey 115 = .ok (.aload_n 0, 1) := by decide +kernel
theorem dX10_tellsKey_116 : decode cX10_tellsKey 116 = .ok (.iload_n 3, 1) := by decide +kernel
theorem dX10_tellsKey_117 : decode cX10_tellsKey 117 = .ok (.iconst 0, 1) := by decide +kernel
theorem dX10_tellsKey_118 : decode cX10_tellsKey 118 = .ok (.invokevirtual 298, 3) := by decide +kernel
theorem dX10_tellsKey_121 : decode cX10_tellsKey 121 = .ok (.i2l, 1) := by decide +kernel
theorem dX10_tellsKey_122 : decode cX10_tellsKey 122 = .ok (.ladd, 1) := by decide +kernel
theorem dX10_tellsKey_123 : decode cX10_tellsKey 123 = .ok (.lstore 4, 2) := by decide +kernel
theorem dX10_tellsKey_125 : decode cX10_tellsKey 125 = .ok (.ldc2_w 301, 3) := by decide +kernel
theorem dX10_tellsKey_128 : decode cX10_tellsKey 128 = .ok (.lload 4, 2) := by decide +kernel
theorem dX10_tellsKey_130 : decode cX10_tellsKey 130 = .ok (.lmul, 1) := by decide +kernel
theorem dX10_tellsKey_131 : decode cX10_tellsKey 131 = .ok (.aload_n 0, 1) := by decide +kernel
theorem dX10_tellsKey_132 : decode cX10_tellsKey 132 = .ok (.iload_n 3, 1) := by decide +kernel
theorem dX10_tellsKey_133 : decode cX10_tellsKey 133 = .ok (.iconst 1, 1) := by decide +kernel
theorem dX10_tellsKey_134 : decode cX10_tellsKey 134 = .ok (.invokevirtual 298, 3) := by decide +kernel
theorem dX10_tellsKey_137 : decode cX10_tellsKey 137 = .ok (.i2l, 1) := by decide +kernel
theorem dX10_tellsKey_138 : decode cX10_tellsKey 138 = .ok (.ladd, 1) := by decide +kernel
theorem dX10_tellsKey_139 : decode cX10_tellsKey 139 = .ok (.lreturn, 1) := by decide +kernel
theorem dX10_tellsPoint_0 : decode cX10_tellsPoint 0 = .ok (.ldc2_w 301, 3) := by decide +kernel
theorem dX10_tellsPoint_3 : decode cX10_tellsPoint 3 = .ok (.lload_n 1, 1) := by decide +kernel
theorem dX10_tellsPoint_4 : decode cX10_tellsPoint 4 = .ok (.lmul, 1) := by decide +kernel
theorem dX10_tellsPoint_5 : decode cX10_tellsPoint 5 = .ok (.aload_n 0, 1) := by decide +kernel
theorem dX10_tellsPoint_6 : decode cX10_tellsPoint 6 = .ok (.iload_n 3, 1) := by decide +kernel
theorem dX10_tellsPoint_7 : decode cX10_tellsPoint 7 = .ok (.iconst (-1), 1) := by decide +kernel
theorem dX10_tellsPoint_8 : decode cX10_tellsPoint 8 = .ok (.invokevirtual 315, 3) := by decide +kernel
theorem dX10_tellsPoint_11 : decode cX10_tellsPoint 11 = .ok (.i2l, 1) := by decide +kernel
theorem dX10_tellsPoint_12 : decode cX10_tellsPoint 12 = .ok (.ladd, 1) := by decide +kernel
theorem dX10_tellsPoint_13 : decode cX10_tellsPoint 13 = .ok (.lstore 4, 2) := by decide +kernel
theorem dX10_tellsPoint_15 : decode cX10_tellsPoint 15 = .ok (.ldc2_w 301, 3) := by decide +kernel
theorem dX10_tellsPoint_18 : decode cX10_tellsPoint 18 = .ok (.lload 4, 2) := by decide +kernel
theorem dX10_tellsPoint_20 : decode cX10_tellsPoint 20 = .ok (.lmul, 1) := by decide +kernel
theorem dX10_tellsPoint_21 : decode cX10_tellsPoint 21 = .ok (.aload_n 0, 1) := by decide +kernel
theorem dX10_tellsPoint_22 : decode cX10_tellsPoint 22 = .ok (.iload_n 3, 1) := by decide +kernel
theorem dX10_tellsPoint_23 : decode cX10_tellsPoint 23 = .ok (.iconst 1, 1) := by decide +kernel
theorem dX10_tellsPoint_24 : decode cX10_tellsPoint 24 = .ok (.invokevirtual 315, 3) := by decide +kernel
theorem dX10_tellsPoint_27 : decode cX10_tellsPoint 27 = .ok (.i2l, 1) := by decide +kernel
theorem dX10_tellsPoint_28 : decode cX10_tellsPoint 28 = .ok (.ladd, 1) := by decide +kernel
theorem dX10_tellsPoint_29 : decode cX10_tellsPoint 29 = .ok (.lstore 4, 2) := by decide +kernel
theorem dX10_tellsPoint_31 : decode cX10_tellsPoint 31 = .ok (.iconst 0, 1) := by decide +kernel
theorem dX10_tellsPoint_32 : decode cX10_tellsPoint 32 = .ok (.istore 6, 2) := by decide +kernel
theorem dX10_tellsPoint_34 : decode cX10_tellsPoint 34 = .ok (.iload 6, 2) := by decide +kernel
theorem dX10_tellsPoint_36 : decode cX10_tellsPoint 36 = .ok (.iconst 3, 1) := by decide +kernel
theorem dX10_tellsPoint_37 : decode cX10_tellsPoint 37 = .ok (.if_icmp .ge 28, 3) := by decide +kernel
theorem dX10_tellsPoint_40 : decode cX10_tellsPoint 40 = .ok (.ldc2_w 301, 3) := by decide +kernel
theorem dX10_tellsPoint_43 : decode cX10_tellsPoint 43 = .ok (.lload 4, 2) := by decide +kernel
theorem dX10_tellsPoint_45 : decode cX10_tellsPoint 45 = .ok (.lmul, 1) := by decide +kernel
theorem dX10_tellsPoint_46 : decode cX10_tellsPoint 46 = .ok (.aload_n 0, 1) := by decide +kernel
theorem dX10_tellsPoint_47 : decode cX10_tellsPoint 47 = .ok (.iload_n 3, 1) := by decide +kernel
theorem dX10_tellsPoint_48 : decode cX10_tellsPoint 48 = .ok (.bipush 7, 2) := by decide +kernel
theorem dX10_tellsPoint_50 : decode cX10_tellsPoint 50 = .ok (.iload 6, 2) := by decide +kernel
theorem dX10_tellsPoint_52 : decode cX10_tellsPoint 52 = .ok (.invokevirtual 250, 3) := by decide +kernel
theorem dX10_tellsPoint_55 : decode cX10_tellsPoint 55 = .ok (.i2l, 1) := by decide +kernel
theorem dX10_tellsPoint_56 : decode cX10_tellsPoint 56 = .ok (.ladd, 1) := by decide +kernel
theorem dX10_tellsPoint_57 : decode cX10_tellsPoint 57 = .ok (.lstore 4, 2) := by decide +kernel
theorem dX10_tellsPoint_59 : decode cX10_tellsPoint 59 = .ok (.iinc 6 1, 3) := by decide +kernel
theorem dX10_tellsPoint_62 : decode cX10_tellsPoint 62 = .ok (.goto (-28), 3) := by decide +kernel
theorem dX10_tellsPoint_65 : decode cX10_tellsPoint 65 = .ok (.lload 4, 2) := by decide +kernel
theorem dX10_tellsPoint_67 : decode cX10_tellsPoint 67 = .ok (.lreturn, 1) := by decide +kernel
theorem dX10_tellsStretch_0 : decode cX10_tellsStretch 0 = .ok (.ldc2_w 301, 3) := by decide +kernel
theorem dX10_tellsStretch_3 : decode cX10_tellsStretch 3 = .ok (.lload_n 1, 1) := by decide +kernel
theorem dX10_tellsStretch_4 : decode cX10_tellsStretch 4 = .ok (.lmul, 1) := by decide +kernel
theorem dX10_tellsStretch_5 : decode cX10_tellsStretch 5 = .ok (.aload_n 0, 1) := by decide +kernel
theorem dX10_tellsStretch_6 : decode cX10_tellsStretch 6 = .ok (.iload_n 3, 1) := by decide +kernel
theorem dX10_tellsStretch_7 : decode cX10_tellsStretch 7 = .ok (.iload 4, 2) := by decide +kernel
theorem dX10_tellsStretch_9 : decode cX10_tellsStretch 9 = .ok (.invokevirtual 212, 3) := by decide +kernel
theorem dX10_tellsStretch_12 : decode cX10_tellsStretch 12 = .ok (.i2l, 1) := by decide +kernel
theorem dX10_tellsStretch_13 : decode cX10_tellsStretch 13 = .ok (.ladd, 1) := by decide +kernel
theorem dX10_tellsStretch_14 : decode cX10_tellsStretch 14 = .ok (.lstore 5, 2) := by decide +kernel
theorem dX10_tellsStretch_16 : decode cX10_tellsStretch 16 = .ok (.ldc2_w 301, 3) := by decide +kernel
theorem dX10_tellsStretch_19 : decode cX10_tellsStretch 19 = .ok (.lload 5, 2) := by decide +kernel
theorem dX10_tellsStretch_21 : decode cX10_tellsStretch 21 = .ok (.lmul, 1) := by decide +kernel
theorem dX10_tellsStretch_22 : decode cX10_tellsStretch 22 = .ok (.aload_n 0, 1) := by decide +kernel
theorem dX10_tellsStretch_23 : decode cX10_tellsStretch 23 = .ok (.iload_n 3, 1) := by decide +kernel
theorem dX10_tellsStretch_24 : decode cX10_tellsStretch 24 = .ok (.iload 4, 2) := by decide +kernel
theorem dX10_tellsStretch_26 : decode cX10_tellsStretch 26 = .ok (.iconst (-1), 1) := by decide +kernel
theorem dX10_tellsStretch_27 : decode cX10_tellsStretch 27 = .ok (.invokevirtual 221, 3) := by decide +kernel
theorem dX10_tellsStretch_30 : decode cX10_tellsStretch 30 = .ok (.i2l, 1) := by decide +kernel
theorem dX10_tellsStretch_31 : decode cX10_tellsStretch 31 = .ok (.ladd, 1) := by decide +kernel
theorem dX10_tellsStretch_32 : decode cX10_tellsStretch 32 = .ok (.lstore 5, 2) := by decide +kernel
theorem dX10_tellsStretch_34 : decode cX10_tellsStretch 34 = .ok (.ldc2_w 301, 3) := by decide +kernel
theorem dX10_tellsStretch_37 : decode cX10_tellsStretch 37 = .ok (.lload 5, 2) := by decide +kernel
theorem dX10_tellsStretch_39 : decode cX10_tellsStretch 39 = .ok (.lmul, 1) := by decide +kernel
theorem dX10_tellsStretch_40 : decode cX10_tellsStretch 40 = .ok (.aload_n 0, 1) := by decide +kernel
theorem dX10_tellsStretch_41 : decode cX10_tellsStretch 41 = .ok (.iload_n 3, 1) := by decide +kernel
theorem dX10_tellsStretch_42 : decode cX10_tellsStretch 42 = .ok (.iload 4, 2) := by decide +kernel
theorem dX10_tellsStretch_44 : decode cX10_tellsStretch 44 = .ok (.iconst 0, 1) := by decide +kernel
theorem dX10_tellsStretch_45 : decode cX10_tellsStretch 45 = .ok (.invokevirtual 221, 3) := by decide +kernel
theorem dX10_tellsStretch_48 : decode cX10_tellsStretch 48 = .ok (.i2l, 1) := by decide +kernel
theorem dX10_tellsStretch_49 : decode cX10_tellsStretch 49 = .ok (.ladd, 1) := by decide +kernel
theorem dX10_tellsStretch_50 : decode cX10_tellsStretch 50 = .ok (.lstore 5, 2) := by decide +kernel
theorem dX10_tellsStretch_52 : decode cX10_tellsStretch 52 = .ok (.ldc2_w 301, 3) := by decide +kernel
theorem dX10_tellsStretch_55 : decode cX10_tellsStretch 55 = .ok (.lload 5, 2) := by decide +kernel
theorem dX10_tellsStretch_57 : decode cX10_tellsStretch 57 = .ok (.lmul, 1) := by decide +kernel
theorem dX10_tellsStretch_58 : decode cX10_tellsStretch 58 = .ok (.aload_n 0, 1) := by decide +kernel
theorem dX10_tellsStretch_59 : decode cX10_tellsStretch 59 = .ok (.iload_n 3, 1) := by decide +kernel
theorem dX10_tellsStretch_60 : decode cX10_tellsStretch 60 = .ok (.iload 4, 2) := by decide +kernel
theorem dX10_tellsStretch_62 : decode cX10_tellsStretch 62 = .ok (.invokevirtual 227, 3) := by decide +kernel
theorem dX10_tellsStretch_65 : decode cX10_tellsStretch 65 = .ok (.i2l, 1) := by decide +kernel
theorem dX10_tellsStretch_66 : decode cX10_tellsStretch 66 = .ok (.ladd, 1) := by decide +kernel
theorem dX10_tellsStretch_67 : decode cX10_tellsStretch 67 = .ok (.lstore 5, 2) := by decide +kernel
theorem dX10_tellsStretch_69 : decode cX10_tellsStretch 69 = .ok (.ldc2_w 301, 3) := by decide +kernel
theorem dX10_tellsStretch_72 : decode cX10_tellsStretch 72 = .ok (.lload 5, 2) := by decide +kernel
theorem dX10_tellsStretch_74 : decode cX10_tellsStretch 74 = .ok (.lmul, 1) := by decide +kernel
theorem dX10_tellsStretch_75 : decode cX10_tellsStretch 75 = .ok (.aload_n 0, 1) := by decide +kernel
