theorem dL_low_0 : decode cL_low 0 = .ok (.iload_n 0, 1) := by decide +kernel
theorem dL_low_1 : decode cL_low 1 = .ok (.ldc 7, 2) := by decide +kernel
theorem dL_low_3 : decode cL_low 3 = .ok (.iand, 1) := by decide +kernel
theorem dL_low_4 : decode cL_low 4 = .ok (.iload_n 1, 1) := by decide +kernel
theorem dL_low_5 : decode cL_low 5 = .ok (.irem, 1) := by decide +kernel
theorem dL_low_6 : decode cL_low 6 = .ok (.ireturn, 1) := by decide +kernel
theorem dL_cell_0 : decode cL_cell 0 = .ok (.iload_n 1, 1) := by decide +kernel
theorem dL_cell_1 : decode cL_cell 1 = .ok (.aload_n 0, 1) := by decide +kernel
theorem dL_cell_2 : decode cL_cell 2 = .ok (.arraylength, 1) := by decide +kernel
theorem dL_cell_3 : decode cL_cell 3 = .ok (.if_icmp .ge 9, 3) := by decide +kernel
theorem dL_cell_6 : decode cL_cell 6 = .ok (.aload_n 0, 1) := by decide +kernel
theorem dL_cell_7 : decode cL_cell 7 = .ok (.iload_n 1, 1) := by decide +kernel
theorem dL_cell_8 : decode cL_cell 8 = .ok (.iaload, 1) := by decide +kernel
theorem dL_cell_9 : decode cL_cell 9 = .ok (.goto 9, 3) := by decide +kernel
theorem dL_cell_12 : decode cL_cell 12 = .ok (.ldc 8, 2) := by decide +kernel
theorem dL_cell_14 : decode cL_cell 14 = .ok (.iload_n 1, 1) := by decide +kernel
theorem dL_cell_15 : decode cL_cell 15 = .ok (.iconst 3, 1) := by decide +kernel
theorem dL_cell_16 : decode cL_cell 16 = .ok (.iadd, 1) := by decide +kernel
theorem dL_cell_17 : decode cL_cell 17 = .ok (.imul, 1) := by decide +kernel
theorem dL_cell_18 : decode cL_cell 18 = .ok (.ireturn, 1) := by decide +kernel
theorem dL_at_0 : decode cL_at 0 = .ok (.iload_n 1, 1) := by decide +kernel
theorem dL_at_1 : decode cL_at 1 = .ok (.aload_n 0, 1) := by decide +kernel
theorem dL_at_2 : decode cL_at 2 = .ok (.invokevirtual 9, 3) := by decide +kernel
theorem dL_at_5 : decode cL_at 5 = .ok (.if_icmp .ge 11, 3) := by decide +kernel
theorem dL_at_8 : decode cL_at 8 = .ok (.aload_n 0, 1) := by decide +kernel
theorem dL_at_9 : decode cL_at 9 = .ok (.iload_n 1, 1) := by decide +kernel
theorem dL_at_10 : decode cL_at 10 = .ok (.invokevirtual 15, 3) := by decide +kernel
theorem dL_at_13 : decode cL_at 13 = .ok (.goto 4, 3) := by decide +kernel
theorem dL_at_16 : decode cL_at 16 = .ok (.iconst 0, 1) := by decide +kernel
theorem dL_at_17 : decode cL_at 17 = .ok (.ireturn, 1) := by decide +kernel
theorem dL_four_0 : decode cL_four 0 = .ok (.aload_n 0, 1) := by decide +kernel
theorem dL_four_1 : decode cL_four 1 = .ok (.iload_n 1, 1) := by decide +kernel
theorem dL_four_2 : decode cL_four 2 = .ok (.invokestatic 19, 3) := by decide +kernel
theorem dL_four_5 : decode cL_four 5 = .ok (.bipush 24, 2) := by decide +kernel
theorem dL_four_7 : decode cL_four 7 = .ok (.ishl, 1) := by decide +kernel
theorem dL_four_8 : decode cL_four 8 = .ok (.aload_n 0, 1) := by decide +kernel
theorem dL_four_9 : decode cL_four 9 = .ok (.iload_n 1, 1) := by decide +kernel
theorem dL_four_10 : decode cL_four 10 = .ok (.iconst 1, 1) := by decide +kernel
theorem dL_four_11 : decode cL_four 11 = .ok (.iadd, 1) := by decide +kernel
theorem dL_four_12 : decode cL_four 12 = .ok (.invokestatic 19, 3) := by decide +kernel
theorem dL_four_15 : decode cL_four 15 = .ok (.bipush 16, 2) := by decide +kernel
theorem dL_four_17 : decode cL_four 17 = .ok (.ishl, 1) := by decide +kernel
theorem dL_four_18 : decode cL_four 18 = .ok (.ior, 1) := by decide +kernel
theorem dL_four_19 : decode cL_four 19 = .ok (.aload_n 0, 1) := by decide +kernel
theorem dL_four_20 : decode cL_four 20 = .ok (.iload_n 1, 1) := by decide +kernel
theorem dL_four_21 : decode cL_four 21 = .ok (.iconst 2, 1) := by decide +kernel
theorem dL_four_22 : decode cL_four 22 = .ok (.iadd, 1) := by decide +kernel
theorem dL_four_23 : decode cL_four 23 = .ok (.invokestatic 19, 3) := by decide +kernel
theorem dL_four_26 : decode cL_four 26 = .ok (.bipush 8, 2) := by decide +kernel
theorem dL_four_28 : decode cL_four 28 = .ok (.ishl, 1) := by decide +kernel
theorem dL_four_29 : decode cL_four 29 = .ok (.ior, 1) := by decide +kernel
theorem dL_four_30 : decode cL_four 30 = .ok (.aload_n 0, 1) := by decide +kernel
theorem dL_four_31 : decode cL_four 31 = .ok (.iload_n 1, 1) := by decide +kernel
theorem dL_four_32 : decode cL_four 32 = .ok (.iconst 3, 1) := by decide +kernel
theorem dL_four_33 : decode cL_four 33 = .ok (.iadd, 1) := by decide +kernel
theorem dL_four_34 : decode cL_four 34 = .ok (.invokestatic 19, 3) := by decide +kernel
theorem dL_four_37 : decode cL_four 37 = .ok (.ior, 1) := by decide +kernel
theorem dL_four_38 : decode cL_four 38 = .ok (.ireturn, 1) := by decide +kernel
theorem dL_tell_0 : decode cL_tell 0 = .ok (.iconst 0, 1) := by decide +kernel
theorem dL_tell_1 : decode cL_tell 1 = .ok (.istore_n 2, 1) := by decide +kernel
theorem dL_tell_2 : decode cL_tell 2 = .ok (.iload_n 2, 1) := by decide +kernel
theorem dL_tell_3 : decode cL_tell 3 = .ok (.aload_n 1, 1) := by decide +kernel
theorem dL_tell_4 : decode cL_tell 4 = .ok (.invokevirtual 9, 3) := by decide +kernel
theorem dL_tell_7 : decode cL_tell 7 = .ok (.if_icmp .ge 50, 3) := by decide +kernel
theorem dL_tell_10 : decode cL_tell 10 = .ok (.aload_n 0, 1) := by decide +kernel
theorem dL_tell_11 : decode cL_tell 11 = .ok (.aload_n 1, 1) := by decide +kernel
theorem dL_tell_12 : decode cL_tell 12 = .ok (.iload_n 2, 1) := by decide +kernel
theorem dL_tell_13 : decode cL_tell 13 = .ok (.invokestatic 25, 3) := by decide +kernel
theorem dL_tell_16 : decode cL_tell 16 = .ok (.aload_n 1, 1) := by decide +kernel
theorem dL_tell_17 : decode cL_tell 17 = .ok (.iload_n 2, 1) := by decide +kernel
theorem dL_tell_18 : decode cL_tell 18 = .ok (.iconst 4, 1) := by decide +kernel
theorem dL_tell_19 : decode cL_tell 19 = .ok (.iadd, 1) := by decide +kernel
theorem dL_tell_20 : decode cL_tell 20 = .ok (.invokestatic 25, 3) := by decide +kernel
theorem dL_tell_23 : decode cL_tell 23 = .ok (.aload_n 1, 1) := by decide +kernel
theorem dL_tell_24 : decode cL_tell 24 = .ok (.iload_n 2, 1) := by decide +kernel
theorem dL_tell_25 : decode cL_tell 25 = .ok (.bipush 8, 2) := by decide +kernel
theorem dL_tell_27 : decode cL_tell 27 = .ok (.iadd, 1) := by decide +kernel
theorem dL_tell_28 : decode cL_tell 28 = .ok (.invokestatic 25, 3) := by decide +kernel
theorem dL_tell_31 : decode cL_tell 31 = .ok (.aload_n 1, 1) := by decide +kernel
theorem dL_tell_32 : decode cL_tell 32 = .ok (.iload_n 2, 1) := by decide +kernel
theorem dL_tell_33 : decode cL_tell 33 = .ok (.bipush 12, 2) := by decide +kernel
theorem dL_tell_35 : decode cL_tell 35 = .ok (.iadd, 1) := by decide +kernel
theorem dL_tell_36 : decode cL_tell 36 = .ok (.invokestatic 25, 3) := by decide +kernel
theorem dL_tell_39 : decode cL_tell 39 = .ok (.aload_n 1, 1) := by decide +kernel
theorem dL_tell_40 : decode cL_tell 40 = .ok (.iload_n 2, 1) := by decide +kernel
theorem dL_tell_41 : decode cL_tell 41 = .ok (.bipush 16, 2) := by decide +kernel
theorem dL_tell_43 : decode cL_tell 43 = .ok (.iadd, 1) := by decide +kernel
theorem dL_tell_44 : decode cL_tell 44 = .ok (.invokestatic 25, 3) := by decide +kernel
theorem dL_tell_47 : decode cL_tell 47 = .ok (.invokevirtual 28, 3) := by decide +kernel
theorem dL_tell_50 : decode cL_tell 50 = .ok (.pop, 1) := by decide +kernel
theorem dL_tell_51 : decode cL_tell 51 = .ok (.iinc 2 20, 3) := by decide +kernel
theorem dL_tell_54 : decode cL_tell 54 = .ok (.goto (-52), 3) := by decide +kernel
theorem dL_tell_57 : decode cL_tell 57 = .ok (.aload_n 0, 1) := by decide +kernel
theorem dL_tell_58 : decode cL_tell 58 = .ok (.aload_n 1, 1) := by decide +kernel
theorem dL_tell_59 : decode cL_tell 59 = .ok (.invokevirtual 9, 3) := by decide +kernel
theorem dL_tell_62 : decode cL_tell 62 = .ok (.invokevirtual 34, 3) := by decide +kernel
theorem dL_tell_65 : decode cL_tell 65 = .ok (.istore_n 2, 1) := by decide +kernel
theorem dL_tell_66 : decode cL_tell 66 = .ok (.aload_n 1, 1) := by decide +kernel
theorem dL_tell_67 : decode cL_tell 67 = .ok (.iconst 0, 1) := by decide +kernel
theorem dL_tell_68 : decode cL_tell 68 = .ok (.invokevirtual 38, 3) := by decide +kernel
theorem dL_tell_71 : decode cL_tell 71 = .ok (.iload_n 2, 1) := by decide +kernel
theorem dL_tell_72 : decode cL_tell 72 = .ok (.ifCond .ge 7, 3) := by decide +kernel
theorem dL_tell_75 : decode cL_tell 75 = .ok (.iload_n 2, 1) := by decide +kernel
theorem dL_tell_76 : decode cL_tell 76 = .ok (.goto 7, 3) := by decide +kernel
theorem dL_tell_79 : decode cL_tell 79 = .ok (.aload_n 0, 1) := by decide +kernel
theorem dL_tell_80 : decode cL_tell 80 = .ok (.invokevirtual 42, 3) := by decide +kernel
theorem dL_tell_83 : decode cL_tell 83 = .ok (.ireturn, 1) := by decide +kernel
theorem dL_born_0 : decode cL_born 0 = .ok (.aload_n 0, 1) := by decide +kernel
theorem dL_born_1 : decode cL_born 1 = .ok (.ldc 45, 2) := by decide +kernel
theorem dL_born_3 : decode cL_born 3 = .ok (.invokevirtual 47, 3) := by decide +kernel
theorem dL_born_6 : decode cL_born 6 = .ok (.iload_n 1, 1) := by decide +kernel
theorem dL_born_7 : decode cL_born 7 = .ok (.invokevirtual 51, 3) := by decide +kernel
theorem dL_born_10 : decode cL_born 10 = .ok (.iload_n 2, 1) := by decide +kernel
theorem dL_born_11 : decode cL_born 11 = .ok (.ifCond .eq 8, 3) := by decide +kernel
theorem dL_born_14 : decode cL_born 14 = .ok (.ldc 54, 2) := by decide +kernel
theorem dL_born_16 : decode cL_born 16 = .ok (.goto 5, 3) := by decide +kernel
theorem dL_born_19 : decode cL_born 19 = .ok (.ldc 56, 2) := by decide +kernel
theorem dL_born_21 : decode cL_born 21 = .ok (.invokevirtual 47, 3) := by decide +kernel
theorem dL_born_24 : decode cL_born 24 = .ok (.pop, 1) := by decide +kernel
theorem dL_born_25 : decode cL_born 25 = .ok (.iload_n 3, 1) := by decide +kernel
theorem dL_born_26 : decode cL_born 26 = .ok (.ifCond .ge 13, 3) := by decide +kernel
theorem dL_born_29 : decode cL_born 29 = .ok (.aload_n 0, 1) := by decide +kernel
theorem dL_born_30 : decode cL_born 30 = .ok (.ldc 58, 2) := by decide +kernel
theorem dL_born_32 : decode cL_born 32 = .ok (.invokevirtual 47, 3) := by decide +kernel
theorem dL_born_35 : decode cL_born 35 = .ok (.pop, 1) := by decide +kernel
theorem dL_born_36 : decode cL_born 36 = .ok (.goto 14, 3) := by decide +kernel
theorem dL_born_39 : decode cL_born 39 = .ok (.aload_n 0, 1) := by decide +kernel
theorem dL_born_40 : decode cL_born 40 = .ok (.iload_n 3, 1) := by decide +kernel
theorem dL_born_41 : decode cL_born 41 = .ok (.invokevirtual 51, 3) := by decide +kernel
theorem dL_born_44 : decode cL_born 44 = .ok (.ldc 60, 2) := by decide +kernel
theorem dL_born_46 : decode cL_born 46 = .ok (.invokevirtual 47, 3) := by decide +kernel
theorem dL_born_49 : decode cL_born 49 = .ok (.pop, 1) := by decide +kernel
theorem dL_born_50 : decode cL_born 50 = .ok (.iload 4, 2) := by decide +kernel
theorem dL_born_52 : decode cL_born 52 = .ok (.ifCond .ge 12, 3) := by decide +kernel
theorem dL_born_55 : decode cL_born 55 = .ok (.aload_n 0, 1) := by decide +kernel
theorem dL_born_56 : decode cL_born 56 = .ok (.ldc 62, 2) := by decide +kernel
theorem dL_born_58 : decode cL_born 58 = .ok (.invokevirtual 47, 3) := by decide +kernel
theorem dL_born_61 : decode cL_born 61 = .ok (.goto 9, 3) := by decide +kernel
theorem dL_born_64 : decode cL_born 64 = .ok (.aload_n 0, 1) := by decide +kernel
theorem dL_born_65 : decode cL_born 65 = .ok (.iload 4, 2) := by decide +kernel
theorem dL_born_67 : decode cL_born 67 = .ok (.invokevirtual 51, 3) := by decide +kernel
theorem dL_born_70 : decode cL_born 70 = .ok (.areturn, 1) := by decide +kernel
theorem dL_text_0 : decode cL_text 0 = .ok (.aload_n 0, 1) := by decide +kernel
theorem dL_text_1 : decode cL_text 1 = .ok (.aload_n 1, 1) := by decide +kernel
theorem dL_text_2 : decode cL_text 2 = .ok (.invokevirtual 47, 3) := by decide +kernel
theorem dL_text_5 : decode cL_text 5 = .ok (.bipush 32, 2) := by decide +kernel
theorem dL_text_7 : decode cL_text 7 = .ok (.invokevirtual 64, 3) := by decide +kernel
theorem dL_text_10 : decode cL_text 10 = .ok (.iload_n 2, 1) := by decide +kernel
theorem dL_text_11 : decode cL_text 11 = .ok (.invokevirtual 51, 3) := by decide +kernel
theorem dL_text_14 : decode cL_text 14 = .ok (.bipush 32, 2) := by decide +kernel
theorem dL_text_16 : decode cL_text 16 = .ok (.invokevirtual 64, 3) := by decide +kernel
theorem dL_text_19 : decode cL_text 19 = .ok (.iload_n 3, 1) := by decide +kernel
theorem dL_text_20 : decode cL_text 20 = .ok (.invokevirtual 51, 3) := by decide +kernel
theorem dL_text_23 : decode cL_text 23 = .ok (.pop, 1) := by decide +kernel
theorem dL_text_24 : decode cL_text 24 = .ok (.iload 4, 2) := by decide +kernel
theorem dL_text_26 : decode cL_text 26 = .ok (.ifCond .ge 7, 3) := by decide +kernel
theorem dL_text_29 : decode cL_text 29 = .ok (.aload_n 0, 1) := by decide +kernel
theorem dL_text_30 : decode cL_text 30 = .ok (.goto 14, 3) := by decide +kernel
theorem dL_text_33 : decode cL_text 33 = .ok (.aload_n 0, 1) := by decide +kernel
theorem dL_text_34 : decode cL_text 34 = .ok (.bipush 32, 2) := by decide +kernel
theorem dL_text_36 : decode cL_text 36 = .ok (.invokevirtual 64, 3) := by decide +kernel
theorem dL_text_39 : decode cL_text 39 = .ok (.iload 4, 2) := by decide +kernel
theorem dL_text_41 : decode cL_text 41 = .ok (.invokevirtual 51, 3) := by decide +kernel
theorem dL_text_44 : decode cL_text 44 = .ok (.areturn, 1) := by decide +kernel
theorem dL_law_0 : decode cL_law 0 = .ok (.new 29, 3) := by decide +kernel
theorem dL_law_3 : decode cL_law 3 = .ok (.dup, 1) := by decide +kernel
theorem dL_law_4 : decode cL_law 4 = .ok (.invokespecial 67, 3) := by decide +kernel
theorem dL_law_7 : decode cL_law 7 = .ok (.astore_n 1, 1) := by decide +kernel
theorem dL_law_8 : decode cL_law 8 = .ok (.new 10, 3) := by decide +kernel
theorem dL_law_11 : decode cL_law 11 = .ok (.dup, 1) := by decide +kernel
theorem dL_law_12 : decode cL_law 12 = .ok (.invokespecial 68, 3) := by decide +kernel
theorem dL_law_15 : decode cL_law 15 = .ok (.astore_n 2, 1) := by decide +kernel
theorem dL_law_16 : decode cL_law 16 = .ok (.iconst 5, 1) := by decide +kernel
theorem dL_law_17 : decode cL_law 17 = .ok (.anewarray 69, 3) := by decide +kernel
theorem dL_law_20 : decode cL_law 20 = .ok (.dup, 1) := by decide +kernel
theorem dL_law_21 : decode cL_law 21 = .ok (.iconst 0, 1) := by decide +kernel
theorem dL_law_22 : decode cL_law 22 = .ok (.ldc 71, 2) := by decide +kernel
theorem dL_law_24 : decode cL_law 24 = .ok (.aastore, 1) := by decide +kernel
theorem dL_law_25 : decode cL_law 25 = .ok (.dup, 1) := by decide +kernel
theorem dL_law_26 : decode cL_law 26 = .ok (.iconst 1, 1) := by decide +kernel
theorem dL_law_27 : decode cL_law 27 = .ok (.ldc 73, 2) := by decide +kernel
theorem dL_law_29 : decode cL_law 29 = .ok (.aastore, 1) := by decide +kernel
theorem dL_law_30 : decode cL_law 30 = .ok (.dup, 1) := by decide +kernel
theorem dL_law_31 : decode cL_law 31 = .ok (.iconst 2, 1) := by decide +kernel
theorem dL_law_32 : decode cL_law 32 = .ok (.ldc 75, 2) := by decide +kernel
theorem dL_law_34 : decode cL_law 34 = .ok (.aastore, 1) := by decide +kernel
theorem dL_law_35 : decode cL_law 35 = .ok (.dup, 1) := by decide +kernel
theorem dL_law_36 : decode cL_law 36 = .ok (.iconst 3, 1) := by decide +kernel
theorem dL_law_37 : decode cL_law 37 = .ok (.ldc 77, 2) := by decide +kernel
theorem dL_law_39 : decode cL_law 39 = .ok (.aastore, 1) := by decide +kernel
theorem dL_law_40 : decode cL_law 40 = .ok (.dup, 1) := by decide +kernel
theorem dL_law_41 : decode cL_law 41 = .ok (.iconst 4, 1) := by decide +kernel
theorem dL_law_42 : decode cL_law 42 = .ok (.ldc 79, 2) := by decide +kernel
theorem dL_law_44 : decode cL_law 44 = .ok (.aastore, 1) := by decide +kernel
theorem dL_law_45 : decode cL_law 45 = .ok (.astore_n 3, 1) := by decide +kernel
theorem dL_law_46 : decode cL_law 46 = .ok (.bipush 24, 2) := by decide +kernel
theorem dL_law_48 : decode cL_law 48 = .ok (.newarray .int, 2) := by decide +kernel
theorem dL_law_50 : decode cL_law 50 = .ok (.astore 4, 2) := by decide +kernel
theorem dL_law_52 : decode cL_law 52 = .ok (.bipush 24, 2) := by decide +kernel
theorem dL_law_54 : decode cL_law 54 = .ok (.newarray .boolean, 2) := by decide +kernel
theorem dL_law_56 : decode cL_law 56 = .ok (.astore 5, 2) := by decide +kernel
theorem dL_law_58 : decode cL_law 58 = .ok (.aload 5, 2) := by decide +kernel
theorem dL_law_60 : decode cL_law 60 = .ok (.iconst 0, 1) := by decide +kernel
theorem dL_law_61 : decode cL_law 61 = .ok (.iconst 1, 1) := by decide +kernel
theorem dL_law_62 : decode cL_law 62 = .ok (.bastore, 1) := by decide +kernel
theorem dL_law_63 : decode cL_law 63 = .ok (.aload_n 1, 1) := by decide +kernel
theorem dL_law_64 : decode cL_law 64 = .ok (.aload_n 2, 1) := by decide +kernel
theorem dL_law_65 : decode cL_law 65 = .ok (.iconst 0, 1) := by decide +kernel
theorem dL_law_66 : decode cL_law 66 = .ok (.iconst 1, 1) := by decide +kernel
theorem dL_law_67 : decode cL_law 67 = .ok (.iconst (-1), 1) := by decide +kernel
theorem dL_law_68 : decode cL_law 68 = .ok (.iconst (-1), 1) := by decide +kernel
theorem dL_law_69 : decode cL_law 69 = .ok (.invokestatic 81, 3) := by decide +kernel
theorem dL_law_72 : decode cL_law 72 = .ok (.invokestatic 85, 3) := by decide +kernel
theorem dL_law_75 : decode cL_law 75 = .ok (.ifCond .ne 38, 3) := by decide +kernel
theorem dL_law_78 : decode cL_law 78 = .ok (.aload_n 1, 1) := by decide +kernel
theorem dL_law_79 : decode cL_law 79 = .ok (.aload_n 2, 1) := by decide +kernel
theorem dL_law_80 : decode cL_law 80 = .ok (.iconst 0, 1) := by decide +kernel
theorem dL_law_81 : decode cL_law 81 = .ok (.iconst 0, 1) := by decide +kernel
theorem dL_law_82 : decode cL_law 82 = .ok (.iconst (-1), 1) := by decide +kernel
theorem dL_law_83 : decode cL_law 83 = .ok (.iconst (-1), 1) := by decide +kernel
theorem dL_law_84 : decode cL_law 84 = .ok (.invokestatic 81, 3) := by decide +kernel
theorem dL_law_87 : decode cL_law 87 = .ok (.invokestatic 85, 3) := by decide +kernel
theorem dL_law_90 : decode cL_law 90 = .ok (.iconst 1, 1) := by decide +kernel
theorem dL_law_91 : decode cL_law 91 = .ok (.if_icmp .ne 22, 3) := by decide +kernel
theorem dL_law_94 : decode cL_law 94 = .ok (.aload_n 1, 1) := by decide +kernel
theorem dL_law_95 : decode cL_law 95 = .ok (.aload_n 2, 1) := by decide +kernel
theorem dL_law_96 : decode cL_law 96 = .ok (.ldc 89, 2) := by decide +kernel
theorem dL_law_98 : decode cL_law 98 = .ok (.sipush 4000, 3) := by decide +kernel
theorem dL_law_101 : decode cL_law 101 = .ok (.iconst 0, 1) := by decide +kernel
theorem dL_law_102 : decode cL_law 102 = .ok (.iconst 1, 1) := by decide +kernel
theorem dL_law_103 : decode cL_law 103 = .ok (.invokestatic 91, 3) := by decide +kernel
theorem dL_law_106 : decode cL_law 106 = .ok (.invokestatic 85, 3) := by decide +kernel
theorem dL_law_109 : decode cL_law 109 = .ok (.iconst 2, 1) := by decide +kernel
theorem dL_law_110 : decode cL_law 110 = .ok (.if_icmp .eq 5, 3) := by decide +kernel
theorem dL_law_113 : decode cL_law 113 = .ok (.iconst 0, 1) := by decide +kernel
theorem dL_law_114 : decode cL_law 114 = .ok (.ireturn, 1) := by decide +kernel
theorem dL_law_115 : decode cL_law 115 = .ok (.iconst 2, 1) := by decide +kernel
theorem dL_law_116 : decode cL_law 116 = .ok (.istore 6, 2) := by decide +kernel
theorem dL_law_118 : decode cL_law 118 = .ok (.iconst 0, 1) := by decide +kernel
theorem dL_law_119 : decode cL_law 119 = .ok (.istore 7, 2) := by decide +kernel
theorem dL_law_121 : decode cL_law 121 = .ok (.iload 7, 2) := by decide +kernel
theorem dL_law_123 : decode cL_law 123 = .ok (.bipush 10, 2) := by decide +kernel
theorem dL_law_125 : decode cL_law 125 = .ok (.if_icmp .ge 281, 3) := by decide +kernel
theorem dL_law_128 : decode cL_law 128 = .ok (.aload_n 0, 1) := by decide +kernel
theorem dL_law_129 : decode cL_law 129 = .ok (.iload 7, 2) := by decide +kernel
theorem dL_law_131 : decode cL_law 131 = .ok (.invokestatic 95, 3) := by decide +kernel
theorem dL_law_134 : decode cL_law 134 = .ok (.istore 8, 2) := by decide +kernel
theorem dL_law_136 : decode cL_law 136 = .ok (.iload 8, 2) := by decide +kernel
theorem dL_law_138 : decode cL_law 138 = .ok (.iconst 4, 1) := by decide +kernel
theorem dL_law_139 : decode cL_law 139 = .ok (.ishr, 1) := by decide +kernel
theorem dL_law_140 : decode cL_law 140 = .ok (.iload 6, 2) := by decide +kernel
theorem dL_law_142 : decode cL_law 142 = .ok (.invokestatic 99, 3) := by decide +kernel
theorem dL_law_145 : decode cL_law 145 = .ok (.istore 9, 2) := by decide +kernel
theorem dL_law_147 : decode cL_law 147 = .ok (.aload 4, 2) := by decide +kernel
theorem dL_law_149 : decode cL_law 149 = .ok (.iload 9, 2) := by decide +kernel
theorem dL_law_151 : decode cL_law 151 = .ok (.iaload, 1) := by decide +kernel
theorem dL_law_152 : decode cL_law 152 = .ok (.sipush 4300, 3) := by decide +kernel
theorem dL_law_155 : decode cL_law 155 = .ok (.iadd, 1) := by decide +kernel
theorem dL_law_156 : decode cL_law 156 = .ok (.iload 8, 2) := by decide +kernel
theorem dL_law_158 : decode cL_law 158 = .ok (.bipush 12, 2) := by decide +kernel
theorem dL_law_160 : decode cL_law 160 = .ok (.ishr, 1) := by decide +kernel
theorem dL_law_161 : decode cL_law 161 = .ok (.sipush 9000, 3) := by decide +kernel
theorem dL_law_164 : decode cL_law 164 = .ok (.invokestatic 99, 3) := by decide +kernel
theorem dL_law_167 : decode cL_law 167 = .ok (.iadd, 1) := by decide +kernel
theorem dL_law_168 : decode cL_law 168 = .ok (.istore 10, 2) := by decide +kernel
theorem dL_law_170 : decode cL_law 170 = .ok (.iload 10, 2) := by decide +kernel
theorem dL_law_172 : decode cL_law 172 = .ok (.ldc 103, 2) := by decide +kernel
theorem dL_law_174 : decode cL_law 174 = .ok (.if_icmp .le 6, 3) := by decide +kernel
theorem dL_law_177 : decode cL_law 177 = .ok (.goto 223, 3) := by decide +kernel
theorem dL_law_180 : decode cL_law 180 = .ok (.aload_n 1, 1) := by decide +kernel
theorem dL_law_181 : decode cL_law 181 = .ok (.iload 9, 2) := by decide +kernel
theorem dL_law_183 : decode cL_law 183 = .ok (.iload 10, 2) := by decide +kernel
theorem dL_law_185 : decode cL_law 185 = .ok (.sipush 200, 3) := by decide +kernel
theorem dL_law_188 : decode cL_law 188 = .ok (.isub, 1) := by decide +kernel
theorem dL_law_189 : decode cL_law 189 = .ok (.invokevirtual 104, 3) := by decide +kernel
theorem dL_law_192 : decode cL_law 192 = .ok (.istore 11, 2) := by decide +kernel
theorem dL_law_194 : decode cL_law 194 = .ok (.iload 11, 2) := by decide +kernel
theorem dL_law_196 : decode cL_law 196 = .ok (.ifCond .ge 127, 3) := by decide +kernel
theorem dL_law_199 : decode cL_law 199 = .ok (.iload 6, 2) := by decide +kernel
theorem dL_law_201 : decode cL_law 201 = .ok (.istore 11, 2) := by decide +kernel
theorem dL_law_203 : decode cL_law 203 = .ok (.aload 4, 2) := by decide +kernel
theorem dL_law_205 : decode cL_law 205 = .ok (.iload 11, 2) := by decide +kernel
theorem dL_law_207 : decode cL_law 207 = .ok (.aload 4, 2) := by decide +kernel
theorem dL_law_209 : decode cL_law 209 = .ok (.iload 9, 2) := by decide +kernel
theorem dL_law_211 : decode cL_law 211 = .ok (.iaload, 1) := by decide +kernel
theorem dL_law_212 : decode cL_law 212 = .ok (.iastore, 1) := by decide +kernel
theorem dL_law_213 : decode cL_law 213 = .ok (.aload 5, 2) := by decide +kernel
theorem dL_law_215 : decode cL_law 215 = .ok (.iload 11, 2) := by decide +kernel
theorem dL_law_217 : decode cL_law 217 = .ok (.aload 5, 2) := by decide +kernel
theorem dL_law_219 : decode cL_law 219 = .ok (.iload 9, 2) := by decide +kernel
theorem dL_law_221 : decode cL_law 221 = .ok (.baload, 1) := by decide +kernel
theorem dL_law_222 : decode cL_law 222 = .ok (.ifCond .ne 7, 3) := by decide +kernel
theorem dL_law_225 : decode cL_law 225 = .ok (.iconst 1, 1) := by decide +kernel
theorem dL_law_226 : decode cL_law 226 = .ok (.goto 4, 3) := by decide +kernel
theorem dL_law_229 : decode cL_law 229 = .ok (.iconst 0, 1) := by decide +kernel
theorem dL_law_230 : decode cL_law 230 = .ok (.bastore, 1) := by decide +kernel
theorem dL_law_231 : decode cL_law 231 = .ok (.aload_n 1, 1) := by decide +kernel
theorem dL_law_232 : decode cL_law 232 = .ok (.aload_n 2, 1) := by decide +kernel
theorem dL_law_233 : decode cL_law 233 = .ok (.aload 4, 2) := by decide +kernel
theorem dL_law_235 : decode cL_law 235 = .ok (.iload 11, 2) := by decide +kernel
theorem dL_law_237 : decode cL_law 237 = .ok (.iaload, 1) := by decide +kernel
theorem dL_law_238 : decode cL_law 238 = .ok (.aload 5, 2) := by decide +kernel
theorem dL_law_240 : decode cL_law 240 = .ok (.iload 11, 2) := by decide +kernel
theorem dL_law_242 : decode cL_law 242 = .ok (.baload, 1) := by decide +kernel
theorem dL_law_243 : decode cL_law 243 = .ok (.iconst (-1), 1) := by decide +kernel
theorem dL_law_244 : decode cL_law 244 = .ok (.iconst (-1), 1) := by decide +kernel
theorem dL_law_245 : decode cL_law 245 = .ok (.invokestatic 81, 3) := by decide +kernel
theorem dL_law_248 : decode cL_law 248 = .ok (.invokestatic 85, 3) := by decide +kernel
theorem dL_law_251 : decode cL_law 251 = .ok (.ifCond .ge 5, 3) := by decide +kernel
theorem dL_law_254 : decode cL_law 254 = .ok (.iconst 0, 1) := by decide +kernel
theorem dL_law_255 : decode cL_law 255 = .ok (.ireturn, 1) := by decide +kernel
theorem dL_law_256 : decode cL_law 256 = .ok (.iinc 6 1, 3) := by decide +kernel
theorem dL_law_259 : decode cL_law 259 = .ok (.aload_n 1, 1) := by decide +kernel
theorem dL_law_260 : decode cL_law 260 = .ok (.aload_n 2, 1) := by decide +kernel
theorem dL_law_261 : decode cL_law 261 = .ok (.ldc 89, 2) := by decide +kernel
theorem dL_law_263 : decode cL_law 263 = .ok (.iload 10, 2) := by decide +kernel
theorem dL_law_265 : decode cL_law 265 = .ok (.sipush 200, 3) := by decide +kernel
theorem dL_law_268 : decode cL_law 268 = .ok (.isub, 1) := by decide +kernel
theorem dL_law_269 : decode cL_law 269 = .ok (.aload 5, 2) := by decide +kernel
theorem dL_law_271 : decode cL_law 271 = .ok (.iload 9, 2) := by decide +kernel
theorem dL_law_273 : decode cL_law 273 = .ok (.baload, 1) := by decide +kernel
theorem dL_law_274 : decode cL_law 274 = .ok (.ifCond .eq 8, 3) := by decide +kernel
theorem dL_law_277 : decode cL_law 277 = .ok (.iload 9, 2) := by decide +kernel
theorem dL_law_279 : decode cL_law 279 = .ok (.goto 5, 3) := by decide +kernel
theorem dL_law_282 : decode cL_law 282 = .ok (.iload 11, 2) := by decide +kernel
theorem dL_law_284 : decode cL_law 284 = .ok (.aload 5, 2) := by decide +kernel
theorem dL_law_286 : decode cL_law 286 = .ok (.iload 9, 2) := by decide +kernel
theorem dL_law_288 : decode cL_law 288 = .ok (.baload, 1) := by decide +kernel
theorem dL_law_289 : decode cL_law 289 = .ok (.ifCond .eq 8, 3) := by decide +kernel
theorem dL_law_292 : decode cL_law 292 = .ok (.iload 11, 2) := by decide +kernel
theorem dL_law_294 : decode cL_law 294 = .ok (.goto 5, 3) := by decide +kernel
theorem dL_law_297 : decode cL_law 297 = .ok (.iload 9, 2) := by decide +kernel
theorem dL_law_299 : decode cL_law 299 = .ok (.invokestatic 91, 3) := by decide +kernel
theorem dL_law_302 : decode cL_law 302 = .ok (.invokestatic 85, 3) := by decide +kernel
theorem dL_law_305 : decode cL_law 305 = .ok (.istore 12, 2) := by decide +kernel
theorem dL_law_307 : decode cL_law 307 = .ok (.iload 12, 2) := by decide +kernel
theorem dL_law_309 : decode cL_law 309 = .ok (.ifCond .ge 14, 3) := by decide +kernel
theorem dL_law_312 : decode cL_law 312 = .ok (.aload_n 1, 1) := by decide +kernel
theorem dL_law_313 : decode cL_law 313 = .ok (.invokevirtual 107, 3) := by decide +kernel
theorem dL_law_316 : decode cL_law 316 = .ok (.bipush 7, 2) := by decide +kernel
theorem dL_law_318 : decode cL_law 318 = .ok (.if_icmp .eq 5, 3) := by decide +kernel
theorem dL_law_321 : decode cL_law 321 = .ok (.iconst 0, 1) := by decide +kernel
theorem dL_law_322 : decode cL_law 322 = .ok (.ireturn, 1) := by decide +kernel
theorem dL_law_323 : decode cL_law 323 = .ok (.aload 4, 2) := by decide +kernel
theorem dL_law_325 : decode cL_law 325 = .ok (.iload 6, 2) := by decide +kernel
theorem dL_law_327 : decode cL_law 327 = .ok (.iload 10, 2) := by decide +kernel
theorem dL_law_329 : decode cL_law 329 = .ok (.iastore, 1) := by decide +kernel
theorem dL_law_330 : decode cL_law 330 = .ok (.aload 5, 2) := by decide +kernel
theorem dL_law_332 : decode cL_law 332 = .ok (.iload 6, 2) := by decide +kernel
theorem dL_law_334 : decode cL_law 334 = .ok (.iload 8, 2) := by decide +kernel
theorem dL_law_336 : decode cL_law 336 = .ok (.iconst 1, 1) := by decide +kernel
theorem dL_law_337 : decode cL_law 337 = .ok (.iand, 1) := by decide +kernel
theorem dL_law_338 : decode cL_law 338 = .ok (.ifCond .ne 7, 3) := by decide +kernel
theorem dL_law_341 : decode cL_law 341 = .ok (.iconst 1, 1) := by decide +kernel
theorem dL_law_342 : decode cL_law 342 = .ok (.goto 4, 3) := by decide +kernel
theorem dL_law_345 : decode cL_law 345 = .ok (.iconst 0, 1) := by decide +kernel
theorem dL_law_346 : decode cL_law 346 = .ok (.bastore, 1) := by decide +kernel
theorem dL_law_347 : decode cL_law 347 = .ok (.aload_n 1, 1) := by decide +kernel
theorem dL_law_348 : decode cL_law 348 = .ok (.aload_n 2, 1) := by decide +kernel
theorem dL_law_349 : decode cL_law 349 = .ok (.iload 10, 2) := by decide +kernel
theorem dL_law_351 : decode cL_law 351 = .ok (.aload 5, 2) := by decide +kernel
theorem dL_law_353 : decode cL_law 353 = .ok (.iload 6, 2) := by decide +kernel
theorem dL_law_355 : decode cL_law 355 = .ok (.baload, 1) := by decide +kernel
theorem dL_law_356 : decode cL_law 356 = .ok (.aload 5, 2) := by decide +kernel
theorem dL_law_358 : decode cL_law 358 = .ok (.iload 9, 2) := by decide +kernel
theorem dL_law_360 : decode cL_law 360 = .ok (.baload, 1) := by decide +kernel
theorem dL_law_361 : decode cL_law 361 = .ok (.ifCond .eq 8, 3) := by decide +kernel
theorem dL_law_364 : decode cL_law 364 = .ok (.iload 9, 2) := by decide +kernel
theorem dL_law_366 : decode cL_law 366 = .ok (.goto 5, 3) := by decide +kernel
theorem dL_law_369 : decode cL_law 369 = .ok (.iload 11, 2) := by decide +kernel
theorem dL_law_371 : decode cL_law 371 = .ok (.aload 5, 2) := by decide +kernel
theorem dL_law_373 : decode cL_law 373 = .ok (.iload 9, 2) := by decide +kernel
theorem dL_law_375 : decode cL_law 375 = .ok (.baload, 1) := by decide +kernel
theorem dL_law_376 : decode cL_law 376 = .ok (.ifCond .eq 8, 3) := by decide +kernel
theorem dL_law_379 : decode cL_law 379 = .ok (.iload 11, 2) := by decide +kernel
theorem dL_law_381 : decode cL_law 381 = .ok (.goto 5, 3) := by decide +kernel
theorem dL_law_384 : decode cL_law 384 = .ok (.iload 9, 2) := by decide +kernel
theorem dL_law_386 : decode cL_law 386 = .ok (.invokestatic 81, 3) := by decide +kernel
theorem dL_law_389 : decode cL_law 389 = .ok (.invokestatic 85, 3) := by decide +kernel
theorem dL_law_392 : decode cL_law 392 = .ok (.ifCond .ge 5, 3) := by decide +kernel
theorem dL_law_395 : decode cL_law 395 = .ok (.iconst 0, 1) := by decide +kernel
theorem dL_law_396 : decode cL_law 396 = .ok (.ireturn, 1) := by decide +kernel
theorem dL_law_397 : decode cL_law 397 = .ok (.iinc 6 1, 3) := by decide +kernel
theorem dL_law_400 : decode cL_law 400 = .ok (.iinc 7 1, 3) := by decide +kernel
theorem dL_law_403 : decode cL_law 403 = .ok (.goto (-282), 3) := by decide +kernel
theorem dL_law_406 : decode cL_law 406 = .ok (.aload_n 0, 1) := by decide +kernel
theorem dL_law_407 : decode cL_law 407 = .ok (.bipush 10, 2) := by decide +kernel
theorem dL_law_409 : decode cL_law 409 = .ok (.invokestatic 95, 3) := by decide +kernel
theorem dL_law_412 : decode cL_law 412 = .ok (.sipush 20000, 3) := by decide +kernel
theorem dL_law_415 : decode cL_law 415 = .ok (.invokestatic 99, 3) := by decide +kernel
theorem dL_law_418 : decode cL_law 418 = .ok (.istore 7, 2) := by decide +kernel
theorem dL_law_420 : decode cL_law 420 = .ok (.aload_n 1, 1) := by decide +kernel
theorem dL_law_421 : decode cL_law 421 = .ok (.aload_n 2, 1) := by decide +kernel
theorem dL_law_422 : decode cL_law 422 = .ok (.ldc 110, 2) := by decide +kernel
theorem dL_law_424 : decode cL_law 424 = .ok (.iload 7, 2) := by decide +kernel
theorem dL_law_426 : decode cL_law 426 = .ok (.iconst 0, 1) := by decide +kernel
theorem dL_law_427 : decode cL_law 427 = .ok (.iconst (-1), 1) := by decide +kernel
theorem dL_law_428 : decode cL_law 428 = .ok (.invokestatic 91, 3) := by decide +kernel
theorem dL_law_431 : decode cL_law 431 = .ok (.bipush 32, 2) := by decide +kernel
theorem dL_law_433 : decode cL_law 433 = .ok (.invokevirtual 64, 3) := by decide +kernel
theorem dL_law_436 : decode cL_law 436 = .ok (.aload_n 3, 1) := by decide +kernel
theorem dL_law_437 : decode cL_law 437 = .ok (.aload_n 0, 1) := by decide +kernel
theorem dL_law_438 : decode cL_law 438 = .ok (.bipush 11, 2) := by decide +kernel
theorem dL_law_440 : decode cL_law 440 = .ok (.invokestatic 95, 3) := by decide +kernel
theorem dL_law_443 : decode cL_law 443 = .ok (.iconst 5, 1) := by decide +kernel
theorem dL_law_444 : decode cL_law 444 = .ok (.invokestatic 99, 3) := by decide +kernel
theorem dL_law_447 : decode cL_law 447 = .ok (.aaload, 1) := by decide +kernel
theorem dL_law_448 : decode cL_law 448 = .ok (.invokevirtual 47, 3) := by decide +kernel
theorem dL_law_451 : decode cL_law 451 = .ok (.invokestatic 85, 3) := by decide +kernel
theorem dL_law_454 : decode cL_law 454 = .ok (.ifCond .ge 5, 3) := by decide +kernel
theorem dL_law_457 : decode cL_law 457 = .ok (.iconst 0, 1) := by decide +kernel
theorem dL_law_458 : decode cL_law 458 = .ok (.ireturn, 1) := by decide +kernel
theorem dL_law_459 : decode cL_law 459 = .ok (.iconst 0, 1) := by decide +kernel
theorem dL_law_460 : decode cL_law 460 = .ok (.istore 8, 2) := by decide +kernel
theorem dL_law_462 : decode cL_law 462 = .ok (.iload 8, 2) := by decide +kernel
theorem dL_law_464 : decode cL_law 464 = .ok (.bipush 6, 2) := by decide +kernel
theorem dL_law_466 : decode cL_law 466 = .ok (.if_icmp .ge 82, 3) := by decide +kernel
theorem dL_law_469 : decode cL_law 469 = .ok (.aload_n 0, 1) := by decide +kernel
theorem dL_law_470 : decode cL_law 470 = .ok (.bipush 12, 2) := by decide +kernel
theorem dL_law_472 : decode cL_law 472 = .ok (.iload 8, 2) := by decide +kernel
theorem dL_law_474 : decode cL_law 474 = .ok (.iadd, 1) := by decide +kernel
theorem dL_law_475 : decode cL_law 475 = .ok (.invokestatic 95, 3) := by decide +kernel
theorem dL_law_478 : decode cL_law 478 = .ok (.istore 9, 2) := by decide +kernel
theorem dL_law_480 : decode cL_law 480 = .ok (.iload 9, 2) := by decide +kernel
theorem dL_law_482 : decode cL_law 482 = .ok (.iconst 3, 1) := by decide +kernel
theorem dL_law_483 : decode cL_law 483 = .ok (.ishr, 1) := by decide +kernel
theorem dL_law_484 : decode cL_law 484 = .ok (.iload 6, 2) := by decide +kernel
theorem dL_law_486 : decode cL_law 486 = .ok (.invokestatic 99, 3) := by decide +kernel
theorem dL_law_489 : decode cL_law 489 = .ok (.istore 10, 2) := by decide +kernel
theorem dL_law_491 : decode cL_law 491 = .ok (.aload_n 1, 1) := by decide +kernel
theorem dL_law_492 : decode cL_law 492 = .ok (.aload_n 2, 1) := by decide +kernel
theorem dL_law_493 : decode cL_law 493 = .ok (.ldc 112, 2) := by decide +kernel
theorem dL_law_495 : decode cL_law 495 = .ok (.ldc 114, 2) := by decide +kernel
theorem dL_law_497 : decode cL_law 497 = .ok (.aload 4, 2) := by decide +kernel
theorem dL_law_499 : decode cL_law 499 = .ok (.iload 10, 2) := by decide +kernel
theorem dL_law_501 : decode cL_law 501 = .ok (.iaload, 1) := by decide +kernel
theorem dL_law_502 : decode cL_law 502 = .ok (.iload 9, 2) := by decide +kernel
theorem dL_law_504 : decode cL_law 504 = .ok (.bipush 8, 2) := by decide +kernel
theorem dL_law_506 : decode cL_law 506 = .ok (.ishr, 1) := by decide +kernel
theorem dL_law_507 : decode cL_law 507 = .ok (.ldc 114, 2) := by decide +kernel
theorem dL_law_509 : decode cL_law 509 = .ok (.invokestatic 99, 3) := by decide +kernel
theorem dL_law_512 : decode cL_law 512 = .ok (.iadd, 1) := by decide +kernel
theorem dL_law_513 : decode cL_law 513 = .ok (.invokestatic 115, 3) := by decide +kernel
theorem dL_law_516 : decode cL_law 516 = .ok (.iload 10, 2) := by decide +kernel
theorem dL_law_518 : decode cL_law 518 = .ok (.iconst (-1), 1) := by decide +kernel
theorem dL_law_519 : decode cL_law 519 = .ok (.invokestatic 91, 3) := by decide +kernel
theorem dL_law_522 : decode cL_law 522 = .ok (.invokestatic 85, 3) := by decide +kernel
theorem dL_law_525 : decode cL_law 525 = .ok (.istore 11, 2) := by decide +kernel
theorem dL_law_527 : decode cL_law 527 = .ok (.iload 11, 2) := by decide +kernel
theorem dL_law_529 : decode cL_law 529 = .ok (.ifCond .ge 13, 3) := by decide +kernel
theorem dL_law_532 : decode cL_law 532 = .ok (.aload_n 1, 1) := by decide +kernel
theorem dL_law_533 : decode cL_law 533 = .ok (.invokevirtual 120, 3) := by decide +kernel
theorem dL_law_536 : decode cL_law 536 = .ok (.iconst 5, 1) := by decide +kernel
theorem dL_law_537 : decode cL_law 537 = .ok (.if_icmp .eq 5, 3) := by decide +kernel
theorem dL_law_540 : decode cL_law 540 = .ok (.iconst 0, 1) := by decide +kernel
theorem dL_law_541 : decode cL_law 541 = .ok (.ireturn, 1) := by decide +kernel
theorem dL_law_542 : decode cL_law 542 = .ok (.iinc 8 1, 3) := by decide +kernel
theorem dL_law_545 : decode cL_law 545 = .ok (.goto (-83), 3) := by decide +kernel
theorem dL_law_548 : decode cL_law 548 = .ok (.ldc 123, 2) := by decide +kernel
theorem dL_law_550 : decode cL_law 550 = .ok (.istore 8, 2) := by decide +kernel
theorem dL_law_552 : decode cL_law 552 = .ok (.bipush 24, 2) := by decide +kernel
theorem dL_law_554 : decode cL_law 554 = .ok (.newarray .int, 2) := by decide +kernel
theorem dL_law_556 : decode cL_law 556 = .ok (.astore 9, 2) := by decide +kernel
theorem dL_law_558 : decode cL_law 558 = .ok (.iconst 0, 1) := by decide +kernel
theorem dL_law_559 : decode cL_law 559 = .ok (.istore 10, 2) := by decide +kernel
theorem dL_law_561 : decode cL_law 561 = .ok (.aload_n 1, 1) := by decide +kernel
theorem dL_law_562 : decode cL_law 562 = .ok (.iconst 0, 1) := by decide +kernel
theorem dL_law_563 : decode cL_law 563 = .ok (.iload 8, 2) := by decide +kernel
theorem dL_law_565 : decode cL_law 565 = .ok (.iload 10, 2) := by decide +kernel
theorem dL_law_567 : decode cL_law 567 = .ok (.invokevirtual 124, 3) := by decide +kernel
theorem dL_law_570 : decode cL_law 570 = .ok (.istore 11, 2) := by decide +kernel
theorem dL_law_572 : decode cL_law 572 = .ok (.iload 11, 2) := by decide +kernel
theorem dL_law_574 : decode cL_law 574 = .ok (.ifCond .lt 60, 3) := by decide +kernel
theorem dL_law_577 : decode cL_law 577 = .ok (.iload 10, 2) := by decide +kernel
theorem dL_law_579 : decode cL_law 579 = .ok (.bipush 24, 2) := by decide +kernel
theorem dL_law_581 : decode cL_law 581 = .ok (.if_icmp .ge 53, 3) := by decide +kernel
theorem dL_law_584 : decode cL_law 584 = .ok (.aload_n 1, 1) := by decide +kernel
theorem dL_law_585 : decode cL_law 585 = .ok (.iconst 0, 1) := by decide +kernel
theorem dL_law_586 : decode cL_law 586 = .ok (.iload 11, 2) := by decide +kernel
theorem dL_law_588 : decode cL_law 588 = .ok (.iload 8, 2) := by decide +kernel
theorem dL_law_590 : decode cL_law 590 = .ok (.invokevirtual 128, 3) := by decide +kernel
theorem dL_law_593 : decode cL_law 593 = .ok (.iload 10, 2) := by decide +kernel
theorem dL_law_595 : decode cL_law 595 = .ok (.if_icmp .ne 13, 3) := by decide +kernel
theorem dL_law_598 : decode cL_law 598 = .ok (.aload_n 1, 1) := by decide +kernel
theorem dL_law_599 : decode cL_law 599 = .ok (.iload 11, 2) := by decide +kernel
theorem dL_law_601 : decode cL_law 601 = .ok (.iconst 4, 1) := by decide +kernel
theorem dL_law_602 : decode cL_law 602 = .ok (.invokevirtual 131, 3) := by decide +kernel
theorem dL_law_605 : decode cL_law 605 = .ok (.ifCond .lt 5, 3) := by decide +kernel
theorem dL_law_608 : decode cL_law 608 = .ok (.iconst 0, 1) := by decide +kernel
theorem dL_law_609 : decode cL_law 609 = .ok (.ireturn, 1) := by decide +kernel
theorem dL_law_610 : decode cL_law 610 = .ok (.aload 9, 2) := by decide +kernel
theorem dL_law_612 : decode cL_law 612 = .ok (.iload 10, 2) := by decide +kernel
theorem dL_law_614 : decode cL_law 614 = .ok (.iload 11, 2) := by decide +kernel
theorem dL_law_616 : decode cL_law 616 = .ok (.iastore, 1) := by decide +kernel
theorem dL_law_617 : decode cL_law 617 = .ok (.iinc 10 1, 3) := by decide +kernel
theorem dL_law_620 : decode cL_law 620 = .ok (.aload_n 1, 1) := by decide +kernel
theorem dL_law_621 : decode cL_law 621 = .ok (.iconst 0, 1) := by decide +kernel
theorem dL_law_622 : decode cL_law 622 = .ok (.iload 8, 2) := by decide +kernel
theorem dL_law_624 : decode cL_law 624 = .ok (.iload 10, 2) := by decide +kernel
theorem dL_law_626 : decode cL_law 626 = .ok (.invokevirtual 124, 3) := by decide +kernel
theorem dL_law_629 : decode cL_law 629 = .ok (.istore 11, 2) := by decide +kernel
theorem dL_law_631 : decode cL_law 631 = .ok (.goto (-59), 3) := by decide +kernel
theorem dL_law_634 : decode cL_law 634 = .ok (.aload_n 1, 1) := by decide +kernel
theorem dL_law_635 : decode cL_law 635 = .ok (.iconst 0, 1) := by decide +kernel
theorem dL_law_636 : decode cL_law 636 = .ok (.invokevirtual 134, 3) := by decide +kernel
theorem dL_law_639 : decode cL_law 639 = .ok (.istore 11, 2) := by decide +kernel
theorem dL_law_641 : decode cL_law 641 = .ok (.aload_n 1, 1) := by decide +kernel
theorem dL_law_642 : decode cL_law 642 = .ok (.iconst 0, 1) := by decide +kernel
theorem dL_law_643 : decode cL_law 643 = .ok (.iload 8, 2) := by decide +kernel
theorem dL_law_645 : decode cL_law 645 = .ok (.invokevirtual 137, 3) := by decide +kernel
theorem dL_law_648 : decode cL_law 648 = .ok (.istore 12, 2) := by decide +kernel
theorem dL_law_650 : decode cL_law 650 = .ok (.iload 12, 2) := by decide +kernel
theorem dL_law_652 : decode cL_law 652 = .ok (.istore 13, 2) := by decide +kernel
theorem dL_law_654 : decode cL_law 654 = .ok (.iconst 1, 1) := by decide +kernel
theorem dL_law_655 : decode cL_law 655 = .ok (.istore 14, 2) := by decide +kernel
theorem dL_law_657 : decode cL_law 657 = .ok (.iload 10, 2) := by decide +kernel
theorem dL_law_659 : decode cL_law 659 = .ok (.ifCond .le 217, 3) := by decide +kernel
theorem dL_law_662 : decode cL_law 662 = .ok (.iconst 0, 1) := by decide +kernel
theorem dL_law_663 : decode cL_law 663 = .ok (.istore 15, 2) := by decide +kernel
theorem dL_law_665 : decode cL_law 665 = .ok (.iload 15, 2) := by decide +kernel
theorem dL_law_667 : decode cL_law 667 = .ok (.iload 10, 2) := by decide +kernel
theorem dL_law_669 : decode cL_law 669 = .ok (.if_icmp .ge 19, 3) := by decide +kernel
theorem dL_law_672 : decode cL_law 672 = .ok (.aload 9, 2) := by decide +kernel
theorem dL_law_674 : decode cL_law 674 = .ok (.iload 15, 2) := by decide +kernel
theorem dL_law_676 : decode cL_law 676 = .ok (.iaload, 1) := by decide +kernel
theorem dL_law_677 : decode cL_law 677 = .ok (.iload 12, 2) := by decide +kernel
theorem dL_law_679 : decode cL_law 679 = .ok (.if_icmp .eq 9, 3) := by decide +kernel
theorem dL_law_682 : decode cL_law 682 = .ok (.iinc 15 1, 3) := by decide +kernel
theorem dL_law_685 : decode cL_law 685 = .ok (.goto (-20), 3) := by decide +kernel
theorem dL_law_688 : decode cL_law 688 = .ok (.iload 15, 2) := by decide +kernel
theorem dL_law_690 : decode cL_law 690 = .ok (.iload 10, 2) := by decide +kernel
theorem dL_law_692 : decode cL_law 692 = .ok (.if_icmp .eq 24, 3) := by decide +kernel
theorem dL_law_695 : decode cL_law 695 = .ok (.aload_n 1, 1) := by decide +kernel
theorem dL_law_696 : decode cL_law 696 = .ok (.aload_n 2, 1) := by decide +kernel
theorem dL_law_697 : decode cL_law 697 = .ok (.ldc 112, 2) := by decide +kernel
theorem dL_law_699 : decode cL_law 699 = .ok (.iload 8, 2) := by decide +kernel
theorem dL_law_701 : decode cL_law 701 = .ok (.iload 14, 2) := by decide +kernel
theorem dL_law_703 : decode cL_law 703 = .ok (.iadd, 1) := by decide +kernel
theorem dL_law_704 : decode cL_law 704 = .ok (.iload 12, 2) := by decide +kernel
theorem dL_law_706 : decode cL_law 706 = .ok (.iconst (-1), 1) := by decide +kernel
theorem dL_law_707 : decode cL_law 707 = .ok (.invokestatic 91, 3) := by decide +kernel
theorem dL_law_710 : decode cL_law 710 = .ok (.invokestatic 85, 3) := by decide +kernel
theorem dL_law_713 : decode cL_law 713 = .ok (.ifCond .ge 5, 3) := by decide +kernel
theorem dL_law_716 : decode cL_law 716 = .ok (.iconst 0, 1) := by decide +kernel
theorem dL_law_717 : decode cL_law 717 = .ok (.ireturn, 1) := by decide +kernel
theorem dL_law_718 : decode cL_law 718 = .ok (.iinc 10 (-1), 3) := by decide +kernel
theorem dL_law_721 : decode cL_law 721 = .ok (.iload 15, 2) := by decide +kernel
theorem dL_law_723 : decode cL_law 723 = .ok (.istore 16, 2) := by decide +kernel
theorem dL_law_725 : decode cL_law 725 = .ok (.iload 16, 2) := by decide +kernel
theorem dL_law_727 : decode cL_law 727 = .ok (.iload 10, 2) := by decide +kernel
theorem dL_law_729 : decode cL_law 729 = .ok (.if_icmp .ge 21, 3) := by decide +kernel
theorem dL_law_732 : decode cL_law 732 = .ok (.aload 9, 2) := by decide +kernel
theorem dL_law_734 : decode cL_law 734 = .ok (.iload 16, 2) := by decide +kernel
theorem dL_law_736 : decode cL_law 736 = .ok (.aload 9, 2) := by decide +kernel
theorem dL_law_738 : decode cL_law 738 = .ok (.iload 16, 2) := by decide +kernel
theorem dL_law_740 : decode cL_law 740 = .ok (.iconst 1, 1) := by decide +kernel
theorem dL_law_741 : decode cL_law 741 = .ok (.iadd, 1) := by decide +kernel
theorem dL_law_742 : decode cL_law 742 = .ok (.iaload, 1) := by decide +kernel
theorem dL_law_743 : decode cL_law 743 = .ok (.iastore, 1) := by decide +kernel
theorem dL_law_744 : decode cL_law 744 = .ok (.iinc 16 1, 3) := by decide +kernel
theorem dL_law_747 : decode cL_law 747 = .ok (.goto (-22), 3) := by decide +kernel
theorem dL_law_750 : decode cL_law 750 = .ok (.iload 10, 2) := by decide +kernel
theorem dL_law_752 : decode cL_law 752 = .ok (.ifCond .ne 7, 3) := by decide +kernel
theorem dL_law_755 : decode cL_law 755 = .ok (.iconst (-1), 1) := by decide +kernel
theorem dL_law_756 : decode cL_law 756 = .ok (.goto 7, 3) := by decide +kernel
theorem dL_law_759 : decode cL_law 759 = .ok (.aload 9, 2) := by decide +kernel
theorem dL_law_761 : decode cL_law 761 = .ok (.iconst 0, 1) := by decide +kernel
theorem dL_law_762 : decode cL_law 762 = .ok (.iaload, 1) := by decide +kernel
theorem dL_law_763 : decode cL_law 763 = .ok (.istore 12, 2) := by decide +kernel
theorem dL_law_765 : decode cL_law 765 = .ok (.aload_n 1, 1) := by decide +kernel
theorem dL_law_766 : decode cL_law 766 = .ok (.iconst 0, 1) := by decide +kernel
theorem dL_law_767 : decode cL_law 767 = .ok (.iload 8, 2) := by decide +kernel
theorem dL_law_769 : decode cL_law 769 = .ok (.iload 14, 2) := by decide +kernel
theorem dL_law_771 : decode cL_law 771 = .ok (.iadd, 1) := by decide +kernel
theorem dL_law_772 : decode cL_law 772 = .ok (.invokevirtual 137, 3) := by decide +kernel
theorem dL_law_775 : decode cL_law 775 = .ok (.iload 12, 2) := by decide +kernel
theorem dL_law_777 : decode cL_law 777 = .ok (.if_icmp .ne 34, 3) := by decide +kernel
theorem dL_law_780 : decode cL_law 780 = .ok (.aload_n 1, 1) := by decide +kernel
theorem dL_law_781 : decode cL_law 781 = .ok (.iconst 0, 1) := by decide +kernel
theorem dL_law_782 : decode cL_law 782 = .ok (.iload 8, 2) := by decide +kernel
theorem dL_law_784 : decode cL_law 784 = .ok (.iload 14, 2) := by decide +kernel
theorem dL_law_786 : decode cL_law 786 = .ok (.iadd, 1) := by decide +kernel
theorem dL_law_787 : decode cL_law 787 = .ok (.invokevirtual 140, 3) := by decide +kernel
theorem dL_law_790 : decode cL_law 790 = .ok (.iload 8, 2) := by decide +kernel
theorem dL_law_792 : decode cL_law 792 = .ok (.iload 14, 2) := by decide +kernel
theorem dL_law_794 : decode cL_law 794 = .ok (.iadd, 1) := by decide +kernel
theorem dL_law_795 : decode cL_law 795 = .ok (.if_icmp .ne 16, 3) := by decide +kernel
theorem dL_law_798 : decode cL_law 798 = .ok (.aload_n 1, 1) := by decide +kernel
theorem dL_law_799 : decode cL_law 799 = .ok (.iconst 0, 1) := by decide +kernel
theorem dL_law_800 : decode cL_law 800 = .ok (.invokevirtual 134, 3) := by decide +kernel
theorem dL_law_803 : decode cL_law 803 = .ok (.iload 11, 2) := by decide +kernel
theorem dL_law_805 : decode cL_law 805 = .ok (.iload 14, 2) := by decide +kernel
theorem dL_law_807 : decode cL_law 807 = .ok (.iadd, 1) := by decide +kernel
theorem dL_law_808 : decode cL_law 808 = .ok (.if_icmp .eq 5, 3) := by decide +kernel
theorem dL_law_811 : decode cL_law 811 = .ok (.iconst 0, 1) := by decide +kernel
theorem dL_law_812 : decode cL_law 812 = .ok (.ireturn, 1) := by decide +kernel
theorem dL_law_813 : decode cL_law 813 = .ok (.iconst 0, 1) := by decide +kernel
theorem dL_law_814 : decode cL_law 814 = .ok (.istore 16, 2) := by decide +kernel
theorem dL_law_816 : decode cL_law 816 = .ok (.iload 16, 2) := by decide +kernel
theorem dL_law_818 : decode cL_law 818 = .ok (.iload 10, 2) := by decide +kernel
theorem dL_law_820 : decode cL_law 820 = .ok (.if_icmp .ge 31, 3) := by decide +kernel
theorem dL_law_823 : decode cL_law 823 = .ok (.aload_n 1, 1) := by decide +kernel
theorem dL_law_824 : decode cL_law 824 = .ok (.iconst 0, 1) := by decide +kernel
theorem dL_law_825 : decode cL_law 825 = .ok (.iload 8, 2) := by decide +kernel
theorem dL_law_827 : decode cL_law 827 = .ok (.iload 14, 2) := by decide +kernel
theorem dL_law_829 : decode cL_law 829 = .ok (.iadd, 1) := by decide +kernel
theorem dL_law_830 : decode cL_law 830 = .ok (.iload 16, 2) := by decide +kernel
theorem dL_law_832 : decode cL_law 832 = .ok (.invokevirtual 124, 3) := by decide +kernel
theorem dL_law_835 : decode cL_law 835 = .ok (.aload 9, 2) := by decide +kernel
theorem dL_law_837 : decode cL_law 837 = .ok (.iload 16, 2) := by decide +kernel
theorem dL_law_839 : decode cL_law 839 = .ok (.iaload, 1) := by decide +kernel
theorem dL_law_840 : decode cL_law 840 = .ok (.if_icmp .eq 5, 3) := by decide +kernel
theorem dL_law_843 : decode cL_law 843 = .ok (.iconst 0, 1) := by decide +kernel
theorem dL_law_844 : decode cL_law 844 = .ok (.ireturn, 1) := by decide +kernel
theorem dL_law_845 : decode cL_law 845 = .ok (.iinc 16 1, 3) := by decide +kernel
theorem dL_law_848 : decode cL_law 848 = .ok (.goto (-32), 3) := by decide +kernel
theorem dL_law_851 : decode cL_law 851 = .ok (.aload_n 1, 1) := by decide +kernel
theorem dL_law_852 : decode cL_law 852 = .ok (.iconst 0, 1) := by decide +kernel
theorem dL_law_853 : decode cL_law 853 = .ok (.iload 8, 2) := by decide +kernel
theorem dL_law_855 : decode cL_law 855 = .ok (.iload 14, 2) := by decide +kernel
theorem dL_law_857 : decode cL_law 857 = .ok (.iadd, 1) := by decide +kernel
theorem dL_law_858 : decode cL_law 858 = .ok (.iload 10, 2) := by decide +kernel
theorem dL_law_860 : decode cL_law 860 = .ok (.invokevirtual 124, 3) := by decide +kernel
theorem dL_law_863 : decode cL_law 863 = .ok (.bipush (-9), 2) := by decide +kernel
theorem dL_law_865 : decode cL_law 865 = .ok (.if_icmp .eq 5, 3) := by decide +kernel
theorem dL_law_868 : decode cL_law 868 = .ok (.iconst 0, 1) := by decide +kernel
theorem dL_law_869 : decode cL_law 869 = .ok (.ireturn, 1) := by decide +kernel
theorem dL_law_870 : decode cL_law 870 = .ok (.iinc 14 1, 3) := by decide +kernel
theorem dL_law_873 : decode cL_law 873 = .ok (.goto (-216), 3) := by decide +kernel
theorem dL_law_876 : decode cL_law 876 = .ok (.iload 12, 2) := by decide +kernel
theorem dL_law_878 : decode cL_law 878 = .ok (.iconst (-1), 1) := by decide +kernel
theorem dL_law_879 : decode cL_law 879 = .ok (.if_icmp .ne 54, 3) := by decide +kernel
theorem dL_law_882 : decode cL_law 882 = .ok (.aload_n 1, 1) := by decide +kernel
theorem dL_law_883 : decode cL_law 883 = .ok (.iconst 0, 1) := by decide +kernel
theorem dL_law_884 : decode cL_law 884 = .ok (.ldc 143, 2) := by decide +kernel
theorem dL_law_886 : decode cL_law 886 = .ok (.invokevirtual 137, 3) := by decide +kernel
theorem dL_law_889 : decode cL_law 889 = .ok (.iconst (-1), 1) := by decide +kernel
theorem dL_law_890 : decode cL_law 890 = .ok (.if_icmp .ne 43, 3) := by decide +kernel
theorem dL_law_893 : decode cL_law 893 = .ok (.aload_n 1, 1) := by decide +kernel
theorem dL_law_894 : decode cL_law 894 = .ok (.iconst 0, 1) := by decide +kernel
theorem dL_law_895 : decode cL_law 895 = .ok (.iload 8, 2) := by decide +kernel
theorem dL_law_897 : decode cL_law 897 = .ok (.invokevirtual 137, 3) := by decide +kernel
theorem dL_law_900 : decode cL_law 900 = .ok (.iload 13, 2) := by decide +kernel
theorem dL_law_902 : decode cL_law 902 = .ok (.if_icmp .ne 31, 3) := by decide +kernel
theorem dL_law_905 : decode cL_law 905 = .ok (.aload_n 1, 1) := by decide +kernel
theorem dL_law_906 : decode cL_law 906 = .ok (.iconst 0, 1) := by decide +kernel
theorem dL_law_907 : decode cL_law 907 = .ok (.iload 7, 2) := by decide +kernel
theorem dL_law_909 : decode cL_law 909 = .ok (.invokevirtual 137, 3) := by decide +kernel
theorem dL_law_912 : decode cL_law 912 = .ok (.bipush (-4), 2) := by decide +kernel
theorem dL_law_914 : decode cL_law 914 = .ok (.if_icmp .eq 19, 3) := by decide +kernel
theorem dL_law_917 : decode cL_law 917 = .ok (.aload_n 1, 1) := by decide +kernel
theorem dL_law_918 : decode cL_law 918 = .ok (.iconst 0, 1) := by decide +kernel
theorem dL_law_919 : decode cL_law 919 = .ok (.iconst 0, 1) := by decide +kernel
theorem dL_law_920 : decode cL_law 920 = .ok (.iconst 1, 1) := by decide +kernel
theorem dL_law_921 : decode cL_law 921 = .ok (.invokevirtual 144, 3) := by decide +kernel
theorem dL_law_924 : decode cL_law 924 = .ok (.iload 7, 2) := by decide +kernel
theorem dL_law_926 : decode cL_law 926 = .ok (.if_icmp .ne 7, 3) := by decide +kernel
theorem dL_law_929 : decode cL_law 929 = .ok (.iconst 1, 1) := by decide +kernel
theorem dL_law_930 : decode cL_law 930 = .ok (.goto 4, 3) := by decide +kernel
theorem dL_law_933 : decode cL_law 933 = .ok (.iconst 0, 1) := by decide +kernel
theorem dL_law_934 : decode cL_law 934 = .ok (.ireturn, 1) := by decide +kernel
