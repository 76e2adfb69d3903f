theorem dJ0_length_8abf5_0 : decode cJ0_length_8abf5 0 = .ok (.aload_n 0, 1) := by decide +kernel
theorem dJ0_length_8abf5_1 : decode cJ0_length_8abf5 1 = .ok (.getfield 9, 3) := by decide +kernel
theorem dJ0_length_8abf5_4 : decode cJ0_length_8abf5 4 = .ok (.arraylength, 1) := by decide +kernel
theorem dJ0_length_8abf5_5 : decode cJ0_length_8abf5 5 = .ok (.aload_n 0, 1) := by decide +kernel
theorem dJ0_length_8abf5_6 : decode cJ0_length_8abf5 6 = .ok (.invokevirtual 335, 3) := by decide +kernel
theorem dJ0_length_8abf5_9 : decode cJ0_length_8abf5 9 = .ok (.ishr, 1) := by decide +kernel
theorem dJ0_length_8abf5_10 : decode cJ0_length_8abf5 10 = .ok (.ireturn, 1) := by decide +kernel
theorem dJ0_charAt_5068e_0 : decode cJ0_charAt_5068e 0 = .ok (.aload_n 0, 1) := by decide +kernel
theorem dJ0_charAt_5068e_1 : decode cJ0_charAt_5068e 1 = .ok (.invokevirtual 492, 3) := by decide +kernel
theorem dJ0_charAt_5068e_4 : decode cJ0_charAt_5068e 4 = .ok (.ifCond .eq 12, 3) := by decide +kernel
theorem dJ0_charAt_5068e_7 : decode cJ0_charAt_5068e 7 = .ok (.aload_n 0, 1) := by decide +kernel
theorem dJ0_charAt_5068e_8 : decode cJ0_charAt_5068e 8 = .ok (.getfield 9, 3) := by decide +kernel
theorem dJ0_charAt_5068e_11 : decode cJ0_charAt_5068e 11 = .ok (.iload_n 1, 1) := by decide +kernel
theorem dJ0_charAt_5068e_12 : decode cJ0_charAt_5068e 12 = .ok (.invokestatic 495, 3) := by decide +kernel
theorem dJ0_charAt_5068e_15 : decode cJ0_charAt_5068e 15 = .ok (.ireturn, 1) := by decide +kernel
theorem dJ0_charAt_5068e_16 : decode cJ0_charAt_5068e 16 = .ok (.aload_n 0, 1) := by decide +kernel
theorem dJ0_charAt_5068e_17 : decode cJ0_charAt_5068e 17 = .ok (.getfield 9, 3) := by decide +kernel
theorem dJ0_charAt_5068e_20 : decode cJ0_charAt_5068e 20 = .ok (.iload_n 1, 1) := by decide +kernel
theorem dJ0_charAt_5068e_21 : decode cJ0_charAt_5068e 21 = .ok (.invokestatic 498, 3) := by decide +kernel
theorem dJ0_charAt_5068e_24 : decode cJ0_charAt_5068e 24 = .ok (.ireturn, 1) := by decide +kernel
theorem dJ0_getBytes_840e7_0 : decode cJ0_getBytes_840e7 0 = .ok (.aload_n 0, 1) := by decide +kernel
theorem dJ0_getBytes_840e7_1 : decode cJ0_getBytes_840e7 1 = .ok (.invokevirtual 335, 3) := by decide +kernel
theorem dJ0_getBytes_840e7_4 : decode cJ0_getBytes_840e7 4 = .ok (.iload_n 3, 1) := by decide +kernel
theorem dJ0_getBytes_840e7_5 : decode cJ0_getBytes_840e7 5 = .ok (.if_icmp .ne 23, 3) := by decide +kernel
theorem dJ0_getBytes_840e7_8 : decode cJ0_getBytes_840e7 8 = .ok (.aload_n 0, 1) := by decide +kernel
theorem dJ0_getBytes_840e7_9 : decode cJ0_getBytes_840e7 9 = .ok (.getfield 9, 3) := by decide +kernel
theorem dJ0_getBytes_840e7_12 : decode cJ0_getBytes_840e7 12 = .ok (.iconst 0, 1) := by decide +kernel
theorem dJ0_getBytes_840e7_13 : decode cJ0_getBytes_840e7 13 = .ok (.aload_n 1, 1) := by decide +kernel
theorem dJ0_getBytes_840e7_14 : decode cJ0_getBytes_840e7 14 = .ok (.iload_n 2, 1) := by decide +kernel
theorem dJ0_getBytes_840e7_15 : decode cJ0_getBytes_840e7 15 = .ok (.iload_n 3, 1) := by decide +kernel
theorem dJ0_getBytes_840e7_16 : decode cJ0_getBytes_840e7 16 = .ok (.ishl, 1) := by decide +kernel
theorem dJ0_getBytes_840e7_17 : decode cJ0_getBytes_840e7 17 = .ok (.aload_n 0, 1) := by decide +kernel
theorem dJ0_getBytes_840e7_18 : decode cJ0_getBytes_840e7 18 = .ok (.getfield 9, 3) := by decide +kernel
theorem dJ0_getBytes_840e7_21 : decode cJ0_getBytes_840e7 21 = .ok (.arraylength, 1) := by decide +kernel
theorem dJ0_getBytes_840e7_22 : decode cJ0_getBytes_840e7 22 = .ok (.invokestatic 212, 3) := by decide +kernel
theorem dJ0_getBytes_840e7_25 : decode cJ0_getBytes_840e7 25 = .ok (.goto 18, 3) := by decide +kernel
theorem dJ0_getBytes_840e7_28 : decode cJ0_getBytes_840e7 28 = .ok (.aload_n 0, 1) := by decide +kernel
theorem dJ0_getBytes_840e7_29 : decode cJ0_getBytes_840e7 29 = .ok (.getfield 9, 3) := by decide +kernel
theorem dJ0_getBytes_840e7_32 : decode cJ0_getBytes_840e7 32 = .ok (.iconst 0, 1) := by decide +kernel
theorem dJ0_getBytes_840e7_33 : decode cJ0_getBytes_840e7 33 = .ok (.aload_n 1, 1) := by decide +kernel
theorem dJ0_getBytes_840e7_34 : decode cJ0_getBytes_840e7 34 = .ok (.iload_n 2, 1) := by decide +kernel
theorem dJ0_getBytes_840e7_35 : decode cJ0_getBytes_840e7 35 = .ok (.aload_n 0, 1) := by decide +kernel
theorem dJ0_getBytes_840e7_36 : decode cJ0_getBytes_840e7 36 = .ok (.getfield 9, 3) := by decide +kernel
theorem dJ0_getBytes_840e7_39 : decode cJ0_getBytes_840e7 39 = .ok (.arraylength, 1) := by decide +kernel
theorem dJ0_getBytes_840e7_40 : decode cJ0_getBytes_840e7 40 = .ok (.invokestatic 106, 3) := by decide +kernel
theorem dJ0_getBytes_840e7_43 : decode cJ0_getBytes_840e7 43 = .ok (.return_, 1) := by decide +kernel
theorem dJ0_coder_7d493_0 : decode cJ0_coder_7d493 0 = .ok (.getstatic 38, 3) := by decide +kernel
theorem dJ0_coder_7d493_3 : decode cJ0_coder_7d493 3 = .ok (.ifCond .eq 10, 3) := by decide +kernel
theorem dJ0_coder_7d493_6 : decode cJ0_coder_7d493 6 = .ok (.aload_n 0, 1) := by decide +kernel
theorem dJ0_coder_7d493_7 : decode cJ0_coder_7d493 7 = .ok (.getfield 15, 3) := by decide +kernel
theorem dJ0_coder_7d493_10 : decode cJ0_coder_7d493 10 = .ok (.goto 4, 3) := by decide +kernel
theorem dJ0_coder_7d493_13 : decode cJ0_coder_7d493 13 = .ok (.iconst 1, 1) := by decide +kernel
theorem dJ0_coder_7d493_14 : decode cJ0_coder_7d493 14 = .ok (.ireturn, 1) := by decide +kernel
theorem dJ0_isLatin1_aae02_0 : decode cJ0_isLatin1_aae02 0 = .ok (.getstatic 38, 3) := by decide +kernel
theorem dJ0_isLatin1_aae02_3 : decode cJ0_isLatin1_aae02 3 = .ok (.ifCond .eq 14, 3) := by decide +kernel
theorem dJ0_isLatin1_aae02_6 : decode cJ0_isLatin1_aae02 6 = .ok (.aload_n 0, 1) := by decide +kernel
theorem dJ0_isLatin1_aae02_7 : decode cJ0_isLatin1_aae02 7 = .ok (.getfield 15, 3) := by decide +kernel
theorem dJ0_isLatin1_aae02_10 : decode cJ0_isLatin1_aae02 10 = .ok (.ifCond .ne 7, 3) := by decide +kernel
theorem dJ0_isLatin1_aae02_13 : decode cJ0_isLatin1_aae02 13 = .ok (.iconst 1, 1) := by decide +kernel
theorem dJ0_isLatin1_aae02_14 : decode cJ0_isLatin1_aae02 14 = .ok (.goto 4, 3) := by decide +kernel
theorem dJ0_isLatin1_aae02_17 : decode cJ0_isLatin1_aae02 17 = .ok (.iconst 0, 1) := by decide +kernel
theorem dJ0_isLatin1_aae02_18 : decode cJ0_isLatin1_aae02 18 = .ok (.ireturn, 1) := by decide +kernel
theorem dJ0_checkIndex_df160_0 : decode cJ0_checkIndex_df160 0 = .ok (.iload_n 0, 1) := by decide +kernel
theorem dJ0_checkIndex_df160_1 : decode cJ0_checkIndex_df160 1 = .ok (.iload_n 1, 1) := by decide +kernel
theorem dJ0_checkIndex_df160_2 : decode cJ0_checkIndex_df160 2 = .ok (.getstatic 1053, 3) := by decide +kernel
theorem dJ0_checkIndex_df160_5 : decode cJ0_checkIndex_df160 5 = .ok (.invokestatic 1059, 3) := by decide +kernel
theorem dJ0_checkIndex_df160_8 : decode cJ0_checkIndex_df160 8 = .ok (.pop, 1) := by decide +kernel
theorem dJ0_checkIndex_df160_9 : decode cJ0_checkIndex_df160 9 = .ok (.return_, 1) := by decide +kernel
theorem dJ0_checkBoundsOffCount_cabcc_0 : decode cJ0_checkBoundsOffCount_cabcc 0 = .ok (.iload_n 0, 1) := by decide +kernel
theorem dJ0_checkBoundsOffCount_cabcc_1 : decode cJ0_checkBoundsOffCount_cabcc 1 = .ok (.iload_n 1, 1) := by decide +kernel
theorem dJ0_checkBoundsOffCount_cabcc_2 : decode cJ0_checkBoundsOffCount_cabcc 2 = .ok (.iload_n 2, 1) := by decide +kernel
theorem dJ0_checkBoundsOffCount_cabcc_3 : decode cJ0_checkBoundsOffCount_cabcc 3 = .ok (.getstatic 1053, 3) := by decide +kernel
theorem dJ0_checkBoundsOffCount_cabcc_6 : decode cJ0_checkBoundsOffCount_cabcc 6 = .ok (.invokestatic 1065, 3) := by decide +kernel
theorem dJ0_checkBoundsOffCount_cabcc_9 : decode cJ0_checkBoundsOffCount_cabcc 9 = .ok (.ireturn, 1) := by decide +kernel
theorem dJ0_checkBoundsBeginEnd_23922_0 : decode cJ0_checkBoundsBeginEnd_23922 0 = .ok (.iload_n 0, 1) := by decide +kernel
theorem dJ0_checkBoundsBeginEnd_23922_1 : decode cJ0_checkBoundsBeginEnd_23922 1 = .ok (.iload_n 1, 1) := by decide +kernel
theorem dJ0_checkBoundsBeginEnd_23922_2 : decode cJ0_checkBoundsBeginEnd_23922 2 = .ok (.iload_n 2, 1) := by decide +kernel
theorem dJ0_checkBoundsBeginEnd_23922_3 : decode cJ0_checkBoundsBeginEnd_23922 3 = .ok (.getstatic 1053, 3) := by decide +kernel
theorem dJ0_checkBoundsBeginEnd_23922_6 : decode cJ0_checkBoundsBeginEnd_23922 6 = .ok (.invokestatic 1062, 3) := by decide +kernel
theorem dJ0_checkBoundsBeginEnd_23922_9 : decode cJ0_checkBoundsBeginEnd_23922 9 = .ok (.pop, 1) := by decide +kernel
theorem dJ0_checkBoundsBeginEnd_23922_10 : decode cJ0_checkBoundsBeginEnd_23922 10 = .ok (.return_, 1) := by decide +kernel
theorem dJ1_charAt_3b067_0 : decode cJ1_charAt_3b067 0 = .ok (.iload_n 1, 1) := by decide +kernel
theorem dJ1_charAt_3b067_1 : decode cJ1_charAt_3b067 1 = .ok (.aload_n 0, 1) := by decide +kernel
theorem dJ1_charAt_3b067_2 : decode cJ1_charAt_3b067 2 = .ok (.arraylength, 1) := by decide +kernel
theorem dJ1_charAt_3b067_3 : decode cJ1_charAt_3b067 3 = .ok (.invokestatic 9, 3) := by decide +kernel
theorem dJ1_charAt_3b067_6 : decode cJ1_charAt_3b067 6 = .ok (.aload_n 0, 1) := by decide +kernel
theorem dJ1_charAt_3b067_7 : decode cJ1_charAt_3b067 7 = .ok (.iload_n 1, 1) := by decide +kernel
theorem dJ1_charAt_3b067_8 : decode cJ1_charAt_3b067 8 = .ok (.baload, 1) := by decide +kernel
theorem dJ1_charAt_3b067_9 : decode cJ1_charAt_3b067 9 = .ok (.sipush 255, 3) := by decide +kernel
theorem dJ1_charAt_3b067_12 : decode cJ1_charAt_3b067 12 = .ok (.iand, 1) := by decide +kernel
theorem dJ1_charAt_3b067_13 : decode cJ1_charAt_3b067 13 = .ok (.i2c, 1) := by decide +kernel
theorem dJ1_charAt_3b067_14 : decode cJ1_charAt_3b067 14 = .ok (.ireturn, 1) := by decide +kernel
theorem dJ1_canEncode_fc78d_0 : decode cJ1_canEncode_fc78d 0 = .ok (.iload_n 0, 1) := by decide +kernel
theorem dJ1_canEncode_fc78d_1 : decode cJ1_canEncode_fc78d 1 = .ok (.sipush 255, 3) := by decide +kernel
theorem dJ1_canEncode_fc78d_4 : decode cJ1_canEncode_fc78d 4 = .ok (.if_icmp .gt 7, 3) := by decide +kernel
theorem dJ1_canEncode_fc78d_7 : decode cJ1_canEncode_fc78d 7 = .ok (.iconst 1, 1) := by decide +kernel
theorem dJ1_canEncode_fc78d_8 : decode cJ1_canEncode_fc78d 8 = .ok (.goto 4, 3) := by decide +kernel
theorem dJ1_canEncode_fc78d_11 : decode cJ1_canEncode_fc78d 11 = .ok (.iconst 0, 1) := by decide +kernel
theorem dJ1_canEncode_fc78d_12 : decode cJ1_canEncode_fc78d 12 = .ok (.ireturn, 1) := by decide +kernel
theorem dJ1_fillNull_b72d1_0 : decode cJ1_fillNull_b72d1 0 = .ok (.aload_n 0, 1) := by decide +kernel
theorem dJ1_fillNull_b72d1_1 : decode cJ1_fillNull_b72d1 1 = .ok (.iload_n 1, 1) := by decide +kernel
theorem dJ1_fillNull_b72d1_2 : decode cJ1_fillNull_b72d1 2 = .ok (.iload_n 2, 1) := by decide +kernel
theorem dJ1_fillNull_b72d1_3 : decode cJ1_fillNull_b72d1 3 = .ok (.iconst 0, 1) := by decide +kernel
theorem dJ1_fillNull_b72d1_4 : decode cJ1_fillNull_b72d1 4 = .ok (.invokestatic 236, 3) := by decide +kernel
theorem dJ1_fillNull_b72d1_7 : decode cJ1_fillNull_b72d1 7 = .ok (.return_, 1) := by decide +kernel
theorem dJ1_inflate_0e8fd_0 : decode cJ1_inflate_0e8fd 0 = .ok (.aload_n 0, 1) := by decide +kernel
theorem dJ1_inflate_0e8fd_1 : decode cJ1_inflate_0e8fd 1 = .ok (.iload_n 1, 1) := by decide +kernel
theorem dJ1_inflate_0e8fd_2 : decode cJ1_inflate_0e8fd 2 = .ok (.aload_n 2, 1) := by decide +kernel
theorem dJ1_inflate_0e8fd_3 : decode cJ1_inflate_0e8fd 3 = .ok (.iload_n 3, 1) := by decide +kernel
theorem dJ1_inflate_0e8fd_4 : decode cJ1_inflate_0e8fd 4 = .ok (.iload 4, 2) := by decide +kernel
theorem dJ1_inflate_0e8fd_6 : decode cJ1_inflate_0e8fd 6 = .ok (.invokestatic 240, 3) := by decide +kernel
theorem dJ1_inflate_0e8fd_9 : decode cJ1_inflate_0e8fd 9 = .ok (.return_, 1) := by decide +kernel
theorem dJ2_newBytesFor_77867_0 : decode cJ2_newBytesFor_77867 0 = .ok (.iload_n 0, 1) := by decide +kernel
theorem dJ2_newBytesFor_77867_1 : decode cJ2_newBytesFor_77867 1 = .ok (.invokestatic 11, 3) := by decide +kernel
theorem dJ2_newBytesFor_77867_4 : decode cJ2_newBytesFor_77867 4 = .ok (.newarray .byte, 2) := by decide +kernel
theorem dJ2_newBytesFor_77867_6 : decode cJ2_newBytesFor_77867 6 = .ok (.areturn, 1) := by decide +kernel
theorem dJ2_newBytesLength_0f7a4_0 : decode cJ2_newBytesLength_0f7a4 0 = .ok (.iload_n 0, 1) := by decide +kernel
theorem dJ2_newBytesLength_0f7a4_1 : decode cJ2_newBytesLength_0f7a4 1 = .ok (.ifCond .ge 11, 3) := by decide +kernel
theorem dJ2_newBytesLength_0f7a4_4 : decode cJ2_newBytesLength_0f7a4 4 = .ok (.new 17, 3) := by decide +kernel
theorem dJ2_newBytesLength_0f7a4_7 : decode cJ2_newBytesLength_0f7a4 7 = .ok (.dup, 1) := by decide +kernel
theorem dJ2_newBytesLength_0f7a4_8 : decode cJ2_newBytesLength_0f7a4 8 = .ok (.invokespecial 19, 3) := by decide +kernel
theorem dJ2_newBytesLength_0f7a4_11 : decode cJ2_newBytesLength_0f7a4 11 = .ok (.athrow, 1) := by decide +kernel
theorem dJ2_newBytesLength_0f7a4_12 : decode cJ2_newBytesLength_0f7a4 12 = .ok (.iload_n 0, 1) := by decide +kernel
theorem dJ2_newBytesLength_0f7a4_13 : decode cJ2_newBytesLength_0f7a4 13 = .ok (.ldc 20, 2) := by decide +kernel
theorem dJ2_newBytesLength_0f7a4_15 : decode cJ2_newBytesLength_0f7a4 15 = .ok (.if_icmp .lt 40, 3) := by decide +kernel
theorem dJ2_newBytesLength_0f7a4_18 : decode cJ2_newBytesLength_0f7a4 18 = .ok (.new 21, 3) := by decide +kernel
theorem dJ2_newBytesLength_0f7a4_21 : decode cJ2_newBytesLength_0f7a4 21 = .ok (.dup, 1) := by decide +kernel
theorem dJ2_newBytesLength_0f7a4_22 : decode cJ2_newBytesLength_0f7a4 22 = .ok (.new 23, 3) := by decide +kernel
theorem dJ2_newBytesLength_0f7a4_25 : decode cJ2_newBytesLength_0f7a4 25 = .ok (.dup, 1) := by decide +kernel
theorem dJ2_newBytesLength_0f7a4_26 : decode cJ2_newBytesLength_0f7a4 26 = .ok (.invokespecial 25, 3) := by decide +kernel
theorem dJ2_newBytesLength_0f7a4_29 : decode cJ2_newBytesLength_0f7a4 29 = .ok (.ldc 26, 2) := by decide +kernel
theorem dJ2_newBytesLength_0f7a4_31 : decode cJ2_newBytesLength_0f7a4 31 = .ok (.invokevirtual 28, 3) := by decide +kernel
theorem dJ2_newBytesLength_0f7a4_34 : decode cJ2_newBytesLength_0f7a4 34 = .ok (.iload_n 0, 1) := by decide +kernel
theorem dJ2_newBytesLength_0f7a4_35 : decode cJ2_newBytesLength_0f7a4 35 = .ok (.invokevirtual 32, 3) := by decide +kernel
theorem dJ2_newBytesLength_0f7a4_38 : decode cJ2_newBytesLength_0f7a4 38 = .ok (.ldc 35, 2) := by decide +kernel
theorem dJ2_newBytesLength_0f7a4_40 : decode cJ2_newBytesLength_0f7a4 40 = .ok (.invokevirtual 28, 3) := by decide +kernel
theorem dJ2_newBytesLength_0f7a4_43 : decode cJ2_newBytesLength_0f7a4 43 = .ok (.ldc 20, 2) := by decide +kernel
theorem dJ2_newBytesLength_0f7a4_45 : decode cJ2_newBytesLength_0f7a4 45 = .ok (.invokevirtual 32, 3) := by decide +kernel
theorem dJ2_newBytesLength_0f7a4_48 : decode cJ2_newBytesLength_0f7a4 48 = .ok (.invokevirtual 37, 3) := by decide +kernel
theorem dJ2_newBytesLength_0f7a4_51 : decode cJ2_newBytesLength_0f7a4 51 = .ok (.invokespecial 41, 3) := by decide +kernel
theorem dJ2_newBytesLength_0f7a4_54 : decode cJ2_newBytesLength_0f7a4 54 = .ok (.athrow, 1) := by decide +kernel
theorem dJ2_newBytesLength_0f7a4_55 : decode cJ2_newBytesLength_0f7a4 55 = .ok (.iload_n 0, 1) := by decide +kernel
theorem dJ2_newBytesLength_0f7a4_56 : decode cJ2_newBytesLength_0f7a4 56 = .ok (.iconst 1, 1) := by decide +kernel
theorem dJ2_newBytesLength_0f7a4_57 : decode cJ2_newBytesLength_0f7a4 57 = .ok (.ishl, 1) := by decide +kernel
theorem dJ2_newBytesLength_0f7a4_58 : decode cJ2_newBytesLength_0f7a4 58 = .ok (.ireturn, 1) := by decide +kernel
theorem dJ2_putChar_b72d1_0 : decode cJ2_putChar_b72d1 0 = .ok (.getstatic 44, 3) := by decide +kernel
theorem dJ2_putChar_b72d1_3 : decode cJ2_putChar_b72d1 3 = .ok (.ifCond .ne 25, 3) := by decide +kernel
theorem dJ2_putChar_b72d1_6 : decode cJ2_putChar_b72d1 6 = .ok (.iload_n 1, 1) := by decide +kernel
theorem dJ2_putChar_b72d1_7 : decode cJ2_putChar_b72d1 7 = .ok (.ifCond .lt 11, 3) := by decide +kernel
theorem dJ2_putChar_b72d1_10 : decode cJ2_putChar_b72d1 10 = .ok (.iload_n 1, 1) := by decide +kernel
theorem dJ2_putChar_b72d1_11 : decode cJ2_putChar_b72d1 11 = .ok (.aload_n 0, 1) := by decide +kernel
theorem dJ2_putChar_b72d1_12 : decode cJ2_putChar_b72d1 12 = .ok (.invokestatic 48, 3) := by decide +kernel
theorem dJ2_putChar_b72d1_15 : decode cJ2_putChar_b72d1 15 = .ok (.if_icmp .lt 13, 3) := by decide +kernel
theorem dJ2_putChar_b72d1_18 : decode cJ2_putChar_b72d1 18 = .ok (.new 52, 3) := by decide +kernel
theorem dJ2_putChar_b72d1_21 : decode cJ2_putChar_b72d1 21 = .ok (.dup, 1) := by decide +kernel
theorem dJ2_putChar_b72d1_22 : decode cJ2_putChar_b72d1 22 = .ok (.ldc 54, 2) := by decide +kernel
theorem dJ2_putChar_b72d1_24 : decode cJ2_putChar_b72d1 24 = .ok (.invokespecial 56, 3) := by decide +kernel
theorem dJ2_putChar_b72d1_27 : decode cJ2_putChar_b72d1 27 = .ok (.athrow, 1) := by decide +kernel
theorem dJ2_putChar_b72d1_28 : decode cJ2_putChar_b72d1 28 = .ok (.iload_n 1, 1) := by decide +kernel
theorem dJ2_putChar_b72d1_29 : decode cJ2_putChar_b72d1 29 = .ok (.iconst 1, 1) := by decide +kernel
theorem dJ2_putChar_b72d1_30 : decode cJ2_putChar_b72d1 30 = .ok (.ishl, 1) := by decide +kernel
theorem dJ2_putChar_b72d1_31 : decode cJ2_putChar_b72d1 31 = .ok (.istore_n 1, 1) := by decide +kernel
theorem dJ2_putChar_b72d1_32 : decode cJ2_putChar_b72d1 32 = .ok (.aload_n 0, 1) := by decide +kernel
theorem dJ2_putChar_b72d1_33 : decode cJ2_putChar_b72d1 33 = .ok (.iload_n 1, 1) := by decide +kernel
theorem dJ2_putChar_b72d1_34 : decode cJ2_putChar_b72d1 34 = .ok (.iinc 1 1, 3) := by decide +kernel
theorem dJ2_putChar_b72d1_37 : decode cJ2_putChar_b72d1 37 = .ok (.iload_n 2, 1) := by decide +kernel
theorem dJ2_putChar_b72d1_38 : decode cJ2_putChar_b72d1 38 = .ok (.getstatic 59, 3) := by decide +kernel
theorem dJ2_putChar_b72d1_41 : decode cJ2_putChar_b72d1 41 = .ok (.ishr, 1) := by decide +kernel
theorem dJ2_putChar_b72d1_42 : decode cJ2_putChar_b72d1 42 = .ok (.i2b, 1) := by decide +kernel
theorem dJ2_putChar_b72d1_43 : decode cJ2_putChar_b72d1 43 = .ok (.bastore, 1) := by decide +kernel
theorem dJ2_putChar_b72d1_44 : decode cJ2_putChar_b72d1 44 = .ok (.aload_n 0, 1) := by decide +kernel
theorem dJ2_putChar_b72d1_45 : decode cJ2_putChar_b72d1 45 = .ok (.iload_n 1, 1) := by decide +kernel
theorem dJ2_putChar_b72d1_46 : decode cJ2_putChar_b72d1 46 = .ok (.iload_n 2, 1) := by decide +kernel
theorem dJ2_putChar_b72d1_47 : decode cJ2_putChar_b72d1 47 = .ok (.getstatic 63, 3) := by decide +kernel
theorem dJ2_putChar_b72d1_50 : decode cJ2_putChar_b72d1 50 = .ok (.ishr, 1) := by decide +kernel
theorem dJ2_putChar_b72d1_51 : decode cJ2_putChar_b72d1 51 = .ok (.i2b, 1) := by decide +kernel
theorem dJ2_putChar_b72d1_52 : decode cJ2_putChar_b72d1 52 = .ok (.bastore, 1) := by decide +kernel
theorem dJ2_putChar_b72d1_53 : decode cJ2_putChar_b72d1 53 = .ok (.return_, 1) := by decide +kernel
theorem dJ2_getChar_3b067_0 : decode cJ2_getChar_3b067 0 = .ok (.getstatic 44, 3) := by decide +kernel
theorem dJ2_getChar_3b067_3 : decode cJ2_getChar_3b067 3 = .ok (.ifCond .ne 25, 3) := by decide +kernel
theorem dJ2_getChar_3b067_6 : decode cJ2_getChar_3b067 6 = .ok (.iload_n 1, 1) := by decide +kernel
theorem dJ2_getChar_3b067_7 : decode cJ2_getChar_3b067 7 = .ok (.ifCond .lt 11, 3) := by decide +kernel
theorem dJ2_getChar_3b067_10 : decode cJ2_getChar_3b067 10 = .ok (.iload_n 1, 1) := by decide +kernel
theorem dJ2_getChar_3b067_11 : decode cJ2_getChar_3b067 11 = .ok (.aload_n 0, 1) := by decide +kernel
theorem dJ2_getChar_3b067_12 : decode cJ2_getChar_3b067 12 = .ok (.invokestatic 48, 3) := by decide +kernel
theorem dJ2_getChar_3b067_15 : decode cJ2_getChar_3b067 15 = .ok (.if_icmp .lt 13, 3) := by decide +kernel
theorem dJ2_getChar_3b067_18 : decode cJ2_getChar_3b067 18 = .ok (.new 52, 3) := by decide +kernel
theorem dJ2_getChar_3b067_21 : decode cJ2_getChar_3b067 21 = .ok (.dup, 1) := by decide +kernel
theorem dJ2_getChar_3b067_22 : decode cJ2_getChar_3b067 22 = .ok (.ldc 54, 2) := by decide +kernel
theorem dJ2_getChar_3b067_24 : decode cJ2_getChar_3b067 24 = .ok (.invokespecial 56, 3) := by decide +kernel
theorem dJ2_getChar_3b067_27 : decode cJ2_getChar_3b067 27 = .ok (.athrow, 1) := by decide +kernel
theorem dJ2_getChar_3b067_28 : decode cJ2_getChar_3b067 28 = .ok (.iload_n 1, 1) := by decide +kernel
theorem dJ2_getChar_3b067_29 : decode cJ2_getChar_3b067 29 = .ok (.iconst 1, 1) := by decide +kernel
theorem dJ2_getChar_3b067_30 : decode cJ2_getChar_3b067 30 = .ok (.ishl, 1) := by decide +kernel
theorem dJ2_getChar_3b067_31 : decode cJ2_getChar_3b067 31 = .ok (.istore_n 1, 1) := by decide +kernel
theorem dJ2_getChar_3b067_32 : decode cJ2_getChar_3b067 32 = .ok (.aload_n 0, 1) := by decide +kernel
theorem dJ2_getChar_3b067_33 : decode cJ2_getChar_3b067 33 = .ok (.iload_n 1, 1) := by decide +kernel
theorem dJ2_getChar_3b067_34 : decode cJ2_getChar_3b067 34 = .ok (.iinc 1 1, 3) := by decide +kernel
theorem dJ2_getChar_3b067_37 : decode cJ2_getChar_3b067 37 = .ok (.baload, 1) := by decide +kernel
theorem dJ2_getChar_3b067_38 : decode cJ2_getChar_3b067 38 = .ok (.sipush 255, 3) := by decide +kernel
theorem dJ2_getChar_3b067_41 : decode cJ2_getChar_3b067 41 = .ok (.iand, 1) := by decide +kernel
theorem dJ2_getChar_3b067_42 : decode cJ2_getChar_3b067 42 = .ok (.getstatic 59, 3) := by decide +kernel
theorem dJ2_getChar_3b067_45 : decode cJ2_getChar_3b067 45 = .ok (.ishl, 1) := by decide +kernel
theorem dJ2_getChar_3b067_46 : decode cJ2_getChar_3b067 46 = .ok (.aload_n 0, 1) := by decide +kernel
theorem dJ2_getChar_3b067_47 : decode cJ2_getChar_3b067 47 = .ok (.iload_n 1, 1) := by decide +kernel
theorem dJ2_getChar_3b067_48 : decode cJ2_getChar_3b067 48 = .ok (.baload, 1) := by decide +kernel
theorem dJ2_getChar_3b067_49 : decode cJ2_getChar_3b067 49 = .ok (.sipush 255, 3) := by decide +kernel
theorem dJ2_getChar_3b067_52 : decode cJ2_getChar_3b067 52 = .ok (.iand, 1) := by decide +kernel
theorem dJ2_getChar_3b067_53 : decode cJ2_getChar_3b067 53 = .ok (.getstatic 63, 3) := by decide +kernel
theorem dJ2_getChar_3b067_56 : decode cJ2_getChar_3b067 56 = .ok (.ishl, 1) := by decide +kernel
theorem dJ2_getChar_3b067_57 : decode cJ2_getChar_3b067 57 = .ok (.ior, 1) := by decide +kernel
theorem dJ2_getChar_3b067_58 : decode cJ2_getChar_3b067 58 = .ok (.i2c, 1) := by decide +kernel
theorem dJ2_getChar_3b067_59 : decode cJ2_getChar_3b067 59 = .ok (.ireturn, 1) := by decide +kernel
theorem dJ2_length_9d52b_0 : decode cJ2_length_9d52b 0 = .ok (.aload_n 0, 1) := by decide +kernel
theorem dJ2_length_9d52b_1 : decode cJ2_length_9d52b 1 = .ok (.arraylength, 1) := by decide +kernel
theorem dJ2_length_9d52b_2 : decode cJ2_length_9d52b 2 = .ok (.iconst 1, 1) := by decide +kernel
theorem dJ2_length_9d52b_3 : decode cJ2_length_9d52b 3 = .ok (.ishr, 1) := by decide +kernel
theorem dJ2_length_9d52b_4 : decode cJ2_length_9d52b 4 = .ok (.ireturn, 1) := by decide +kernel
theorem dJ2_fillNull_b72d1_0 : decode cJ2_fillNull_b72d1 0 = .ok (.aload_n 0, 1) := by decide +kernel
theorem dJ2_fillNull_b72d1_1 : decode cJ2_fillNull_b72d1 1 = .ok (.iload_n 1, 1) := by decide +kernel
theorem dJ2_fillNull_b72d1_2 : decode cJ2_fillNull_b72d1 2 = .ok (.iconst 1, 1) := by decide +kernel
theorem dJ2_fillNull_b72d1_3 : decode cJ2_fillNull_b72d1 3 = .ok (.ishl, 1) := by decide +kernel
theorem dJ2_fillNull_b72d1_4 : decode cJ2_fillNull_b72d1 4 = .ok (.iload_n 2, 1) := by decide +kernel
theorem dJ2_fillNull_b72d1_5 : decode cJ2_fillNull_b72d1 5 = .ok (.iconst 1, 1) := by decide +kernel
theorem dJ2_fillNull_b72d1_6 : decode cJ2_fillNull_b72d1 6 = .ok (.ishl, 1) := by decide +kernel
theorem dJ2_fillNull_b72d1_7 : decode cJ2_fillNull_b72d1 7 = .ok (.iconst 0, 1) := by decide +kernel
theorem dJ2_fillNull_b72d1_8 : decode cJ2_fillNull_b72d1 8 = .ok (.invokestatic 380, 3) := by decide +kernel
theorem dJ2_fillNull_b72d1_11 : decode cJ2_fillNull_b72d1 11 = .ok (.return_, 1) := by decide +kernel
theorem dJ2_putCharSB_b72d1_0 : decode cJ2_putCharSB_b72d1 0 = .ok (.iload_n 1, 1) := by decide +kernel
theorem dJ2_putCharSB_b72d1_1 : decode cJ2_putCharSB_b72d1 1 = .ok (.aload_n 0, 1) := by decide +kernel
theorem dJ2_putCharSB_b72d1_2 : decode cJ2_putCharSB_b72d1 2 = .ok (.invokestatic 67, 3) := by decide +kernel
theorem dJ2_putCharSB_b72d1_5 : decode cJ2_putCharSB_b72d1 5 = .ok (.aload_n 0, 1) := by decide +kernel
theorem dJ2_putCharSB_b72d1_6 : decode cJ2_putCharSB_b72d1 6 = .ok (.iload_n 1, 1) := by decide +kernel
theorem dJ2_putCharSB_b72d1_7 : decode cJ2_putCharSB_b72d1 7 = .ok (.iload_n 2, 1) := by decide +kernel
theorem dJ2_putCharSB_b72d1_8 : decode cJ2_putCharSB_b72d1 8 = .ok (.invokestatic 111, 3) := by decide +kernel
theorem dJ2_putCharSB_b72d1_11 : decode cJ2_putCharSB_b72d1 11 = .ok (.return_, 1) := by decide +kernel
theorem dJ2_getChars_46870_0 : decode cJ2_getChars_46870 0 = .ok (.iload_n 1, 1) := by decide +kernel
theorem dJ2_getChars_46870_1 : decode cJ2_getChars_46870 1 = .ok (.iload_n 2, 1) := by decide +kernel
theorem dJ2_getChars_46870_2 : decode cJ2_getChars_46870 2 = .ok (.aload_n 3, 1) := by decide +kernel
theorem dJ2_getChars_46870_3 : decode cJ2_getChars_46870 3 = .ok (.invokestatic 96, 3) := by decide +kernel
theorem dJ2_getChars_46870_6 : decode cJ2_getChars_46870 6 = .ok (.iload_n 0, 1) := by decide +kernel
theorem dJ2_getChars_46870_7 : decode cJ2_getChars_46870 7 = .ok (.iload_n 2, 1) := by decide +kernel
theorem dJ2_getChars_46870_8 : decode cJ2_getChars_46870 8 = .ok (.aload_n 3, 1) := by decide +kernel
theorem dJ2_getChars_46870_9 : decode cJ2_getChars_46870 9 = .ok (.invokestatic 393, 3) := by decide +kernel
theorem dJ2_getChars_46870_12 : decode cJ2_getChars_46870 12 = .ok (.istore 4, 2) := by decide +kernel
theorem dJ2_getChars_46870_14 : decode cJ2_getChars_46870 14 = .ok (.getstatic 44, 3) := by decide +kernel
theorem dJ2_getChars_46870_17 : decode cJ2_getChars_46870 17 = .ok (.ifCond .ne 17, 3) := by decide +kernel
theorem dJ2_getChars_46870_20 : decode cJ2_getChars_46870 20 = .ok (.iload_n 1, 1) := by decide +kernel
theorem dJ2_getChars_46870_21 : decode cJ2_getChars_46870 21 = .ok (.iload 4, 2) := by decide +kernel
theorem dJ2_getChars_46870_23 : decode cJ2_getChars_46870 23 = .ok (.if_icmp .eq 11, 3) := by decide +kernel
theorem dJ2_getChars_46870_26 : decode cJ2_getChars_46870 26 = .ok (.new 52, 3) := by decide +kernel
theorem dJ2_getChars_46870_29 : decode cJ2_getChars_46870 29 = .ok (.dup, 1) := by decide +kernel
theorem dJ2_getChars_46870_30 : decode cJ2_getChars_46870 30 = .ok (.invokespecial 66, 3) := by decide +kernel
theorem dJ2_getChars_46870_33 : decode cJ2_getChars_46870 33 = .ok (.athrow, 1) := by decide +kernel
theorem dJ2_getChars_46870_34 : decode cJ2_getChars_46870 34 = .ok (.iload 4, 2) := by decide +kernel
theorem dJ2_getChars_46870_36 : decode cJ2_getChars_46870 36 = .ok (.ireturn, 1) := by decide +kernel
theorem dJ2_putCharsAt_cd4e5_0 : decode cJ2_putCharsAt_cd4e5 0 = .ok (.iload_n 1, 1) := by decide +kernel
theorem dJ2_putCharsAt_cd4e5_1 : decode cJ2_putCharsAt_cd4e5 1 = .ok (.iconst 4, 1) := by decide +kernel
theorem dJ2_putCharsAt_cd4e5_2 : decode cJ2_putCharsAt_cd4e5 2 = .ok (.iadd, 1) := by decide +kernel
theorem dJ2_putCharsAt_cd4e5_3 : decode cJ2_putCharsAt_cd4e5 3 = .ok (.istore 6, 2) := by decide +kernel
theorem dJ2_putCharsAt_cd4e5_5 : decode cJ2_putCharsAt_cd4e5 5 = .ok (.iload_n 1, 1) := by decide +kernel
theorem dJ2_putCharsAt_cd4e5_6 : decode cJ2_putCharsAt_cd4e5 6 = .ok (.iload 6, 2) := by decide +kernel
theorem dJ2_putCharsAt_cd4e5_8 : decode cJ2_putCharsAt_cd4e5 8 = .ok (.aload_n 0, 1) := by decide +kernel
theorem dJ2_putCharsAt_cd4e5_9 : decode cJ2_putCharsAt_cd4e5 9 = .ok (.invokestatic 96, 3) := by decide +kernel
theorem dJ2_putCharsAt_cd4e5_12 : decode cJ2_putCharsAt_cd4e5 12 = .ok (.aload_n 0, 1) := by decide +kernel
theorem dJ2_putCharsAt_cd4e5_13 : decode cJ2_putCharsAt_cd4e5 13 = .ok (.iload_n 1, 1) := by decide +kernel
theorem dJ2_putCharsAt_cd4e5_14 : decode cJ2_putCharsAt_cd4e5 14 = .ok (.iinc 1 1, 3) := by decide +kernel
theorem dJ2_putCharsAt_cd4e5_17 : decode cJ2_putCharsAt_cd4e5 17 = .ok (.iload_n 2, 1) := by decide +kernel
theorem dJ2_putCharsAt_cd4e5_18 : decode cJ2_putCharsAt_cd4e5 18 = .ok (.invokestatic 111, 3) := by decide +kernel
theorem dJ2_putCharsAt_cd4e5_21 : decode cJ2_putCharsAt_cd4e5 21 = .ok (.aload_n 0, 1) := by decide +kernel
theorem dJ2_putCharsAt_cd4e5_22 : decode cJ2_putCharsAt_cd4e5 22 = .ok (.iload_n 1, 1) := by decide +kernel
theorem dJ2_putCharsAt_cd4e5_23 : decode cJ2_putCharsAt_cd4e5 23 = .ok (.iinc 1 1, 3) := by decide +kernel
theorem dJ2_putCharsAt_cd4e5_26 : decode cJ2_putCharsAt_cd4e5 26 = .ok (.iload_n 3, 1) := by decide +kernel
theorem dJ2_putCharsAt_cd4e5_27 : decode cJ2_putCharsAt_cd4e5 27 = .ok (.invokestatic 111, 3) := by decide +kernel
theorem dJ2_putCharsAt_cd4e5_30 : decode cJ2_putCharsAt_cd4e5 30 = .ok (.aload_n 0, 1) := by decide +kernel
theorem dJ2_putCharsAt_cd4e5_31 : decode cJ2_putCharsAt_cd4e5 31 = .ok (.iload_n 1, 1) := by decide +kernel
theorem dJ2_putCharsAt_cd4e5_32 : decode cJ2_putCharsAt_cd4e5 32 = .ok (.iinc 1 1, 3) := by decide +kernel
theorem dJ2_putCharsAt_cd4e5_35 : decode cJ2_putCharsAt_cd4e5 35 = .ok (.iload 4, 2) := by decide +kernel
theorem dJ2_putCharsAt_cd4e5_37 : decode cJ2_putCharsAt_cd4e5 37 = .ok (.invokestatic 111, 3) := by decide +kernel
theorem dJ2_putCharsAt_cd4e5_40 : decode cJ2_putCharsAt_cd4e5 40 = .ok (.aload_n 0, 1) := by decide +kernel
theorem dJ2_putCharsAt_cd4e5_41 : decode cJ2_putCharsAt_cd4e5 41 = .ok (.iload_n 1, 1) := by decide +kernel
theorem dJ2_putCharsAt_cd4e5_42 : decode cJ2_putCharsAt_cd4e5 42 = .ok (.iinc 1 1, 3) := by decide +kernel
theorem dJ2_putCharsAt_cd4e5_45 : decode cJ2_putCharsAt_cd4e5 45 = .ok (.iload 5, 2) := by decide +kernel
theorem dJ2_putCharsAt_cd4e5_47 : decode cJ2_putCharsAt_cd4e5 47 = .ok (.invokestatic 111, 3) := by decide +kernel
theorem dJ2_putCharsAt_cd4e5_50 : decode cJ2_putCharsAt_cd4e5 50 = .ok (.getstatic 44, 3) := by decide +kernel
theorem dJ2_putCharsAt_cd4e5_53 : decode cJ2_putCharsAt_cd4e5 53 = .ok (.ifCond .ne 17, 3) := by decide +kernel
theorem dJ2_putCharsAt_cd4e5_56 : decode cJ2_putCharsAt_cd4e5 56 = .ok (.iload_n 1, 1) := by decide +kernel
theorem dJ2_putCharsAt_cd4e5_57 : decode cJ2_putCharsAt_cd4e5 57 = .ok (.iload 6, 2) := by decide +kernel
theorem dJ2_putCharsAt_cd4e5_59 : decode cJ2_putCharsAt_cd4e5 59 = .ok (.if_icmp .eq 11, 3) := by decide +kernel
theorem dJ2_putCharsAt_cd4e5_62 : decode cJ2_putCharsAt_cd4e5 62 = .ok (.new 52, 3) := by decide +kernel
theorem dJ2_putCharsAt_cd4e5_65 : decode cJ2_putCharsAt_cd4e5 65 = .ok (.dup, 1) := by decide +kernel
theorem dJ2_putCharsAt_cd4e5_66 : decode cJ2_putCharsAt_cd4e5 66 = .ok (.invokespecial 66, 3) := by decide +kernel
theorem dJ2_putCharsAt_cd4e5_69 : decode cJ2_putCharsAt_cd4e5 69 = .ok (.athrow, 1) := by decide +kernel
theorem dJ2_putCharsAt_cd4e5_70 : decode cJ2_putCharsAt_cd4e5 70 = .ok (.iload 6, 2) := by decide +kernel
theorem dJ2_putCharsAt_cd4e5_72 : decode cJ2_putCharsAt_cd4e5 72 = .ok (.ireturn, 1) := by decide +kernel
theorem dJ2_charAt_3b067_0 : decode cJ2_charAt_3b067 0 = .ok (.iload_n 1, 1) := by decide +kernel
theorem dJ2_charAt_3b067_1 : decode cJ2_charAt_3b067 1 = .ok (.aload_n 0, 1) := by decide +kernel
theorem dJ2_charAt_3b067_2 : decode cJ2_charAt_3b067 2 = .ok (.invokestatic 67, 3) := by decide +kernel
theorem dJ2_charAt_3b067_5 : decode cJ2_charAt_3b067 5 = .ok (.aload_n 0, 1) := by decide +kernel
theorem dJ2_charAt_3b067_6 : decode cJ2_charAt_3b067 6 = .ok (.iload_n 1, 1) := by decide +kernel
theorem dJ2_charAt_3b067_7 : decode cJ2_charAt_3b067 7 = .ok (.invokestatic 71, 3) := by decide +kernel
theorem dJ2_charAt_3b067_10 : decode cJ2_charAt_3b067 10 = .ok (.ireturn, 1) := by decide +kernel
theorem dJ2_inflate_0e8fd_0 : decode cJ2_inflate_0e8fd 0 = .ok (.iload_n 3, 1) := by decide +kernel
theorem dJ2_inflate_0e8fd_1 : decode cJ2_inflate_0e8fd 1 = .ok (.iload 4, 2) := by decide +kernel
theorem dJ2_inflate_0e8fd_3 : decode cJ2_inflate_0e8fd 3 = .ok (.aload_n 2, 1) := by decide +kernel
theorem dJ2_inflate_0e8fd_4 : decode cJ2_inflate_0e8fd 4 = .ok (.invokestatic 173, 3) := by decide +kernel
theorem dJ2_inflate_0e8fd_7 : decode cJ2_inflate_0e8fd 7 = .ok (.iconst 0, 1) := by decide +kernel
theorem dJ2_inflate_0e8fd_8 : decode cJ2_inflate_0e8fd 8 = .ok (.istore 5, 2) := by decide +kernel
theorem dJ2_inflate_0e8fd_10 : decode cJ2_inflate_0e8fd 10 = .ok (.iload 5, 2) := by decide +kernel
theorem dJ2_inflate_0e8fd_12 : decode cJ2_inflate_0e8fd 12 = .ok (.iload 4, 2) := by decide +kernel
theorem dJ2_inflate_0e8fd_14 : decode cJ2_inflate_0e8fd 14 = .ok (.if_icmp .ge 27, 3) := by decide +kernel
theorem dJ2_inflate_0e8fd_17 : decode cJ2_inflate_0e8fd 17 = .ok (.aload_n 2, 1) := by decide +kernel
theorem dJ2_inflate_0e8fd_18 : decode cJ2_inflate_0e8fd 18 = .ok (.iload_n 3, 1) := by decide +kernel
theorem dJ2_inflate_0e8fd_19 : decode cJ2_inflate_0e8fd 19 = .ok (.iinc 3 1, 3) := by decide +kernel
theorem dJ2_inflate_0e8fd_22 : decode cJ2_inflate_0e8fd 22 = .ok (.aload_n 0, 1) := by decide +kernel
theorem dJ2_inflate_0e8fd_23 : decode cJ2_inflate_0e8fd 23 = .ok (.iload_n 1, 1) := by decide +kernel
theorem dJ2_inflate_0e8fd_24 : decode cJ2_inflate_0e8fd 24 = .ok (.iinc 1 1, 3) := by decide +kernel
theorem dJ2_inflate_0e8fd_27 : decode cJ2_inflate_0e8fd 27 = .ok (.baload, 1) := by decide +kernel
theorem dJ2_inflate_0e8fd_28 : decode cJ2_inflate_0e8fd 28 = .ok (.sipush 255, 3) := by decide +kernel
theorem dJ2_inflate_0e8fd_31 : decode cJ2_inflate_0e8fd 31 = .ok (.iand, 1) := by decide +kernel
theorem dJ2_inflate_0e8fd_32 : decode cJ2_inflate_0e8fd 32 = .ok (.invokestatic 111, 3) := by decide +kernel
theorem dJ2_inflate_0e8fd_35 : decode cJ2_inflate_0e8fd 35 = .ok (.iinc 5 1, 3) := by decide +kernel
theorem dJ2_inflate_0e8fd_38 : decode cJ2_inflate_0e8fd 38 = .ok (.goto (-28), 3) := by decide +kernel
theorem dJ2_inflate_0e8fd_41 : decode cJ2_inflate_0e8fd 41 = .ok (.return_, 1) := by decide +kernel
theorem dJ2_getChars_ba4f3_0 : decode cJ2_getChars_ba4f3 0 = .ok (.iload_n 1, 1) := by decide +kernel
theorem dJ2_getChars_ba4f3_1 : decode cJ2_getChars_ba4f3 1 = .ok (.istore 5, 2) := by decide +kernel
theorem dJ2_getChars_ba4f3_3 : decode cJ2_getChars_ba4f3 3 = .ok (.iload_n 0, 1) := by decide +kernel
theorem dJ2_getChars_ba4f3_4 : decode cJ2_getChars_ba4f3 4 = .ok (.ifCond .ge 7, 3) := by decide +kernel
theorem dJ2_getChars_ba4f3_7 : decode cJ2_getChars_ba4f3 7 = .ok (.iconst 1, 1) := by decide +kernel
theorem dJ2_getChars_ba4f3_8 : decode cJ2_getChars_ba4f3 8 = .ok (.goto 4, 3) := by decide +kernel
theorem dJ2_getChars_ba4f3_11 : decode cJ2_getChars_ba4f3 11 = .ok (.iconst 0, 1) := by decide +kernel
theorem dJ2_getChars_ba4f3_12 : decode cJ2_getChars_ba4f3 12 = .ok (.istore 6, 2) := by decide +kernel
theorem dJ2_getChars_ba4f3_14 : decode cJ2_getChars_ba4f3 14 = .ok (.iload 6, 2) := by decide +kernel
theorem dJ2_getChars_ba4f3_16 : decode cJ2_getChars_ba4f3 16 = .ok (.ifCond .ne 6, 3) := by decide +kernel
theorem dJ2_getChars_ba4f3_19 : decode cJ2_getChars_ba4f3 19 = .ok (.iload_n 0, 1) := by decide +kernel
theorem dJ2_getChars_ba4f3_20 : decode cJ2_getChars_ba4f3 20 = .ok (.ineg, 1) := by decide +kernel
theorem dJ2_getChars_ba4f3_21 : decode cJ2_getChars_ba4f3 21 = .ok (.istore_n 0, 1) := by decide +kernel
theorem dJ2_getChars_ba4f3_22 : decode cJ2_getChars_ba4f3 22 = .ok (.iload_n 0, 1) := by decide +kernel
theorem dJ2_getChars_ba4f3_23 : decode cJ2_getChars_ba4f3 23 = .ok (.bipush (-100), 2) := by decide +kernel
theorem dJ2_getChars_ba4f3_25 : decode cJ2_getChars_ba4f3 25 = .ok (.if_icmp .gt 51, 3) := by decide +kernel
theorem dJ2_getChars_ba4f3_28 : decode cJ2_getChars_ba4f3 28 = .ok (.iload_n 0, 1) := by decide +kernel
theorem dJ2_getChars_ba4f3_29 : decode cJ2_getChars_ba4f3 29 = .ok (.bipush 100, 2) := by decide +kernel
theorem dJ2_getChars_ba4f3_31 : decode cJ2_getChars_ba4f3 31 = .ok (.idiv, 1) := by decide +kernel
theorem dJ2_getChars_ba4f3_32 : decode cJ2_getChars_ba4f3 32 = .ok (.istore_n 3, 1) := by decide +kernel
theorem dJ2_getChars_ba4f3_33 : decode cJ2_getChars_ba4f3 33 = .ok (.iload_n 3, 1) := by decide +kernel
theorem dJ2_getChars_ba4f3_34 : decode cJ2_getChars_ba4f3 34 = .ok (.bipush 100, 2) := by decide +kernel
theorem dJ2_getChars_ba4f3_36 : decode cJ2_getChars_ba4f3 36 = .ok (.imul, 1) := by decide +kernel
theorem dJ2_getChars_ba4f3_37 : decode cJ2_getChars_ba4f3 37 = .ok (.iload_n 0, 1) := by decide +kernel
theorem dJ2_getChars_ba4f3_38 : decode cJ2_getChars_ba4f3 38 = .ok (.isub, 1) := by decide +kernel
theorem dJ2_getChars_ba4f3_39 : decode cJ2_getChars_ba4f3 39 = .ok (.istore 4, 2) := by decide +kernel
theorem dJ2_getChars_ba4f3_41 : decode cJ2_getChars_ba4f3 41 = .ok (.iload_n 3, 1) := by decide +kernel
theorem dJ2_getChars_ba4f3_42 : decode cJ2_getChars_ba4f3 42 = .ok (.istore_n 0, 1) := by decide +kernel
theorem dJ2_getChars_ba4f3_43 : decode cJ2_getChars_ba4f3 43 = .ok (.aload_n 2, 1) := by decide +kernel
theorem dJ2_getChars_ba4f3_44 : decode cJ2_getChars_ba4f3 44 = .ok (.iinc 5 (-1), 3) := by decide +kernel
theorem dJ2_getChars_ba4f3_47 : decode cJ2_getChars_ba4f3 47 = .ok (.iload 5, 2) := by decide +kernel
theorem dJ2_getChars_ba4f3_49 : decode cJ2_getChars_ba4f3 49 = .ok (.getstatic 403, 3) := by decide +kernel
theorem dJ2_getChars_ba4f3_52 : decode cJ2_getChars_ba4f3 52 = .ok (.iload 4, 2) := by decide +kernel
theorem dJ2_getChars_ba4f3_54 : decode cJ2_getChars_ba4f3 54 = .ok (.baload, 1) := by decide +kernel
theorem dJ2_getChars_ba4f3_55 : decode cJ2_getChars_ba4f3 55 = .ok (.invokestatic 111, 3) := by decide +kernel
theorem dJ2_getChars_ba4f3_58 : decode cJ2_getChars_ba4f3 58 = .ok (.aload_n 2, 1) := by decide +kernel
theorem dJ2_getChars_ba4f3_59 : decode cJ2_getChars_ba4f3 59 = .ok (.iinc 5 (-1), 3) := by decide +kernel
theorem dJ2_getChars_ba4f3_62 : decode cJ2_getChars_ba4f3 62 = .ok (.iload 5, 2) := by decide +kernel
theorem dJ2_getChars_ba4f3_64 : decode cJ2_getChars_ba4f3 64 = .ok (.getstatic 407, 3) := by decide +kernel
theorem dJ2_getChars_ba4f3_67 : decode cJ2_getChars_ba4f3 67 = .ok (.iload 4, 2) := by decide +kernel
theorem dJ2_getChars_ba4f3_69 : decode cJ2_getChars_ba4f3 69 = .ok (.baload, 1) := by decide +kernel
theorem dJ2_getChars_ba4f3_70 : decode cJ2_getChars_ba4f3 70 = .ok (.invokestatic 111, 3) := by decide +kernel
theorem dJ2_getChars_ba4f3_73 : decode cJ2_getChars_ba4f3 73 = .ok (.goto (-51), 3) := by decide +kernel
theorem dJ2_getChars_ba4f3_76 : decode cJ2_getChars_ba4f3 76 = .ok (.aload_n 2, 1) := by decide +kernel
theorem dJ2_getChars_ba4f3_77 : decode cJ2_getChars_ba4f3 77 = .ok (.iinc 5 (-1), 3) := by decide +kernel
theorem dJ2_getChars_ba4f3_80 : decode cJ2_getChars_ba4f3 80 = .ok (.iload 5, 2) := by decide +kernel
theorem dJ2_getChars_ba4f3_82 : decode cJ2_getChars_ba4f3 82 = .ok (.getstatic 403, 3) := by decide +kernel
theorem dJ2_getChars_ba4f3_85 : decode cJ2_getChars_ba4f3 85 = .ok (.iload_n 0, 1) := by decide +kernel
theorem dJ2_getChars_ba4f3_86 : decode cJ2_getChars_ba4f3 86 = .ok (.ineg, 1) := by decide +kernel
theorem dJ2_getChars_ba4f3_87 : decode cJ2_getChars_ba4f3 87 = .ok (.baload, 1) := by decide +kernel
theorem dJ2_getChars_ba4f3_88 : decode cJ2_getChars_ba4f3 88 = .ok (.invokestatic 111, 3) := by decide +kernel
theorem dJ2_getChars_ba4f3_91 : decode cJ2_getChars_ba4f3 91 = .ok (.iload_n 0, 1) := by decide +kernel
theorem dJ2_getChars_ba4f3_92 : decode cJ2_getChars_ba4f3 92 = .ok (.bipush (-9), 2) := by decide +kernel
theorem dJ2_getChars_ba4f3_94 : decode cJ2_getChars_ba4f3 94 = .ok (.if_icmp .ge 18, 3) := by decide +kernel
theorem dJ2_getChars_ba4f3_97 : decode cJ2_getChars_ba4f3 97 = .ok (.aload_n 2, 1) := by decide +kernel
theorem dJ2_getChars_ba4f3_98 : decode cJ2_getChars_ba4f3 98 = .ok (.iinc 5 (-1), 3) := by decide +kernel
theorem dJ2_getChars_ba4f3_101 : decode cJ2_getChars_ba4f3 101 = .ok (.iload 5, 2) := by decide +kernel
theorem dJ2_getChars_ba4f3_103 : decode cJ2_getChars_ba4f3 103 = .ok (.getstatic 407, 3) := by decide +kernel
theorem dJ2_getChars_ba4f3_106 : decode cJ2_getChars_ba4f3 106 = .ok (.iload_n 0, 1) := by decide +kernel
theorem dJ2_getChars_ba4f3_107 : decode cJ2_getChars_ba4f3 107 = .ok (.ineg, 1) := by decide +kernel
theorem dJ2_getChars_ba4f3_108 : decode cJ2_getChars_ba4f3 108 = .ok (.baload, 1) := by decide +kernel
theorem dJ2_getChars_ba4f3_109 : decode cJ2_getChars_ba4f3 109 = .ok (.invokestatic 111, 3) := by decide +kernel
theorem dJ2_getChars_ba4f3_112 : decode cJ2_getChars_ba4f3 112 = .ok (.iload 6, 2) := by decide +kernel
theorem dJ2_getChars_ba4f3_114 : decode cJ2_getChars_ba4f3 114 = .ok (.ifCond .eq 14, 3) := by decide +kernel
theorem dJ2_getChars_ba4f3_117 : decode cJ2_getChars_ba4f3 117 = .ok (.aload_n 2, 1) := by decide +kernel
theorem dJ2_getChars_ba4f3_118 : decode cJ2_getChars_ba4f3 118 = .ok (.iinc 5 (-1), 3) := by decide +kernel
theorem dJ2_getChars_ba4f3_121 : decode cJ2_getChars_ba4f3 121 = .ok (.iload 5, 2) := by decide +kernel
theorem dJ2_getChars_ba4f3_123 : decode cJ2_getChars_ba4f3 123 = .ok (.bipush 45, 2) := by decide +kernel
theorem dJ2_getChars_ba4f3_125 : decode cJ2_getChars_ba4f3 125 = .ok (.invokestatic 111, 3) := by decide +kernel
theorem dJ2_getChars_ba4f3_128 : decode cJ2_getChars_ba4f3 128 = .ok (.iload 5, 2) := by decide +kernel
theorem dJ2_getChars_ba4f3_130 : decode cJ2_getChars_ba4f3 130 = .ok (.ireturn, 1) := by decide +kernel
theorem dJ2_checkIndex_2214a_0 : decode cJ2_checkIndex_2214a 0 = .ok (.iload_n 0, 1) := by decide +kernel
theorem dJ2_checkIndex_2214a_1 : decode cJ2_checkIndex_2214a 1 = .ok (.aload_n 1, 1) := by decide +kernel
theorem dJ2_checkIndex_2214a_2 : decode cJ2_checkIndex_2214a 2 = .ok (.invokestatic 48, 3) := by decide +kernel
theorem dJ2_checkIndex_2214a_5 : decode cJ2_checkIndex_2214a 5 = .ok (.invokestatic 414, 3) := by decide +kernel
theorem dJ2_checkIndex_2214a_8 : decode cJ2_checkIndex_2214a 8 = .ok (.return_, 1) := by decide +kernel
theorem dJ2_checkBoundsBeginEnd_d044e_0 : decode cJ2_checkBoundsBeginEnd_d044e 0 = .ok (.iload_n 0, 1) := by decide +kernel
theorem dJ2_checkBoundsBeginEnd_d044e_1 : decode cJ2_checkBoundsBeginEnd_d044e 1 = .ok (.iload_n 1, 1) := by decide +kernel
theorem dJ2_checkBoundsBeginEnd_d044e_2 : decode cJ2_checkBoundsBeginEnd_d044e 2 = .ok (.aload_n 2, 1) := by decide +kernel
theorem dJ2_checkBoundsBeginEnd_d044e_3 : decode cJ2_checkBoundsBeginEnd_d044e 3 = .ok (.invokestatic 48, 3) := by decide +kernel
theorem dJ2_checkBoundsBeginEnd_d044e_6 : decode cJ2_checkBoundsBeginEnd_d044e 6 = .ok (.invokestatic 241, 3) := by decide +kernel
theorem dJ2_checkBoundsBeginEnd_d044e_9 : decode cJ2_checkBoundsBeginEnd_d044e 9 = .ok (.return_, 1) := by decide +kernel
theorem dJ2_checkBoundsOffCount_d044e_0 : decode cJ2_checkBoundsOffCount_d044e 0 = .ok (.iload_n 0, 1) := by decide +kernel
theorem dJ2_checkBoundsOffCount_d044e_1 : decode cJ2_checkBoundsOffCount_d044e 1 = .ok (.iload_n 1, 1) := by decide +kernel
theorem dJ2_checkBoundsOffCount_d044e_2 : decode cJ2_checkBoundsOffCount_d044e 2 = .ok (.aload_n 2, 1) := by decide +kernel
theorem dJ2_checkBoundsOffCount_d044e_3 : decode cJ2_checkBoundsOffCount_d044e 3 = .ok (.invokestatic 48, 3) := by decide +kernel
theorem dJ2_checkBoundsOffCount_d044e_6 : decode cJ2_checkBoundsOffCount_d044e 6 = .ok (.invokestatic 419, 3) := by decide +kernel
theorem dJ2_checkBoundsOffCount_d044e_9 : decode cJ2_checkBoundsOffCount_d044e 9 = .ok (.pop, 1) := by decide +kernel
theorem dJ2_checkBoundsOffCount_d044e_10 : decode cJ2_checkBoundsOffCount_d044e 10 = .ok (.return_, 1) := by decide +kernel
theorem dJ3_checkIndex_8e157_0 : decode cJ3_checkIndex_8e157 0 = .ok (.iload_n 0, 1) := by decide +kernel
theorem dJ3_checkIndex_8e157_1 : decode cJ3_checkIndex_8e157 1 = .ok (.ifCond .lt 8, 3) := by decide +kernel
theorem dJ3_checkIndex_8e157_4 : decode cJ3_checkIndex_8e157 4 = .ok (.iload_n 0, 1) := by decide +kernel
theorem dJ3_checkIndex_8e157_5 : decode cJ3_checkIndex_8e157 5 = .ok (.iload_n 1, 1) := by decide +kernel
theorem dJ3_checkIndex_8e157_6 : decode cJ3_checkIndex_8e157 6 = .ok (.if_icmp .lt 10, 3) := by decide +kernel
theorem dJ3_checkIndex_8e157_9 : decode cJ3_checkIndex_8e157 9 = .ok (.aload_n 2, 1) := by decide +kernel
theorem dJ3_checkIndex_8e157_10 : decode cJ3_checkIndex_8e157 10 = .ok (.iload_n 0, 1) := by decide +kernel
theorem dJ3_checkIndex_8e157_11 : decode cJ3_checkIndex_8e157 11 = .ok (.iload_n 1, 1) := by decide +kernel
theorem dJ3_checkIndex_8e157_12 : decode cJ3_checkIndex_8e157 12 = .ok (.invokestatic 95, 3) := by decide +kernel
theorem dJ3_checkIndex_8e157_15 : decode cJ3_checkIndex_8e157 15 = .ok (.athrow, 1) := by decide +kernel
theorem dJ3_checkIndex_8e157_16 : decode cJ3_checkIndex_8e157 16 = .ok (.iload_n 0, 1) := by decide +kernel
theorem dJ3_checkIndex_8e157_17 : decode cJ3_checkIndex_8e157 17 = .ok (.ireturn, 1) := by decide +kernel
theorem dJ3_checkFromToIndex_8c36e_0 : decode cJ3_checkFromToIndex_8c36e 0 = .ok (.iload_n 0, 1) := by decide +kernel
theorem dJ3_checkFromToIndex_8c36e_1 : decode cJ3_checkFromToIndex_8c36e 1 = .ok (.ifCond .lt 13, 3) := by decide +kernel
theorem dJ3_checkFromToIndex_8c36e_4 : decode cJ3_checkFromToIndex_8c36e 4 = .ok (.iload_n 0, 1) := by decide +kernel
theorem dJ3_checkFromToIndex_8c36e_5 : decode cJ3_checkFromToIndex_8c36e 5 = .ok (.iload_n 1, 1) := by decide +kernel
theorem dJ3_checkFromToIndex_8c36e_6 : decode cJ3_checkFromToIndex_8c36e 6 = .ok (.if_icmp .gt 8, 3) := by decide +kernel
theorem dJ3_checkFromToIndex_8c36e_9 : decode cJ3_checkFromToIndex_8c36e 9 = .ok (.iload_n 1, 1) := by decide +kernel
theorem dJ3_checkFromToIndex_8c36e_10 : decode cJ3_checkFromToIndex_8c36e 10 = .ok (.iload_n 2, 1) := by decide +kernel
theorem dJ3_checkFromToIndex_8c36e_11 : decode cJ3_checkFromToIndex_8c36e 11 = .ok (.if_icmp .le 11, 3) := by decide +kernel
theorem dJ3_checkFromToIndex_8c36e_14 : decode cJ3_checkFromToIndex_8c36e 14 = .ok (.aload_n 3, 1) := by decide +kernel
theorem dJ3_checkFromToIndex_8c36e_15 : decode cJ3_checkFromToIndex_8c36e 15 = .ok (.iload_n 0, 1) := by decide +kernel
theorem dJ3_checkFromToIndex_8c36e_16 : decode cJ3_checkFromToIndex_8c36e 16 = .ok (.iload_n 1, 1) := by decide +kernel
theorem dJ3_checkFromToIndex_8c36e_17 : decode cJ3_checkFromToIndex_8c36e 17 = .ok (.iload_n 2, 1) := by decide +kernel
theorem dJ3_checkFromToIndex_8c36e_18 : decode cJ3_checkFromToIndex_8c36e 18 = .ok (.invokestatic 99, 3) := by decide +kernel
theorem dJ3_checkFromToIndex_8c36e_21 : decode cJ3_checkFromToIndex_8c36e 21 = .ok (.athrow, 1) := by decide +kernel
theorem dJ3_checkFromToIndex_8c36e_22 : decode cJ3_checkFromToIndex_8c36e 22 = .ok (.iload_n 0, 1) := by decide +kernel
theorem dJ3_checkFromToIndex_8c36e_23 : decode cJ3_checkFromToIndex_8c36e 23 = .ok (.ireturn, 1) := by decide +kernel
theorem dJ3_checkFromIndexSize_8c36e_0 : decode cJ3_checkFromIndexSize_8c36e 0 = .ok (.iload_n 2, 1) := by decide +kernel
theorem dJ3_checkFromIndexSize_8c36e_1 : decode cJ3_checkFromIndexSize_8c36e 1 = .ok (.iload_n 0, 1) := by decide +kernel
theorem dJ3_checkFromIndexSize_8c36e_2 : decode cJ3_checkFromIndexSize_8c36e 2 = .ok (.ior, 1) := by decide +kernel
theorem dJ3_checkFromIndexSize_8c36e_3 : decode cJ3_checkFromIndexSize_8c36e 3 = .ok (.iload_n 1, 1) := by decide +kernel
theorem dJ3_checkFromIndexSize_8c36e_4 : decode cJ3_checkFromIndexSize_8c36e 4 = .ok (.ior, 1) := by decide +kernel
theorem dJ3_checkFromIndexSize_8c36e_5 : decode cJ3_checkFromIndexSize_8c36e 5 = .ok (.ifCond .lt 10, 3) := by decide +kernel
theorem dJ3_checkFromIndexSize_8c36e_8 : decode cJ3_checkFromIndexSize_8c36e 8 = .ok (.iload_n 1, 1) := by decide +kernel
theorem dJ3_checkFromIndexSize_8c36e_9 : decode cJ3_checkFromIndexSize_8c36e 9 = .ok (.iload_n 2, 1) := by decide +kernel
theorem dJ3_checkFromIndexSize_8c36e_10 : decode cJ3_checkFromIndexSize_8c36e 10 = .ok (.iload_n 0, 1) := by decide +kernel
theorem dJ3_checkFromIndexSize_8c36e_11 : decode cJ3_checkFromIndexSize_8c36e 11 = .ok (.isub, 1) := by decide +kernel
theorem dJ3_checkFromIndexSize_8c36e_12 : decode cJ3_checkFromIndexSize_8c36e 12 = .ok (.if_icmp .le 11, 3) := by decide +kernel
theorem dJ3_checkFromIndexSize_8c36e_15 : decode cJ3_checkFromIndexSize_8c36e 15 = .ok (.aload_n 3, 1) := by decide +kernel
theorem dJ3_checkFromIndexSize_8c36e_16 : decode cJ3_checkFromIndexSize_8c36e 16 = .ok (.iload_n 0, 1) := by decide +kernel
theorem dJ3_checkFromIndexSize_8c36e_17 : decode cJ3_checkFromIndexSize_8c36e 17 = .ok (.iload_n 1, 1) := by decide +kernel
theorem dJ3_checkFromIndexSize_8c36e_18 : decode cJ3_checkFromIndexSize_8c36e 18 = .ok (.iload_n 2, 1) := by decide +kernel
theorem dJ3_checkFromIndexSize_8c36e_19 : decode cJ3_checkFromIndexSize_8c36e 19 = .ok (.invokestatic 103, 3) := by decide +kernel
theorem dJ3_checkFromIndexSize_8c36e_22 : decode cJ3_checkFromIndexSize_8c36e 22 = .ok (.athrow, 1) := by decide +kernel
theorem dJ3_checkFromIndexSize_8c36e_23 : decode cJ3_checkFromIndexSize_8c36e 23 = .ok (.iload_n 0, 1) := by decide +kernel
theorem dJ3_checkFromIndexSize_8c36e_24 : decode cJ3_checkFromIndexSize_8c36e 24 = .ok (.ireturn, 1) := by decide +kernel
theorem dJ4_init_da8c8_0 : decode cJ4_init_da8c8 0 = .ok (.aload_n 0, 1) := by decide +kernel
theorem dJ4_init_da8c8_1 : decode cJ4_init_da8c8 1 = .ok (.bipush 16, 2) := by decide +kernel
theorem dJ4_init_da8c8_3 : decode cJ4_init_da8c8 3 = .ok (.invokespecial 1, 3) := by decide +kernel
theorem dJ4_init_da8c8_6 : decode cJ4_init_da8c8 6 = .ok (.return_, 1) := by decide +kernel
theorem dJ4_append_15ec4_0 : decode cJ4_append_15ec4 0 = .ok (.aload_n 0, 1) := by decide +kernel
theorem dJ4_append_15ec4_1 : decode cJ4_append_15ec4 1 = .ok (.aload_n 1, 1) := by decide +kernel
theorem dJ4_append_15ec4_2 : decode cJ4_append_15ec4 2 = .ok (.invokespecial 29, 3) := by decide +kernel
theorem dJ4_append_15ec4_5 : decode cJ4_append_15ec4 5 = .ok (.pop, 1) := by decide +kernel
theorem dJ4_append_15ec4_6 : decode cJ4_append_15ec4 6 = .ok (.aload_n 0, 1) := by decide +kernel
theorem dJ4_append_15ec4_7 : decode cJ4_append_15ec4 7 = .ok (.areturn, 1) := by decide +kernel
theorem dJ4_append_cf468_0 : decode cJ4_append_cf468 0 = .ok (.aload_n 0, 1) := by decide +kernel
theorem dJ4_append_cf468_1 : decode cJ4_append_cf468 1 = .ok (.iload_n 1, 1) := by decide +kernel
theorem dJ4_append_cf468_2 : decode cJ4_append_cf468 2 = .ok (.invokespecial 50, 3) := by decide +kernel
theorem dJ4_append_cf468_5 : decode cJ4_append_cf468 5 = .ok (.pop, 1) := by decide +kernel
theorem dJ4_append_cf468_6 : decode cJ4_append_cf468 6 = .ok (.aload_n 0, 1) := by decide +kernel
theorem dJ4_append_cf468_7 : decode cJ4_append_cf468 7 = .ok (.areturn, 1) := by decide +kernel
theorem dJ4_append_bf812_0 : decode cJ4_append_bf812 0 = .ok (.aload_n 0, 1) := by decide +kernel
theorem dJ4_append_bf812_1 : decode cJ4_append_bf812 1 = .ok (.iload_n 1, 1) := by decide +kernel
theorem dJ4_append_bf812_2 : decode cJ4_append_bf812 2 = .ok (.invokespecial 53, 3) := by decide +kernel
theorem dJ4_append_bf812_5 : decode cJ4_append_bf812 5 = .ok (.pop, 1) := by decide +kernel
theorem dJ4_append_bf812_6 : decode cJ4_append_bf812 6 = .ok (.aload_n 0, 1) := by decide +kernel
theorem dJ4_append_bf812_7 : decode cJ4_append_bf812 7 = .ok (.areturn, 1) := by decide +kernel
theorem dJ4_charAt_5068e_0 : decode cJ4_charAt_5068e 0 = .ok (.aload_n 0, 1) := by decide +kernel
theorem dJ4_charAt_5068e_1 : decode cJ4_charAt_5068e 1 = .ok (.iload_n 1, 1) := by decide +kernel
theorem dJ4_charAt_5068e_2 : decode cJ4_charAt_5068e 2 = .ok (.invokespecial 329, 3) := by decide +kernel
theorem dJ4_charAt_5068e_5 : decode cJ4_charAt_5068e 5 = .ok (.ireturn, 1) := by decide +kernel
theorem dJ4_setLength_d00df_0 : decode cJ4_setLength_d00df 0 = .ok (.aload_n 0, 1) := by decide +kernel
theorem dJ4_setLength_d00df_1 : decode cJ4_setLength_d00df 1 = .ok (.iload_n 1, 1) := by decide +kernel
theorem dJ4_setLength_d00df_2 : decode cJ4_setLength_d00df 2 = .ok (.invokespecial 333, 3) := by decide +kernel
theorem dJ4_setLength_d00df_5 : decode cJ4_setLength_d00df 5 = .ok (.return_, 1) := by decide +kernel
theorem dJ4_length_8abf5_0 : decode cJ4_length_8abf5 0 = .ok (.aload_n 0, 1) := by decide +kernel
theorem dJ4_length_8abf5_1 : decode cJ4_length_8abf5 1 = .ok (.invokespecial 343, 3) := by decide +kernel
theorem dJ4_length_8abf5_4 : decode cJ4_length_8abf5 4 = .ok (.ireturn, 1) := by decide +kernel
theorem dJ5_init_d00df_0 : decode cJ5_init_d00df 0 = .ok (.aload_n 0, 1) := by decide +kernel
theorem dJ5_init_d00df_1 : decode cJ5_init_d00df 1 = .ok (.invokespecial 3, 3) := by decide +kernel
theorem dJ5_init_d00df_4 : decode cJ5_init_d00df 4 = .ok (.getstatic 18, 3) := by decide +kernel
theorem dJ5_init_d00df_7 : decode cJ5_init_d00df 7 = .ok (.ifCond .eq 18, 3) := by decide +kernel
theorem dJ5_init_d00df_10 : decode cJ5_init_d00df 10 = .ok (.aload_n 0, 1) := by decide +kernel
theorem dJ5_init_d00df_11 : decode cJ5_init_d00df 11 = .ok (.iload_n 1, 1) := by decide +kernel
theorem dJ5_init_d00df_12 : decode cJ5_init_d00df 12 = .ok (.newarray .byte, 2) := by decide +kernel
theorem dJ5_init_d00df_14 : decode cJ5_init_d00df 14 = .ok (.putfield 15, 3) := by decide +kernel
theorem dJ5_init_d00df_17 : decode cJ5_init_d00df 17 = .ok (.aload_n 0, 1) := by decide +kernel
theorem dJ5_init_d00df_18 : decode cJ5_init_d00df 18 = .ok (.iconst 0, 1) := by decide +kernel
theorem dJ5_init_d00df_19 : decode cJ5_init_d00df 19 = .ok (.putfield 22, 3) := by decide +kernel
theorem dJ5_init_d00df_22 : decode cJ5_init_d00df 22 = .ok (.goto 16, 3) := by decide +kernel
theorem dJ5_init_d00df_25 : decode cJ5_init_d00df 25 = .ok (.aload_n 0, 1) := by decide +kernel
theorem dJ5_init_d00df_26 : decode cJ5_init_d00df 26 = .ok (.iload_n 1, 1) := by decide +kernel
theorem dJ5_init_d00df_27 : decode cJ5_init_d00df 27 = .ok (.invokestatic 26, 3) := by decide +kernel
theorem dJ5_init_d00df_30 : decode cJ5_init_d00df 30 = .ok (.putfield 15, 3) := by decide +kernel
theorem dJ5_init_d00df_33 : decode cJ5_init_d00df 33 = .ok (.aload_n 0, 1) := by decide +kernel
theorem dJ5_init_d00df_34 : decode cJ5_init_d00df 34 = .ok (.iconst 1, 1) := by decide +kernel
theorem dJ5_init_d00df_35 : decode cJ5_init_d00df 35 = .ok (.putfield 22, 3) := by decide +kernel
theorem dJ5_init_d00df_38 : decode cJ5_init_d00df 38 = .ok (.return_, 1) := by decide +kernel
theorem dJ5_length_8abf5_0 : decode cJ5_length_8abf5 0 = .ok (.aload_n 0, 1) := by decide +kernel
theorem dJ5_length_8abf5_1 : decode cJ5_length_8abf5 1 = .ok (.getfield 79, 3) := by decide +kernel
theorem dJ5_length_8abf5_4 : decode cJ5_length_8abf5 4 = .ok (.ireturn, 1) := by decide +kernel
theorem dJ5_ensureCapacityInternal_d00df_0 : decode cJ5_ensureCapacityInternal_d00df 0 = .ok (.aload_n 0, 1) := by decide +kernel
theorem dJ5_ensureCapacityInternal_d00df_1 : decode cJ5_ensureCapacityInternal_d00df 1 = .ok (.getfield 15, 3) := by decide +kernel
theorem dJ5_ensureCapacityInternal_d00df_4 : decode cJ5_ensureCapacityInternal_d00df 4 = .ok (.arraylength, 1) := by decide +kernel
theorem dJ5_ensureCapacityInternal_d00df_5 : decode cJ5_ensureCapacityInternal_d00df 5 = .ok (.aload_n 0, 1) := by decide +kernel
theorem dJ5_ensureCapacityInternal_d00df_6 : decode cJ5_ensureCapacityInternal_d00df 6 = .ok (.getfield 22, 3) := by decide +kernel
theorem dJ5_ensureCapacityInternal_d00df_9 : decode cJ5_ensureCapacityInternal_d00df 9 = .ok (.ishr, 1) := by decide +kernel
theorem dJ5_ensureCapacityInternal_d00df_10 : decode cJ5_ensureCapacityInternal_d00df 10 = .ok (.istore_n 2, 1) := by decide +kernel
theorem dJ5_ensureCapacityInternal_d00df_11 : decode cJ5_ensureCapacityInternal_d00df 11 = .ok (.iload_n 1, 1) := by decide +kernel
theorem dJ5_ensureCapacityInternal_d00df_12 : decode cJ5_ensureCapacityInternal_d00df 12 = .ok (.iload_n 2, 1) := by decide +kernel
theorem dJ5_ensureCapacityInternal_d00df_13 : decode cJ5_ensureCapacityInternal_d00df 13 = .ok (.isub, 1) := by decide +kernel
theorem dJ5_ensureCapacityInternal_d00df_14 : decode cJ5_ensureCapacityInternal_d00df 14 = .ok (.ifCond .le 24, 3) := by decide +kernel
theorem dJ5_ensureCapacityInternal_d00df_17 : decode cJ5_ensureCapacityInternal_d00df 17 = .ok (.aload_n 0, 1) := by decide +kernel
theorem dJ5_ensureCapacityInternal_d00df_18 : decode cJ5_ensureCapacityInternal_d00df 18 = .ok (.aload_n 0, 1) := by decide +kernel
theorem dJ5_ensureCapacityInternal_d00df_19 : decode cJ5_ensureCapacityInternal_d00df 19 = .ok (.getfield 15, 3) := by decide +kernel
theorem dJ5_ensureCapacityInternal_d00df_22 : decode cJ5_ensureCapacityInternal_d00df 22 = .ok (.aload_n 0, 1) := by decide +kernel
theorem dJ5_ensureCapacityInternal_d00df_23 : decode cJ5_ensureCapacityInternal_d00df 23 = .ok (.iload_n 1, 1) := by decide +kernel
theorem dJ5_ensureCapacityInternal_d00df_24 : decode cJ5_ensureCapacityInternal_d00df 24 = .ok (.invokevirtual 104, 3) := by decide +kernel
theorem dJ5_ensureCapacityInternal_d00df_27 : decode cJ5_ensureCapacityInternal_d00df 27 = .ok (.aload_n 0, 1) := by decide +kernel
theorem dJ5_ensureCapacityInternal_d00df_28 : decode cJ5_ensureCapacityInternal_d00df 28 = .ok (.getfield 22, 3) := by decide +kernel
theorem dJ5_ensureCapacityInternal_d00df_31 : decode cJ5_ensureCapacityInternal_d00df 31 = .ok (.ishl, 1) := by decide +kernel
theorem dJ5_ensureCapacityInternal_d00df_32 : decode cJ5_ensureCapacityInternal_d00df 32 = .ok (.invokestatic 108, 3) := by decide +kernel
theorem dJ5_ensureCapacityInternal_d00df_35 : decode cJ5_ensureCapacityInternal_d00df 35 = .ok (.putfield 15, 3) := by decide +kernel
theorem dJ5_ensureCapacityInternal_d00df_38 : decode cJ5_ensureCapacityInternal_d00df 38 = .ok (.return_, 1) := by decide +kernel
theorem dJ5_newCapacity_0f7a4_0 : decode cJ5_newCapacity_0f7a4 0 = .ok (.aload_n 0, 1) := by decide +kernel
theorem dJ5_newCapacity_0f7a4_1 : decode cJ5_newCapacity_0f7a4 1 = .ok (.getfield 15, 3) := by decide +kernel
theorem dJ5_newCapacity_0f7a4_4 : decode cJ5_newCapacity_0f7a4 4 = .ok (.arraylength, 1) := by decide +kernel
theorem dJ5_newCapacity_0f7a4_5 : decode cJ5_newCapacity_0f7a4 5 = .ok (.istore_n 2, 1) := by decide +kernel
theorem dJ5_newCapacity_0f7a4_6 : decode cJ5_newCapacity_0f7a4 6 = .ok (.iload_n 1, 1) := by decide +kernel
theorem dJ5_newCapacity_0f7a4_7 : decode cJ5_newCapacity_0f7a4 7 = .ok (.aload_n 0, 1) := by decide +kernel
theorem dJ5_newCapacity_0f7a4_8 : decode cJ5_newCapacity_0f7a4 8 = .ok (.getfield 22, 3) := by decide +kernel
theorem dJ5_newCapacity_0f7a4_11 : decode cJ5_newCapacity_0f7a4 11 = .ok (.ishl, 1) := by decide +kernel
theorem dJ5_newCapacity_0f7a4_12 : decode cJ5_newCapacity_0f7a4 12 = .ok (.istore_n 3, 1) := by decide +kernel
theorem dJ5_newCapacity_0f7a4_13 : decode cJ5_newCapacity_0f7a4 13 = .ok (.iload_n 3, 1) := by decide +kernel
theorem dJ5_newCapacity_0f7a4_14 : decode cJ5_newCapacity_0f7a4 14 = .ok (.iload_n 2, 1) := by decide +kernel
theorem dJ5_newCapacity_0f7a4_15 : decode cJ5_newCapacity_0f7a4 15 = .ok (.isub, 1) := by decide +kernel
theorem dJ5_newCapacity_0f7a4_16 : decode cJ5_newCapacity_0f7a4 16 = .ok (.istore 4, 2) := by decide +kernel
theorem dJ5_newCapacity_0f7a4_18 : decode cJ5_newCapacity_0f7a4 18 = .ok (.iload_n 2, 1) := by decide +kernel
theorem dJ5_newCapacity_0f7a4_19 : decode cJ5_newCapacity_0f7a4 19 = .ok (.iload 4, 2) := by decide +kernel
theorem dJ5_newCapacity_0f7a4_21 : decode cJ5_newCapacity_0f7a4 21 = .ok (.iload_n 2, 1) := by decide +kernel
theorem dJ5_newCapacity_0f7a4_22 : decode cJ5_newCapacity_0f7a4 22 = .ok (.iconst 2, 1) := by decide +kernel
theorem dJ5_newCapacity_0f7a4_23 : decode cJ5_newCapacity_0f7a4 23 = .ok (.aload_n 0, 1) := by decide +kernel
theorem dJ5_newCapacity_0f7a4_24 : decode cJ5_newCapacity_0f7a4 24 = .ok (.getfield 22, 3) := by decide +kernel
theorem dJ5_newCapacity_0f7a4_27 : decode cJ5_newCapacity_0f7a4 27 = .ok (.ishl, 1) := by decide +kernel
theorem dJ5_newCapacity_0f7a4_28 : decode cJ5_newCapacity_0f7a4 28 = .ok (.iadd, 1) := by decide +kernel
theorem dJ5_newCapacity_0f7a4_29 : decode cJ5_newCapacity_0f7a4 29 = .ok (.invokestatic 114, 3) := by decide +kernel
theorem dJ5_newCapacity_0f7a4_32 : decode cJ5_newCapacity_0f7a4 32 = .ok (.istore 5, 2) := by decide +kernel
theorem dJ5_newCapacity_0f7a4_34 : decode cJ5_newCapacity_0f7a4 34 = .ok (.iload 5, 2) := by decide +kernel
theorem dJ5_newCapacity_0f7a4_36 : decode cJ5_newCapacity_0f7a4 36 = .ok (.ldc 39, 2) := by decide +kernel
theorem dJ5_newCapacity_0f7a4_38 : decode cJ5_newCapacity_0f7a4 38 = .ok (.if_icmp .ne 13, 3) := by decide +kernel
theorem dJ5_newCapacity_0f7a4_41 : decode cJ5_newCapacity_0f7a4 41 = .ok (.new 120, 3) := by decide +kernel
theorem dJ5_newCapacity_0f7a4_44 : decode cJ5_newCapacity_0f7a4 44 = .ok (.dup, 1) := by decide +kernel
theorem dJ5_newCapacity_0f7a4_45 : decode cJ5_newCapacity_0f7a4 45 = .ok (.ldc 122, 2) := by decide +kernel
theorem dJ5_newCapacity_0f7a4_47 : decode cJ5_newCapacity_0f7a4 47 = .ok (.invokespecial 124, 3) := by decide +kernel
theorem dJ5_newCapacity_0f7a4_50 : decode cJ5_newCapacity_0f7a4 50 = .ok (.athrow, 1) := by decide +kernel
theorem dJ5_newCapacity_0f7a4_51 : decode cJ5_newCapacity_0f7a4 51 = .ok (.iload 5, 2) := by decide +kernel
theorem dJ5_newCapacity_0f7a4_53 : decode cJ5_newCapacity_0f7a4 53 = .ok (.aload_n 0, 1) := by decide +kernel
theorem dJ5_newCapacity_0f7a4_54 : decode cJ5_newCapacity_0f7a4 54 = .ok (.getfield 22, 3) := by decide +kernel
theorem dJ5_newCapacity_0f7a4_57 : decode cJ5_newCapacity_0f7a4 57 = .ok (.ishr, 1) := by decide +kernel
theorem dJ5_newCapacity_0f7a4_58 : decode cJ5_newCapacity_0f7a4 58 = .ok (.ireturn, 1) := by decide +kernel
theorem dJ5_inflate_da8c8_0 : decode cJ5_inflate_da8c8 0 = .ok (.aload_n 0, 1) := by decide +kernel
theorem dJ5_inflate_da8c8_1 : decode cJ5_inflate_da8c8 1 = .ok (.invokevirtual 83, 3) := by decide +kernel
theorem dJ5_inflate_da8c8_4 : decode cJ5_inflate_da8c8 4 = .ok (.ifCond .ne 4, 3) := by decide +kernel
theorem dJ5_inflate_da8c8_7 : decode cJ5_inflate_da8c8 7 = .ok (.return_, 1) := by decide +kernel
theorem dJ5_inflate_da8c8_8 : decode cJ5_inflate_da8c8 8 = .ok (.aload_n 0, 1) := by decide +kernel
theorem dJ5_inflate_da8c8_9 : decode cJ5_inflate_da8c8 9 = .ok (.getfield 15, 3) := by decide +kernel
theorem dJ5_inflate_da8c8_12 : decode cJ5_inflate_da8c8 12 = .ok (.arraylength, 1) := by decide +kernel
theorem dJ5_inflate_da8c8_13 : decode cJ5_inflate_da8c8 13 = .ok (.invokestatic 26, 3) := by decide +kernel
theorem dJ5_inflate_da8c8_16 : decode cJ5_inflate_da8c8 16 = .ok (.astore_n 1, 1) := by decide +kernel
theorem dJ5_inflate_da8c8_17 : decode cJ5_inflate_da8c8 17 = .ok (.aload_n 0, 1) := by decide +kernel
theorem dJ5_inflate_da8c8_18 : decode cJ5_inflate_da8c8 18 = .ok (.getfield 15, 3) := by decide +kernel
theorem dJ5_inflate_da8c8_21 : decode cJ5_inflate_da8c8 21 = .ok (.iconst 0, 1) := by decide +kernel
theorem dJ5_inflate_da8c8_22 : decode cJ5_inflate_da8c8 22 = .ok (.aload_n 1, 1) := by decide +kernel
theorem dJ5_inflate_da8c8_23 : decode cJ5_inflate_da8c8 23 = .ok (.iconst 0, 1) := by decide +kernel
theorem dJ5_inflate_da8c8_24 : decode cJ5_inflate_da8c8 24 = .ok (.aload_n 0, 1) := by decide +kernel
theorem dJ5_inflate_da8c8_25 : decode cJ5_inflate_da8c8 25 = .ok (.getfield 79, 3) := by decide +kernel
theorem dJ5_inflate_da8c8_28 : decode cJ5_inflate_da8c8 28 = .ok (.invokestatic 125, 3) := by decide +kernel
theorem dJ5_inflate_da8c8_31 : decode cJ5_inflate_da8c8 31 = .ok (.aload_n 0, 1) := by decide +kernel
theorem dJ5_inflate_da8c8_32 : decode cJ5_inflate_da8c8 32 = .ok (.aload_n 1, 1) := by decide +kernel
theorem dJ5_inflate_da8c8_33 : decode cJ5_inflate_da8c8 33 = .ok (.putfield 15, 3) := by decide +kernel
theorem dJ5_inflate_da8c8_36 : decode cJ5_inflate_da8c8 36 = .ok (.aload_n 0, 1) := by decide +kernel
theorem dJ5_inflate_da8c8_37 : decode cJ5_inflate_da8c8 37 = .ok (.iconst 1, 1) := by decide +kernel
theorem dJ5_inflate_da8c8_38 : decode cJ5_inflate_da8c8 38 = .ok (.putfield 22, 3) := by decide +kernel
theorem dJ5_inflate_da8c8_41 : decode cJ5_inflate_da8c8 41 = .ok (.return_, 1) := by decide +kernel
theorem dJ5_setLength_d00df_0 : decode cJ5_setLength_d00df 0 = .ok (.iload_n 1, 1) := by decide +kernel
theorem dJ5_setLength_d00df_1 : decode cJ5_setLength_d00df 1 = .ok (.ifCond .ge 12, 3) := by decide +kernel
theorem dJ5_setLength_d00df_4 : decode cJ5_setLength_d00df 4 = .ok (.new 129, 3) := by decide +kernel
theorem dJ5_setLength_d00df_7 : decode cJ5_setLength_d00df 7 = .ok (.dup, 1) := by decide +kernel
theorem dJ5_setLength_d00df_8 : decode cJ5_setLength_d00df 8 = .ok (.iload_n 1, 1) := by decide +kernel
theorem dJ5_setLength_d00df_9 : decode cJ5_setLength_d00df 9 = .ok (.invokespecial 131, 3) := by decide +kernel
theorem dJ5_setLength_d00df_12 : decode cJ5_setLength_d00df 12 = .ok (.athrow, 1) := by decide +kernel
theorem dJ5_setLength_d00df_13 : decode cJ5_setLength_d00df 13 = .ok (.aload_n 0, 1) := by decide +kernel
theorem dJ5_setLength_d00df_14 : decode cJ5_setLength_d00df 14 = .ok (.iload_n 1, 1) := by decide +kernel
theorem dJ5_setLength_d00df_15 : decode cJ5_setLength_d00df 15 = .ok (.invokevirtual 100, 3) := by decide +kernel
theorem dJ5_setLength_d00df_18 : decode cJ5_setLength_d00df 18 = .ok (.aload_n 0, 1) := by decide +kernel
theorem dJ5_setLength_d00df_19 : decode cJ5_setLength_d00df 19 = .ok (.getfield 79, 3) := by decide +kernel
theorem dJ5_setLength_d00df_22 : decode cJ5_setLength_d00df 22 = .ok (.iload_n 1, 1) := by decide +kernel
theorem dJ5_setLength_d00df_23 : decode cJ5_setLength_d00df 23 = .ok (.if_icmp .ge 40, 3) := by decide +kernel
theorem dJ5_setLength_d00df_26 : decode cJ5_setLength_d00df 26 = .ok (.aload_n 0, 1) := by decide +kernel
theorem dJ5_setLength_d00df_27 : decode cJ5_setLength_d00df 27 = .ok (.invokevirtual 83, 3) := by decide +kernel
theorem dJ5_setLength_d00df_30 : decode cJ5_setLength_d00df 30 = .ok (.ifCond .eq 18, 3) := by decide +kernel
theorem dJ5_setLength_d00df_33 : decode cJ5_setLength_d00df 33 = .ok (.aload_n 0, 1) := by decide +kernel
theorem dJ5_setLength_d00df_34 : decode cJ5_setLength_d00df 34 = .ok (.getfield 15, 3) := by decide +kernel
theorem dJ5_setLength_d00df_37 : decode cJ5_setLength_d00df 37 = .ok (.aload_n 0, 1) := by decide +kernel
theorem dJ5_setLength_d00df_38 : decode cJ5_setLength_d00df 38 = .ok (.getfield 79, 3) := by decide +kernel
theorem dJ5_setLength_d00df_41 : decode cJ5_setLength_d00df 41 = .ok (.iload_n 1, 1) := by decide +kernel
theorem dJ5_setLength_d00df_42 : decode cJ5_setLength_d00df 42 = .ok (.invokestatic 133, 3) := by decide +kernel
theorem dJ5_setLength_d00df_45 : decode cJ5_setLength_d00df 45 = .ok (.goto 31, 3) := by decide +kernel
theorem dJ5_setLength_d00df_48 : decode cJ5_setLength_d00df 48 = .ok (.aload_n 0, 1) := by decide +kernel
theorem dJ5_setLength_d00df_49 : decode cJ5_setLength_d00df 49 = .ok (.getfield 15, 3) := by decide +kernel
theorem dJ5_setLength_d00df_52 : decode cJ5_setLength_d00df 52 = .ok (.aload_n 0, 1) := by decide +kernel
theorem dJ5_setLength_d00df_53 : decode cJ5_setLength_d00df 53 = .ok (.getfield 79, 3) := by decide +kernel
theorem dJ5_setLength_d00df_56 : decode cJ5_setLength_d00df 56 = .ok (.iload_n 1, 1) := by decide +kernel
theorem dJ5_setLength_d00df_57 : decode cJ5_setLength_d00df 57 = .ok (.invokestatic 137, 3) := by decide +kernel
theorem dJ5_setLength_d00df_60 : decode cJ5_setLength_d00df 60 = .ok (.goto 16, 3) := by decide +kernel
theorem dJ5_setLength_d00df_63 : decode cJ5_setLength_d00df 63 = .ok (.aload_n 0, 1) := by decide +kernel
theorem dJ5_setLength_d00df_64 : decode cJ5_setLength_d00df 64 = .ok (.getfield 79, 3) := by decide +kernel
theorem dJ5_setLength_d00df_67 : decode cJ5_setLength_d00df 67 = .ok (.iload_n 1, 1) := by decide +kernel
theorem dJ5_setLength_d00df_68 : decode cJ5_setLength_d00df 68 = .ok (.if_icmp .le 8, 3) := by decide +kernel
theorem dJ5_setLength_d00df_71 : decode cJ5_setLength_d00df 71 = .ok (.aload_n 0, 1) := by decide +kernel
theorem dJ5_setLength_d00df_72 : decode cJ5_setLength_d00df 72 = .ok (.iconst 1, 1) := by decide +kernel
theorem dJ5_setLength_d00df_73 : decode cJ5_setLength_d00df 73 = .ok (.putfield 73, 3) := by decide +kernel
theorem dJ5_setLength_d00df_76 : decode cJ5_setLength_d00df 76 = .ok (.aload_n 0, 1) := by decide +kernel
theorem dJ5_setLength_d00df_77 : decode cJ5_setLength_d00df 77 = .ok (.iload_n 1, 1) := by decide +kernel
theorem dJ5_setLength_d00df_78 : decode cJ5_setLength_d00df 78 = .ok (.putfield 79, 3) := by decide +kernel
theorem dJ5_setLength_d00df_81 : decode cJ5_setLength_d00df 81 = .ok (.return_, 1) := by decide +kernel
theorem dJ5_charAt_5068e_0 : decode cJ5_charAt_5068e 0 = .ok (.aload_n 0, 1) := by decide +kernel
theorem dJ5_charAt_5068e_1 : decode cJ5_charAt_5068e 1 = .ok (.getfield 22, 3) := by decide +kernel
theorem dJ5_charAt_5068e_4 : decode cJ5_charAt_5068e 4 = .ok (.istore_n 2, 1) := by decide +kernel
theorem dJ5_charAt_5068e_5 : decode cJ5_charAt_5068e 5 = .ok (.aload_n 0, 1) := by decide +kernel
theorem dJ5_charAt_5068e_6 : decode cJ5_charAt_5068e 6 = .ok (.getfield 15, 3) := by decide +kernel
theorem dJ5_charAt_5068e_9 : decode cJ5_charAt_5068e 9 = .ok (.astore_n 3, 1) := by decide +kernel
theorem dJ5_charAt_5068e_10 : decode cJ5_charAt_5068e 10 = .ok (.aload_n 0, 1) := by decide +kernel
theorem dJ5_charAt_5068e_11 : decode cJ5_charAt_5068e 11 = .ok (.getfield 79, 3) := by decide +kernel
theorem dJ5_charAt_5068e_14 : decode cJ5_charAt_5068e 14 = .ok (.aload_n 3, 1) := by decide +kernel
theorem dJ5_charAt_5068e_15 : decode cJ5_charAt_5068e 15 = .ok (.arraylength, 1) := by decide +kernel
theorem dJ5_charAt_5068e_16 : decode cJ5_charAt_5068e 16 = .ok (.iload_n 2, 1) := by decide +kernel
theorem dJ5_charAt_5068e_17 : decode cJ5_charAt_5068e 17 = .ok (.ishr, 1) := by decide +kernel
theorem dJ5_charAt_5068e_18 : decode cJ5_charAt_5068e 18 = .ok (.invokestatic 138, 3) := by decide +kernel
theorem dJ5_charAt_5068e_21 : decode cJ5_charAt_5068e 21 = .ok (.istore 4, 2) := by decide +kernel
theorem dJ5_charAt_5068e_23 : decode cJ5_charAt_5068e 23 = .ok (.iload_n 1, 1) := by decide +kernel
theorem dJ5_charAt_5068e_24 : decode cJ5_charAt_5068e 24 = .ok (.iload 4, 2) := by decide +kernel
theorem dJ5_charAt_5068e_26 : decode cJ5_charAt_5068e 26 = .ok (.invokestatic 144, 3) := by decide +kernel
theorem dJ5_charAt_5068e_29 : decode cJ5_charAt_5068e 29 = .ok (.iload_n 2, 1) := by decide +kernel
theorem dJ5_charAt_5068e_30 : decode cJ5_charAt_5068e 30 = .ok (.ifCond .ne 12, 3) := by decide +kernel
theorem dJ5_charAt_5068e_33 : decode cJ5_charAt_5068e 33 = .ok (.aload_n 3, 1) := by decide +kernel
theorem dJ5_charAt_5068e_34 : decode cJ5_charAt_5068e 34 = .ok (.iload_n 1, 1) := by decide +kernel
theorem dJ5_charAt_5068e_35 : decode cJ5_charAt_5068e 35 = .ok (.baload, 1) := by decide +kernel
theorem dJ5_charAt_5068e_36 : decode cJ5_charAt_5068e 36 = .ok (.sipush 255, 3) := by decide +kernel
theorem dJ5_charAt_5068e_39 : decode cJ5_charAt_5068e 39 = .ok (.iand, 1) := by decide +kernel
theorem dJ5_charAt_5068e_40 : decode cJ5_charAt_5068e 40 = .ok (.i2c, 1) := by decide +kernel
theorem dJ5_charAt_5068e_41 : decode cJ5_charAt_5068e 41 = .ok (.ireturn, 1) := by decide +kernel
theorem dJ5_charAt_5068e_42 : decode cJ5_charAt_5068e 42 = .ok (.aload_n 3, 1) := by decide +kernel
theorem dJ5_charAt_5068e_43 : decode cJ5_charAt_5068e 43 = .ok (.iload_n 1, 1) := by decide +kernel
theorem dJ5_charAt_5068e_44 : decode cJ5_charAt_5068e 44 = .ok (.invokestatic 148, 3) := by decide +kernel
theorem dJ5_charAt_5068e_47 : decode cJ5_charAt_5068e 47 = .ok (.ireturn, 1) := by decide +kernel
theorem dJ5_append_cf1ce_0 : decode cJ5_append_cf1ce 0 = .ok (.aload_n 1, 1) := by decide +kernel
theorem dJ5_append_cf1ce_1 : decode cJ5_append_cf1ce 1 = .ok (.ifnonnull 8, 3) := by decide +kernel
theorem dJ5_append_cf1ce_4 : decode cJ5_append_cf1ce 4 = .ok (.aload_n 0, 1) := by decide +kernel
theorem dJ5_append_cf1ce_5 : decode cJ5_append_cf1ce 5 = .ok (.invokevirtual 204, 3) := by decide +kernel
theorem dJ5_append_cf1ce_8 : decode cJ5_append_cf1ce 8 = .ok (.areturn, 1) := by decide +kernel
theorem dJ5_append_cf1ce_9 : decode cJ5_append_cf1ce 9 = .ok (.aload_n 1, 1) := by decide +kernel
theorem dJ5_append_cf1ce_10 : decode cJ5_append_cf1ce 10 = .ok (.invokevirtual 32, 3) := by decide +kernel
theorem dJ5_append_cf1ce_13 : decode cJ5_append_cf1ce 13 = .ok (.istore_n 2, 1) := by decide +kernel
theorem dJ5_append_cf1ce_14 : decode cJ5_append_cf1ce 14 = .ok (.aload_n 0, 1) := by decide +kernel
theorem dJ5_append_cf1ce_15 : decode cJ5_append_cf1ce 15 = .ok (.aload_n 0, 1) := by decide +kernel
theorem dJ5_append_cf1ce_16 : decode cJ5_append_cf1ce 16 = .ok (.getfield 79, 3) := by decide +kernel
theorem dJ5_append_cf1ce_19 : decode cJ5_append_cf1ce 19 = .ok (.iload_n 2, 1) := by decide +kernel
theorem dJ5_append_cf1ce_20 : decode cJ5_append_cf1ce 20 = .ok (.iadd, 1) := by decide +kernel
theorem dJ5_append_cf1ce_21 : decode cJ5_append_cf1ce 21 = .ok (.invokevirtual 100, 3) := by decide +kernel
theorem dJ5_append_cf1ce_24 : decode cJ5_append_cf1ce 24 = .ok (.aload_n 0, 1) := by decide +kernel
theorem dJ5_append_cf1ce_25 : decode cJ5_append_cf1ce 25 = .ok (.aload_n 0, 1) := by decide +kernel
theorem dJ5_append_cf1ce_26 : decode cJ5_append_cf1ce 26 = .ok (.getfield 79, 3) := by decide +kernel
theorem dJ5_append_cf1ce_29 : decode cJ5_append_cf1ce 29 = .ok (.aload_n 1, 1) := by decide +kernel
theorem dJ5_append_cf1ce_30 : decode cJ5_append_cf1ce 30 = .ok (.invokevirtual 208, 3) := by decide +kernel
theorem dJ5_append_cf1ce_33 : decode cJ5_append_cf1ce 33 = .ok (.aload_n 0, 1) := by decide +kernel
theorem dJ5_append_cf1ce_34 : decode cJ5_append_cf1ce 34 = .ok (.dup, 1) := by decide +kernel
theorem dJ5_append_cf1ce_35 : decode cJ5_append_cf1ce 35 = .ok (.getfield 79, 3) := by decide +kernel
theorem dJ5_append_cf1ce_38 : decode cJ5_append_cf1ce 38 = .ok (.iload_n 2, 1) := by decide +kernel
theorem dJ5_append_cf1ce_39 : decode cJ5_append_cf1ce 39 = .ok (.iadd, 1) := by decide +kernel
theorem dJ5_append_cf1ce_40 : decode cJ5_append_cf1ce 40 = .ok (.putfield 79, 3) := by decide +kernel
theorem dJ5_append_cf1ce_43 : decode cJ5_append_cf1ce 43 = .ok (.aload_n 0, 1) := by decide +kernel
theorem dJ5_append_cf1ce_44 : decode cJ5_append_cf1ce 44 = .ok (.areturn, 1) := by decide +kernel
theorem dJ5_appendNull_278bc_0 : decode cJ5_appendNull_278bc 0 = .ok (.aload_n 0, 1) := by decide +kernel
theorem dJ5_appendNull_278bc_1 : decode cJ5_appendNull_278bc 1 = .ok (.aload_n 0, 1) := by decide +kernel
theorem dJ5_appendNull_278bc_2 : decode cJ5_appendNull_278bc 2 = .ok (.getfield 79, 3) := by decide +kernel
theorem dJ5_appendNull_278bc_5 : decode cJ5_appendNull_278bc 5 = .ok (.iconst 4, 1) := by decide +kernel
theorem dJ5_appendNull_278bc_6 : decode cJ5_appendNull_278bc 6 = .ok (.iadd, 1) := by decide +kernel
theorem dJ5_appendNull_278bc_7 : decode cJ5_appendNull_278bc 7 = .ok (.invokevirtual 100, 3) := by decide +kernel
theorem dJ5_appendNull_278bc_10 : decode cJ5_appendNull_278bc 10 = .ok (.aload_n 0, 1) := by decide +kernel
theorem dJ5_appendNull_278bc_11 : decode cJ5_appendNull_278bc 11 = .ok (.getfield 79, 3) := by decide +kernel
theorem dJ5_appendNull_278bc_14 : decode cJ5_appendNull_278bc 14 = .ok (.istore_n 1, 1) := by decide +kernel
theorem dJ5_appendNull_278bc_15 : decode cJ5_appendNull_278bc 15 = .ok (.aload_n 0, 1) := by decide +kernel
theorem dJ5_appendNull_278bc_16 : decode cJ5_appendNull_278bc 16 = .ok (.getfield 15, 3) := by decide +kernel
theorem dJ5_appendNull_278bc_19 : decode cJ5_appendNull_278bc 19 = .ok (.astore_n 2, 1) := by decide +kernel
theorem dJ5_appendNull_278bc_20 : decode cJ5_appendNull_278bc 20 = .ok (.aload_n 0, 1) := by decide +kernel
theorem dJ5_appendNull_278bc_21 : decode cJ5_appendNull_278bc 21 = .ok (.invokevirtual 83, 3) := by decide +kernel
theorem dJ5_appendNull_278bc_24 : decode cJ5_appendNull_278bc 24 = .ok (.ifCond .eq 38, 3) := by decide +kernel
theorem dJ5_appendNull_278bc_27 : decode cJ5_appendNull_278bc 27 = .ok (.aload_n 2, 1) := by decide +kernel
theorem dJ5_appendNull_278bc_28 : decode cJ5_appendNull_278bc 28 = .ok (.iload_n 1, 1) := by decide +kernel
theorem dJ5_appendNull_278bc_29 : decode cJ5_appendNull_278bc 29 = .ok (.iinc 1 1, 3) := by decide +kernel
theorem dJ5_appendNull_278bc_32 : decode cJ5_appendNull_278bc 32 = .ok (.bipush 110, 2) := by decide +kernel
theorem dJ5_appendNull_278bc_34 : decode cJ5_appendNull_278bc 34 = .ok (.bastore, 1) := by decide +kernel
theorem dJ5_appendNull_278bc_35 : decode cJ5_appendNull_278bc 35 = .ok (.aload_n 2, 1) := by decide +kernel
theorem dJ5_appendNull_278bc_36 : decode cJ5_appendNull_278bc 36 = .ok (.iload_n 1, 1) := by decide +kernel
theorem dJ5_appendNull_278bc_37 : decode cJ5_appendNull_278bc 37 = .ok (.iinc 1 1, 3) := by decide +kernel
theorem dJ5_appendNull_278bc_40 : decode cJ5_appendNull_278bc 40 = .ok (.bipush 117, 2) := by decide +kernel
theorem dJ5_appendNull_278bc_42 : decode cJ5_appendNull_278bc 42 = .ok (.bastore, 1) := by decide +kernel
theorem dJ5_appendNull_278bc_43 : decode cJ5_appendNull_278bc 43 = .ok (.aload_n 2, 1) := by decide +kernel
theorem dJ5_appendNull_278bc_44 : decode cJ5_appendNull_278bc 44 = .ok (.iload_n 1, 1) := by decide +kernel
theorem dJ5_appendNull_278bc_45 : decode cJ5_appendNull_278bc 45 = .ok (.iinc 1 1, 3) := by decide +kernel
theorem dJ5_appendNull_278bc_48 : decode cJ5_appendNull_278bc 48 = .ok (.bipush 108, 2) := by decide +kernel
theorem dJ5_appendNull_278bc_50 : decode cJ5_appendNull_278bc 50 = .ok (.bastore, 1) := by decide +kernel
theorem dJ5_appendNull_278bc_51 : decode cJ5_appendNull_278bc 51 = .ok (.aload_n 2, 1) := by decide +kernel
theorem dJ5_appendNull_278bc_52 : decode cJ5_appendNull_278bc 52 = .ok (.iload_n 1, 1) := by decide +kernel
theorem dJ5_appendNull_278bc_53 : decode cJ5_appendNull_278bc 53 = .ok (.iinc 1 1, 3) := by decide +kernel
theorem dJ5_appendNull_278bc_56 : decode cJ5_appendNull_278bc 56 = .ok (.bipush 108, 2) := by decide +kernel
theorem dJ5_appendNull_278bc_58 : decode cJ5_appendNull_278bc 58 = .ok (.bastore, 1) := by decide +kernel
theorem dJ5_appendNull_278bc_59 : decode cJ5_appendNull_278bc 59 = .ok (.goto 17, 3) := by decide +kernel
theorem dJ5_appendNull_278bc_62 : decode cJ5_appendNull_278bc 62 = .ok (.aload_n 2, 1) := by decide +kernel
theorem dJ5_appendNull_278bc_63 : decode cJ5_appendNull_278bc 63 = .ok (.iload_n 1, 1) := by decide +kernel
theorem dJ5_appendNull_278bc_64 : decode cJ5_appendNull_278bc 64 = .ok (.bipush 110, 2) := by decide +kernel
theorem dJ5_appendNull_278bc_66 : decode cJ5_appendNull_278bc 66 = .ok (.bipush 117, 2) := by decide +kernel
theorem dJ5_appendNull_278bc_68 : decode cJ5_appendNull_278bc 68 = .ok (.bipush 108, 2) := by decide +kernel
theorem dJ5_appendNull_278bc_70 : decode cJ5_appendNull_278bc 70 = .ok (.bipush 108, 2) := by decide +kernel
theorem dJ5_appendNull_278bc_72 : decode cJ5_appendNull_278bc 72 = .ok (.invokestatic 226, 3) := by decide +kernel
theorem dJ5_appendNull_278bc_75 : decode cJ5_appendNull_278bc 75 = .ok (.istore_n 1, 1) := by decide +kernel
theorem dJ5_appendNull_278bc_76 : decode cJ5_appendNull_278bc 76 = .ok (.aload_n 0, 1) := by decide +kernel
theorem dJ5_appendNull_278bc_77 : decode cJ5_appendNull_278bc 77 = .ok (.iload_n 1, 1) := by decide +kernel
theorem dJ5_appendNull_278bc_78 : decode cJ5_appendNull_278bc 78 = .ok (.putfield 79, 3) := by decide +kernel
theorem dJ5_appendNull_278bc_81 : decode cJ5_appendNull_278bc 81 = .ok (.aload_n 0, 1) := by decide +kernel
theorem dJ5_appendNull_278bc_82 : decode cJ5_appendNull_278bc 82 = .ok (.areturn, 1) := by decide +kernel
theorem dJ5_append_3fe6f_0 : decode cJ5_append_3fe6f 0 = .ok (.aload_n 0, 1) := by decide +kernel
theorem dJ5_append_3fe6f_1 : decode cJ5_append_3fe6f 1 = .ok (.aload_n 0, 1) := by decide +kernel
theorem dJ5_append_3fe6f_2 : decode cJ5_append_3fe6f 2 = .ok (.getfield 79, 3) := by decide +kernel
theorem dJ5_append_3fe6f_5 : decode cJ5_append_3fe6f 5 = .ok (.iconst 1, 1) := by decide +kernel
theorem dJ5_append_3fe6f_6 : decode cJ5_append_3fe6f 6 = .ok (.iadd, 1) := by decide +kernel
theorem dJ5_append_3fe6f_7 : decode cJ5_append_3fe6f 7 = .ok (.invokevirtual 100, 3) := by decide +kernel
theorem dJ5_append_3fe6f_10 : decode cJ5_append_3fe6f 10 = .ok (.aload_n 0, 1) := by decide +kernel
theorem dJ5_append_3fe6f_11 : decode cJ5_append_3fe6f 11 = .ok (.invokevirtual 83, 3) := by decide +kernel
theorem dJ5_append_3fe6f_14 : decode cJ5_append_3fe6f 14 = .ok (.ifCond .eq 31, 3) := by decide +kernel
theorem dJ5_append_3fe6f_17 : decode cJ5_append_3fe6f 17 = .ok (.iload_n 1, 1) := by decide +kernel
theorem dJ5_append_3fe6f_18 : decode cJ5_append_3fe6f 18 = .ok (.invokestatic 191, 3) := by decide +kernel
theorem dJ5_append_3fe6f_21 : decode cJ5_append_3fe6f 21 = .ok (.ifCond .eq 24, 3) := by decide +kernel
theorem dJ5_append_3fe6f_24 : decode cJ5_append_3fe6f 24 = .ok (.aload_n 0, 1) := by decide +kernel
theorem dJ5_append_3fe6f_25 : decode cJ5_append_3fe6f 25 = .ok (.getfield 15, 3) := by decide +kernel
theorem dJ5_append_3fe6f_28 : decode cJ5_append_3fe6f 28 = .ok (.aload_n 0, 1) := by decide +kernel
theorem dJ5_append_3fe6f_29 : decode cJ5_append_3fe6f 29 = .ok (.dup, 1) := by decide +kernel
theorem dJ5_append_3fe6f_30 : decode cJ5_append_3fe6f 30 = .ok (.getfield 79, 3) := by decide +kernel
theorem dJ5_append_3fe6f_33 : decode cJ5_append_3fe6f 33 = .ok (.dup_x1, 1) := by decide +kernel
theorem dJ5_append_3fe6f_34 : decode cJ5_append_3fe6f 34 = .ok (.iconst 1, 1) := by decide +kernel
theorem dJ5_append_3fe6f_35 : decode cJ5_append_3fe6f 35 = .ok (.iadd, 1) := by decide +kernel
theorem dJ5_append_3fe6f_36 : decode cJ5_append_3fe6f 36 = .ok (.putfield 79, 3) := by decide +kernel
theorem dJ5_append_3fe6f_39 : decode cJ5_append_3fe6f 39 = .ok (.iload_n 1, 1) := by decide +kernel
theorem dJ5_append_3fe6f_40 : decode cJ5_append_3fe6f 40 = .ok (.i2b, 1) := by decide +kernel
theorem dJ5_append_3fe6f_41 : decode cJ5_append_3fe6f 41 = .ok (.bastore, 1) := by decide +kernel
theorem dJ5_append_3fe6f_42 : decode cJ5_append_3fe6f 42 = .ok (.goto 33, 3) := by decide +kernel
theorem dJ5_append_3fe6f_45 : decode cJ5_append_3fe6f 45 = .ok (.aload_n 0, 1) := by decide +kernel
theorem dJ5_append_3fe6f_46 : decode cJ5_append_3fe6f 46 = .ok (.invokevirtual 83, 3) := by decide +kernel
theorem dJ5_append_3fe6f_49 : decode cJ5_append_3fe6f 49 = .ok (.ifCond .eq 7, 3) := by decide +kernel
theorem dJ5_append_3fe6f_52 : decode cJ5_append_3fe6f 52 = .ok (.aload_n 0, 1) := by decide +kernel
theorem dJ5_append_3fe6f_53 : decode cJ5_append_3fe6f 53 = .ok (.invokevirtual 195, 3) := by decide +kernel
theorem dJ5_append_3fe6f_56 : decode cJ5_append_3fe6f 56 = .ok (.aload_n 0, 1) := by decide +kernel
theorem dJ5_append_3fe6f_57 : decode cJ5_append_3fe6f 57 = .ok (.getfield 15, 3) := by decide +kernel
theorem dJ5_append_3fe6f_60 : decode cJ5_append_3fe6f 60 = .ok (.aload_n 0, 1) := by decide +kernel
theorem dJ5_append_3fe6f_61 : decode cJ5_append_3fe6f 61 = .ok (.dup, 1) := by decide +kernel
theorem dJ5_append_3fe6f_62 : decode cJ5_append_3fe6f 62 = .ok (.getfield 79, 3) := by decide +kernel
theorem dJ5_append_3fe6f_65 : decode cJ5_append_3fe6f 65 = .ok (.dup_x1, 1) := by decide +kernel
theorem dJ5_append_3fe6f_66 : decode cJ5_append_3fe6f 66 = .ok (.iconst 1, 1) := by decide +kernel
theorem dJ5_append_3fe6f_67 : decode cJ5_append_3fe6f 67 = .ok (.iadd, 1) := by decide +kernel
theorem dJ5_append_3fe6f_68 : decode cJ5_append_3fe6f 68 = .ok (.putfield 79, 3) := by decide +kernel
theorem dJ5_append_3fe6f_71 : decode cJ5_append_3fe6f 71 = .ok (.iload_n 1, 1) := by decide +kernel
theorem dJ5_append_3fe6f_72 : decode cJ5_append_3fe6f 72 = .ok (.invokestatic 197, 3) := by decide +kernel
theorem dJ5_append_3fe6f_75 : decode cJ5_append_3fe6f 75 = .ok (.aload_n 0, 1) := by decide +kernel
theorem dJ5_append_3fe6f_76 : decode cJ5_append_3fe6f 76 = .ok (.areturn, 1) := by decide +kernel
theorem dJ5_append_c97b9_0 : decode cJ5_append_c97b9 0 = .ok (.aload_n 0, 1) := by decide +kernel
theorem dJ5_append_c97b9_1 : decode cJ5_append_c97b9 1 = .ok (.getfield 79, 3) := by decide +kernel
theorem dJ5_append_c97b9_4 : decode cJ5_append_c97b9 4 = .ok (.istore_n 2, 1) := by decide +kernel
theorem dJ5_append_c97b9_5 : decode cJ5_append_c97b9 5 = .ok (.iload_n 2, 1) := by decide +kernel
theorem dJ5_append_c97b9_6 : decode cJ5_append_c97b9 6 = .ok (.iload_n 1, 1) := by decide +kernel
theorem dJ5_append_c97b9_7 : decode cJ5_append_c97b9 7 = .ok (.invokestatic 245, 3) := by decide +kernel
theorem dJ5_append_c97b9_10 : decode cJ5_append_c97b9 10 = .ok (.iadd, 1) := by decide +kernel
theorem dJ5_append_c97b9_11 : decode cJ5_append_c97b9 11 = .ok (.istore_n 3, 1) := by decide +kernel
theorem dJ5_append_c97b9_12 : decode cJ5_append_c97b9 12 = .ok (.aload_n 0, 1) := by decide +kernel
theorem dJ5_append_c97b9_13 : decode cJ5_append_c97b9 13 = .ok (.iload_n 3, 1) := by decide +kernel
theorem dJ5_append_c97b9_14 : decode cJ5_append_c97b9 14 = .ok (.invokevirtual 100, 3) := by decide +kernel
theorem dJ5_append_c97b9_17 : decode cJ5_append_c97b9 17 = .ok (.aload_n 0, 1) := by decide +kernel
theorem dJ5_append_c97b9_18 : decode cJ5_append_c97b9 18 = .ok (.invokevirtual 83, 3) := by decide +kernel
theorem dJ5_append_c97b9_21 : decode cJ5_append_c97b9 21 = .ok (.ifCond .eq 16, 3) := by decide +kernel
theorem dJ5_append_c97b9_24 : decode cJ5_append_c97b9 24 = .ok (.iload_n 1, 1) := by decide +kernel
theorem dJ5_append_c97b9_25 : decode cJ5_append_c97b9 25 = .ok (.iload_n 3, 1) := by decide +kernel
theorem dJ5_append_c97b9_26 : decode cJ5_append_c97b9 26 = .ok (.aload_n 0, 1) := by decide +kernel
theorem dJ5_append_c97b9_27 : decode cJ5_append_c97b9 27 = .ok (.getfield 15, 3) := by decide +kernel
theorem dJ5_append_c97b9_30 : decode cJ5_append_c97b9 30 = .ok (.invokestatic 248, 3) := by decide +kernel
theorem dJ5_append_c97b9_33 : decode cJ5_append_c97b9 33 = .ok (.pop, 1) := by decide +kernel
theorem dJ5_append_c97b9_34 : decode cJ5_append_c97b9 34 = .ok (.goto 14, 3) := by decide +kernel
theorem dJ5_append_c97b9_37 : decode cJ5_append_c97b9 37 = .ok (.iload_n 1, 1) := by decide +kernel
theorem dJ5_append_c97b9_38 : decode cJ5_append_c97b9 38 = .ok (.iload_n 2, 1) := by decide +kernel
theorem dJ5_append_c97b9_39 : decode cJ5_append_c97b9 39 = .ok (.iload_n 3, 1) := by decide +kernel
theorem dJ5_append_c97b9_40 : decode cJ5_append_c97b9 40 = .ok (.aload_n 0, 1) := by decide +kernel
theorem dJ5_append_c97b9_41 : decode cJ5_append_c97b9 41 = .ok (.getfield 15, 3) := by decide +kernel
theorem dJ5_append_c97b9_44 : decode cJ5_append_c97b9 44 = .ok (.invokestatic 251, 3) := by decide +kernel
theorem dJ5_append_c97b9_47 : decode cJ5_append_c97b9 47 = .ok (.pop, 1) := by decide +kernel
theorem dJ5_append_c97b9_48 : decode cJ5_append_c97b9 48 = .ok (.aload_n 0, 1) := by decide +kernel
theorem dJ5_append_c97b9_49 : decode cJ5_append_c97b9 49 = .ok (.iload_n 3, 1) := by decide +kernel
theorem dJ5_append_c97b9_50 : decode cJ5_append_c97b9 50 = .ok (.putfield 79, 3) := by decide +kernel
theorem dJ5_append_c97b9_53 : decode cJ5_append_c97b9 53 = .ok (.aload_n 0, 1) := by decide +kernel
theorem dJ5_append_c97b9_54 : decode cJ5_append_c97b9 54 = .ok (.areturn, 1) := by decide +kernel
theorem dJ5_isLatin1_aae02_0 : decode cJ5_isLatin1_aae02 0 = .ok (.getstatic 18, 3) := by decide +kernel
theorem dJ5_isLatin1_aae02_3 : decode cJ5_isLatin1_aae02 3 = .ok (.ifCond .eq 14, 3) := by decide +kernel
theorem dJ5_isLatin1_aae02_6 : decode cJ5_isLatin1_aae02 6 = .ok (.aload_n 0, 1) := by decide +kernel
theorem dJ5_isLatin1_aae02_7 : decode cJ5_isLatin1_aae02 7 = .ok (.getfield 22, 3) := by decide +kernel
theorem dJ5_isLatin1_aae02_10 : decode cJ5_isLatin1_aae02 10 = .ok (.ifCond .ne 7, 3) := by decide +kernel
theorem dJ5_isLatin1_aae02_13 : decode cJ5_isLatin1_aae02 13 = .ok (.iconst 1, 1) := by decide +kernel
theorem dJ5_isLatin1_aae02_14 : decode cJ5_isLatin1_aae02 14 = .ok (.goto 4, 3) := by decide +kernel
theorem dJ5_isLatin1_aae02_17 : decode cJ5_isLatin1_aae02 17 = .ok (.iconst 0, 1) := by decide +kernel
theorem dJ5_isLatin1_aae02_18 : decode cJ5_isLatin1_aae02 18 = .ok (.ireturn, 1) := by decide +kernel
theorem dJ5_inflateIfNeededFor_a7421_0 : decode cJ5_inflateIfNeededFor_a7421 0 = .ok (.getstatic 18, 3) := by decide +kernel
theorem dJ5_inflateIfNeededFor_a7421_3 : decode cJ5_inflateIfNeededFor_a7421 3 = .ok (.ifCond .eq 18, 3) := by decide +kernel
theorem dJ5_inflateIfNeededFor_a7421_6 : decode cJ5_inflateIfNeededFor_a7421 6 = .ok (.aload_n 0, 1) := by decide +kernel
theorem dJ5_inflateIfNeededFor_a7421_7 : decode cJ5_inflateIfNeededFor_a7421 7 = .ok (.getfield 22, 3) := by decide +kernel
theorem dJ5_inflateIfNeededFor_a7421_10 : decode cJ5_inflateIfNeededFor_a7421 10 = .ok (.aload_n 1, 1) := by decide +kernel
theorem dJ5_inflateIfNeededFor_a7421_11 : decode cJ5_inflateIfNeededFor_a7421 11 = .ok (.invokevirtual 40, 3) := by decide +kernel
theorem dJ5_inflateIfNeededFor_a7421_14 : decode cJ5_inflateIfNeededFor_a7421 14 = .ok (.if_icmp .eq 7, 3) := by decide +kernel
theorem dJ5_inflateIfNeededFor_a7421_17 : decode cJ5_inflateIfNeededFor_a7421 17 = .ok (.aload_n 0, 1) := by decide +kernel
theorem dJ5_inflateIfNeededFor_a7421_18 : decode cJ5_inflateIfNeededFor_a7421 18 = .ok (.invokevirtual 195, 3) := by decide +kernel
theorem dJ5_inflateIfNeededFor_a7421_21 : decode cJ5_inflateIfNeededFor_a7421 21 = .ok (.return_, 1) := by decide +kernel
theorem dJ5_putStringAt_47b60_0 : decode cJ5_putStringAt_47b60 0 = .ok (.aload_n 0, 1) := by decide +kernel
theorem dJ5_putStringAt_47b60_1 : decode cJ5_putStringAt_47b60 1 = .ok (.aload_n 2, 1) := by decide +kernel
theorem dJ5_putStringAt_47b60_2 : decode cJ5_putStringAt_47b60 2 = .ok (.invokevirtual 397, 3) := by decide +kernel
theorem dJ5_putStringAt_47b60_5 : decode cJ5_putStringAt_47b60 5 = .ok (.aload_n 2, 1) := by decide +kernel
theorem dJ5_putStringAt_47b60_6 : decode cJ5_putStringAt_47b60 6 = .ok (.aload_n 0, 1) := by decide +kernel
theorem dJ5_putStringAt_47b60_7 : decode cJ5_putStringAt_47b60 7 = .ok (.getfield 15, 3) := by decide +kernel
theorem dJ5_putStringAt_47b60_10 : decode cJ5_putStringAt_47b60 10 = .ok (.iload_n 1, 1) := by decide +kernel
theorem dJ5_putStringAt_47b60_11 : decode cJ5_putStringAt_47b60 11 = .ok (.aload_n 0, 1) := by decide +kernel
theorem dJ5_putStringAt_47b60_12 : decode cJ5_putStringAt_47b60 12 = .ok (.getfield 22, 3) := by decide +kernel
theorem dJ5_putStringAt_47b60_15 : decode cJ5_putStringAt_47b60 15 = .ok (.invokevirtual 399, 3) := by decide +kernel
theorem dJ5_putStringAt_47b60_18 : decode cJ5_putStringAt_47b60 18 = .ok (.return_, 1) := by decide +kernel
theorem dJ6_getChars_ba4f3_0 : decode cJ6_getChars_ba4f3 0 = .ok (.iload_n 1, 1) := by decide +kernel
theorem dJ6_getChars_ba4f3_1 : decode cJ6_getChars_ba4f3 1 = .ok (.istore 5, 2) := by decide +kernel
theorem dJ6_getChars_ba4f3_3 : decode cJ6_getChars_ba4f3 3 = .ok (.iload_n 0, 1) := by decide +kernel
theorem dJ6_getChars_ba4f3_4 : decode cJ6_getChars_ba4f3 4 = .ok (.ifCond .ge 7, 3) := by decide +kernel
theorem dJ6_getChars_ba4f3_7 : decode cJ6_getChars_ba4f3 7 = .ok (.iconst 1, 1) := by decide +kernel
theorem dJ6_getChars_ba4f3_8 : decode cJ6_getChars_ba4f3 8 = .ok (.goto 4, 3) := by decide +kernel
theorem dJ6_getChars_ba4f3_11 : decode cJ6_getChars_ba4f3 11 = .ok (.iconst 0, 1) := by decide +kernel
theorem dJ6_getChars_ba4f3_12 : decode cJ6_getChars_ba4f3 12 = .ok (.istore 6, 2) := by decide +kernel
theorem dJ6_getChars_ba4f3_14 : decode cJ6_getChars_ba4f3 14 = .ok (.iload 6, 2) := by decide +kernel
theorem dJ6_getChars_ba4f3_16 : decode cJ6_getChars_ba4f3 16 = .ok (.ifCond .ne 6, 3) := by decide +kernel
theorem dJ6_getChars_ba4f3_19 : decode cJ6_getChars_ba4f3 19 = .ok (.iload_n 0, 1) := by decide +kernel
theorem dJ6_getChars_ba4f3_20 : decode cJ6_getChars_ba4f3 20 = .ok (.ineg, 1) := by decide +kernel
theorem dJ6_getChars_ba4f3_21 : decode cJ6_getChars_ba4f3 21 = .ok (.istore_n 0, 1) := by decide +kernel
theorem dJ6_getChars_ba4f3_22 : decode cJ6_getChars_ba4f3 22 = .ok (.iload_n 0, 1) := by decide +kernel
theorem dJ6_getChars_ba4f3_23 : decode cJ6_getChars_ba4f3 23 = .ok (.bipush (-100), 2) := by decide +kernel
theorem dJ6_getChars_ba4f3_25 : decode cJ6_getChars_ba4f3 25 = .ok (.if_icmp .gt 47, 3) := by decide +kernel
theorem dJ6_getChars_ba4f3_28 : decode cJ6_getChars_ba4f3 28 = .ok (.iload_n 0, 1) := by decide +kernel
theorem dJ6_getChars_ba4f3_29 : decode cJ6_getChars_ba4f3 29 = .ok (.bipush 100, 2) := by decide +kernel
theorem dJ6_getChars_ba4f3_31 : decode cJ6_getChars_ba4f3 31 = .ok (.idiv, 1) := by decide +kernel
theorem dJ6_getChars_ba4f3_32 : decode cJ6_getChars_ba4f3 32 = .ok (.istore_n 3, 1) := by decide +kernel
theorem dJ6_getChars_ba4f3_33 : decode cJ6_getChars_ba4f3 33 = .ok (.iload_n 3, 1) := by decide +kernel
theorem dJ6_getChars_ba4f3_34 : decode cJ6_getChars_ba4f3 34 = .ok (.bipush 100, 2) := by decide +kernel
theorem dJ6_getChars_ba4f3_36 : decode cJ6_getChars_ba4f3 36 = .ok (.imul, 1) := by decide +kernel
theorem dJ6_getChars_ba4f3_37 : decode cJ6_getChars_ba4f3 37 = .ok (.iload_n 0, 1) := by decide +kernel
theorem dJ6_getChars_ba4f3_38 : decode cJ6_getChars_ba4f3 38 = .ok (.isub, 1) := by decide +kernel
theorem dJ6_getChars_ba4f3_39 : decode cJ6_getChars_ba4f3 39 = .ok (.istore 4, 2) := by decide +kernel
theorem dJ6_getChars_ba4f3_41 : decode cJ6_getChars_ba4f3 41 = .ok (.iload_n 3, 1) := by decide +kernel
theorem dJ6_getChars_ba4f3_42 : decode cJ6_getChars_ba4f3 42 = .ok (.istore_n 0, 1) := by decide +kernel
theorem dJ6_getChars_ba4f3_43 : decode cJ6_getChars_ba4f3 43 = .ok (.aload_n 2, 1) := by decide +kernel
theorem dJ6_getChars_ba4f3_44 : decode cJ6_getChars_ba4f3 44 = .ok (.iinc 5 (-1), 3) := by decide +kernel
theorem dJ6_getChars_ba4f3_47 : decode cJ6_getChars_ba4f3 47 = .ok (.iload 5, 2) := by decide +kernel
theorem dJ6_getChars_ba4f3_49 : decode cJ6_getChars_ba4f3 49 = .ok (.getstatic 83, 3) := by decide +kernel
theorem dJ6_getChars_ba4f3_52 : decode cJ6_getChars_ba4f3 52 = .ok (.iload 4, 2) := by decide +kernel
theorem dJ6_getChars_ba4f3_54 : decode cJ6_getChars_ba4f3 54 = .ok (.baload, 1) := by decide +kernel
theorem dJ6_getChars_ba4f3_55 : decode cJ6_getChars_ba4f3 55 = .ok (.bastore, 1) := by decide +kernel
theorem dJ6_getChars_ba4f3_56 : decode cJ6_getChars_ba4f3 56 = .ok (.aload_n 2, 1) := by decide +kernel
theorem dJ6_getChars_ba4f3_57 : decode cJ6_getChars_ba4f3 57 = .ok (.iinc 5 (-1), 3) := by decide +kernel
theorem dJ6_getChars_ba4f3_60 : decode cJ6_getChars_ba4f3 60 = .ok (.iload 5, 2) := by decide +kernel
theorem dJ6_getChars_ba4f3_62 : decode cJ6_getChars_ba4f3 62 = .ok (.getstatic 87, 3) := by decide +kernel
theorem dJ6_getChars_ba4f3_65 : decode cJ6_getChars_ba4f3 65 = .ok (.iload 4, 2) := by decide +kernel
theorem dJ6_getChars_ba4f3_67 : decode cJ6_getChars_ba4f3 67 = .ok (.baload, 1) := by decide +kernel
theorem dJ6_getChars_ba4f3_68 : decode cJ6_getChars_ba4f3 68 = .ok (.bastore, 1) := by decide +kernel
theorem dJ6_getChars_ba4f3_69 : decode cJ6_getChars_ba4f3 69 = .ok (.goto (-47), 3) := by decide +kernel
theorem dJ6_getChars_ba4f3_72 : decode cJ6_getChars_ba4f3 72 = .ok (.aload_n 2, 1) := by decide +kernel
theorem dJ6_getChars_ba4f3_73 : decode cJ6_getChars_ba4f3 73 = .ok (.iinc 5 (-1), 3) := by decide +kernel
theorem dJ6_getChars_ba4f3_76 : decode cJ6_getChars_ba4f3 76 = .ok (.iload 5, 2) := by decide +kernel
theorem dJ6_getChars_ba4f3_78 : decode cJ6_getChars_ba4f3 78 = .ok (.getstatic 83, 3) := by decide +kernel
theorem dJ6_getChars_ba4f3_81 : decode cJ6_getChars_ba4f3 81 = .ok (.iload_n 0, 1) := by decide +kernel
theorem dJ6_getChars_ba4f3_82 : decode cJ6_getChars_ba4f3 82 = .ok (.ineg, 1) := by decide +kernel
theorem dJ6_getChars_ba4f3_83 : decode cJ6_getChars_ba4f3 83 = .ok (.baload, 1) := by decide +kernel
theorem dJ6_getChars_ba4f3_84 : decode cJ6_getChars_ba4f3 84 = .ok (.bastore, 1) := by decide +kernel
theorem dJ6_getChars_ba4f3_85 : decode cJ6_getChars_ba4f3 85 = .ok (.iload_n 0, 1) := by decide +kernel
theorem dJ6_getChars_ba4f3_86 : decode cJ6_getChars_ba4f3 86 = .ok (.bipush (-9), 2) := by decide +kernel
theorem dJ6_getChars_ba4f3_88 : decode cJ6_getChars_ba4f3 88 = .ok (.if_icmp .ge 16, 3) := by decide +kernel
theorem dJ6_getChars_ba4f3_91 : decode cJ6_getChars_ba4f3 91 = .ok (.aload_n 2, 1) := by decide +kernel
theorem dJ6_getChars_ba4f3_92 : decode cJ6_getChars_ba4f3 92 = .ok (.iinc 5 (-1), 3) := by decide +kernel
theorem dJ6_getChars_ba4f3_95 : decode cJ6_getChars_ba4f3 95 = .ok (.iload 5, 2) := by decide +kernel
theorem dJ6_getChars_ba4f3_97 : decode cJ6_getChars_ba4f3 97 = .ok (.getstatic 87, 3) := by decide +kernel
theorem dJ6_getChars_ba4f3_100 : decode cJ6_getChars_ba4f3 100 = .ok (.iload_n 0, 1) := by decide +kernel
theorem dJ6_getChars_ba4f3_101 : decode cJ6_getChars_ba4f3 101 = .ok (.ineg, 1) := by decide +kernel
theorem dJ6_getChars_ba4f3_102 : decode cJ6_getChars_ba4f3 102 = .ok (.baload, 1) := by decide +kernel
theorem dJ6_getChars_ba4f3_103 : decode cJ6_getChars_ba4f3 103 = .ok (.bastore, 1) := by decide +kernel
theorem dJ6_getChars_ba4f3_104 : decode cJ6_getChars_ba4f3 104 = .ok (.iload 6, 2) := by decide +kernel
theorem dJ6_getChars_ba4f3_106 : decode cJ6_getChars_ba4f3 106 = .ok (.ifCond .eq 12, 3) := by decide +kernel
theorem dJ6_getChars_ba4f3_109 : decode cJ6_getChars_ba4f3 109 = .ok (.aload_n 2, 1) := by decide +kernel
theorem dJ6_getChars_ba4f3_110 : decode cJ6_getChars_ba4f3 110 = .ok (.iinc 5 (-1), 3) := by decide +kernel
theorem dJ6_getChars_ba4f3_113 : decode cJ6_getChars_ba4f3 113 = .ok (.iload 5, 2) := by decide +kernel
theorem dJ6_getChars_ba4f3_115 : decode cJ6_getChars_ba4f3 115 = .ok (.bipush 45, 2) := by decide +kernel
theorem dJ6_getChars_ba4f3_117 : decode cJ6_getChars_ba4f3 117 = .ok (.bastore, 1) := by decide +kernel
theorem dJ6_getChars_ba4f3_118 : decode cJ6_getChars_ba4f3 118 = .ok (.iload 5, 2) := by decide +kernel
theorem dJ6_getChars_ba4f3_120 : decode cJ6_getChars_ba4f3 120 = .ok (.ireturn, 1) := by decide +kernel
theorem dJ6_stringSize_0f7a4_0 : decode cJ6_stringSize_0f7a4 0 = .ok (.iconst 1, 1) := by decide +kernel
theorem dJ6_stringSize_0f7a4_1 : decode cJ6_stringSize_0f7a4 1 = .ok (.istore_n 1, 1) := by decide +kernel
theorem dJ6_stringSize_0f7a4_2 : decode cJ6_stringSize_0f7a4 2 = .ok (.iload_n 0, 1) := by decide +kernel
theorem dJ6_stringSize_0f7a4_3 : decode cJ6_stringSize_0f7a4 3 = .ok (.ifCond .lt 8, 3) := by decide +kernel
theorem dJ6_stringSize_0f7a4_6 : decode cJ6_stringSize_0f7a4 6 = .ok (.iconst 0, 1) := by decide +kernel
theorem dJ6_stringSize_0f7a4_7 : decode cJ6_stringSize_0f7a4 7 = .ok (.istore_n 1, 1) := by decide +kernel
theorem dJ6_stringSize_0f7a4_8 : decode cJ6_stringSize_0f7a4 8 = .ok (.iload_n 0, 1) := by decide +kernel
theorem dJ6_stringSize_0f7a4_9 : decode cJ6_stringSize_0f7a4 9 = .ok (.ineg, 1) := by decide +kernel
theorem dJ6_stringSize_0f7a4_10 : decode cJ6_stringSize_0f7a4 10 = .ok (.istore_n 0, 1) := by decide +kernel
theorem dJ6_stringSize_0f7a4_11 : decode cJ6_stringSize_0f7a4 11 = .ok (.bipush (-10), 2) := by decide +kernel
theorem dJ6_stringSize_0f7a4_13 : decode cJ6_stringSize_0f7a4 13 = .ok (.istore_n 2, 1) := by decide +kernel
theorem dJ6_stringSize_0f7a4_14 : decode cJ6_stringSize_0f7a4 14 = .ok (.iconst 1, 1) := by decide +kernel
theorem dJ6_stringSize_0f7a4_15 : decode cJ6_stringSize_0f7a4 15 = .ok (.istore_n 3, 1) := by decide +kernel
theorem dJ6_stringSize_0f7a4_16 : decode cJ6_stringSize_0f7a4 16 = .ok (.iload_n 3, 1) := by decide +kernel
theorem dJ6_stringSize_0f7a4_17 : decode cJ6_stringSize_0f7a4 17 = .ok (.bipush 10, 2) := by decide +kernel
theorem dJ6_stringSize_0f7a4_19 : decode cJ6_stringSize_0f7a4 19 = .ok (.if_icmp .ge 23, 3) := by decide +kernel
theorem dJ6_stringSize_0f7a4_22 : decode cJ6_stringSize_0f7a4 22 = .ok (.iload_n 0, 1) := by decide +kernel
theorem dJ6_stringSize_0f7a4_23 : decode cJ6_stringSize_0f7a4 23 = .ok (.iload_n 2, 1) := by decide +kernel
theorem dJ6_stringSize_0f7a4_24 : decode cJ6_stringSize_0f7a4 24 = .ok (.if_icmp .le 7, 3) := by decide +kernel
theorem dJ6_stringSize_0f7a4_27 : decode cJ6_stringSize_0f7a4 27 = .ok (.iload_n 3, 1) := by decide +kernel
theorem dJ6_stringSize_0f7a4_28 : decode cJ6_stringSize_0f7a4 28 = .ok (.iload_n 1, 1) := by decide +kernel
theorem dJ6_stringSize_0f7a4_29 : decode cJ6_stringSize_0f7a4 29 = .ok (.iadd, 1) := by decide +kernel
theorem dJ6_stringSize_0f7a4_30 : decode cJ6_stringSize_0f7a4 30 = .ok (.ireturn, 1) := by decide +kernel
theorem dJ6_stringSize_0f7a4_31 : decode cJ6_stringSize_0f7a4 31 = .ok (.bipush 10, 2) := by decide +kernel
theorem dJ6_stringSize_0f7a4_33 : decode cJ6_stringSize_0f7a4 33 = .ok (.iload_n 2, 1) := by decide +kernel
theorem dJ6_stringSize_0f7a4_34 : decode cJ6_stringSize_0f7a4 34 = .ok (.imul, 1) := by decide +kernel
theorem dJ6_stringSize_0f7a4_35 : decode cJ6_stringSize_0f7a4 35 = .ok (.istore_n 2, 1) := by decide +kernel
theorem dJ6_stringSize_0f7a4_36 : decode cJ6_stringSize_0f7a4 36 = .ok (.iinc 3 1, 3) := by decide +kernel
theorem dJ6_stringSize_0f7a4_39 : decode cJ6_stringSize_0f7a4 39 = .ok (.goto (-23), 3) := by decide +kernel
theorem dJ6_stringSize_0f7a4_42 : decode cJ6_stringSize_0f7a4 42 = .ok (.bipush 10, 2) := by decide +kernel
theorem dJ6_stringSize_0f7a4_44 : decode cJ6_stringSize_0f7a4 44 = .ok (.iload_n 1, 1) := by decide +kernel
theorem dJ6_stringSize_0f7a4_45 : decode cJ6_stringSize_0f7a4 45 = .ok (.iadd, 1) := by decide +kernel
theorem dJ6_stringSize_0f7a4_46 : decode cJ6_stringSize_0f7a4 46 = .ok (.ireturn, 1) := by decide +kernel
theorem dJ7_rangeCheck_23922_0 : decode cJ7_rangeCheck_23922 0 = .ok (.iload_n 1, 1) := by decide +kernel
theorem dJ7_rangeCheck_23922_1 : decode cJ7_rangeCheck_23922 1 = .ok (.iload_n 2, 1) := by decide +kernel
theorem dJ7_rangeCheck_23922_2 : decode cJ7_rangeCheck_23922 2 = .ok (.if_icmp .le 44, 3) := by decide +kernel
theorem dJ7_rangeCheck_23922_5 : decode cJ7_rangeCheck_23922 5 = .ok (.new 43, 3) := by decide +kernel
theorem dJ7_rangeCheck_23922_8 : decode cJ7_rangeCheck_23922 8 = .ok (.dup, 1) := by decide +kernel
theorem dJ7_rangeCheck_23922_9 : decode cJ7_rangeCheck_23922 9 = .ok (.new 45, 3) := by decide +kernel
theorem dJ7_rangeCheck_23922_12 : decode cJ7_rangeCheck_23922 12 = .ok (.dup, 1) := by decide +kernel
theorem dJ7_rangeCheck_23922_13 : decode cJ7_rangeCheck_23922 13 = .ok (.invokespecial 47, 3) := by decide +kernel
theorem dJ7_rangeCheck_23922_16 : decode cJ7_rangeCheck_23922 16 = .ok (.ldc 48, 2) := by decide +kernel
theorem dJ7_rangeCheck_23922_18 : decode cJ7_rangeCheck_23922 18 = .ok (.invokevirtual 50, 3) := by decide +kernel
theorem dJ7_rangeCheck_23922_21 : decode cJ7_rangeCheck_23922 21 = .ok (.iload_n 1, 1) := by decide +kernel
theorem dJ7_rangeCheck_23922_22 : decode cJ7_rangeCheck_23922 22 = .ok (.invokevirtual 54, 3) := by decide +kernel
theorem dJ7_rangeCheck_23922_25 : decode cJ7_rangeCheck_23922 25 = .ok (.ldc 57, 2) := by decide +kernel
theorem dJ7_rangeCheck_23922_27 : decode cJ7_rangeCheck_23922 27 = .ok (.invokevirtual 50, 3) := by decide +kernel
theorem dJ7_rangeCheck_23922_30 : decode cJ7_rangeCheck_23922 30 = .ok (.iload_n 2, 1) := by decide +kernel
theorem dJ7_rangeCheck_23922_31 : decode cJ7_rangeCheck_23922 31 = .ok (.invokevirtual 54, 3) := by decide +kernel
theorem dJ7_rangeCheck_23922_34 : decode cJ7_rangeCheck_23922 34 = .ok (.ldc 59, 2) := by decide +kernel
theorem dJ7_rangeCheck_23922_36 : decode cJ7_rangeCheck_23922 36 = .ok (.invokevirtual 50, 3) := by decide +kernel
theorem dJ7_rangeCheck_23922_39 : decode cJ7_rangeCheck_23922 39 = .ok (.invokevirtual 61, 3) := by decide +kernel
theorem dJ7_rangeCheck_23922_42 : decode cJ7_rangeCheck_23922 42 = .ok (.invokespecial 65, 3) := by decide +kernel
theorem dJ7_rangeCheck_23922_45 : decode cJ7_rangeCheck_23922 45 = .ok (.athrow, 1) := by decide +kernel
theorem dJ7_rangeCheck_23922_46 : decode cJ7_rangeCheck_23922 46 = .ok (.iload_n 1, 1) := by decide +kernel
theorem dJ7_rangeCheck_23922_47 : decode cJ7_rangeCheck_23922 47 = .ok (.ifCond .ge 12, 3) := by decide +kernel
theorem dJ7_rangeCheck_23922_50 : decode cJ7_rangeCheck_23922 50 = .ok (.new 68, 3) := by decide +kernel
theorem dJ7_rangeCheck_23922_53 : decode cJ7_rangeCheck_23922 53 = .ok (.dup, 1) := by decide +kernel
theorem dJ7_rangeCheck_23922_54 : decode cJ7_rangeCheck_23922 54 = .ok (.iload_n 1, 1) := by decide +kernel
theorem dJ7_rangeCheck_23922_55 : decode cJ7_rangeCheck_23922 55 = .ok (.invokespecial 70, 3) := by decide +kernel
theorem dJ7_rangeCheck_23922_58 : decode cJ7_rangeCheck_23922 58 = .ok (.athrow, 1) := by decide +kernel
theorem dJ7_rangeCheck_23922_59 : decode cJ7_rangeCheck_23922 59 = .ok (.iload_n 2, 1) := by decide +kernel
theorem dJ7_rangeCheck_23922_60 : decode cJ7_rangeCheck_23922 60 = .ok (.iload_n 0, 1) := by decide +kernel
theorem dJ7_rangeCheck_23922_61 : decode cJ7_rangeCheck_23922 61 = .ok (.if_icmp .le 12, 3) := by decide +kernel
theorem dJ7_rangeCheck_23922_64 : decode cJ7_rangeCheck_23922 64 = .ok (.new 68, 3) := by decide +kernel
theorem dJ7_rangeCheck_23922_67 : decode cJ7_rangeCheck_23922 67 = .ok (.dup, 1) := by decide +kernel
theorem dJ7_rangeCheck_23922_68 : decode cJ7_rangeCheck_23922 68 = .ok (.iload_n 2, 1) := by decide +kernel
theorem dJ7_rangeCheck_23922_69 : decode cJ7_rangeCheck_23922 69 = .ok (.invokespecial 70, 3) := by decide +kernel
theorem dJ7_rangeCheck_23922_72 : decode cJ7_rangeCheck_23922 72 = .ok (.athrow, 1) := by decide +kernel
theorem dJ7_rangeCheck_23922_73 : decode cJ7_rangeCheck_23922 73 = .ok (.return_, 1) := by decide +kernel
theorem dJ7_fill_eb02e_0 : decode cJ7_fill_eb02e 0 = .ok (.aload_n 0, 1) := by decide +kernel
theorem dJ7_fill_eb02e_1 : decode cJ7_fill_eb02e 1 = .ok (.arraylength, 1) := by decide +kernel
theorem dJ7_fill_eb02e_2 : decode cJ7_fill_eb02e 2 = .ok (.iload_n 1, 1) := by decide +kernel
theorem dJ7_fill_eb02e_3 : decode cJ7_fill_eb02e 3 = .ok (.iload_n 2, 1) := by decide +kernel
theorem dJ7_fill_eb02e_4 : decode cJ7_fill_eb02e 4 = .ok (.invokestatic 13, 3) := by decide +kernel
theorem dJ7_fill_eb02e_7 : decode cJ7_fill_eb02e 7 = .ok (.iload_n 1, 1) := by decide +kernel
theorem dJ7_fill_eb02e_8 : decode cJ7_fill_eb02e 8 = .ok (.istore 4, 2) := by decide +kernel
theorem dJ7_fill_eb02e_10 : decode cJ7_fill_eb02e 10 = .ok (.iload 4, 2) := by decide +kernel
theorem dJ7_fill_eb02e_12 : decode cJ7_fill_eb02e 12 = .ok (.iload_n 2, 1) := by decide +kernel
theorem dJ7_fill_eb02e_13 : decode cJ7_fill_eb02e 13 = .ok (.if_icmp .ge 14, 3) := by decide +kernel
theorem dJ7_fill_eb02e_16 : decode cJ7_fill_eb02e 16 = .ok (.aload_n 0, 1) := by decide +kernel
theorem dJ7_fill_eb02e_17 : decode cJ7_fill_eb02e 17 = .ok (.iload 4, 2) := by decide +kernel
theorem dJ7_fill_eb02e_19 : decode cJ7_fill_eb02e 19 = .ok (.iload_n 3, 1) := by decide +kernel
theorem dJ7_fill_eb02e_20 : decode cJ7_fill_eb02e 20 = .ok (.bastore, 1) := by decide +kernel
theorem dJ7_fill_eb02e_21 : decode cJ7_fill_eb02e 21 = .ok (.iinc 4 1, 3) := by decide +kernel
theorem dJ7_fill_eb02e_24 : decode cJ7_fill_eb02e 24 = .ok (.goto (-14), 3) := by decide +kernel
theorem dJ7_fill_eb02e_27 : decode cJ7_fill_eb02e 27 = .ok (.return_, 1) := by decide +kernel
theorem dJ7_copyOf_9075b_0 : decode cJ7_copyOf_9075b 0 = .ok (.iload_n 1, 1) := by decide +kernel
theorem dJ7_copyOf_9075b_1 : decode cJ7_copyOf_9075b 1 = .ok (.aload_n 0, 1) := by decide +kernel
theorem dJ7_copyOf_9075b_2 : decode cJ7_copyOf_9075b 2 = .ok (.arraylength, 1) := by decide +kernel
theorem dJ7_copyOf_9075b_3 : decode cJ7_copyOf_9075b 3 = .ok (.if_icmp .ne 11, 3) := by decide +kernel
theorem dJ7_copyOf_9075b_6 : decode cJ7_copyOf_9075b 6 = .ok (.aload_n 0, 1) := by decide +kernel
theorem dJ7_copyOf_9075b_7 : decode cJ7_copyOf_9075b 7 = .ok (.invokevirtual 310, 3) := by decide +kernel
theorem dJ7_copyOf_9075b_10 : decode cJ7_copyOf_9075b 10 = .ok (.checkcast 311, 3) := by decide +kernel
theorem dJ7_copyOf_9075b_13 : decode cJ7_copyOf_9075b 13 = .ok (.areturn, 1) := by decide +kernel
theorem dJ7_copyOf_9075b_14 : decode cJ7_copyOf_9075b 14 = .ok (.iload_n 1, 1) := by decide +kernel
theorem dJ7_copyOf_9075b_15 : decode cJ7_copyOf_9075b 15 = .ok (.newarray .byte, 2) := by decide +kernel
theorem dJ7_copyOf_9075b_17 : decode cJ7_copyOf_9075b 17 = .ok (.astore_n 2, 1) := by decide +kernel
theorem dJ7_copyOf_9075b_18 : decode cJ7_copyOf_9075b 18 = .ok (.aload_n 0, 1) := by decide +kernel
theorem dJ7_copyOf_9075b_19 : decode cJ7_copyOf_9075b 19 = .ok (.iconst 0, 1) := by decide +kernel
theorem dJ7_copyOf_9075b_20 : decode cJ7_copyOf_9075b 20 = .ok (.aload_n 2, 1) := by decide +kernel
theorem dJ7_copyOf_9075b_21 : decode cJ7_copyOf_9075b 21 = .ok (.iconst 0, 1) := by decide +kernel
theorem dJ7_copyOf_9075b_22 : decode cJ7_copyOf_9075b 22 = .ok (.aload_n 0, 1) := by decide +kernel
theorem dJ7_copyOf_9075b_23 : decode cJ7_copyOf_9075b 23 = .ok (.arraylength, 1) := by decide +kernel
theorem dJ7_copyOf_9075b_24 : decode cJ7_copyOf_9075b 24 = .ok (.iload_n 1, 1) := by decide +kernel
theorem dJ7_copyOf_9075b_25 : decode cJ7_copyOf_9075b 25 = .ok (.invokestatic 304, 3) := by decide +kernel
theorem dJ7_copyOf_9075b_28 : decode cJ7_copyOf_9075b 28 = .ok (.invokestatic 150, 3) := by decide +kernel
theorem dJ7_copyOf_9075b_31 : decode cJ7_copyOf_9075b 31 = .ok (.aload_n 2, 1) := by decide +kernel
theorem dJ7_copyOf_9075b_32 : decode cJ7_copyOf_9075b 32 = .ok (.areturn, 1) := by decide +kernel
theorem dJ8_newLength_cabcc_0 : decode cJ8_newLength_cabcc 0 = .ok (.iload_n 0, 1) := by decide +kernel
theorem dJ8_newLength_cabcc_1 : decode cJ8_newLength_cabcc 1 = .ok (.iload_n 1, 1) := by decide +kernel
theorem dJ8_newLength_cabcc_2 : decode cJ8_newLength_cabcc 2 = .ok (.iload_n 2, 1) := by decide +kernel
theorem dJ8_newLength_cabcc_3 : decode cJ8_newLength_cabcc 3 = .ok (.invokestatic 194, 3) := by decide +kernel
theorem dJ8_newLength_cabcc_6 : decode cJ8_newLength_cabcc 6 = .ok (.iadd, 1) := by decide +kernel
theorem dJ8_newLength_cabcc_7 : decode cJ8_newLength_cabcc 7 = .ok (.istore_n 3, 1) := by decide +kernel
theorem dJ8_newLength_cabcc_8 : decode cJ8_newLength_cabcc 8 = .ok (.iconst 0, 1) := by decide +kernel
theorem dJ8_newLength_cabcc_9 : decode cJ8_newLength_cabcc 9 = .ok (.iload_n 3, 1) := by decide +kernel
theorem dJ8_newLength_cabcc_10 : decode cJ8_newLength_cabcc 10 = .ok (.if_icmp .ge 11, 3) := by decide +kernel
theorem dJ8_newLength_cabcc_13 : decode cJ8_newLength_cabcc 13 = .ok (.iload_n 3, 1) := by decide +kernel
theorem dJ8_newLength_cabcc_14 : decode cJ8_newLength_cabcc 14 = .ok (.ldc 200, 2) := by decide +kernel
theorem dJ8_newLength_cabcc_16 : decode cJ8_newLength_cabcc 16 = .ok (.if_icmp .gt 5, 3) := by decide +kernel
theorem dJ8_newLength_cabcc_19 : decode cJ8_newLength_cabcc 19 = .ok (.iload_n 3, 1) := by decide +kernel
theorem dJ8_newLength_cabcc_20 : decode cJ8_newLength_cabcc 20 = .ok (.ireturn, 1) := by decide +kernel
theorem dJ8_newLength_cabcc_21 : decode cJ8_newLength_cabcc 21 = .ok (.iload_n 0, 1) := by decide +kernel
theorem dJ8_newLength_cabcc_22 : decode cJ8_newLength_cabcc 22 = .ok (.iload_n 1, 1) := by decide +kernel
theorem dJ8_newLength_cabcc_23 : decode cJ8_newLength_cabcc 23 = .ok (.invokestatic 201, 3) := by decide +kernel
theorem dJ8_newLength_cabcc_26 : decode cJ8_newLength_cabcc 26 = .ok (.ireturn, 1) := by decide +kernel
theorem dJ8_hugeLength_7cf53_0 : decode cJ8_hugeLength_7cf53 0 = .ok (.iload_n 0, 1) := by decide +kernel
theorem dJ8_hugeLength_7cf53_1 : decode cJ8_hugeLength_7cf53 1 = .ok (.iload_n 1, 1) := by decide +kernel
theorem dJ8_hugeLength_7cf53_2 : decode cJ8_hugeLength_7cf53 2 = .ok (.iadd, 1) := by decide +kernel
theorem dJ8_hugeLength_7cf53_3 : decode cJ8_hugeLength_7cf53 3 = .ok (.istore_n 2, 1) := by decide +kernel
theorem dJ8_hugeLength_7cf53_4 : decode cJ8_hugeLength_7cf53 4 = .ok (.iload_n 2, 1) := by decide +kernel
theorem dJ8_hugeLength_7cf53_5 : decode cJ8_hugeLength_7cf53 5 = .ok (.ifCond .ge 44, 3) := by decide +kernel
theorem dJ8_hugeLength_7cf53_8 : decode cJ8_hugeLength_7cf53 8 = .ok (.new 204, 3) := by decide +kernel
theorem dJ8_hugeLength_7cf53_11 : decode cJ8_hugeLength_7cf53 11 = .ok (.dup, 1) := by decide +kernel
theorem dJ8_hugeLength_7cf53_12 : decode cJ8_hugeLength_7cf53 12 = .ok (.new 89, 3) := by decide +kernel
theorem dJ8_hugeLength_7cf53_15 : decode cJ8_hugeLength_7cf53 15 = .ok (.dup, 1) := by decide +kernel
theorem dJ8_hugeLength_7cf53_16 : decode cJ8_hugeLength_7cf53 16 = .ok (.invokespecial 91, 3) := by decide +kernel
theorem dJ8_hugeLength_7cf53_19 : decode cJ8_hugeLength_7cf53 19 = .ok (.ldc 206, 2) := by decide +kernel
theorem dJ8_hugeLength_7cf53_21 : decode cJ8_hugeLength_7cf53 21 = .ok (.invokevirtual 94, 3) := by decide +kernel
theorem dJ8_hugeLength_7cf53_24 : decode cJ8_hugeLength_7cf53 24 = .ok (.iload_n 0, 1) := by decide +kernel
theorem dJ8_hugeLength_7cf53_25 : decode cJ8_hugeLength_7cf53 25 = .ok (.invokevirtual 98, 3) := by decide +kernel
theorem dJ8_hugeLength_7cf53_28 : decode cJ8_hugeLength_7cf53 28 = .ok (.ldc 208, 2) := by decide +kernel
theorem dJ8_hugeLength_7cf53_30 : decode cJ8_hugeLength_7cf53 30 = .ok (.invokevirtual 94, 3) := by decide +kernel
theorem dJ8_hugeLength_7cf53_33 : decode cJ8_hugeLength_7cf53 33 = .ok (.iload_n 1, 1) := by decide +kernel
theorem dJ8_hugeLength_7cf53_34 : decode cJ8_hugeLength_7cf53 34 = .ok (.invokevirtual 98, 3) := by decide +kernel
theorem dJ8_hugeLength_7cf53_37 : decode cJ8_hugeLength_7cf53 37 = .ok (.ldc 210, 2) := by decide +kernel
theorem dJ8_hugeLength_7cf53_39 : decode cJ8_hugeLength_7cf53 39 = .ok (.invokevirtual 94, 3) := by decide +kernel
theorem dJ8_hugeLength_7cf53_42 : decode cJ8_hugeLength_7cf53 42 = .ok (.invokevirtual 101, 3) := by decide +kernel
theorem dJ8_hugeLength_7cf53_45 : decode cJ8_hugeLength_7cf53 45 = .ok (.invokespecial 212, 3) := by decide +kernel
theorem dJ8_hugeLength_7cf53_48 : decode cJ8_hugeLength_7cf53 48 = .ok (.athrow, 1) := by decide +kernel
theorem dJ8_hugeLength_7cf53_49 : decode cJ8_hugeLength_7cf53 49 = .ok (.iload_n 2, 1) := by decide +kernel
theorem dJ8_hugeLength_7cf53_50 : decode cJ8_hugeLength_7cf53 50 = .ok (.ldc 200, 2) := by decide +kernel
theorem dJ8_hugeLength_7cf53_52 : decode cJ8_hugeLength_7cf53 52 = .ok (.if_icmp .gt 6, 3) := by decide +kernel
theorem dJ8_hugeLength_7cf53_55 : decode cJ8_hugeLength_7cf53 55 = .ok (.ldc 200, 2) := by decide +kernel
theorem dJ8_hugeLength_7cf53_57 : decode cJ8_hugeLength_7cf53 57 = .ok (.ireturn, 1) := by decide +kernel
theorem dJ8_hugeLength_7cf53_58 : decode cJ8_hugeLength_7cf53 58 = .ok (.iload_n 2, 1) := by decide +kernel
theorem dJ8_hugeLength_7cf53_59 : decode cJ8_hugeLength_7cf53 59 = .ok (.ireturn, 1) := by decide +kernel
theorem dJ9_max_7cf53_0 : decode cJ9_max_7cf53 0 = .ok (.iload_n 0, 1) := by decide +kernel
theorem dJ9_max_7cf53_1 : decode cJ9_max_7cf53 1 = .ok (.iload_n 1, 1) := by decide +kernel
theorem dJ9_max_7cf53_2 : decode cJ9_max_7cf53 2 = .ok (.if_icmp .lt 7, 3) := by decide +kernel
theorem dJ9_max_7cf53_5 : decode cJ9_max_7cf53 5 = .ok (.iload_n 0, 1) := by decide +kernel
theorem dJ9_max_7cf53_6 : decode cJ9_max_7cf53 6 = .ok (.goto 4, 3) := by decide +kernel
theorem dJ9_max_7cf53_9 : decode cJ9_max_7cf53 9 = .ok (.iload_n 1, 1) := by decide +kernel
theorem dJ9_max_7cf53_10 : decode cJ9_max_7cf53 10 = .ok (.ireturn, 1) := by decide +kernel
theorem dJ9_min_7cf53_0 : decode cJ9_min_7cf53 0 = .ok (.iload_n 0, 1) := by decide +kernel
theorem dJ9_min_7cf53_1 : decode cJ9_min_7cf53 1 = .ok (.iload_n 1, 1) := by decide +kernel
theorem dJ9_min_7cf53_2 : decode cJ9_min_7cf53 2 = .ok (.if_icmp .gt 7, 3) := by decide +kernel
theorem dJ9_min_7cf53_5 : decode cJ9_min_7cf53 5 = .ok (.iload_n 0, 1) := by decide +kernel
theorem dJ9_min_7cf53_6 : decode cJ9_min_7cf53 6 = .ok (.goto 4, 3) := by decide +kernel
theorem dJ9_min_7cf53_9 : decode cJ9_min_7cf53 9 = .ok (.iload_n 1, 1) := by decide +kernel
theorem dJ9_min_7cf53_10 : decode cJ9_min_7cf53 10 = .ok (.ireturn, 1) := by decide +kernel
theorem dX0_firstBroken_0 : decode cX0_firstBroken 0 = .ok (.iconst 1, 1) := by decide +kernel
theorem dX0_firstBroken_1 : decode cX0_firstBroken 1 = .ok (.istore_n 3, 1) := by decide +kernel
theorem dX0_firstBroken_2 : decode cX0_firstBroken 2 = .ok (.iload_n 3, 1) := by decide +kernel
theorem dX0_firstBroken_3 : decode cX0_firstBroken 3 = .ok (.bipush 9, 2) := by decide +kernel
theorem dX0_firstBroken_5 : decode cX0_firstBroken 5 = .ok (.if_icmp .gt 68, 3) := by decide +kernel
theorem dX0_firstBroken_8 : decode cX0_firstBroken 8 = .ok (.iload_n 3, 1) := by decide +kernel
theorem dX0_firstBroken_9 : decode cX0_firstBroken 9 = .ok (.bipush 7, 2) := by decide +kernel
theorem dX0_firstBroken_11 : decode cX0_firstBroken 11 = .ok (.if_icmp .ne 12, 3) := by decide +kernel
theorem dX0_firstBroken_14 : decode cX0_firstBroken 14 = .ok (.aload_n 2, 1) := by decide +kernel
theorem dX0_firstBroken_15 : decode cX0_firstBroken 15 = .ok (.invokevirtual 9, 3) := by decide +kernel
theorem dX0_firstBroken_18 : decode cX0_firstBroken 18 = .ok (.ifCond .eq 5, 3) := by decide +kernel
theorem dX0_firstBroken_21 : decode cX0_firstBroken 21 = .ok (.iload_n 3, 1) := by decide +kernel
theorem dX0_firstBroken_22 : decode cX0_firstBroken 22 = .ok (.ireturn, 1) := by decide +kernel
theorem dX0_firstBroken_23 : decode cX0_firstBroken 23 = .ok (.iconst 0, 1) := by decide +kernel
theorem dX0_firstBroken_24 : decode cX0_firstBroken 24 = .ok (.istore 4, 2) := by decide +kernel
theorem dX0_firstBroken_26 : decode cX0_firstBroken 26 = .ok (.iload 4, 2) := by decide +kernel
theorem dX0_firstBroken_28 : decode cX0_firstBroken 28 = .ok (.aload_n 0, 1) := by decide +kernel
theorem dX0_firstBroken_29 : decode cX0_firstBroken 29 = .ok (.invokevirtual 15, 3) := by decide +kernel
theorem dX0_firstBroken_32 : decode cX0_firstBroken 32 = .ok (.if_icmp .ge 35, 3) := by decide +kernel
theorem dX0_firstBroken_35 : decode cX0_firstBroken 35 = .ok (.aload_n 0, 1) := by decide +kernel
theorem dX0_firstBroken_36 : decode cX0_firstBroken 36 = .ok (.iload 4, 2) := by decide +kernel
theorem dX0_firstBroken_38 : decode cX0_firstBroken 38 = .ok (.invokevirtual 21, 3) := by decide +kernel
theorem dX0_firstBroken_41 : decode cX0_firstBroken 41 = .ok (.astore 5, 2) := by decide +kernel
theorem dX0_firstBroken_43 : decode cX0_firstBroken 43 = .ok (.aload 5, 2) := by decide +kernel
theorem dX0_firstBroken_45 : decode cX0_firstBroken 45 = .ok (.ifnull 16, 3) := by decide +kernel
theorem dX0_firstBroken_48 : decode cX0_firstBroken 48 = .ok (.iload_n 3, 1) := by decide +kernel
theorem dX0_firstBroken_49 : decode cX0_firstBroken 49 = .ok (.aload 5, 2) := by decide +kernel
theorem dX0_firstBroken_51 : decode cX0_firstBroken 51 = .ok (.aload_n 0, 1) := by decide +kernel
theorem dX0_firstBroken_52 : decode cX0_firstBroken 52 = .ok (.aload_n 1, 1) := by decide +kernel
theorem dX0_firstBroken_53 : decode cX0_firstBroken 53 = .ok (.invokestatic 25, 3) := by decide +kernel
theorem dX0_firstBroken_56 : decode cX0_firstBroken 56 = .ok (.ifCond .eq 5, 3) := by decide +kernel
theorem dX0_firstBroken_59 : decode cX0_firstBroken 59 = .ok (.iload_n 3, 1) := by decide +kernel
theorem dX0_firstBroken_60 : decode cX0_firstBroken 60 = .ok (.ireturn, 1) := by decide +kernel
theorem dX0_firstBroken_61 : decode cX0_firstBroken 61 = .ok (.iinc 4 1, 3) := by decide +kernel
theorem dX0_firstBroken_64 : decode cX0_firstBroken 64 = .ok (.goto (-38), 3) := by decide +kernel
theorem dX0_firstBroken_67 : decode cX0_firstBroken 67 = .ok (.iinc 3 1, 3) := by decide +kernel
theorem dX0_firstBroken_70 : decode cX0_firstBroken 70 = .ok (.goto (-68), 3) := by decide +kernel
theorem dX0_firstBroken_73 : decode cX0_firstBroken 73 = .ok (.iconst 0, 1) := by decide +kernel
theorem dX0_firstBroken_74 : decode cX0_firstBroken 74 = .ok (.ireturn, 1) := by decide +kernel
theorem dX0_breaks_0 : decode cX0_breaks 0 = .ok (.iload_n 0, 1) := by decide +kernel
theorem dX0_breaks_1 : decode cX0_breaks 1 = .ok (.tableswitch 264 1 9 #[51, 57, 94, 131, 170, 215, 264, 236, 243], 51) := by decide +kernel
theorem dX0_breaks_52 : decode cX0_breaks 52 = .ok (.aload_n 1, 1) := by decide +kernel
theorem dX0_breaks_53 : decode cX0_breaks 53 = .ok (.aload_n 3, 1) := by decide +kernel
theorem dX0_breaks_54 : decode cX0_breaks 54 = .ok (.invokestatic 31, 3) := by decide +kernel
theorem dX0_breaks_57 : decode cX0_breaks 57 = .ok (.ireturn, 1) := by decide +kernel
theorem dX0_breaks_58 : decode cX0_breaks 58 = .ok (.aload_n 1, 1) := by decide +kernel
theorem dX0_breaks_59 : decode cX0_breaks 59 = .ok (.getfield 35, 3) := by decide +kernel
theorem dX0_breaks_62 : decode cX0_breaks 62 = .ok (.iconst 3, 1) := by decide +kernel
theorem dX0_breaks_63 : decode cX0_breaks 63 = .ok (.if_icmp .ne 30, 3) := by decide +kernel
theorem dX0_breaks_66 : decode cX0_breaks 66 = .ok (.aload_n 2, 1) := by decide +kernel
theorem dX0_breaks_67 : decode cX0_breaks 67 = .ok (.aload_n 1, 1) := by decide +kernel
theorem dX0_breaks_68 : decode cX0_breaks 68 = .ok (.invokevirtual 41, 3) := by decide +kernel
theorem dX0_breaks_71 : decode cX0_breaks 71 = .ok (.ifCond .ne 18, 3) := by decide +kernel
theorem dX0_breaks_74 : decode cX0_breaks 74 = .ok (.aload_n 1, 1) := by decide +kernel
theorem dX0_breaks_75 : decode cX0_breaks 75 = .ok (.getfield 45, 3) := by decide +kernel
theorem dX0_breaks_78 : decode cX0_breaks 78 = .ok (.aload_n 3, 1) := by decide +kernel
theorem dX0_breaks_79 : decode cX0_breaks 79 = .ok (.aload_n 1, 1) := by decide +kernel
theorem dX0_breaks_80 : decode cX0_breaks 80 = .ok (.getfield 48, 3) := by decide +kernel
theorem dX0_breaks_83 : decode cX0_breaks 83 = .ok (.invokevirtual 51, 3) := by decide +kernel
theorem dX0_breaks_86 : decode cX0_breaks 86 = .ok (.if_icmp .ge 7, 3) := by decide +kernel
theorem dX0_breaks_89 : decode cX0_breaks 89 = .ok (.iconst 1, 1) := by decide +kernel
theorem dX0_breaks_90 : decode cX0_breaks 90 = .ok (.goto 4, 3) := by decide +kernel
theorem dX0_breaks_93 : decode cX0_breaks 93 = .ok (.iconst 0, 1) := by decide +kernel
theorem dX0_breaks_94 : decode cX0_breaks 94 = .ok (.ireturn, 1) := by decide +kernel
theorem dX0_breaks_95 : decode cX0_breaks 95 = .ok (.aload_n 1, 1) := by decide +kernel
theorem dX0_breaks_96 : decode cX0_breaks 96 = .ok (.getfield 35, 3) := by decide +kernel
theorem dX0_breaks_99 : decode cX0_breaks 99 = .ok (.ifCond .ne 31, 3) := by decide +kernel
theorem dX0_breaks_102 : decode cX0_breaks 102 = .ok (.aload_n 1, 1) := by decide +kernel
theorem dX0_breaks_103 : decode cX0_breaks 103 = .ok (.getfield 57, 3) := by decide +kernel
theorem dX0_breaks_106 : decode cX0_breaks 106 = .ok (.iconst (-1), 1) := by decide +kernel
theorem dX0_breaks_107 : decode cX0_breaks 107 = .ok (.if_icmp .eq 23, 3) := by decide +kernel
theorem dX0_breaks_110 : decode cX0_breaks 110 = .ok (.aload_n 1, 1) := by decide +kernel
theorem dX0_breaks_111 : decode cX0_breaks 111 = .ok (.getfield 57, 3) := by decide +kernel
theorem dX0_breaks_114 : decode cX0_breaks 114 = .ok (.aload_n 1, 1) := by decide +kernel
theorem dX0_breaks_115 : decode cX0_breaks 115 = .ok (.getfield 45, 3) := by decide +kernel
theorem dX0_breaks_118 : decode cX0_breaks 118 = .ok (.iconst 0, 1) := by decide +kernel
theorem dX0_breaks_119 : decode cX0_breaks 119 = .ok (.aload_n 3, 1) := by decide +kernel
theorem dX0_breaks_120 : decode cX0_breaks 120 = .ok (.invokestatic 60, 3) := by decide +kernel
theorem dX0_breaks_123 : decode cX0_breaks 123 = .ok (.ifCond .ne 7, 3) := by decide +kernel
theorem dX0_breaks_126 : decode cX0_breaks 126 = .ok (.iconst 1, 1) := by decide +kernel
theorem dX0_breaks_127 : decode cX0_breaks 127 = .ok (.goto 4, 3) := by decide +kernel
theorem dX0_breaks_130 : decode cX0_breaks 130 = .ok (.iconst 0, 1) := by decide +kernel
theorem dX0_breaks_131 : decode cX0_breaks 131 = .ok (.ireturn, 1) := by decide +kernel
theorem dX0_breaks_132 : decode cX0_breaks 132 = .ok (.aload_n 1, 1) := by decide +kernel
theorem dX0_breaks_133 : decode cX0_breaks 133 = .ok (.getfield 35, 3) := by decide +kernel
theorem dX0_breaks_136 : decode cX0_breaks 136 = .ok (.ifCond .ne 33, 3) := by decide +kernel
theorem dX0_breaks_139 : decode cX0_breaks 139 = .ok (.aload_n 1, 1) := by decide +kernel
theorem dX0_breaks_140 : decode cX0_breaks 140 = .ok (.getfield 64, 3) := by decide +kernel
theorem dX0_breaks_143 : decode cX0_breaks 143 = .ok (.iconst (-1), 1) := by decide +kernel
theorem dX0_breaks_144 : decode cX0_breaks 144 = .ok (.if_icmp .eq 25, 3) := by decide +kernel
theorem dX0_breaks_147 : decode cX0_breaks 147 = .ok (.aload_n 1, 1) := by decide +kernel
theorem dX0_breaks_148 : decode cX0_breaks 148 = .ok (.getfield 64, 3) := by decide +kernel
theorem dX0_breaks_151 : decode cX0_breaks 151 = .ok (.aload_n 1, 1) := by decide +kernel
theorem dX0_breaks_152 : decode cX0_breaks 152 = .ok (.getfield 45, 3) := by decide +kernel
theorem dX0_breaks_155 : decode cX0_breaks 155 = .ok (.sipush 300, 3) := by decide +kernel
theorem dX0_breaks_158 : decode cX0_breaks 158 = .ok (.aload_n 3, 1) := by decide +kernel
theorem dX0_breaks_159 : decode cX0_breaks 159 = .ok (.invokestatic 60, 3) := by decide +kernel
theorem dX0_breaks_162 : decode cX0_breaks 162 = .ok (.ifCond .ne 7, 3) := by decide +kernel
theorem dX0_breaks_165 : decode cX0_breaks 165 = .ok (.iconst 1, 1) := by decide +kernel
theorem dX0_breaks_166 : decode cX0_breaks 166 = .ok (.goto 4, 3) := by decide +kernel
theorem dX0_breaks_169 : decode cX0_breaks 169 = .ok (.iconst 0, 1) := by decide +kernel
theorem dX0_breaks_170 : decode cX0_breaks 170 = .ok (.ireturn, 1) := by decide +kernel
theorem dX0_breaks_171 : decode cX0_breaks 171 = .ok (.aload_n 1, 1) := by decide +kernel
theorem dX0_breaks_172 : decode cX0_breaks 172 = .ok (.invokevirtual 67, 3) := by decide +kernel
theorem dX0_breaks_175 : decode cX0_breaks 175 = .ok (.ifCond .eq 39, 3) := by decide +kernel
theorem dX0_breaks_178 : decode cX0_breaks 178 = .ok (.aload_n 1, 1) := by decide +kernel
theorem dX0_breaks_179 : decode cX0_breaks 179 = .ok (.getfield 48, 3) := by decide +kernel
theorem dX0_breaks_182 : decode cX0_breaks 182 = .ok (.aload_n 1, 1) := by decide +kernel
theorem dX0_breaks_183 : decode cX0_breaks 183 = .ok (.getfield 45, 3) := by decide +kernel
theorem dX0_breaks_186 : decode cX0_breaks 186 = .ok (.iconst 0, 1) := by decide +kernel
theorem dX0_breaks_187 : decode cX0_breaks 187 = .ok (.aload_n 3, 1) := by decide +kernel
theorem dX0_breaks_188 : decode cX0_breaks 188 = .ok (.invokestatic 60, 3) := by decide +kernel
theorem dX0_breaks_191 : decode cX0_breaks 191 = .ok (.ifCond .eq 19, 3) := by decide +kernel
theorem dX0_breaks_194 : decode cX0_breaks 194 = .ok (.aload_n 1, 1) := by decide +kernel
theorem dX0_breaks_195 : decode cX0_breaks 195 = .ok (.getfield 70, 3) := by decide +kernel
theorem dX0_breaks_198 : decode cX0_breaks 198 = .ok (.aload_n 1, 1) := by decide +kernel
theorem dX0_breaks_199 : decode cX0_breaks 199 = .ok (.getfield 45, 3) := by decide +kernel
theorem dX0_breaks_202 : decode cX0_breaks 202 = .ok (.iconst 0, 1) := by decide +kernel
theorem dX0_breaks_203 : decode cX0_breaks 203 = .ok (.aload_n 3, 1) := by decide +kernel
theorem dX0_breaks_204 : decode cX0_breaks 204 = .ok (.invokestatic 60, 3) := by decide +kernel
theorem dX0_breaks_207 : decode cX0_breaks 207 = .ok (.ifCond .ne 7, 3) := by decide +kernel
theorem dX0_breaks_210 : decode cX0_breaks 210 = .ok (.iconst 1, 1) := by decide +kernel
theorem dX0_breaks_211 : decode cX0_breaks 211 = .ok (.goto 4, 3) := by decide +kernel
theorem dX0_breaks_214 : decode cX0_breaks 214 = .ok (.iconst 0, 1) := by decide +kernel
theorem dX0_breaks_215 : decode cX0_breaks 215 = .ok (.ireturn, 1) := by decide +kernel
theorem dX0_breaks_216 : decode cX0_breaks 216 = .ok (.aload_n 1, 1) := by decide +kernel
theorem dX0_breaks_217 : decode cX0_breaks 217 = .ok (.invokevirtual 67, 3) := by decide +kernel
theorem dX0_breaks_220 : decode cX0_breaks 220 = .ok (.ifCond .eq 15, 3) := by decide +kernel
theorem dX0_breaks_223 : decode cX0_breaks 223 = .ok (.aload_n 2, 1) := by decide +kernel
theorem dX0_breaks_224 : decode cX0_breaks 224 = .ok (.aload_n 1, 1) := by decide +kernel
theorem dX0_breaks_225 : decode cX0_breaks 225 = .ok (.invokevirtual 73, 3) := by decide +kernel
theorem dX0_breaks_228 : decode cX0_breaks 228 = .ok (.ifCond .eq 7, 3) := by decide +kernel
theorem dX0_breaks_231 : decode cX0_breaks 231 = .ok (.iconst 1, 1) := by decide +kernel
theorem dX0_breaks_232 : decode cX0_breaks 232 = .ok (.goto 4, 3) := by decide +kernel
theorem dX0_breaks_235 : decode cX0_breaks 235 = .ok (.iconst 0, 1) := by decide +kernel
theorem dX0_breaks_236 : decode cX0_breaks 236 = .ok (.ireturn, 1) := by decide +kernel
theorem dX0_breaks_237 : decode cX0_breaks 237 = .ok (.aload_n 1, 1) := by decide +kernel
theorem dX0_breaks_238 : decode cX0_breaks 238 = .ok (.aload_n 2, 1) := by decide +kernel
theorem dX0_breaks_239 : decode cX0_breaks 239 = .ok (.aload_n 3, 1) := by decide +kernel
theorem dX0_breaks_240 : decode cX0_breaks 240 = .ok (.invokestatic 76, 3) := by decide +kernel
theorem dX0_breaks_243 : decode cX0_breaks 243 = .ok (.ireturn, 1) := by decide +kernel
theorem dX0_breaks_244 : decode cX0_breaks 244 = .ok (.aload_n 1, 1) := by decide +kernel
theorem dX0_breaks_245 : decode cX0_breaks 245 = .ok (.invokevirtual 80, 3) := by decide +kernel
theorem dX0_breaks_248 : decode cX0_breaks 248 = .ok (.ifCond .eq 15, 3) := by decide +kernel
theorem dX0_breaks_251 : decode cX0_breaks 251 = .ok (.aload_n 2, 1) := by decide +kernel
theorem dX0_breaks_252 : decode cX0_breaks 252 = .ok (.aload_n 1, 1) := by decide +kernel
theorem dX0_breaks_253 : decode cX0_breaks 253 = .ok (.invokevirtual 73, 3) := by decide +kernel
theorem dX0_breaks_256 : decode cX0_breaks 256 = .ok (.ifCond .eq 7, 3) := by decide +kernel
theorem dX0_breaks_259 : decode cX0_breaks 259 = .ok (.iconst 1, 1) := by decide +kernel
theorem dX0_breaks_260 : decode cX0_breaks 260 = .ok (.goto 4, 3) := by decide +kernel
theorem dX0_breaks_263 : decode cX0_breaks 263 = .ok (.iconst 0, 1) := by decide +kernel
theorem dX0_breaks_264 : decode cX0_breaks 264 = .ok (.ireturn, 1) := by decide +kernel
theorem dX0_breaks_265 : decode cX0_breaks 265 = .ok (.iconst 0, 1) := by decide +kernel
theorem dX0_breaks_266 : decode cX0_breaks 266 = .ok (.ireturn, 1) := by decide +kernel
theorem dX0_hasWrongSexes_0 : decode cX0_hasWrongSexes 0 = .ok (.aload_n 0, 1) := by decide +kernel
theorem dX0_hasWrongSexes_1 : decode cX0_hasWrongSexes 1 = .ok (.getfield 35, 3) := by decide +kernel
theorem dX0_hasWrongSexes_4 : decode cX0_hasWrongSexes 4 = .ok (.ifCond .ne 47, 3) := by decide +kernel
theorem dX0_hasWrongSexes_7 : decode cX0_hasWrongSexes 7 = .ok (.aload_n 0, 1) := by decide +kernel
theorem dX0_hasWrongSexes_8 : decode cX0_hasWrongSexes 8 = .ok (.getfield 64, 3) := by decide +kernel
theorem dX0_hasWrongSexes_11 : decode cX0_hasWrongSexes 11 = .ok (.iconst (-1), 1) := by decide +kernel
theorem dX0_hasWrongSexes_12 : decode cX0_hasWrongSexes 12 = .ok (.if_icmp .eq 14, 3) := by decide +kernel
theorem dX0_hasWrongSexes_15 : decode cX0_hasWrongSexes 15 = .ok (.aload_n 1, 1) := by decide +kernel
theorem dX0_hasWrongSexes_16 : decode cX0_hasWrongSexes 16 = .ok (.aload_n 0, 1) := by decide +kernel
theorem dX0_hasWrongSexes_17 : decode cX0_hasWrongSexes 17 = .ok (.getfield 64, 3) := by decide +kernel
theorem dX0_hasWrongSexes_20 : decode cX0_hasWrongSexes 20 = .ok (.invokevirtual 83, 3) := by decide +kernel
theorem dX0_hasWrongSexes_23 : decode cX0_hasWrongSexes 23 = .ok (.ifCond .eq 22, 3) := by decide +kernel
theorem dX0_hasWrongSexes_26 : decode cX0_hasWrongSexes 26 = .ok (.aload_n 0, 1) := by decide +kernel
theorem dX0_hasWrongSexes_27 : decode cX0_hasWrongSexes 27 = .ok (.getfield 57, 3) := by decide +kernel
theorem dX0_hasWrongSexes_30 : decode cX0_hasWrongSexes 30 = .ok (.iconst (-1), 1) := by decide +kernel
theorem dX0_hasWrongSexes_31 : decode cX0_hasWrongSexes 31 = .ok (.if_icmp .eq 18, 3) := by decide +kernel
theorem dX0_hasWrongSexes_34 : decode cX0_hasWrongSexes 34 = .ok (.aload_n 1, 1) := by decide +kernel
theorem dX0_hasWrongSexes_35 : decode cX0_hasWrongSexes 35 = .ok (.aload_n 0, 1) := by decide +kernel
theorem dX0_hasWrongSexes_36 : decode cX0_hasWrongSexes 36 = .ok (.getfield 57, 3) := by decide +kernel
theorem dX0_hasWrongSexes_39 : decode cX0_hasWrongSexes 39 = .ok (.invokevirtual 83, 3) := by decide +kernel
theorem dX0_hasWrongSexes_42 : decode cX0_hasWrongSexes 42 = .ok (.ifCond .eq 7, 3) := by decide +kernel
theorem dX0_hasWrongSexes_45 : decode cX0_hasWrongSexes 45 = .ok (.iconst 1, 1) := by decide +kernel
theorem dX0_hasWrongSexes_46 : decode cX0_hasWrongSexes 46 = .ok (.goto 4, 3) := by decide +kernel
theorem dX0_hasWrongSexes_49 : decode cX0_hasWrongSexes 49 = .ok (.iconst 0, 1) := by decide +kernel
theorem dX0_hasWrongSexes_50 : decode cX0_hasWrongSexes 50 = .ok (.ireturn, 1) := by decide +kernel
theorem dX0_hasWrongSexes_51 : decode cX0_hasWrongSexes 51 = .ok (.aload_n 0, 1) := by decide +kernel
theorem dX0_hasWrongSexes_52 : decode cX0_hasWrongSexes 52 = .ok (.invokevirtual 67, 3) := by decide +kernel
theorem dX0_hasWrongSexes_55 : decode cX0_hasWrongSexes 55 = .ok (.ifCond .eq 29, 3) := by decide +kernel
theorem dX0_hasWrongSexes_58 : decode cX0_hasWrongSexes 58 = .ok (.aload_n 1, 1) := by decide +kernel
theorem dX0_hasWrongSexes_59 : decode cX0_hasWrongSexes 59 = .ok (.aload_n 0, 1) := by decide +kernel
theorem dX0_hasWrongSexes_60 : decode cX0_hasWrongSexes 60 = .ok (.getfield 48, 3) := by decide +kernel
theorem dX0_hasWrongSexes_63 : decode cX0_hasWrongSexes 63 = .ok (.invokevirtual 83, 3) := by decide +kernel
theorem dX0_hasWrongSexes_66 : decode cX0_hasWrongSexes 66 = .ok (.ifCond .eq 14, 3) := by decide +kernel
theorem dX0_hasWrongSexes_69 : decode cX0_hasWrongSexes 69 = .ok (.aload_n 1, 1) := by decide +kernel
theorem dX0_hasWrongSexes_70 : decode cX0_hasWrongSexes 70 = .ok (.aload_n 0, 1) := by decide +kernel
theorem dX0_hasWrongSexes_71 : decode cX0_hasWrongSexes 71 = .ok (.getfield 70, 3) := by decide +kernel
theorem dX0_hasWrongSexes_74 : decode cX0_hasWrongSexes 74 = .ok (.invokevirtual 83, 3) := by decide +kernel
theorem dX0_hasWrongSexes_77 : decode cX0_hasWrongSexes 77 = .ok (.ifCond .eq 7, 3) := by decide +kernel
theorem dX0_hasWrongSexes_80 : decode cX0_hasWrongSexes 80 = .ok (.iconst 1, 1) := by decide +kernel
theorem dX0_hasWrongSexes_81 : decode cX0_hasWrongSexes 81 = .ok (.goto 4, 3) := by decide +kernel
theorem dX0_hasWrongSexes_84 : decode cX0_hasWrongSexes 84 = .ok (.iconst 0, 1) := by decide +kernel
theorem dX0_hasWrongSexes_85 : decode cX0_hasWrongSexes 85 = .ok (.ireturn, 1) := by decide +kernel
theorem dX0_couldAct_0 : decode cX0_couldAct 0 = .ok (.aload_n 3, 1) := by decide +kernel
theorem dX0_couldAct_1 : decode cX0_couldAct 1 = .ok (.iload_n 0, 1) := by decide +kernel
theorem dX0_couldAct_2 : decode cX0_couldAct 2 = .ok (.iload_n 1, 1) := by decide +kernel
theorem dX0_couldAct_3 : decode cX0_couldAct 3 = .ok (.invokevirtual 87, 3) := by decide +kernel
theorem dX0_couldAct_6 : decode cX0_couldAct 6 = .ok (.ifCond .eq 18, 3) := by decide +kernel
theorem dX0_couldAct_9 : decode cX0_couldAct 9 = .ok (.aload_n 3, 1) := by decide +kernel
theorem dX0_couldAct_10 : decode cX0_couldAct 10 = .ok (.iload_n 0, 1) := by decide +kernel
theorem dX0_couldAct_11 : decode cX0_couldAct 11 = .ok (.iload_n 1, 1) := by decide +kernel
theorem dX0_couldAct_12 : decode cX0_couldAct 12 = .ok (.iload_n 2, 1) := by decide +kernel
theorem dX0_couldAct_13 : decode cX0_couldAct 13 = .ok (.isub, 1) := by decide +kernel
theorem dX0_couldAct_14 : decode cX0_couldAct 14 = .ok (.invokevirtual 91, 3) := by decide +kernel
theorem dX0_couldAct_17 : decode cX0_couldAct 17 = .ok (.ifCond .ne 7, 3) := by decide +kernel
theorem dX0_couldAct_20 : decode cX0_couldAct 20 = .ok (.iconst 1, 1) := by decide +kernel
theorem dX0_couldAct_21 : decode cX0_couldAct 21 = .ok (.goto 4, 3) := by decide +kernel
theorem dX0_couldAct_24 : decode cX0_couldAct 24 = .ok (.iconst 0, 1) := by decide +kernel
theorem dX0_couldAct_25 : decode cX0_couldAct 25 = .ok (.ireturn, 1) := by decide +kernel
theorem dX0_breaksATitle_0 : decode cX0_breaksATitle 0 = .ok (.aload_n 0, 1) := by decide +kernel
theorem dX0_breaksATitle_1 : decode cX0_breaksATitle 1 = .ok (.getfield 35, 3) := by decide +kernel
theorem dX0_breaksATitle_4 : decode cX0_breaksATitle 4 = .ok (.iconst 4, 1) := by decide +kernel
theorem dX0_breaksATitle_5 : decode cX0_breaksATitle 5 = .ok (.if_icmp .eq 20, 3) := by decide +kernel
theorem dX0_breaksATitle_8 : decode cX0_breaksATitle 8 = .ok (.aload_n 0, 1) := by decide +kernel
theorem dX0_breaksATitle_9 : decode cX0_breaksATitle 9 = .ok (.getfield 35, 3) := by decide +kernel
theorem dX0_breaksATitle_12 : decode cX0_breaksATitle 12 = .ok (.iconst 5, 1) := by decide +kernel
theorem dX0_breaksATitle_13 : decode cX0_breaksATitle 13 = .ok (.if_icmp .eq 12, 3) := by decide +kernel
theorem dX0_breaksATitle_16 : decode cX0_breaksATitle 16 = .ok (.aload_n 0, 1) := by decide +kernel
theorem dX0_breaksATitle_17 : decode cX0_breaksATitle 17 = .ok (.getfield 35, 3) := by decide +kernel
theorem dX0_breaksATitle_20 : decode cX0_breaksATitle 20 = .ok (.bipush 6, 2) := by decide +kernel
theorem dX0_breaksATitle_22 : decode cX0_breaksATitle 22 = .ok (.if_icmp .ne 35, 3) := by decide +kernel
theorem dX0_breaksATitle_25 : decode cX0_breaksATitle 25 = .ok (.aload_n 2, 1) := by decide +kernel
theorem dX0_breaksATitle_26 : decode cX0_breaksATitle 26 = .ok (.aload_n 0, 1) := by decide +kernel
theorem dX0_breaksATitle_27 : decode cX0_breaksATitle 27 = .ok (.getfield 48, 3) := by decide +kernel
theorem dX0_breaksATitle_30 : decode cX0_breaksATitle 30 = .ok (.invokevirtual 51, 3) := by decide +kernel
theorem dX0_breaksATitle_33 : decode cX0_breaksATitle 33 = .ok (.aload_n 0, 1) := by decide +kernel
theorem dX0_breaksATitle_34 : decode cX0_breaksATitle 34 = .ok (.getfield 45, 3) := by decide +kernel
theorem dX0_breaksATitle_37 : decode cX0_breaksATitle 37 = .ok (.if_icmp .gt 18, 3) := by decide +kernel
theorem dX0_breaksATitle_40 : decode cX0_breaksATitle 40 = .ok (.aload_n 2, 1) := by decide +kernel
theorem dX0_breaksATitle_41 : decode cX0_breaksATitle 41 = .ok (.aload_n 0, 1) := by decide +kernel
theorem dX0_breaksATitle_42 : decode cX0_breaksATitle 42 = .ok (.getfield 48, 3) := by decide +kernel
theorem dX0_breaksATitle_45 : decode cX0_breaksATitle 45 = .ok (.aload_n 0, 1) := by decide +kernel
theorem dX0_breaksATitle_46 : decode cX0_breaksATitle 46 = .ok (.getfield 45, 3) := by decide +kernel
theorem dX0_breaksATitle_49 : decode cX0_breaksATitle 49 = .ok (.invokevirtual 91, 3) := by decide +kernel
theorem dX0_breaksATitle_52 : decode cX0_breaksATitle 52 = .ok (.ifCond .eq 5, 3) := by decide +kernel
theorem dX0_breaksATitle_55 : decode cX0_breaksATitle 55 = .ok (.iconst 1, 1) := by decide +kernel
theorem dX0_breaksATitle_56 : decode cX0_breaksATitle 56 = .ok (.ireturn, 1) := by decide +kernel
theorem dX0_breaksATitle_57 : decode cX0_breaksATitle 57 = .ok (.aload_n 0, 1) := by decide +kernel
theorem dX0_breaksATitle_58 : decode cX0_breaksATitle 58 = .ok (.getfield 35, 3) := by decide +kernel
theorem dX0_breaksATitle_61 : decode cX0_breaksATitle 61 = .ok (.iconst 5, 1) := by decide +kernel
theorem dX0_breaksATitle_62 : decode cX0_breaksATitle 62 = .ok (.if_icmp .ne 13, 3) := by decide +kernel
theorem dX0_breaksATitle_65 : decode cX0_breaksATitle 65 = .ok (.aload_n 1, 1) := by decide +kernel
theorem dX0_breaksATitle_66 : decode cX0_breaksATitle 66 = .ok (.aload_n 0, 1) := by decide +kernel
theorem dX0_breaksATitle_67 : decode cX0_breaksATitle 67 = .ok (.invokevirtual 41, 3) := by decide +kernel
theorem dX0_breaksATitle_70 : decode cX0_breaksATitle 70 = .ok (.ifCond .eq 5, 3) := by decide +kernel
theorem dX0_breaksATitle_73 : decode cX0_breaksATitle 73 = .ok (.iconst 1, 1) := by decide +kernel
theorem dX0_breaksATitle_74 : decode cX0_breaksATitle 74 = .ok (.ireturn, 1) := by decide +kernel
theorem dX0_breaksATitle_75 : decode cX0_breaksATitle 75 = .ok (.aload_n 0, 1) := by decide +kernel
theorem dX0_breaksATitle_76 : decode cX0_breaksATitle 76 = .ok (.getfield 35, 3) := by decide +kernel
theorem dX0_breaksATitle_79 : decode cX0_breaksATitle 79 = .ok (.iconst 5, 1) := by decide +kernel
theorem dX0_breaksATitle_80 : decode cX0_breaksATitle 80 = .ok (.if_icmp .eq 21, 3) := by decide +kernel
theorem dX0_breaksATitle_83 : decode cX0_breaksATitle 83 = .ok (.aload_n 0, 1) := by decide +kernel
theorem dX0_breaksATitle_84 : decode cX0_breaksATitle 84 = .ok (.getfield 35, 3) := by decide +kernel
theorem dX0_breaksATitle_87 : decode cX0_breaksATitle 87 = .ok (.bipush 6, 2) := by decide +kernel
theorem dX0_breaksATitle_89 : decode cX0_breaksATitle 89 = .ok (.if_icmp .eq 12, 3) := by decide +kernel
theorem dX0_breaksATitle_92 : decode cX0_breaksATitle 92 = .ok (.aload_n 0, 1) := by decide +kernel
theorem dX0_breaksATitle_93 : decode cX0_breaksATitle 93 = .ok (.invokevirtual 80, 3) := by decide +kernel
theorem dX0_breaksATitle_96 : decode cX0_breaksATitle 96 = .ok (.ifCond .ne 5, 3) := by decide +kernel
theorem dX0_breaksATitle_99 : decode cX0_breaksATitle 99 = .ok (.iconst 0, 1) := by decide +kernel
theorem dX0_breaksATitle_100 : decode cX0_breaksATitle 100 = .ok (.ireturn, 1) := by decide +kernel
theorem dX0_breaksATitle_101 : decode cX0_breaksATitle 101 = .ok (.aload_n 1, 1) := by decide +kernel
theorem dX0_breaksATitle_102 : decode cX0_breaksATitle 102 = .ok (.aload_n 0, 1) := by decide +kernel
theorem dX0_breaksATitle_103 : decode cX0_breaksATitle 103 = .ok (.getfield 94, 3) := by decide +kernel
theorem dX0_breaksATitle_106 : decode cX0_breaksATitle 106 = .ok (.invokevirtual 97, 3) := by decide +kernel
theorem dX0_breaksATitle_109 : decode cX0_breaksATitle 109 = .ok (.astore_n 3, 1) := by decide +kernel
theorem dX0_breaksATitle_110 : decode cX0_breaksATitle 110 = .ok (.aload_n 3, 1) := by decide +kernel
theorem dX0_breaksATitle_111 : decode cX0_breaksATitle 111 = .ok (.ifnonnull 5, 3) := by decide +kernel
theorem dX0_breaksATitle_114 : decode cX0_breaksATitle 114 = .ok (.iconst 1, 1) := by decide +kernel
theorem dX0_breaksATitle_115 : decode cX0_breaksATitle 115 = .ok (.ireturn, 1) := by decide +kernel
theorem dX0_breaksATitle_116 : decode cX0_breaksATitle 116 = .ok (.aload_n 0, 1) := by decide +kernel
theorem dX0_breaksATitle_117 : decode cX0_breaksATitle 117 = .ok (.getfield 45, 3) := by decide +kernel
theorem dX0_breaksATitle_120 : decode cX0_breaksATitle 120 = .ok (.aload_n 3, 1) := by decide +kernel
theorem dX0_breaksATitle_121 : decode cX0_breaksATitle 121 = .ok (.getfield 45, 3) := by decide +kernel
theorem dX0_breaksATitle_124 : decode cX0_breaksATitle 124 = .ok (.if_icmp .lt 20, 3) := by decide +kernel
theorem dX0_breaksATitle_127 : decode cX0_breaksATitle 127 = .ok (.aload_n 0, 1) := by decide +kernel
theorem dX0_breaksATitle_128 : decode cX0_breaksATitle 128 = .ok (.getfield 35, 3) := by decide +kernel
theorem dX0_breaksATitle_131 : decode cX0_breaksATitle 131 = .ok (.bipush 6, 2) := by decide +kernel
theorem dX0_breaksATitle_133 : decode cX0_breaksATitle 133 = .ok (.if_icmp .ne 15, 3) := by decide +kernel
theorem dX0_breaksATitle_136 : decode cX0_breaksATitle 136 = .ok (.aload_n 3, 1) := by decide +kernel
theorem dX0_breaksATitle_137 : decode cX0_breaksATitle 137 = .ok (.getfield 100, 3) := by decide +kernel
theorem dX0_breaksATitle_140 : decode cX0_breaksATitle 140 = .ok (.iconst 5, 1) := by decide +kernel
theorem dX0_breaksATitle_141 : decode cX0_breaksATitle 141 = .ok (.if_icmp .eq 7, 3) := by decide +kernel
theorem dX0_breaksATitle_144 : decode cX0_breaksATitle 144 = .ok (.iconst 1, 1) := by decide +kernel
theorem dX0_breaksATitle_145 : decode cX0_breaksATitle 145 = .ok (.goto 4, 3) := by decide +kernel
theorem dX0_breaksATitle_148 : decode cX0_breaksATitle 148 = .ok (.iconst 0, 1) := by decide +kernel
theorem dX0_breaksATitle_149 : decode cX0_breaksATitle 149 = .ok (.ireturn, 1) := by decide +kernel
theorem dX1_init_0 : decode cX1_init 0 = .ok (.aload_n 0, 1) := by decide +kernel
theorem dX1_init_1 : decode cX1_init 1 = .ok (.invokespecial 3, 3) := by decide +kernel
theorem dX1_init_4 : decode cX1_init 4 = .ok (.aload_n 0, 1) := by decide +kernel
theorem dX1_init_5 : decode cX1_init 5 = .ok (.bipush 64, 2) := by decide +kernel
theorem dX1_init_7 : decode cX1_init 7 = .ok (.newarray .int, 2) := by decide +kernel
theorem dX1_init_9 : decode cX1_init 9 = .ok (.putfield 9, 3) := by decide +kernel
theorem dX1_init_12 : decode cX1_init 12 = .ok (.aload_n 0, 1) := by decide +kernel
theorem dX1_init_13 : decode cX1_init 13 = .ok (.sipush 200, 3) := by decide +kernel
theorem dX1_init_16 : decode cX1_init 16 = .ok (.newarray .int, 2) := by decide +kernel
theorem dX1_init_18 : decode cX1_init 18 = .ok (.putfield 15, 3) := by decide +kernel
theorem dX1_init_21 : decode cX1_init 21 = .ok (.aload_n 0, 1) := by decide +kernel
theorem dX1_init_22 : decode cX1_init 22 = .ok (.sipush 200, 3) := by decide +kernel
theorem dX1_init_25 : decode cX1_init 25 = .ok (.newarray .int, 2) := by decide +kernel
theorem dX1_init_27 : decode cX1_init 27 = .ok (.putfield 18, 3) := by decide +kernel
theorem dX1_init_30 : decode cX1_init 30 = .ok (.aload_n 0, 1) := by decide +kernel
theorem dX1_init_31 : decode cX1_init 31 = .ok (.sipush 200, 3) := by decide +kernel
theorem dX1_init_34 : decode cX1_init 34 = .ok (.newarray .int, 2) := by decide +kernel
theorem dX1_init_36 : decode cX1_init 36 = .ok (.putfield 21, 3) := by decide +kernel
theorem dX1_init_39 : decode cX1_init 39 = .ok (.aload_n 0, 1) := by decide +kernel
theorem dX1_init_40 : decode cX1_init 40 = .ok (.sipush 200, 3) := by decide +kernel
theorem dX1_init_43 : decode cX1_init 43 = .ok (.newarray .int, 2) := by decide +kernel
theorem dX1_init_45 : decode cX1_init 45 = .ok (.putfield 24, 3) := by decide +kernel
theorem dX1_init_48 : decode cX1_init 48 = .ok (.aload_n 0, 1) := by decide +kernel
theorem dX1_init_49 : decode cX1_init 49 = .ok (.iconst 0, 1) := by decide +kernel
theorem dX1_init_50 : decode cX1_init 50 = .ok (.putfield 27, 3) := by decide +kernel
theorem dX1_init_53 : decode cX1_init 53 = .ok (.aload_n 0, 1) := by decide +kernel
theorem dX1_init_54 : decode cX1_init 54 = .ok (.iconst 0, 1) := by decide +kernel
theorem dX1_init_55 : decode cX1_init 55 = .ok (.putfield 31, 3) := by decide +kernel
theorem dX1_init_58 : decode cX1_init 58 = .ok (.aload_n 0, 1) := by decide +kernel
theorem dX1_init_59 : decode cX1_init 59 = .ok (.iconst (-1), 1) := by decide +kernel
theorem dX1_init_60 : decode cX1_init 60 = .ok (.putfield 35, 3) := by decide +kernel
theorem dX1_init_63 : decode cX1_init 63 = .ok (.aload_n 0, 1) := by decide +kernel
theorem dX1_init_64 : decode cX1_init 64 = .ok (.iconst (-1), 1) := by decide +kernel
theorem dX1_init_65 : decode cX1_init 65 = .ok (.putfield 38, 3) := by decide +kernel
theorem dX1_init_68 : decode cX1_init 68 = .ok (.aload_n 0, 1) := by decide +kernel
theorem dX1_init_69 : decode cX1_init 69 = .ok (.iconst (-1), 1) := by decide +kernel
theorem dX1_init_70 : decode cX1_init 70 = .ok (.putfield 41, 3) := by decide +kernel
theorem dX1_init_73 : decode cX1_init 73 = .ok (.aload_n 0, 1) := by decide +kernel
theorem dX1_init_74 : decode cX1_init 74 = .ok (.iconst (-1), 1) := by decide +kernel
theorem dX1_init_75 : decode cX1_init 75 = .ok (.putfield 44, 3) := by decide +kernel
theorem dX1_init_78 : decode cX1_init 78 = .ok (.aload_n 0, 1) := by decide +kernel
theorem dX1_init_79 : decode cX1_init 79 = .ok (.iconst (-1), 1) := by decide +kernel
theorem dX1_init_80 : decode cX1_init 80 = .ok (.putfield 47, 3) := by decide +kernel
theorem dX1_init_83 : decode cX1_init 83 = .ok (.aload_n 0, 1) := by decide +kernel
theorem dX1_init_84 : decode cX1_init 84 = .ok (.iload_n 1, 1) := by decide +kernel
theorem dX1_init_85 : decode cX1_init 85 = .ok (.putfield 50, 3) := by decide +kernel
theorem dX1_init_88 : decode cX1_init 88 = .ok (.aload_n 0, 1) := by decide +kernel
theorem dX1_init_89 : decode cX1_init 89 = .ok (.aload_n 2, 1) := by decide +kernel
theorem dX1_init_90 : decode cX1_init 90 = .ok (.putfield 53, 3) := by decide +kernel
theorem dX1_init_93 : decode cX1_init 93 = .ok (.aload_n 0, 1) := by decide +kernel
theorem dX1_init_94 : decode cX1_init 94 = .ok (.aload_n 3, 1) := by decide +kernel
theorem dX1_init_95 : decode cX1_init 95 = .ok (.putfield 57, 3) := by decide +kernel
theorem dX1_init_98 : decode cX1_init 98 = .ok (.aload_n 0, 1) := by decide +kernel
theorem dX1_init_99 : decode cX1_init 99 = .ok (.aload 4, 2) := by decide +kernel
theorem dX1_init_101 : decode cX1_init 101 = .ok (.putfield 61, 3) := by decide +kernel
theorem dX1_init_104 : decode cX1_init 104 = .ok (.aload_n 0, 1) := by decide +kernel
theorem dX1_init_105 : decode cX1_init 105 = .ok (.aload 5, 2) := by decide +kernel
theorem dX1_init_107 : decode cX1_init 107 = .ok (.putfield 65, 3) := by decide +kernel
theorem dX1_init_110 : decode cX1_init 110 = .ok (.return_, 1) := by decide +kernel
theorem dX1_forget_0 : decode cX1_forget 0 = .ok (.aload_n 0, 1) := by decide +kernel
theorem dX1_forget_1 : decode cX1_forget 1 = .ok (.iconst 0, 1) := by decide +kernel
theorem dX1_forget_2 : decode cX1_forget 2 = .ok (.putfield 31, 3) := by decide +kernel
theorem dX1_forget_5 : decode cX1_forget 5 = .ok (.return_, 1) := by decide +kernel
theorem dX1_isKnown_0 : decode cX1_isKnown 0 = .ok (.aload_n 0, 1) := by decide +kernel
theorem dX1_isKnown_1 : decode cX1_isKnown 1 = .ok (.getfield 31, 3) := by decide +kernel
theorem dX1_isKnown_4 : decode cX1_isKnown 4 = .ok (.ireturn, 1) := by decide +kernel
theorem dX1_begin_0 : decode cX1_begin 0 = .ok (.aload_n 0, 1) := by decide +kernel
theorem dX1_begin_1 : decode cX1_begin 1 = .ok (.iconst 1, 1) := by decide +kernel
theorem dX1_begin_2 : decode cX1_begin 2 = .ok (.putfield 31, 3) := by decide +kernel
theorem dX1_begin_5 : decode cX1_begin 5 = .ok (.aload_n 0, 1) := by decide +kernel
theorem dX1_begin_6 : decode cX1_begin 6 = .ok (.iconst 0, 1) := by decide +kernel
theorem dX1_begin_7 : decode cX1_begin 7 = .ok (.putfield 27, 3) := by decide +kernel
theorem dX1_begin_10 : decode cX1_begin 10 = .ok (.aload_n 0, 1) := by decide +kernel
theorem dX1_begin_11 : decode cX1_begin 11 = .ok (.getfield 53, 3) := by decide +kernel
theorem dX1_begin_14 : decode cX1_begin 14 = .ok (.aload_n 0, 1) := by decide +kernel
theorem dX1_begin_15 : decode cX1_begin 15 = .ok (.getfield 50, 3) := by decide +kernel
theorem dX1_begin_18 : decode cX1_begin 18 = .ok (.invokevirtual 69, 3) := by decide +kernel
theorem dX1_begin_21 : decode cX1_begin 21 = .ok (.astore_n 1, 1) := by decide +kernel
theorem dX1_begin_22 : decode cX1_begin 22 = .ok (.aload_n 1, 1) := by decide +kernel
theorem dX1_begin_23 : decode cX1_begin 23 = .ok (.ifnonnull 5, 3) := by decide +kernel
theorem dX1_begin_26 : decode cX1_begin 26 = .ok (.iconst (-1), 1) := by decide +kernel
theorem dX1_begin_27 : decode cX1_begin 27 = .ok (.ireturn, 1) := by decide +kernel
theorem dX1_begin_28 : decode cX1_begin 28 = .ok (.aload_n 0, 1) := by decide +kernel
theorem dX1_begin_29 : decode cX1_begin 29 = .ok (.aload_n 1, 1) := by decide +kernel
theorem dX1_begin_30 : decode cX1_begin 30 = .ok (.getfield 75, 3) := by decide +kernel
theorem dX1_begin_33 : decode cX1_begin 33 = .ok (.putfield 35, 3) := by decide +kernel
theorem dX1_begin_36 : decode cX1_begin 36 = .ok (.aload_n 0, 1) := by decide +kernel
theorem dX1_begin_37 : decode cX1_begin 37 = .ok (.aload_n 1, 1) := by decide +kernel
theorem dX1_begin_38 : decode cX1_begin 38 = .ok (.getfield 78, 3) := by decide +kernel
theorem dX1_begin_41 : decode cX1_begin 41 = .ok (.putfield 38, 3) := by decide +kernel
theorem dX1_begin_44 : decode cX1_begin 44 = .ok (.aload_n 0, 1) := by decide +kernel
theorem dX1_begin_45 : decode cX1_begin 45 = .ok (.aload_n 0, 1) := by decide +kernel
theorem dX1_begin_46 : decode cX1_begin 46 = .ok (.getfield 38, 3) := by decide +kernel
theorem dX1_begin_49 : decode cX1_begin 49 = .ok (.putfield 41, 3) := by decide +kernel
theorem dX1_begin_52 : decode cX1_begin 52 = .ok (.aload_n 0, 1) := by decide +kernel
theorem dX1_begin_53 : decode cX1_begin 53 = .ok (.aload_n 0, 1) := by decide +kernel
theorem dX1_begin_54 : decode cX1_begin 54 = .ok (.getfield 38, 3) := by decide +kernel
theorem dX1_begin_57 : decode cX1_begin 57 = .ok (.putfield 44, 3) := by decide +kernel
theorem dX1_begin_60 : decode cX1_begin 60 = .ok (.aload_n 0, 1) := by decide +kernel
theorem dX1_begin_61 : decode cX1_begin 61 = .ok (.aload_n 1, 1) := by decide +kernel
theorem dX1_begin_62 : decode cX1_begin 62 = .ok (.getfield 81, 3) := by decide +kernel
theorem dX1_begin_65 : decode cX1_begin 65 = .ok (.putfield 47, 3) := by decide +kernel
theorem dX1_begin_68 : decode cX1_begin 68 = .ok (.aload_n 0, 1) := by decide +kernel
theorem dX1_begin_69 : decode cX1_begin 69 = .ok (.invokevirtual 84, 3) := by decide +kernel
theorem dX1_begin_72 : decode cX1_begin 72 = .ok (.aload_n 1, 1) := by decide +kernel
theorem dX1_begin_73 : decode cX1_begin 73 = .ok (.getfield 81, 3) := by decide +kernel
theorem dX1_begin_76 : decode cX1_begin 76 = .ok (.ireturn, 1) := by decide +kernel
theorem dX1_noteYields_0 : decode cX1_noteYields 0 = .ok (.iconst 0, 1) := by decide +kernel
theorem dX1_noteYields_1 : decode cX1_noteYields 1 = .ok (.istore_n 1, 1) := by decide +kernel
theorem dX1_noteYields_2 : decode cX1_noteYields 2 = .ok (.iload_n 1, 1) := by decide +kernel
theorem dX1_noteYields_3 : decode cX1_noteYields 3 = .ok (.bipush 64, 2) := by decide +kernel
theorem dX1_noteYields_5 : decode cX1_noteYields 5 = .ok (.if_icmp .ge 16, 3) := by decide +kernel
theorem dX1_noteYields_8 : decode cX1_noteYields 8 = .ok (.aload_n 0, 1) := by decide +kernel
theorem dX1_noteYields_9 : decode cX1_noteYields 9 = .ok (.getfield 9, 3) := by decide +kernel
theorem dX1_noteYields_12 : decode cX1_noteYields 12 = .ok (.iload_n 1, 1) := by decide +kernel
theorem dX1_noteYields_13 : decode cX1_noteYields 13 = .ok (.iconst (-1), 1) := by decide +kernel
theorem dX1_noteYields_14 : decode cX1_noteYields 14 = .ok (.iastore, 1) := by decide +kernel
theorem dX1_noteYields_15 : decode cX1_noteYields 15 = .ok (.iinc 1 1, 3) := by decide +kernel
theorem dX1_noteYields_18 : decode cX1_noteYields 18 = .ok (.goto (-16), 3) := by decide +kernel
theorem dX1_noteYields_21 : decode cX1_noteYields 21 = .ok (.iconst 0, 1) := by decide +kernel
theorem dX1_noteYields_22 : decode cX1_noteYields 22 = .ok (.istore_n 1, 1) := by decide +kernel
theorem dX1_noteYields_23 : decode cX1_noteYields 23 = .ok (.iload_n 1, 1) := by decide +kernel
theorem dX1_noteYields_24 : decode cX1_noteYields 24 = .ok (.aload_n 0, 1) := by decide +kernel
theorem dX1_noteYields_25 : decode cX1_noteYields 25 = .ok (.getfield 53, 3) := by decide +kernel
theorem dX1_noteYields_28 : decode cX1_noteYields 28 = .ok (.invokevirtual 87, 3) := by decide +kernel
theorem dX1_noteYields_31 : decode cX1_noteYields 31 = .ok (.if_icmp .ge 67, 3) := by decide +kernel
theorem dX1_noteYields_34 : decode cX1_noteYields 34 = .ok (.aload_n 0, 1) := by decide +kernel
theorem dX1_noteYields_35 : decode cX1_noteYields 35 = .ok (.getfield 53, 3) := by decide +kernel
theorem dX1_noteYields_38 : decode cX1_noteYields 38 = .ok (.iload_n 1, 1) := by decide +kernel
theorem dX1_noteYields_39 : decode cX1_noteYields 39 = .ok (.invokevirtual 90, 3) := by decide +kernel
theorem dX1_noteYields_42 : decode cX1_noteYields 42 = .ok (.astore_n 2, 1) := by decide +kernel
theorem dX1_noteYields_43 : decode cX1_noteYields 43 = .ok (.aload_n 2, 1) := by decide +kernel
theorem dX1_noteYields_44 : decode cX1_noteYields 44 = .ok (.ifnull 48, 3) := by decide +kernel
theorem dX1_noteYields_47 : decode cX1_noteYields 47 = .ok (.aload_n 2, 1) := by decide +kernel
theorem dX1_noteYields_48 : decode cX1_noteYields 48 = .ok (.getfield 93, 3) := by decide +kernel
theorem dX1_noteYields_51 : decode cX1_noteYields 51 = .ok (.iconst 5, 1) := by decide +kernel
theorem dX1_noteYields_52 : decode cX1_noteYields 52 = .ok (.if_icmp .ne 40, 3) := by decide +kernel
theorem dX1_noteYields_55 : decode cX1_noteYields 55 = .ok (.aload_n 2, 1) := by decide +kernel
theorem dX1_noteYields_56 : decode cX1_noteYields 56 = .ok (.getfield 96, 3) := by decide +kernel
theorem dX1_noteYields_59 : decode cX1_noteYields 59 = .ok (.aload_n 0, 1) := by decide +kernel
theorem dX1_noteYields_60 : decode cX1_noteYields 60 = .ok (.getfield 50, 3) := by decide +kernel
theorem dX1_noteYields_63 : decode cX1_noteYields 63 = .ok (.if_icmp .eq 6, 3) := by decide +kernel
theorem dX1_noteYields_66 : decode cX1_noteYields 66 = .ok (.goto 26, 3) := by decide +kernel
theorem dX1_noteYields_69 : decode cX1_noteYields 69 = .ok (.aload_n 2, 1) := by decide +kernel
theorem dX1_noteYields_70 : decode cX1_noteYields 70 = .ok (.getfield 78, 3) := by decide +kernel
theorem dX1_noteYields_73 : decode cX1_noteYields 73 = .ok (.invokestatic 97, 3) := by decide +kernel
theorem dX1_noteYields_76 : decode cX1_noteYields 76 = .ok (.ifCond .eq 16, 3) := by decide +kernel
theorem dX1_noteYields_79 : decode cX1_noteYields 79 = .ok (.aload_n 0, 1) := by decide +kernel
theorem dX1_noteYields_80 : decode cX1_noteYields 80 = .ok (.getfield 9, 3) := by decide +kernel
theorem dX1_noteYields_83 : decode cX1_noteYields 83 = .ok (.aload_n 2, 1) := by decide +kernel
theorem dX1_noteYields_84 : decode cX1_noteYields 84 = .ok (.getfield 78, 3) := by decide +kernel
theorem dX1_noteYields_87 : decode cX1_noteYields 87 = .ok (.aload_n 2, 1) := by decide +kernel
theorem dX1_noteYields_88 : decode cX1_noteYields 88 = .ok (.getfield 81, 3) := by decide +kernel
theorem dX1_noteYields_91 : decode cX1_noteYields 91 = .ok (.iastore, 1) := by decide +kernel
theorem dX1_noteYields_92 : decode cX1_noteYields 92 = .ok (.iinc 1 1, 3) := by decide +kernel
theorem dX1_noteYields_95 : decode cX1_noteYields 95 = .ok (.goto (-72), 3) := by decide +kernel
theorem dX1_noteYields_98 : decode cX1_noteYields 98 = .ok (.return_, 1) := by decide +kernel
theorem dX1_nextDay_0 : decode cX1_nextDay 0 = .ok (.iconst (-1), 1) := by decide +kernel
theorem dX1_nextDay_1 : decode cX1_nextDay 1 = .ok (.istore_n 2, 1) := by decide +kernel
theorem dX1_nextDay_2 : decode cX1_nextDay 2 = .ok (.iconst 0, 1) := by decide +kernel
theorem dX1_nextDay_3 : decode cX1_nextDay 3 = .ok (.istore_n 3, 1) := by decide +kernel
theorem dX1_nextDay_4 : decode cX1_nextDay 4 = .ok (.iload_n 3, 1) := by decide +kernel
theorem dX1_nextDay_5 : decode cX1_nextDay 5 = .ok (.aload_n 0, 1) := by decide +kernel
theorem dX1_nextDay_6 : decode cX1_nextDay 6 = .ok (.getfield 53, 3) := by decide +kernel
theorem dX1_nextDay_9 : decode cX1_nextDay 9 = .ok (.invokevirtual 87, 3) := by decide +kernel
theorem dX1_nextDay_12 : decode cX1_nextDay 12 = .ok (.if_icmp .ge 65, 3) := by decide +kernel
theorem dX1_nextDay_15 : decode cX1_nextDay 15 = .ok (.aload_n 0, 1) := by decide +kernel
theorem dX1_nextDay_16 : decode cX1_nextDay 16 = .ok (.getfield 53, 3) := by decide +kernel
theorem dX1_nextDay_19 : decode cX1_nextDay 19 = .ok (.iload_n 3, 1) := by decide +kernel
theorem dX1_nextDay_20 : decode cX1_nextDay 20 = .ok (.invokevirtual 90, 3) := by decide +kernel
theorem dX1_nextDay_23 : decode cX1_nextDay 23 = .ok (.astore 4, 2) := by decide +kernel
theorem dX1_nextDay_25 : decode cX1_nextDay 25 = .ok (.aload 4, 2) := by decide +kernel
theorem dX1_nextDay_27 : decode cX1_nextDay 27 = .ok (.ifnull 44, 3) := by decide +kernel
theorem dX1_nextDay_30 : decode cX1_nextDay 30 = .ok (.aload 4, 2) := by decide +kernel
theorem dX1_nextDay_32 : decode cX1_nextDay 32 = .ok (.getfield 81, 3) := by decide +kernel
theorem dX1_nextDay_35 : decode cX1_nextDay 35 = .ok (.iload_n 1, 1) := by decide +kernel
theorem dX1_nextDay_36 : decode cX1_nextDay 36 = .ok (.if_icmp .le 35, 3) := by decide +kernel
theorem dX1_nextDay_39 : decode cX1_nextDay 39 = .ok (.aload_n 0, 1) := by decide +kernel
theorem dX1_nextDay_40 : decode cX1_nextDay 40 = .ok (.aload 4, 2) := by decide +kernel
theorem dX1_nextDay_42 : decode cX1_nextDay 42 = .ok (.invokevirtual 101, 3) := by decide +kernel
theorem dX1_nextDay_45 : decode cX1_nextDay 45 = .ok (.ifCond .ne 6, 3) := by decide +kernel
theorem dX1_nextDay_48 : decode cX1_nextDay 48 = .ok (.goto 23, 3) := by decide +kernel
theorem dX1_nextDay_51 : decode cX1_nextDay 51 = .ok (.iload_n 2, 1) := by decide +kernel
theorem dX1_nextDay_52 : decode cX1_nextDay 52 = .ok (.iconst (-1), 1) := by decide +kernel
theorem dX1_nextDay_53 : decode cX1_nextDay 53 = .ok (.if_icmp .eq 12, 3) := by decide +kernel
theorem dX1_nextDay_56 : decode cX1_nextDay 56 = .ok (.aload 4, 2) := by decide +kernel
theorem dX1_nextDay_58 : decode cX1_nextDay 58 = .ok (.getfield 81, 3) := by decide +kernel
theorem dX1_nextDay_61 : decode cX1_nextDay 61 = .ok (.iload_n 2, 1) := by decide +kernel
theorem dX1_nextDay_62 : decode cX1_nextDay 62 = .ok (.if_icmp .ge 9, 3) := by decide +kernel
theorem dX1_nextDay_65 : decode cX1_nextDay 65 = .ok (.aload 4, 2) := by decide +kernel
theorem dX1_nextDay_67 : decode cX1_nextDay 67 = .ok (.getfield 81, 3) := by decide +kernel
theorem dX1_nextDay_70 : decode cX1_nextDay 70 = .ok (.istore_n 2, 1) := by decide +kernel
theorem dX1_nextDay_71 : decode cX1_nextDay 71 = .ok (.iinc 3 1, 3) := by decide +kernel
theorem dX1_nextDay_74 : decode cX1_nextDay 74 = .ok (.goto (-70), 3) := by decide +kernel
theorem dX1_nextDay_77 : decode cX1_nextDay 77 = .ok (.iload_n 2, 1) := by decide +kernel
theorem dX1_nextDay_78 : decode cX1_nextDay 78 = .ok (.ireturn, 1) := by decide +kernel
theorem dX1_couldMove_0 : decode cX1_couldMove 0 = .ok (.aload_n 1, 1) := by decide +kernel
theorem dX1_couldMove_1 : decode cX1_couldMove 1 = .ok (.getfield 93, 3) := by decide +kernel
theorem dX1_couldMove_4 : decode cX1_couldMove 4 = .ok (.ifCond .eq 22, 3) := by decide +kernel
theorem dX1_couldMove_7 : decode cX1_couldMove 7 = .ok (.aload_n 1, 1) := by decide +kernel
theorem dX1_couldMove_8 : decode cX1_couldMove 8 = .ok (.getfield 93, 3) := by decide +kernel
theorem dX1_couldMove_11 : decode cX1_couldMove 11 = .ok (.iconst 3, 1) := by decide +kernel
theorem dX1_couldMove_12 : decode cX1_couldMove 12 = .ok (.if_icmp .eq 14, 3) := by decide +kernel
theorem dX1_couldMove_15 : decode cX1_couldMove 15 = .ok (.aload_n 1, 1) := by decide +kernel
theorem dX1_couldMove_16 : decode cX1_couldMove 16 = .ok (.getfield 96, 3) := by decide +kernel
theorem dX1_couldMove_19 : decode cX1_couldMove 19 = .ok (.aload_n 0, 1) := by decide +kernel
theorem dX1_couldMove_20 : decode cX1_couldMove 20 = .ok (.getfield 50, 3) := by decide +kernel
theorem dX1_couldMove_23 : decode cX1_couldMove 23 = .ok (.if_icmp .ne 7, 3) := by decide +kernel
theorem dX1_couldMove_26 : decode cX1_couldMove 26 = .ok (.iconst 1, 1) := by decide +kernel
theorem dX1_couldMove_27 : decode cX1_couldMove 27 = .ok (.goto 4, 3) := by decide +kernel
theorem dX1_couldMove_30 : decode cX1_couldMove 30 = .ok (.iconst 0, 1) := by decide +kernel
theorem dX1_couldMove_31 : decode cX1_couldMove 31 = .ok (.ireturn, 1) := by decide +kernel
theorem dX1_goThrough_0 : decode cX1_goThrough 0 = .ok (.aload_n 0, 1) := by decide +kernel
theorem dX1_goThrough_1 : decode cX1_goThrough 1 = .ok (.getfield 44, 3) := by decide +kernel
theorem dX1_goThrough_4 : decode cX1_goThrough 4 = .ok (.istore_n 2, 1) := by decide +kernel
theorem dX1_goThrough_5 : decode cX1_goThrough 5 = .ok (.aload_n 0, 1) := by decide +kernel
theorem dX1_goThrough_6 : decode cX1_goThrough 6 = .ok (.getfield 53, 3) := by decide +kernel
theorem dX1_goThrough_9 : decode cX1_goThrough 9 = .ok (.aload_n 0, 1) := by decide +kernel
theorem dX1_goThrough_10 : decode cX1_goThrough 10 = .ok (.getfield 50, 3) := by decide +kernel
theorem dX1_goThrough_13 : decode cX1_goThrough 13 = .ok (.iload_n 1, 1) := by decide +kernel
theorem dX1_goThrough_14 : decode cX1_goThrough 14 = .ok (.invokevirtual 105, 3) := by decide +kernel
theorem dX1_goThrough_17 : decode cX1_goThrough 17 = .ok (.astore_n 3, 1) := by decide +kernel
theorem dX1_goThrough_18 : decode cX1_goThrough 18 = .ok (.aload_n 3, 1) := by decide +kernel
theorem dX1_goThrough_19 : decode cX1_goThrough 19 = .ok (.ifnull 21, 3) := by decide +kernel
theorem dX1_goThrough_22 : decode cX1_goThrough 22 = .ok (.aload_n 3, 1) := by decide +kernel
theorem dX1_goThrough_23 : decode cX1_goThrough 23 = .ok (.getfield 93, 3) := by decide +kernel
theorem dX1_goThrough_26 : decode cX1_goThrough 26 = .ok (.bipush 7, 2) := by decide +kernel
theorem dX1_goThrough_28 : decode cX1_goThrough 28 = .ok (.if_icmp .ne 12, 3) := by decide +kernel
theorem dX1_goThrough_31 : decode cX1_goThrough 31 = .ok (.aload_n 0, 1) := by decide +kernel
theorem dX1_goThrough_32 : decode cX1_goThrough 32 = .ok (.bipush (-3), 2) := by decide +kernel
theorem dX1_goThrough_34 : decode cX1_goThrough 34 = .ok (.putfield 44, 3) := by decide +kernel
theorem dX1_goThrough_37 : decode cX1_goThrough 37 = .ok (.goto 60, 3) := by decide +kernel
theorem dX1_goThrough_40 : decode cX1_goThrough 40 = .ok (.aload_n 3, 1) := by decide +kernel
theorem dX1_goThrough_41 : decode cX1_goThrough 41 = .ok (.ifnull 21, 3) := by decide +kernel
theorem dX1_goThrough_44 : decode cX1_goThrough 44 = .ok (.aload_n 3, 1) := by decide +kernel
theorem dX1_goThrough_45 : decode cX1_goThrough 45 = .ok (.getfield 81, 3) := by decide +kernel
theorem dX1_goThrough_48 : decode cX1_goThrough 48 = .ok (.iload_n 1, 1) := by decide +kernel
theorem dX1_goThrough_49 : decode cX1_goThrough 49 = .ok (.if_icmp .ne 13, 3) := by decide +kernel
theorem dX1_goThrough_52 : decode cX1_goThrough 52 = .ok (.aload_n 0, 1) := by decide +kernel
theorem dX1_goThrough_53 : decode cX1_goThrough 53 = .ok (.iload_n 1, 1) := by decide +kernel
theorem dX1_goThrough_54 : decode cX1_goThrough 54 = .ok (.invokevirtual 109, 3) := by decide +kernel
theorem dX1_goThrough_57 : decode cX1_goThrough 57 = .ok (.aload_n 0, 1) := by decide +kernel
theorem dX1_goThrough_58 : decode cX1_goThrough 58 = .ok (.iload_n 1, 1) := by decide +kernel
theorem dX1_goThrough_59 : decode cX1_goThrough 59 = .ok (.putfield 47, 3) := by decide +kernel
theorem dX1_goThrough_62 : decode cX1_goThrough 62 = .ok (.aload_n 0, 1) := by decide +kernel
theorem dX1_goThrough_63 : decode cX1_goThrough 63 = .ok (.iload_n 1, 1) := by decide +kernel
theorem dX1_goThrough_64 : decode cX1_goThrough 64 = .ok (.invokevirtual 113, 3) := by decide +kernel
theorem dX1_goThrough_67 : decode cX1_goThrough 67 = .ok (.ifCond .eq 11, 3) := by decide +kernel
theorem dX1_goThrough_70 : decode cX1_goThrough 70 = .ok (.aload_n 0, 1) := by decide +kernel
theorem dX1_goThrough_71 : decode cX1_goThrough 71 = .ok (.iload_n 1, 1) := by decide +kernel
theorem dX1_goThrough_72 : decode cX1_goThrough 72 = .ok (.invokevirtual 109, 3) := by decide +kernel
theorem dX1_goThrough_75 : decode cX1_goThrough 75 = .ok (.goto 8, 3) := by decide +kernel
theorem dX1_goThrough_78 : decode cX1_goThrough 78 = .ok (.aload_n 0, 1) := by decide +kernel
theorem dX1_goThrough_79 : decode cX1_goThrough 79 = .ok (.iload_n 1, 1) := by decide +kernel
theorem dX1_goThrough_80 : decode cX1_goThrough 80 = .ok (.invokevirtual 116, 3) := by decide +kernel
theorem dX1_goThrough_83 : decode cX1_goThrough 83 = .ok (.aload_n 0, 1) := by decide +kernel
theorem dX1_goThrough_84 : decode cX1_goThrough 84 = .ok (.getfield 44, 3) := by decide +kernel
theorem dX1_goThrough_87 : decode cX1_goThrough 87 = .ok (.bipush (-2), 2) := by decide +kernel
theorem dX1_goThrough_89 : decode cX1_goThrough 89 = .ok (.if_icmp .ne 8, 3) := by decide +kernel
theorem dX1_goThrough_92 : decode cX1_goThrough 92 = .ok (.aload_n 0, 1) := by decide +kernel
theorem dX1_goThrough_93 : decode cX1_goThrough 93 = .ok (.iload_n 1, 1) := by decide +kernel
theorem dX1_goThrough_94 : decode cX1_goThrough 94 = .ok (.invokevirtual 119, 3) := by decide +kernel
theorem dX1_goThrough_97 : decode cX1_goThrough 97 = .ok (.aload_n 0, 1) := by decide +kernel
theorem dX1_goThrough_98 : decode cX1_goThrough 98 = .ok (.getfield 44, 3) := by decide +kernel
theorem dX1_goThrough_101 : decode cX1_goThrough 101 = .ok (.iload_n 2, 1) := by decide +kernel
theorem dX1_goThrough_102 : decode cX1_goThrough 102 = .ok (.if_icmp .eq 8, 3) := by decide +kernel
theorem dX1_goThrough_105 : decode cX1_goThrough 105 = .ok (.aload_n 0, 1) := by decide +kernel
theorem dX1_goThrough_106 : decode cX1_goThrough 106 = .ok (.iload_n 1, 1) := by decide +kernel
theorem dX1_goThrough_107 : decode cX1_goThrough 107 = .ok (.putfield 47, 3) := by decide +kernel
theorem dX1_goThrough_110 : decode cX1_goThrough 110 = .ok (.aload_n 0, 1) := by decide +kernel
theorem dX1_goThrough_111 : decode cX1_goThrough 111 = .ok (.iload_n 1, 1) := by decide +kernel
theorem dX1_goThrough_112 : decode cX1_goThrough 112 = .ok (.invokevirtual 122, 3) := by decide +kernel
theorem dX1_goThrough_115 : decode cX1_goThrough 115 = .ok (.return_, 1) := by decide +kernel
theorem dX1_note_0 : decode cX1_note 0 = .ok (.aload_n 0, 1) := by decide +kernel
theorem dX1_note_1 : decode cX1_note 1 = .ok (.getfield 27, 3) := by decide +kernel
theorem dX1_note_4 : decode cX1_note 4 = .ok (.sipush 200, 3) := by decide +kernel
theorem dX1_note_7 : decode cX1_note 7 = .ok (.if_icmp .lt 4, 3) := by decide +kernel
theorem dX1_note_10 : decode cX1_note 10 = .ok (.return_, 1) := by decide +kernel
theorem dX1_note_11 : decode cX1_note 11 = .ok (.aload_n 0, 1) := by decide +kernel
theorem dX1_note_12 : decode cX1_note 12 = .ok (.getfield 15, 3) := by decide +kernel
theorem dX1_note_15 : decode cX1_note 15 = .ok (.aload_n 0, 1) := by decide +kernel
theorem dX1_note_16 : decode cX1_note 16 = .ok (.getfield 27, 3) := by decide +kernel
theorem dX1_note_19 : decode cX1_note 19 = .ok (.iload_n 1, 1) := by decide +kernel
theorem dX1_note_20 : decode cX1_note 20 = .ok (.iastore, 1) := by decide +kernel
theorem dX1_note_21 : decode cX1_note 21 = .ok (.aload_n 0, 1) := by decide +kernel
theorem dX1_note_22 : decode cX1_note 22 = .ok (.getfield 18, 3) := by decide +kernel
theorem dX1_note_25 : decode cX1_note 25 = .ok (.aload_n 0, 1) := by decide +kernel
theorem dX1_note_26 : decode cX1_note 26 = .ok (.getfield 27, 3) := by decide +kernel
theorem dX1_note_29 : decode cX1_note 29 = .ok (.aload_n 0, 1) := by decide +kernel
theorem dX1_note_30 : decode cX1_note 30 = .ok (.getfield 44, 3) := by decide +kernel
theorem dX1_note_33 : decode cX1_note 33 = .ok (.iastore, 1) := by decide +kernel
theorem dX1_note_34 : decode cX1_note 34 = .ok (.aload_n 0, 1) := by decide +kernel
theorem dX1_note_35 : decode cX1_note 35 = .ok (.getfield 21, 3) := by decide +kernel
theorem dX1_note_38 : decode cX1_note 38 = .ok (.aload_n 0, 1) := by decide +kernel
theorem dX1_note_39 : decode cX1_note 39 = .ok (.getfield 27, 3) := by decide +kernel
theorem dX1_note_42 : decode cX1_note 42 = .ok (.aload_n 0, 1) := by decide +kernel
theorem dX1_note_43 : decode cX1_note 43 = .ok (.getfield 41, 3) := by decide +kernel
theorem dX1_note_46 : decode cX1_note 46 = .ok (.iastore, 1) := by decide +kernel
theorem dX1_note_47 : decode cX1_note 47 = .ok (.aload_n 0, 1) := by decide +kernel
theorem dX1_note_48 : decode cX1_note 48 = .ok (.getfield 24, 3) := by decide +kernel
theorem dX1_note_51 : decode cX1_note 51 = .ok (.aload_n 0, 1) := by decide +kernel
theorem dX1_note_52 : decode cX1_note 52 = .ok (.getfield 27, 3) := by decide +kernel
theorem dX1_note_55 : decode cX1_note 55 = .ok (.aload_n 0, 1) := by decide +kernel
theorem dX1_note_56 : decode cX1_note 56 = .ok (.getfield 47, 3) := by decide +kernel
theorem dX1_note_59 : decode cX1_note 59 = .ok (.iastore, 1) := by decide +kernel
theorem dX1_note_60 : decode cX1_note 60 = .ok (.aload_n 0, 1) := by decide +kernel
theorem dX1_note_61 : decode cX1_note 61 = .ok (.dup, 1) := by decide +kernel
theorem dX1_note_62 : decode cX1_note 62 = .ok (.getfield 27, 3) := by decide +kernel
theorem dX1_note_65 : decode cX1_note 65 = .ok (.iconst 1, 1) := by decide +kernel
theorem dX1_note_66 : decode cX1_note 66 = .ok (.iadd, 1) := by decide +kernel
theorem dX1_note_67 : decode cX1_note 67 = .ok (.putfield 27, 3) := by decide +kernel
theorem dX1_note_70 : decode cX1_note 70 = .ok (.return_, 1) := by decide +kernel
theorem dX1_mustPass_0 : decode cX1_mustPass 0 = .ok (.aload_n 0, 1) := by decide +kernel
theorem dX1_mustPass_1 : decode cX1_mustPass 1 = .ok (.getfield 44, 3) := by decide +kernel
theorem dX1_mustPass_4 : decode cX1_mustPass 4 = .ok (.ifCond .lt 30, 3) := by decide +kernel
theorem dX1_mustPass_7 : decode cX1_mustPass 7 = .ok (.aload_n 0, 1) := by decide +kernel
theorem dX1_mustPass_8 : decode cX1_mustPass 8 = .ok (.getfield 57, 3) := by decide +kernel
theorem dX1_mustPass_11 : decode cX1_mustPass 11 = .ok (.aload_n 0, 1) := by decide +kernel
theorem dX1_mustPass_12 : decode cX1_mustPass 12 = .ok (.getfield 44, 3) := by decide +kernel
theorem dX1_mustPass_15 : decode cX1_mustPass 15 = .ok (.iload_n 1, 1) := by decide +kernel
theorem dX1_mustPass_16 : decode cX1_mustPass 16 = .ok (.invokevirtual 125, 3) := by decide +kernel
theorem dX1_mustPass_19 : decode cX1_mustPass 19 = .ok (.ifCond .eq 15, 3) := by decide +kernel
theorem dX1_mustPass_22 : decode cX1_mustPass 22 = .ok (.aload_n 0, 1) := by decide +kernel
theorem dX1_mustPass_23 : decode cX1_mustPass 23 = .ok (.aload_n 0, 1) := by decide +kernel
theorem dX1_mustPass_24 : decode cX1_mustPass 24 = .ok (.getfield 44, 3) := by decide +kernel
theorem dX1_mustPass_27 : decode cX1_mustPass 27 = .ok (.iload_n 1, 1) := by decide +kernel
theorem dX1_mustPass_28 : decode cX1_mustPass 28 = .ok (.invokevirtual 131, 3) := by decide +kernel
theorem dX1_mustPass_31 : decode cX1_mustPass 31 = .ok (.ifCond .eq 7, 3) := by decide +kernel
theorem dX1_mustPass_34 : decode cX1_mustPass 34 = .ok (.iconst 1, 1) := by decide +kernel
theorem dX1_mustPass_35 : decode cX1_mustPass 35 = .ok (.goto 4, 3) := by decide +kernel
theorem dX1_mustPass_38 : decode cX1_mustPass 38 = .ok (.iconst 0, 1) := by decide +kernel
theorem dX1_mustPass_39 : decode cX1_mustPass 39 = .ok (.ireturn, 1) := by decide +kernel
theorem dX1_hasYielded_0 : decode cX1_hasYielded 0 = .ok (.iload_n 1, 1) := by decide +kernel
theorem dX1_hasYielded_1 : decode cX1_hasYielded 1 = .ok (.invokestatic 97, 3) := by decide +kernel
theorem dX1_hasYielded_4 : decode cX1_hasYielded 4 = .ok (.ifCond .eq 27, 3) := by decide +kernel
theorem dX1_hasYielded_7 : decode cX1_hasYielded 7 = .ok (.aload_n 0, 1) := by decide +kernel
theorem dX1_hasYielded_8 : decode cX1_hasYielded 8 = .ok (.getfield 9, 3) := by decide +kernel
theorem dX1_hasYielded_11 : decode cX1_hasYielded 11 = .ok (.iload_n 1, 1) := by decide +kernel
theorem dX1_hasYielded_12 : decode cX1_hasYielded 12 = .ok (.iaload, 1) := by decide +kernel
theorem dX1_hasYielded_13 : decode cX1_hasYielded 13 = .ok (.iconst (-1), 1) := by decide +kernel
theorem dX1_hasYielded_14 : decode cX1_hasYielded 14 = .ok (.if_icmp .eq 17, 3) := by decide +kernel
theorem dX1_hasYielded_17 : decode cX1_hasYielded 17 = .ok (.aload_n 0, 1) := by decide +kernel
theorem dX1_hasYielded_18 : decode cX1_hasYielded 18 = .ok (.getfield 9, 3) := by decide +kernel
theorem dX1_hasYielded_21 : decode cX1_hasYielded 21 = .ok (.iload_n 1, 1) := by decide +kernel
theorem dX1_hasYielded_22 : decode cX1_hasYielded 22 = .ok (.iaload, 1) := by decide +kernel
theorem dX1_hasYielded_23 : decode cX1_hasYielded 23 = .ok (.iload_n 2, 1) := by decide +kernel
theorem dX1_hasYielded_24 : decode cX1_hasYielded 24 = .ok (.if_icmp .gt 7, 3) := by decide +kernel
theorem dX1_hasYielded_27 : decode cX1_hasYielded 27 = .ok (.iconst 1, 1) := by decide +kernel
theorem dX1_hasYielded_28 : decode cX1_hasYielded 28 = .ok (.goto 4, 3) := by decide +kernel
theorem dX1_hasYielded_31 : decode cX1_hasYielded 31 = .ok (.iconst 0, 1) := by decide +kernel
theorem dX1_hasYielded_32 : decode cX1_hasYielded 32 = .ok (.ireturn, 1) := by decide +kernel
theorem dX1_passOn_0 : decode cX1_passOn 0 = .ok (.aload_n 0, 1) := by decide +kernel
theorem dX1_passOn_1 : decode cX1_passOn 1 = .ok (.getfield 65, 3) := by decide +kernel
theorem dX1_passOn_4 : decode cX1_passOn 4 = .ok (.aload_n 0, 1) := by decide +kernel
theorem dX1_passOn_5 : decode cX1_passOn 5 = .ok (.getfield 35, 3) := by decide +kernel
theorem dX1_passOn_8 : decode cX1_passOn 8 = .ok (.aload_n 0, 1) := by decide +kernel
theorem dX1_passOn_9 : decode cX1_passOn 9 = .ok (.getfield 41, 3) := by decide +kernel
theorem dX1_passOn_12 : decode cX1_passOn 12 = .ok (.iload_n 1, 1) := by decide +kernel
theorem dX1_passOn_13 : decode cX1_passOn 13 = .ok (.aload_n 0, 1) := by decide +kernel
theorem dX1_passOn_14 : decode cX1_passOn 14 = .ok (.getfield 9, 3) := by decide +kernel
theorem dX1_passOn_17 : decode cX1_passOn 17 = .ok (.invokevirtual 134, 3) := by decide +kernel
theorem dX1_passOn_20 : decode cX1_passOn 20 = .ok (.aload_n 0, 1) := by decide +kernel
theorem dX1_passOn_21 : decode cX1_passOn 21 = .ok (.getfield 65, 3) := by decide +kernel
theorem dX1_passOn_24 : decode cX1_passOn 24 = .ok (.invokevirtual 140, 3) := by decide +kernel
theorem dX1_passOn_27 : decode cX1_passOn 27 = .ok (.ifCond .ne 42, 3) := by decide +kernel
theorem dX1_passOn_30 : decode cX1_passOn 30 = .ok (.aload_n 0, 1) := by decide +kernel
theorem dX1_passOn_31 : decode cX1_passOn 31 = .ok (.getfield 41, 3) := by decide +kernel
theorem dX1_passOn_34 : decode cX1_passOn 34 = .ok (.aload_n 0, 1) := by decide +kernel
theorem dX1_passOn_35 : decode cX1_passOn 35 = .ok (.getfield 38, 3) := by decide +kernel
theorem dX1_passOn_38 : decode cX1_passOn 38 = .ok (.if_icmp .eq 31, 3) := by decide +kernel
theorem dX1_passOn_41 : decode cX1_passOn 41 = .ok (.aload_n 0, 1) := by decide +kernel
theorem dX1_passOn_42 : decode cX1_passOn 42 = .ok (.aload_n 0, 1) := by decide +kernel
theorem dX1_passOn_43 : decode cX1_passOn 43 = .ok (.getfield 38, 3) := by decide +kernel
theorem dX1_passOn_46 : decode cX1_passOn 46 = .ok (.putfield 41, 3) := by decide +kernel
theorem dX1_passOn_49 : decode cX1_passOn 49 = .ok (.aload_n 0, 1) := by decide +kernel
theorem dX1_passOn_50 : decode cX1_passOn 50 = .ok (.getfield 65, 3) := by decide +kernel
theorem dX1_passOn_53 : decode cX1_passOn 53 = .ok (.aload_n 0, 1) := by decide +kernel
theorem dX1_passOn_54 : decode cX1_passOn 54 = .ok (.getfield 35, 3) := by decide +kernel
theorem dX1_passOn_57 : decode cX1_passOn 57 = .ok (.aload_n 0, 1) := by decide +kernel
theorem dX1_passOn_58 : decode cX1_passOn 58 = .ok (.getfield 41, 3) := by decide +kernel
theorem dX1_passOn_61 : decode cX1_passOn 61 = .ok (.iload_n 1, 1) := by decide +kernel
theorem dX1_passOn_62 : decode cX1_passOn 62 = .ok (.aload_n 0, 1) := by decide +kernel
theorem dX1_passOn_63 : decode cX1_passOn 63 = .ok (.getfield 9, 3) := by decide +kernel
theorem dX1_passOn_66 : decode cX1_passOn 66 = .ok (.invokevirtual 134, 3) := by decide +kernel
theorem dX1_passOn_69 : decode cX1_passOn 69 = .ok (.aload_n 0, 1) := by decide +kernel
theorem dX1_passOn_70 : decode cX1_passOn 70 = .ok (.getfield 65, 3) := by decide +kernel
theorem dX1_passOn_73 : decode cX1_passOn 73 = .ok (.invokevirtual 140, 3) := by decide +kernel
theorem dX1_passOn_76 : decode cX1_passOn 76 = .ok (.ifCond .ne 11, 3) := by decide +kernel
theorem dX1_passOn_79 : decode cX1_passOn 79 = .ok (.aload_n 0, 1) := by decide +kernel
theorem dX1_passOn_80 : decode cX1_passOn 80 = .ok (.iconst (-1), 1) := by decide +kernel
theorem dX1_passOn_81 : decode cX1_passOn 81 = .ok (.putfield 44, 3) := by decide +kernel
theorem dX1_passOn_84 : decode cX1_passOn 84 = .ok (.goto 37, 3) := by decide +kernel
theorem dX1_passOn_87 : decode cX1_passOn 87 = .ok (.aload_n 0, 1) := by decide +kernel
theorem dX1_passOn_88 : decode cX1_passOn 88 = .ok (.aload_n 0, 1) := by decide +kernel
theorem dX1_passOn_89 : decode cX1_passOn 89 = .ok (.getfield 35, 3) := by decide +kernel
theorem dX1_passOn_92 : decode cX1_passOn 92 = .ok (.iconst 5, 1) := by decide +kernel
theorem dX1_passOn_93 : decode cX1_passOn 93 = .ok (.if_icmp .ne 17, 3) := by decide +kernel
theorem dX1_passOn_96 : decode cX1_passOn 96 = .ok (.aload_n 0, 1) := by decide +kernel
theorem dX1_passOn_97 : decode cX1_passOn 97 = .ok (.getfield 65, 3) := by decide +kernel
theorem dX1_passOn_100 : decode cX1_passOn 100 = .ok (.aload_n 0, 1) := by decide +kernel
theorem dX1_passOn_101 : decode cX1_passOn 101 = .ok (.getfield 41, 3) := by decide +kernel
theorem dX1_passOn_104 : decode cX1_passOn 104 = .ok (.invokevirtual 141, 3) := by decide +kernel
theorem dX1_passOn_107 : decode cX1_passOn 107 = .ok (.goto 11, 3) := by decide +kernel
theorem dX1_passOn_110 : decode cX1_passOn 110 = .ok (.aload_n 0, 1) := by decide +kernel
theorem dX1_passOn_111 : decode cX1_passOn 111 = .ok (.getfield 65, 3) := by decide +kernel
theorem dX1_passOn_114 : decode cX1_passOn 114 = .ok (.iconst 0, 1) := by decide +kernel
theorem dX1_passOn_115 : decode cX1_passOn 115 = .ok (.invokevirtual 145, 3) := by decide +kernel
theorem dX1_passOn_118 : decode cX1_passOn 118 = .ok (.putfield 44, 3) := by decide +kernel
theorem dX1_passOn_121 : decode cX1_passOn 121 = .ok (.return_, 1) := by decide +kernel
theorem dX1_giveToChildBornLate_0 : decode cX1_giveToChildBornLate 0 = .ok (.aload_n 0, 1) := by decide +kernel
theorem dX1_giveToChildBornLate_1 : decode cX1_giveToChildBornLate 1 = .ok (.getfield 65, 3) := by decide +kernel
theorem dX1_giveToChildBornLate_4 : decode cX1_giveToChildBornLate 4 = .ok (.aload_n 0, 1) := by decide +kernel
theorem dX1_giveToChildBornLate_5 : decode cX1_giveToChildBornLate 5 = .ok (.getfield 35, 3) := by decide +kernel
theorem dX1_giveToChildBornLate_8 : decode cX1_giveToChildBornLate 8 = .ok (.aload_n 0, 1) := by decide +kernel
theorem dX1_giveToChildBornLate_9 : decode cX1_giveToChildBornLate 9 = .ok (.getfield 41, 3) := by decide +kernel
theorem dX1_giveToChildBornLate_12 : decode cX1_giveToChildBornLate 12 = .ok (.iload_n 1, 1) := by decide +kernel
theorem dX1_giveToChildBornLate_13 : decode cX1_giveToChildBornLate 13 = .ok (.aload_n 0, 1) := by decide +kernel
theorem dX1_giveToChildBornLate_14 : decode cX1_giveToChildBornLate 14 = .ok (.getfield 9, 3) := by decide +kernel
theorem dX1_giveToChildBornLate_17 : decode cX1_giveToChildBornLate 17 = .ok (.invokevirtual 134, 3) := by decide +kernel
theorem dX1_giveToChildBornLate_20 : decode cX1_giveToChildBornLate 20 = .ok (.aload_n 0, 1) := by decide +kernel
theorem dX1_giveToChildBornLate_21 : decode cX1_giveToChildBornLate 21 = .ok (.getfield 65, 3) := by decide +kernel
theorem dX1_giveToChildBornLate_24 : decode cX1_giveToChildBornLate 24 = .ok (.aload_n 0, 1) := by decide +kernel
theorem dX1_giveToChildBornLate_25 : decode cX1_giveToChildBornLate 25 = .ok (.getfield 44, 3) := by decide +kernel
theorem dX1_giveToChildBornLate_28 : decode cX1_giveToChildBornLate 28 = .ok (.invokevirtual 148, 3) := by decide +kernel
theorem dX1_giveToChildBornLate_31 : decode cX1_giveToChildBornLate 31 = .ok (.istore_n 2, 1) := by decide +kernel
theorem dX1_giveToChildBornLate_32 : decode cX1_giveToChildBornLate 32 = .ok (.iconst 0, 1) := by decide +kernel
theorem dX1_giveToChildBornLate_33 : decode cX1_giveToChildBornLate 33 = .ok (.istore_n 3, 1) := by decide +kernel
theorem dX1_giveToChildBornLate_34 : decode cX1_giveToChildBornLate 34 = .ok (.iload_n 3, 1) := by decide +kernel
theorem dX1_giveToChildBornLate_35 : decode cX1_giveToChildBornLate 35 = .ok (.iload_n 2, 1) := by decide +kernel
theorem dX1_giveToChildBornLate_36 : decode cX1_giveToChildBornLate 36 = .ok (.if_icmp .ge 93, 3) := by decide +kernel
theorem dX1_giveToChildBornLate_39 : decode cX1_giveToChildBornLate 39 = .ok (.aload_n 0, 1) := by decide +kernel
theorem dX1_giveToChildBornLate_40 : decode cX1_giveToChildBornLate 40 = .ok (.getfield 65, 3) := by decide +kernel
theorem dX1_giveToChildBornLate_43 : decode cX1_giveToChildBornLate 43 = .ok (.iload_n 3, 1) := by decide +kernel
theorem dX1_giveToChildBornLate_44 : decode cX1_giveToChildBornLate 44 = .ok (.invokevirtual 145, 3) := by decide +kernel
theorem dX1_giveToChildBornLate_47 : decode cX1_giveToChildBornLate 47 = .ok (.istore 4, 2) := by decide +kernel
theorem dX1_giveToChildBornLate_49 : decode cX1_giveToChildBornLate 49 = .ok (.aload_n 0, 1) := by decide +kernel
theorem dX1_giveToChildBornLate_50 : decode cX1_giveToChildBornLate 50 = .ok (.getfield 57, 3) := by decide +kernel
theorem dX1_giveToChildBornLate_53 : decode cX1_giveToChildBornLate 53 = .ok (.iload 4, 2) := by decide +kernel
theorem dX1_giveToChildBornLate_55 : decode cX1_giveToChildBornLate 55 = .ok (.invokevirtual 151, 3) := by decide +kernel
theorem dX1_giveToChildBornLate_58 : decode cX1_giveToChildBornLate 58 = .ok (.iload_n 1, 1) := by decide +kernel
theorem dX1_giveToChildBornLate_59 : decode cX1_giveToChildBornLate 59 = .ok (.if_icmp .ne 64, 3) := by decide +kernel
theorem dX1_giveToChildBornLate_62 : decode cX1_giveToChildBornLate 62 = .ok (.aload_n 0, 1) := by decide +kernel
theorem dX1_giveToChildBornLate_63 : decode cX1_giveToChildBornLate 63 = .ok (.getfield 61, 3) := by decide +kernel
theorem dX1_giveToChildBornLate_66 : decode cX1_giveToChildBornLate 66 = .ok (.iload 4, 2) := by decide +kernel
theorem dX1_giveToChildBornLate_68 : decode cX1_giveToChildBornLate 68 = .ok (.invokevirtual 154, 3) := by decide +kernel
theorem dX1_giveToChildBornLate_71 : decode cX1_giveToChildBornLate 71 = .ok (.ifCond .ne 6, 3) := by decide +kernel
theorem dX1_giveToChildBornLate_74 : decode cX1_giveToChildBornLate 74 = .ok (.goto 49, 3) := by decide +kernel
theorem dX1_giveToChildBornLate_77 : decode cX1_giveToChildBornLate 77 = .ok (.aload_n 0, 1) := by decide +kernel
theorem dX1_giveToChildBornLate_78 : decode cX1_giveToChildBornLate 78 = .ok (.getfield 57, 3) := by decide +kernel
theorem dX1_giveToChildBornLate_81 : decode cX1_giveToChildBornLate 81 = .ok (.aload_n 0, 1) := by decide +kernel
theorem dX1_giveToChildBornLate_82 : decode cX1_giveToChildBornLate 82 = .ok (.getfield 57, 3) := by decide +kernel
theorem dX1_giveToChildBornLate_85 : decode cX1_giveToChildBornLate 85 = .ok (.iload 4, 2) := by decide +kernel
theorem dX1_giveToChildBornLate_87 : decode cX1_giveToChildBornLate 87 = .ok (.invokevirtual 159, 3) := by decide +kernel
theorem dX1_giveToChildBornLate_90 : decode cX1_giveToChildBornLate 90 = .ok (.invokevirtual 162, 3) := by decide +kernel
theorem dX1_giveToChildBornLate_93 : decode cX1_giveToChildBornLate 93 = .ok (.istore 5, 2) := by decide +kernel
theorem dX1_giveToChildBornLate_95 : decode cX1_giveToChildBornLate 95 = .ok (.iload 5, 2) := by decide +kernel
theorem dX1_giveToChildBornLate_97 : decode cX1_giveToChildBornLate 97 = .ok (.iconst (-1), 1) := by decide +kernel
theorem dX1_giveToChildBornLate_98 : decode cX1_giveToChildBornLate 98 = .ok (.if_icmp .eq 25, 3) := by decide +kernel
theorem dX1_giveToChildBornLate_101 : decode cX1_giveToChildBornLate 101 = .ok (.iload 5, 2) := by decide +kernel
theorem dX1_giveToChildBornLate_103 : decode cX1_giveToChildBornLate 103 = .ok (.iload_n 1, 1) := by decide +kernel
theorem dX1_giveToChildBornLate_104 : decode cX1_giveToChildBornLate 104 = .ok (.if_icmp .ge 19, 3) := by decide +kernel
theorem dX1_giveToChildBornLate_107 : decode cX1_giveToChildBornLate 107 = .ok (.aload_n 0, 1) := by decide +kernel
theorem dX1_giveToChildBornLate_108 : decode cX1_giveToChildBornLate 108 = .ok (.getfield 47, 3) := by decide +kernel
theorem dX1_giveToChildBornLate_111 : decode cX1_giveToChildBornLate 111 = .ok (.iload 5, 2) := by decide +kernel
theorem dX1_giveToChildBornLate_113 : decode cX1_giveToChildBornLate 113 = .ok (.if_icmp .lt 10, 3) := by decide +kernel
theorem dX1_giveToChildBornLate_116 : decode cX1_giveToChildBornLate 116 = .ok (.aload_n 0, 1) := by decide +kernel
theorem dX1_giveToChildBornLate_117 : decode cX1_giveToChildBornLate 117 = .ok (.iload 4, 2) := by decide +kernel
theorem dX1_giveToChildBornLate_119 : decode cX1_giveToChildBornLate 119 = .ok (.putfield 44, 3) := by decide +kernel
theorem dX1_giveToChildBornLate_122 : decode cX1_giveToChildBornLate 122 = .ok (.return_, 1) := by decide +kernel
theorem dX1_giveToChildBornLate_123 : decode cX1_giveToChildBornLate 123 = .ok (.iinc 3 1, 3) := by decide +kernel
theorem dX1_giveToChildBornLate_126 : decode cX1_giveToChildBornLate 126 = .ok (.goto (-92), 3) := by decide +kernel
theorem dX1_giveToChildBornLate_129 : decode cX1_giveToChildBornLate 129 = .ok (.return_, 1) := by decide +kernel
theorem dX1_obeyCall_0 : decode cX1_obeyCall 0 = .ok (.iconst 0, 1) := by decide +kernel
theorem dX1_obeyCall_1 : decode cX1_obeyCall 1 = .ok (.istore_n 2, 1) := by decide +kernel
theorem dX1_obeyCall_2 : decode cX1_obeyCall 2 = .ok (.iload_n 2, 1) := by decide +kernel
theorem dX1_obeyCall_3 : decode cX1_obeyCall 3 = .ok (.aload_n 0, 1) := by decide +kernel
theorem dX1_obeyCall_4 : decode cX1_obeyCall 4 = .ok (.getfield 53, 3) := by decide +kernel
theorem dX1_obeyCall_7 : decode cX1_obeyCall 7 = .ok (.invokevirtual 87, 3) := by decide +kernel
theorem dX1_obeyCall_10 : decode cX1_obeyCall 10 = .ok (.if_icmp .ge 87, 3) := by decide +kernel
theorem dX1_obeyCall_13 : decode cX1_obeyCall 13 = .ok (.aload_n 0, 1) := by decide +kernel
theorem dX1_obeyCall_14 : decode cX1_obeyCall 14 = .ok (.getfield 53, 3) := by decide +kernel
theorem dX1_obeyCall_17 : decode cX1_obeyCall 17 = .ok (.iload_n 2, 1) := by decide +kernel
theorem dX1_obeyCall_18 : decode cX1_obeyCall 18 = .ok (.invokevirtual 90, 3) := by decide +kernel
theorem dX1_obeyCall_21 : decode cX1_obeyCall 21 = .ok (.astore_n 3, 1) := by decide +kernel
theorem dX1_obeyCall_22 : decode cX1_obeyCall 22 = .ok (.aload_n 3, 1) := by decide +kernel
theorem dX1_obeyCall_23 : decode cX1_obeyCall 23 = .ok (.ifnull 68, 3) := by decide +kernel
theorem dX1_obeyCall_26 : decode cX1_obeyCall 26 = .ok (.aload_n 3, 1) := by decide +kernel
theorem dX1_obeyCall_27 : decode cX1_obeyCall 27 = .ok (.getfield 93, 3) := by decide +kernel
theorem dX1_obeyCall_30 : decode cX1_obeyCall 30 = .ok (.bipush 6, 2) := by decide +kernel
theorem dX1_obeyCall_32 : decode cX1_obeyCall 32 = .ok (.if_icmp .ne 59, 3) := by decide +kernel
theorem dX1_obeyCall_35 : decode cX1_obeyCall 35 = .ok (.aload_n 3, 1) := by decide +kernel
theorem dX1_obeyCall_36 : decode cX1_obeyCall 36 = .ok (.getfield 96, 3) := by decide +kernel
theorem dX1_obeyCall_39 : decode cX1_obeyCall 39 = .ok (.aload_n 0, 1) := by decide +kernel
theorem dX1_obeyCall_40 : decode cX1_obeyCall 40 = .ok (.getfield 50, 3) := by decide +kernel
theorem dX1_obeyCall_43 : decode cX1_obeyCall 43 = .ok (.if_icmp .ne 48, 3) := by decide +kernel
theorem dX1_obeyCall_46 : decode cX1_obeyCall 46 = .ok (.aload_n 3, 1) := by decide +kernel
theorem dX1_obeyCall_47 : decode cX1_obeyCall 47 = .ok (.getfield 81, 3) := by decide +kernel
theorem dX1_obeyCall_50 : decode cX1_obeyCall 50 = .ok (.iload_n 1, 1) := by decide +kernel
theorem dX1_obeyCall_51 : decode cX1_obeyCall 51 = .ok (.if_icmp .eq 6, 3) := by decide +kernel
theorem dX1_obeyCall_54 : decode cX1_obeyCall 54 = .ok (.goto 37, 3) := by decide +kernel
theorem dX1_obeyCall_57 : decode cX1_obeyCall 57 = .ok (.aload_n 0, 1) := by decide +kernel
theorem dX1_obeyCall_58 : decode cX1_obeyCall 58 = .ok (.getfield 65, 3) := by decide +kernel
theorem dX1_obeyCall_61 : decode cX1_obeyCall 61 = .ok (.aload_n 3, 1) := by decide +kernel
theorem dX1_obeyCall_62 : decode cX1_obeyCall 62 = .ok (.getfield 78, 3) := by decide +kernel
theorem dX1_obeyCall_65 : decode cX1_obeyCall 65 = .ok (.invokevirtual 165, 3) := by decide +kernel
theorem dX1_obeyCall_68 : decode cX1_obeyCall 68 = .ok (.ifCond .ne 6, 3) := by decide +kernel
theorem dX1_obeyCall_71 : decode cX1_obeyCall 71 = .ok (.goto 20, 3) := by decide +kernel
theorem dX1_obeyCall_74 : decode cX1_obeyCall 74 = .ok (.aload_n 0, 1) := by decide +kernel
theorem dX1_obeyCall_75 : decode cX1_obeyCall 75 = .ok (.aload_n 3, 1) := by decide +kernel
theorem dX1_obeyCall_76 : decode cX1_obeyCall 76 = .ok (.getfield 78, 3) := by decide +kernel
theorem dX1_obeyCall_79 : decode cX1_obeyCall 79 = .ok (.putfield 44, 3) := by decide +kernel
theorem dX1_obeyCall_82 : decode cX1_obeyCall 82 = .ok (.aload_n 0, 1) := by decide +kernel
theorem dX1_obeyCall_83 : decode cX1_obeyCall 83 = .ok (.aload_n 3, 1) := by decide +kernel
theorem dX1_obeyCall_84 : decode cX1_obeyCall 84 = .ok (.getfield 78, 3) := by decide +kernel
theorem dX1_obeyCall_87 : decode cX1_obeyCall 87 = .ok (.putfield 41, 3) := by decide +kernel
theorem dX1_obeyCall_90 : decode cX1_obeyCall 90 = .ok (.return_, 1) := by decide +kernel
theorem dX1_obeyCall_91 : decode cX1_obeyCall 91 = .ok (.iinc 2 1, 3) := by decide +kernel
theorem dX1_obeyCall_94 : decode cX1_obeyCall 94 = .ok (.goto (-92), 3) := by decide +kernel
theorem dX1_obeyCall_97 : decode cX1_obeyCall 97 = .ok (.return_, 1) := by decide +kernel
theorem dX1_stepOn_0 : decode cX1_stepOn 0 = .ok (.iconst (-1), 1) := by decide +kernel
theorem dX1_stepOn_1 : decode cX1_stepOn 1 = .ok (.istore_n 2, 1) := by decide +kernel
theorem dX1_stepOn_2 : decode cX1_stepOn 2 = .ok (.iconst 0, 1) := by decide +kernel
theorem dX1_stepOn_3 : decode cX1_stepOn 3 = .ok (.istore_n 3, 1) := by decide +kernel
theorem dX1_stepOn_4 : decode cX1_stepOn 4 = .ok (.iload_n 3, 1) := by decide +kernel
theorem dX1_stepOn_5 : decode cX1_stepOn 5 = .ok (.aload_n 0, 1) := by decide +kernel
theorem dX1_stepOn_6 : decode cX1_stepOn 6 = .ok (.getfield 27, 3) := by decide +kernel
theorem dX1_stepOn_9 : decode cX1_stepOn 9 = .ok (.if_icmp .ge 21, 3) := by decide +kernel
theorem dX1_stepOn_12 : decode cX1_stepOn 12 = .ok (.aload_n 0, 1) := by decide +kernel
theorem dX1_stepOn_13 : decode cX1_stepOn 13 = .ok (.getfield 15, 3) := by decide +kernel
theorem dX1_stepOn_16 : decode cX1_stepOn 16 = .ok (.iload_n 3, 1) := by decide +kernel
theorem dX1_stepOn_17 : decode cX1_stepOn 17 = .ok (.iaload, 1) := by decide +kernel
theorem dX1_stepOn_18 : decode cX1_stepOn 18 = .ok (.iload_n 1, 1) := by decide +kernel
theorem dX1_stepOn_19 : decode cX1_stepOn 19 = .ok (.if_icmp .gt 5, 3) := by decide +kernel
theorem dX1_stepOn_22 : decode cX1_stepOn 22 = .ok (.iload_n 3, 1) := by decide +kernel
theorem dX1_stepOn_23 : decode cX1_stepOn 23 = .ok (.istore_n 2, 1) := by decide +kernel
theorem dX1_stepOn_24 : decode cX1_stepOn 24 = .ok (.iinc 3 1, 3) := by decide +kernel
theorem dX1_stepOn_27 : decode cX1_stepOn 27 = .ok (.goto (-23), 3) := by decide +kernel
theorem dX1_stepOn_30 : decode cX1_stepOn 30 = .ok (.iload_n 2, 1) := by decide +kernel
theorem dX1_stepOn_31 : decode cX1_stepOn 31 = .ok (.ireturn, 1) := by decide +kernel
theorem dX1_isStep_0 : decode cX1_isStep 0 = .ok (.iload_n 1, 1) := by decide +kernel
theorem dX1_isStep_1 : decode cX1_isStep 1 = .ok (.ifCond .lt 15, 3) := by decide +kernel
theorem dX1_isStep_4 : decode cX1_isStep 4 = .ok (.iload_n 1, 1) := by decide +kernel
theorem dX1_isStep_5 : decode cX1_isStep 5 = .ok (.aload_n 0, 1) := by decide +kernel
theorem dX1_isStep_6 : decode cX1_isStep 6 = .ok (.getfield 27, 3) := by decide +kernel
theorem dX1_isStep_9 : decode cX1_isStep 9 = .ok (.if_icmp .ge 7, 3) := by decide +kernel
theorem dX1_isStep_12 : decode cX1_isStep 12 = .ok (.iconst 1, 1) := by decide +kernel
theorem dX1_isStep_13 : decode cX1_isStep 13 = .ok (.goto 4, 3) := by decide +kernel
theorem dX1_isStep_16 : decode cX1_isStep 16 = .ok (.iconst 0, 1) := by decide +kernel
theorem dX1_isStep_17 : decode cX1_isStep 17 = .ok (.ireturn, 1) := by decide +kernel
theorem dX1_state_0 : decode cX1_state 0 = .ok (.aload_n 0, 1) := by decide +kernel
theorem dX1_state_1 : decode cX1_state 1 = .ok (.iload_n 1, 1) := by decide +kernel
theorem dX1_state_2 : decode cX1_state 2 = .ok (.invokevirtual 168, 3) := by decide +kernel
theorem dX1_state_5 : decode cX1_state 5 = .ok (.ifCond .eq 12, 3) := by decide +kernel
theorem dX1_state_8 : decode cX1_state 8 = .ok (.aload_n 0, 1) := by decide +kernel
theorem dX1_state_9 : decode cX1_state 9 = .ok (.getfield 18, 3) := by decide +kernel
theorem dX1_state_12 : decode cX1_state 12 = .ok (.iload_n 1, 1) := by decide +kernel
theorem dX1_state_13 : decode cX1_state 13 = .ok (.iaload, 1) := by decide +kernel
theorem dX1_state_14 : decode cX1_state 14 = .ok (.goto 5, 3) := by decide +kernel
theorem dX1_state_17 : decode cX1_state 17 = .ok (.bipush (-4), 2) := by decide +kernel
theorem dX1_state_19 : decode cX1_state 19 = .ok (.ireturn, 1) := by decide +kernel
theorem dX1_firstDay_0 : decode cX1_firstDay 0 = .ok (.aload_n 0, 1) := by decide +kernel
theorem dX1_firstDay_1 : decode cX1_firstDay 1 = .ok (.iload_n 1, 1) := by decide +kernel
theorem dX1_firstDay_2 : decode cX1_firstDay 2 = .ok (.invokevirtual 168, 3) := by decide +kernel
theorem dX1_firstDay_5 : decode cX1_firstDay 5 = .ok (.ifCond .eq 12, 3) := by decide +kernel
theorem dX1_firstDay_8 : decode cX1_firstDay 8 = .ok (.aload_n 0, 1) := by decide +kernel
theorem dX1_firstDay_9 : decode cX1_firstDay 9 = .ok (.getfield 24, 3) := by decide +kernel
theorem dX1_firstDay_12 : decode cX1_firstDay 12 = .ok (.iload_n 1, 1) := by decide +kernel
theorem dX1_firstDay_13 : decode cX1_firstDay 13 = .ok (.iaload, 1) := by decide +kernel
theorem dX1_firstDay_14 : decode cX1_firstDay 14 = .ok (.goto 4, 3) := by decide +kernel
theorem dX1_firstDay_17 : decode cX1_firstDay 17 = .ok (.iconst (-1), 1) := by decide +kernel
theorem dX1_firstDay_18 : decode cX1_firstDay 18 = .ok (.ireturn, 1) := by decide +kernel
theorem dX1_countTenures_0 : decode cX1_countTenures 0 = .ok (.iconst 0, 1) := by decide +kernel
theorem dX1_countTenures_1 : decode cX1_countTenures 1 = .ok (.istore_n 1, 1) := by decide +kernel
theorem dX1_countTenures_2 : decode cX1_countTenures 2 = .ok (.iconst 0, 1) := by decide +kernel
theorem dX1_countTenures_3 : decode cX1_countTenures 3 = .ok (.istore_n 2, 1) := by decide +kernel
theorem dX1_countTenures_4 : decode cX1_countTenures 4 = .ok (.iload_n 2, 1) := by decide +kernel
theorem dX1_countTenures_5 : decode cX1_countTenures 5 = .ok (.aload_n 0, 1) := by decide +kernel
theorem dX1_countTenures_6 : decode cX1_countTenures 6 = .ok (.getfield 27, 3) := by decide +kernel
theorem dX1_countTenures_9 : decode cX1_countTenures 9 = .ok (.if_icmp .ge 27, 3) := by decide +kernel
theorem dX1_countTenures_12 : decode cX1_countTenures 12 = .ok (.aload_n 0, 1) := by decide +kernel
theorem dX1_countTenures_13 : decode cX1_countTenures 13 = .ok (.getfield 24, 3) := by decide +kernel
theorem dX1_countTenures_16 : decode cX1_countTenures 16 = .ok (.iload_n 2, 1) := by decide +kernel
theorem dX1_countTenures_17 : decode cX1_countTenures 17 = .ok (.iaload, 1) := by decide +kernel
theorem dX1_countTenures_18 : decode cX1_countTenures 18 = .ok (.aload_n 0, 1) := by decide +kernel
theorem dX1_countTenures_19 : decode cX1_countTenures 19 = .ok (.getfield 15, 3) := by decide +kernel
theorem dX1_countTenures_22 : decode cX1_countTenures 22 = .ok (.iload_n 2, 1) := by decide +kernel
theorem dX1_countTenures_23 : decode cX1_countTenures 23 = .ok (.iaload, 1) := by decide +kernel
theorem dX1_countTenures_24 : decode cX1_countTenures 24 = .ok (.if_icmp .ne 6, 3) := by decide +kernel
theorem dX1_countTenures_27 : decode cX1_countTenures 27 = .ok (.iinc 1 1, 3) := by decide +kernel
theorem dX1_countTenures_30 : decode cX1_countTenures 30 = .ok (.iinc 2 1, 3) := by decide +kernel
theorem dX1_countTenures_33 : decode cX1_countTenures 33 = .ok (.goto (-29), 3) := by decide +kernel
theorem dX1_countTenures_36 : decode cX1_countTenures 36 = .ok (.iload_n 1, 1) := by decide +kernel
theorem dX1_countTenures_37 : decode cX1_countTenures 37 = .ok (.ireturn, 1) := by decide +kernel
theorem dX1_stepOfTenure_0 : decode cX1_stepOfTenure 0 = .ok (.iconst 0, 1) := by decide +kernel
theorem dX1_stepOfTenure_1 : decode cX1_stepOfTenure 1 = .ok (.istore_n 2, 1) := by decide +kernel
theorem dX1_stepOfTenure_2 : decode cX1_stepOfTenure 2 = .ok (.iconst 0, 1) := by decide +kernel
theorem dX1_stepOfTenure_3 : decode cX1_stepOfTenure 3 = .ok (.istore_n 3, 1) := by decide +kernel
theorem dX1_stepOfTenure_4 : decode cX1_stepOfTenure 4 = .ok (.iload_n 3, 1) := by decide +kernel
theorem dX1_stepOfTenure_5 : decode cX1_stepOfTenure 5 = .ok (.aload_n 0, 1) := by decide +kernel
theorem dX1_stepOfTenure_6 : decode cX1_stepOfTenure 6 = .ok (.getfield 27, 3) := by decide +kernel
theorem dX1_stepOfTenure_9 : decode cX1_stepOfTenure 9 = .ok (.if_icmp .ge 37, 3) := by decide +kernel
theorem dX1_stepOfTenure_12 : decode cX1_stepOfTenure 12 = .ok (.aload_n 0, 1) := by decide +kernel
theorem dX1_stepOfTenure_13 : decode cX1_stepOfTenure 13 = .ok (.getfield 24, 3) := by decide +kernel
theorem dX1_stepOfTenure_16 : decode cX1_stepOfTenure 16 = .ok (.iload_n 3, 1) := by decide +kernel
theorem dX1_stepOfTenure_17 : decode cX1_stepOfTenure 17 = .ok (.iaload, 1) := by decide +kernel
theorem dX1_stepOfTenure_18 : decode cX1_stepOfTenure 18 = .ok (.aload_n 0, 1) := by decide +kernel
theorem dX1_stepOfTenure_19 : decode cX1_stepOfTenure 19 = .ok (.getfield 15, 3) := by decide +kernel
theorem dX1_stepOfTenure_22 : decode cX1_stepOfTenure 22 = .ok (.iload_n 3, 1) := by decide +kernel
theorem dX1_stepOfTenure_23 : decode cX1_stepOfTenure 23 = .ok (.iaload, 1) := by decide +kernel
theorem dX1_stepOfTenure_24 : decode cX1_stepOfTenure 24 = .ok (.if_icmp .eq 6, 3) := by decide +kernel
theorem dX1_stepOfTenure_27 : decode cX1_stepOfTenure 27 = .ok (.goto 13, 3) := by decide +kernel
theorem dX1_stepOfTenure_30 : decode cX1_stepOfTenure 30 = .ok (.iload_n 2, 1) := by decide +kernel
theorem dX1_stepOfTenure_31 : decode cX1_stepOfTenure 31 = .ok (.iload_n 1, 1) := by decide +kernel
theorem dX1_stepOfTenure_32 : decode cX1_stepOfTenure 32 = .ok (.if_icmp .ne 5, 3) := by decide +kernel
theorem dX1_stepOfTenure_35 : decode cX1_stepOfTenure 35 = .ok (.iload_n 3, 1) := by decide +kernel
theorem dX1_stepOfTenure_36 : decode cX1_stepOfTenure 36 = .ok (.ireturn, 1) := by decide +kernel
theorem dX1_stepOfTenure_37 : decode cX1_stepOfTenure 37 = .ok (.iinc 2 1, 3) := by decide +kernel
theorem dX1_stepOfTenure_40 : decode cX1_stepOfTenure 40 = .ok (.iinc 3 1, 3) := by decide +kernel
theorem dX1_stepOfTenure_43 : decode cX1_stepOfTenure 43 = .ok (.goto (-39), 3) := by decide +kernel
theorem dX1_stepOfTenure_46 : decode cX1_stepOfTenure 46 = .ok (.iconst (-1), 1) := by decide +kernel
theorem dX1_stepOfTenure_47 : decode cX1_stepOfTenure 47 = .ok (.ireturn, 1) := by decide +kernel
theorem dX1_lineUpOn_0 : decode cX1_lineUpOn 0 = .ok (.aload_n 0, 1) := by decide +kernel
theorem dX1_lineUpOn_1 : decode cX1_lineUpOn 1 = .ok (.iload_n 1, 1) := by decide +kernel
theorem dX1_lineUpOn_2 : decode cX1_lineUpOn 2 = .ok (.invokevirtual 171, 3) := by decide +kernel
theorem dX1_lineUpOn_5 : decode cX1_lineUpOn 5 = .ok (.istore_n 2, 1) := by decide +kernel
theorem dX1_lineUpOn_6 : decode cX1_lineUpOn 6 = .ok (.aload_n 0, 1) := by decide +kernel
theorem dX1_lineUpOn_7 : decode cX1_lineUpOn 7 = .ok (.getfield 65, 3) := by decide +kernel
theorem dX1_lineUpOn_10 : decode cX1_lineUpOn 10 = .ok (.aload_n 0, 1) := by decide +kernel
theorem dX1_lineUpOn_11 : decode cX1_lineUpOn 11 = .ok (.getfield 35, 3) := by decide +kernel
theorem dX1_lineUpOn_14 : decode cX1_lineUpOn 14 = .ok (.aload_n 0, 1) := by decide +kernel
theorem dX1_lineUpOn_15 : decode cX1_lineUpOn 15 = .ok (.iload_n 2, 1) := by decide +kernel
theorem dX1_lineUpOn_16 : decode cX1_lineUpOn 16 = .ok (.invokevirtual 168, 3) := by decide +kernel
theorem dX1_lineUpOn_19 : decode cX1_lineUpOn 19 = .ok (.ifCond .eq 12, 3) := by decide +kernel
theorem dX1_lineUpOn_22 : decode cX1_lineUpOn 22 = .ok (.aload_n 0, 1) := by decide +kernel
theorem dX1_lineUpOn_23 : decode cX1_lineUpOn 23 = .ok (.getfield 21, 3) := by decide +kernel
theorem dX1_lineUpOn_26 : decode cX1_lineUpOn 26 = .ok (.iload_n 2, 1) := by decide +kernel
theorem dX1_lineUpOn_27 : decode cX1_lineUpOn 27 = .ok (.iaload, 1) := by decide +kernel
theorem dX1_lineUpOn_28 : decode cX1_lineUpOn 28 = .ok (.goto 7, 3) := by decide +kernel
theorem dX1_lineUpOn_31 : decode cX1_lineUpOn 31 = .ok (.aload_n 0, 1) := by decide +kernel
theorem dX1_lineUpOn_32 : decode cX1_lineUpOn 32 = .ok (.getfield 38, 3) := by decide +kernel
theorem dX1_lineUpOn_35 : decode cX1_lineUpOn 35 = .ok (.iload_n 1, 1) := by decide +kernel
theorem dX1_lineUpOn_36 : decode cX1_lineUpOn 36 = .ok (.aload_n 0, 1) := by decide +kernel
theorem dX1_lineUpOn_37 : decode cX1_lineUpOn 37 = .ok (.getfield 9, 3) := by decide +kernel
theorem dX1_lineUpOn_40 : decode cX1_lineUpOn 40 = .ok (.invokevirtual 134, 3) := by decide +kernel
theorem dX1_lineUpOn_43 : decode cX1_lineUpOn 43 = .ok (.return_, 1) := by decide +kernel
theorem dX2_init_0 : decode cX2_init 0 = .ok (.aload_n 0, 1) := by decide +kernel
theorem dX2_init_1 : decode cX2_init 1 = .ok (.invokespecial 3, 3) := by decide +kernel
theorem dX2_init_4 : decode cX2_init 4 = .ok (.aload_n 0, 1) := by decide +kernel
theorem dX2_init_5 : decode cX2_init 5 = .ok (.bipush 64, 2) := by decide +kernel
theorem dX2_init_7 : decode cX2_init 7 = .ok (.newarray .boolean, 2) := by decide +kernel
theorem dX2_init_9 : decode cX2_init 9 = .ok (.putfield 9, 3) := by decide +kernel
theorem dX2_init_12 : decode cX2_init 12 = .ok (.aload_n 0, 1) := by decide +kernel
theorem dX2_init_13 : decode cX2_init 13 = .ok (.bipush 64, 2) := by decide +kernel
theorem dX2_init_15 : decode cX2_init 15 = .ok (.newarray .int, 2) := by decide +kernel
theorem dX2_init_17 : decode cX2_init 17 = .ok (.putfield 15, 3) := by decide +kernel
theorem dX2_init_20 : decode cX2_init 20 = .ok (.aload_n 0, 1) := by decide +kernel
theorem dX2_init_21 : decode cX2_init 21 = .ok (.iconst 0, 1) := by decide +kernel
theorem dX2_init_22 : decode cX2_init 22 = .ok (.putfield 19, 3) := by decide +kernel
theorem dX2_init_25 : decode cX2_init 25 = .ok (.aload_n 0, 1) := by decide +kernel
theorem dX2_init_26 : decode cX2_init 26 = .ok (.sipush 128, 3) := by decide +kernel
theorem dX2_init_29 : decode cX2_init 29 = .ok (.newarray .int, 2) := by decide +kernel
theorem dX2_init_31 : decode cX2_init 31 = .ok (.putfield 23, 3) := by decide +kernel
theorem dX2_init_34 : decode cX2_init 34 = .ok (.aload_n 0, 1) := by decide +kernel
theorem dX2_init_35 : decode cX2_init 35 = .ok (.bipush 65, 2) := by decide +kernel
theorem dX2_init_37 : decode cX2_init 37 = .ok (.newarray .int, 2) := by decide +kernel
theorem dX2_init_39 : decode cX2_init 39 = .ok (.putfield 26, 3) := by decide +kernel
theorem dX2_init_42 : decode cX2_init 42 = .ok (.aload_n 0, 1) := by decide +kernel
theorem dX2_init_43 : decode cX2_init 43 = .ok (.bipush 64, 2) := by decide +kernel
theorem dX2_init_45 : decode cX2_init 45 = .ok (.newarray .long, 2) := by decide +kernel
theorem dX2_init_47 : decode cX2_init 47 = .ok (.putfield 29, 3) := by decide +kernel
theorem dX2_init_50 : decode cX2_init 50 = .ok (.aload_n 0, 1) := by decide +kernel
theorem dX2_init_51 : decode cX2_init 51 = .ok (.aload_n 1, 1) := by decide +kernel
theorem dX2_init_52 : decode cX2_init 52 = .ok (.putfield 33, 3) := by decide +kernel
theorem dX2_init_55 : decode cX2_init 55 = .ok (.return_, 1) := by decide +kernel
theorem dX2_rebuild_0 : decode cX2_rebuild 0 = .ok (.aload_n 0, 1) := by decide +kernel
theorem dX2_rebuild_1 : decode cX2_rebuild 1 = .ok (.iconst 0, 1) := by decide +kernel
theorem dX2_rebuild_2 : decode cX2_rebuild 2 = .ok (.putfield 19, 3) := by decide +kernel
theorem dX2_rebuild_5 : decode cX2_rebuild 5 = .ok (.iconst 0, 1) := by decide +kernel
theorem dX2_rebuild_6 : decode cX2_rebuild 6 = .ok (.istore_n 2, 1) := by decide +kernel
theorem dX2_rebuild_7 : decode cX2_rebuild 7 = .ok (.iload_n 2, 1) := by decide +kernel
theorem dX2_rebuild_8 : decode cX2_rebuild 8 = .ok (.bipush 64, 2) := by decide +kernel
theorem dX2_rebuild_10 : decode cX2_rebuild 10 = .ok (.if_icmp .ge 56, 3) := by decide +kernel
theorem dX2_rebuild_13 : decode cX2_rebuild 13 = .ok (.aload_n 0, 1) := by decide +kernel
theorem dX2_rebuild_14 : decode cX2_rebuild 14 = .ok (.getfield 9, 3) := by decide +kernel
theorem dX2_rebuild_17 : decode cX2_rebuild 17 = .ok (.iload_n 2, 1) := by decide +kernel
theorem dX2_rebuild_18 : decode cX2_rebuild 18 = .ok (.aload_n 0, 1) := by decide +kernel
theorem dX2_rebuild_19 : decode cX2_rebuild 19 = .ok (.getfield 33, 3) := by decide +kernel
theorem dX2_rebuild_22 : decode cX2_rebuild 22 = .ok (.iload_n 2, 1) := by decide +kernel
theorem dX2_rebuild_23 : decode cX2_rebuild 23 = .ok (.invokevirtual 37, 3) := by decide +kernel
theorem dX2_rebuild_26 : decode cX2_rebuild 26 = .ok (.ifCond .eq 16, 3) := by decide +kernel
theorem dX2_rebuild_29 : decode cX2_rebuild 29 = .ok (.aload_n 0, 1) := by decide +kernel
theorem dX2_rebuild_30 : decode cX2_rebuild 30 = .ok (.iload_n 2, 1) := by decide +kernel
theorem dX2_rebuild_31 : decode cX2_rebuild 31 = .ok (.aload_n 1, 1) := by decide +kernel
theorem dX2_rebuild_32 : decode cX2_rebuild 32 = .ok (.invokevirtual 43, 3) := by decide +kernel
theorem dX2_rebuild_35 : decode cX2_rebuild 35 = .ok (.ifCond .eq 7, 3) := by decide +kernel
theorem dX2_rebuild_38 : decode cX2_rebuild 38 = .ok (.iconst 1, 1) := by decide +kernel
theorem dX2_rebuild_39 : decode cX2_rebuild 39 = .ok (.goto 4, 3) := by decide +kernel
theorem dX2_rebuild_42 : decode cX2_rebuild 42 = .ok (.iconst 0, 1) := by decide +kernel
theorem dX2_rebuild_43 : decode cX2_rebuild 43 = .ok (.bastore, 1) := by decide +kernel
theorem dX2_rebuild_44 : decode cX2_rebuild 44 = .ok (.aload_n 0, 1) := by decide +kernel
theorem dX2_rebuild_45 : decode cX2_rebuild 45 = .ok (.getfield 33, 3) := by decide +kernel
theorem dX2_rebuild_48 : decode cX2_rebuild 48 = .ok (.iload_n 2, 1) := by decide +kernel
theorem dX2_rebuild_49 : decode cX2_rebuild 49 = .ok (.invokevirtual 37, 3) := by decide +kernel
theorem dX2_rebuild_52 : decode cX2_rebuild 52 = .ok (.ifCond .eq 8, 3) := by decide +kernel
theorem dX2_rebuild_55 : decode cX2_rebuild 55 = .ok (.aload_n 0, 1) := by decide +kernel
theorem dX2_rebuild_56 : decode cX2_rebuild 56 = .ok (.iload_n 2, 1) := by decide +kernel
theorem dX2_rebuild_57 : decode cX2_rebuild 57 = .ok (.invokevirtual 47, 3) := by decide +kernel
theorem dX2_rebuild_60 : decode cX2_rebuild 60 = .ok (.iinc 2 1, 3) := by decide +kernel
theorem dX2_rebuild_63 : decode cX2_rebuild 63 = .ok (.goto (-56), 3) := by decide +kernel
theorem dX2_rebuild_66 : decode cX2_rebuild 66 = .ok (.aload_n 0, 1) := by decide +kernel
theorem dX2_rebuild_67 : decode cX2_rebuild 67 = .ok (.invokevirtual 51, 3) := by decide +kernel
theorem dX2_rebuild_70 : decode cX2_rebuild 70 = .ok (.aload_n 0, 1) := by decide +kernel
theorem dX2_rebuild_71 : decode cX2_rebuild 71 = .ok (.invokevirtual 54, 3) := by decide +kernel
theorem dX2_rebuild_74 : decode cX2_rebuild 74 = .ok (.return_, 1) := by decide +kernel
theorem dX2_isBornLegit_0 : decode cX2_isBornLegit 0 = .ok (.aload_n 0, 1) := by decide +kernel
theorem dX2_isBornLegit_1 : decode cX2_isBornLegit 1 = .ok (.getfield 33, 3) := by decide +kernel
theorem dX2_isBornLegit_4 : decode cX2_isBornLegit 4 = .ok (.iload_n 1, 1) := by decide +kernel
theorem dX2_isBornLegit_5 : decode cX2_isBornLegit 5 = .ok (.invokevirtual 57, 3) := by decide +kernel
theorem dX2_isBornLegit_8 : decode cX2_isBornLegit 8 = .ok (.istore_n 3, 1) := by decide +kernel
theorem dX2_isBornLegit_9 : decode cX2_isBornLegit 9 = .ok (.aload_n 0, 1) := by decide +kernel
theorem dX2_isBornLegit_10 : decode cX2_isBornLegit 10 = .ok (.getfield 33, 3) := by decide +kernel
theorem dX2_isBornLegit_13 : decode cX2_isBornLegit 13 = .ok (.iload_n 1, 1) := by decide +kernel
theorem dX2_isBornLegit_14 : decode cX2_isBornLegit 14 = .ok (.invokevirtual 61, 3) := by decide +kernel
theorem dX2_isBornLegit_17 : decode cX2_isBornLegit 17 = .ok (.istore 4, 2) := by decide +kernel
theorem dX2_isBornLegit_19 : decode cX2_isBornLegit 19 = .ok (.iload_n 3, 1) := by decide +kernel
theorem dX2_isBornLegit_20 : decode cX2_isBornLegit 20 = .ok (.iconst (-1), 1) := by decide +kernel
theorem dX2_isBornLegit_21 : decode cX2_isBornLegit 21 = .ok (.if_icmp .eq 9, 3) := by decide +kernel
theorem dX2_isBornLegit_24 : decode cX2_isBornLegit 24 = .ok (.iload 4, 2) := by decide +kernel
theorem dX2_isBornLegit_26 : decode cX2_isBornLegit 26 = .ok (.iconst (-1), 1) := by decide +kernel
theorem dX2_isBornLegit_27 : decode cX2_isBornLegit 27 = .ok (.if_icmp .ne 5, 3) := by decide +kernel
theorem dX2_isBornLegit_30 : decode cX2_isBornLegit 30 = .ok (.iconst 0, 1) := by decide +kernel
theorem dX2_isBornLegit_31 : decode cX2_isBornLegit 31 = .ok (.ireturn, 1) := by decide +kernel
theorem dX2_isBornLegit_32 : decode cX2_isBornLegit 32 = .ok (.aload_n 0, 1) := by decide +kernel
theorem dX2_isBornLegit_33 : decode cX2_isBornLegit 33 = .ok (.getfield 33, 3) := by decide +kernel
theorem dX2_isBornLegit_36 : decode cX2_isBornLegit 36 = .ok (.iload_n 1, 1) := by decide +kernel
theorem dX2_isBornLegit_37 : decode cX2_isBornLegit 37 = .ok (.invokevirtual 64, 3) := by decide +kernel
theorem dX2_isBornLegit_40 : decode cX2_isBornLegit 40 = .ok (.istore 5, 2) := by decide +kernel
theorem dX2_isBornLegit_42 : decode cX2_isBornLegit 42 = .ok (.aload_n 2, 1) := by decide +kernel
theorem dX2_isBornLegit_43 : decode cX2_isBornLegit 43 = .ok (.iload_n 3, 1) := by decide +kernel
theorem dX2_isBornLegit_44 : decode cX2_isBornLegit 44 = .ok (.iload 4, 2) := by decide +kernel
theorem dX2_isBornLegit_46 : decode cX2_isBornLegit 46 = .ok (.iload 5, 2) := by decide +kernel
theorem dX2_isBornLegit_48 : decode cX2_isBornLegit 48 = .ok (.invokevirtual 67, 3) := by decide +kernel
theorem dX2_isBornLegit_51 : decode cX2_isBornLegit 51 = .ok (.ifCond .eq 5, 3) := by decide +kernel
theorem dX2_isBornLegit_54 : decode cX2_isBornLegit 54 = .ok (.iconst 1, 1) := by decide +kernel
theorem dX2_isBornLegit_55 : decode cX2_isBornLegit 55 = .ok (.ireturn, 1) := by decide +kernel
theorem dX2_isBornLegit_56 : decode cX2_isBornLegit 56 = .ok (.aload_n 0, 1) := by decide +kernel
theorem dX2_isBornLegit_57 : decode cX2_isBornLegit 57 = .ok (.getfield 33, 3) := by decide +kernel
theorem dX2_isBornLegit_60 : decode cX2_isBornLegit 60 = .ok (.iload_n 3, 1) := by decide +kernel
theorem dX2_isBornLegit_61 : decode cX2_isBornLegit 61 = .ok (.invokevirtual 73, 3) := by decide +kernel
theorem dX2_isBornLegit_64 : decode cX2_isBornLegit 64 = .ok (.istore 6, 2) := by decide +kernel
theorem dX2_isBornLegit_66 : decode cX2_isBornLegit 66 = .ok (.iload 6, 2) := by decide +kernel
theorem dX2_isBornLegit_68 : decode cX2_isBornLegit 68 = .ok (.iconst (-1), 1) := by decide +kernel
theorem dX2_isBornLegit_69 : decode cX2_isBornLegit 69 = .ok (.if_icmp .eq 37, 3) := by decide +kernel
theorem dX2_isBornLegit_72 : decode cX2_isBornLegit 72 = .ok (.iload 6, 2) := by decide +kernel
theorem dX2_isBornLegit_74 : decode cX2_isBornLegit 74 = .ok (.iload 5, 2) := by decide +kernel
theorem dX2_isBornLegit_76 : decode cX2_isBornLegit 76 = .ok (.sipush 300, 3) := by decide +kernel
theorem dX2_isBornLegit_79 : decode cX2_isBornLegit 79 = .ok (.isub, 1) := by decide +kernel
theorem dX2_isBornLegit_80 : decode cX2_isBornLegit 80 = .ok (.if_icmp .lt 26, 3) := by decide +kernel
theorem dX2_isBornLegit_83 : decode cX2_isBornLegit 83 = .ok (.iload 6, 2) := by decide +kernel
theorem dX2_isBornLegit_85 : decode cX2_isBornLegit 85 = .ok (.iload 5, 2) := by decide +kernel
theorem dX2_isBornLegit_87 : decode cX2_isBornLegit 87 = .ok (.if_icmp .gt 19, 3) := by decide +kernel
theorem dX2_isBornLegit_90 : decode cX2_isBornLegit 90 = .ok (.aload_n 2, 1) := by decide +kernel
theorem dX2_isBornLegit_91 : decode cX2_isBornLegit 91 = .ok (.iload_n 3, 1) := by decide +kernel
theorem dX2_isBornLegit_92 : decode cX2_isBornLegit 92 = .ok (.iload 4, 2) := by decide +kernel
theorem dX2_isBornLegit_94 : decode cX2_isBornLegit 94 = .ok (.iload 6, 2) := by decide +kernel
theorem dX2_isBornLegit_96 : decode cX2_isBornLegit 96 = .ok (.invokevirtual 67, 3) := by decide +kernel
theorem dX2_isBornLegit_99 : decode cX2_isBornLegit 99 = .ok (.ifCond .eq 7, 3) := by decide +kernel
theorem dX2_isBornLegit_102 : decode cX2_isBornLegit 102 = .ok (.iconst 1, 1) := by decide +kernel
theorem dX2_isBornLegit_103 : decode cX2_isBornLegit 103 = .ok (.goto 4, 3) := by decide +kernel
theorem dX2_isBornLegit_106 : decode cX2_isBornLegit 106 = .ok (.iconst 0, 1) := by decide +kernel
theorem dX2_isBornLegit_107 : decode cX2_isBornLegit 107 = .ok (.ireturn, 1) := by decide +kernel
theorem dX2_sortIn_0 : decode cX2_sortIn 0 = .ok (.aload_n 0, 1) := by decide +kernel
theorem dX2_sortIn_1 : decode cX2_sortIn 1 = .ok (.getfield 19, 3) := by decide +kernel
theorem dX2_sortIn_4 : decode cX2_sortIn 4 = .ok (.bipush 64, 2) := by decide +kernel
theorem dX2_sortIn_6 : decode cX2_sortIn 6 = .ok (.if_icmp .lt 4, 3) := by decide +kernel
theorem dX2_sortIn_9 : decode cX2_sortIn 9 = .ok (.return_, 1) := by decide +kernel
theorem dX2_sortIn_10 : decode cX2_sortIn 10 = .ok (.aload_n 0, 1) := by decide +kernel
theorem dX2_sortIn_11 : decode cX2_sortIn 11 = .ok (.getfield 19, 3) := by decide +kernel
theorem dX2_sortIn_14 : decode cX2_sortIn 14 = .ok (.istore_n 2, 1) := by decide +kernel
theorem dX2_sortIn_15 : decode cX2_sortIn 15 = .ok (.iload_n 2, 1) := by decide +kernel
theorem dX2_sortIn_16 : decode cX2_sortIn 16 = .ok (.ifCond .le 42, 3) := by decide +kernel
theorem dX2_sortIn_19 : decode cX2_sortIn 19 = .ok (.aload_n 0, 1) := by decide +kernel
theorem dX2_sortIn_20 : decode cX2_sortIn 20 = .ok (.getfield 33, 3) := by decide +kernel
theorem dX2_sortIn_23 : decode cX2_sortIn 23 = .ok (.iload_n 1, 1) := by decide +kernel
theorem dX2_sortIn_24 : decode cX2_sortIn 24 = .ok (.aload_n 0, 1) := by decide +kernel
theorem dX2_sortIn_25 : decode cX2_sortIn 25 = .ok (.getfield 15, 3) := by decide +kernel
theorem dX2_sortIn_28 : decode cX2_sortIn 28 = .ok (.iload_n 2, 1) := by decide +kernel
theorem dX2_sortIn_29 : decode cX2_sortIn 29 = .ok (.iconst 1, 1) := by decide +kernel
theorem dX2_sortIn_30 : decode cX2_sortIn 30 = .ok (.isub, 1) := by decide +kernel
theorem dX2_sortIn_31 : decode cX2_sortIn 31 = .ok (.iaload, 1) := by decide +kernel
theorem dX2_sortIn_32 : decode cX2_sortIn 32 = .ok (.invokevirtual 76, 3) := by decide +kernel
theorem dX2_sortIn_35 : decode cX2_sortIn 35 = .ok (.ifCond .eq 23, 3) := by decide +kernel
theorem dX2_sortIn_38 : decode cX2_sortIn 38 = .ok (.aload_n 0, 1) := by decide +kernel
theorem dX2_sortIn_39 : decode cX2_sortIn 39 = .ok (.getfield 15, 3) := by decide +kernel
theorem dX2_sortIn_42 : decode cX2_sortIn 42 = .ok (.iload_n 2, 1) := by decide +kernel
theorem dX2_sortIn_43 : decode cX2_sortIn 43 = .ok (.aload_n 0, 1) := by decide +kernel
theorem dX2_sortIn_44 : decode cX2_sortIn 44 = .ok (.getfield 15, 3) := by decide +kernel
theorem dX2_sortIn_47 : decode cX2_sortIn 47 = .ok (.iload_n 2, 1) := by decide +kernel
theorem dX2_sortIn_48 : decode cX2_sortIn 48 = .ok (.iconst 1, 1) := by decide +kernel
theorem dX2_sortIn_49 : decode cX2_sortIn 49 = .ok (.isub, 1) := by decide +kernel
theorem dX2_sortIn_50 : decode cX2_sortIn 50 = .ok (.iaload, 1) := by decide +kernel
theorem dX2_sortIn_51 : decode cX2_sortIn 51 = .ok (.iastore, 1) := by decide +kernel
theorem dX2_sortIn_52 : decode cX2_sortIn 52 = .ok (.iinc 2 (-1), 3) := by decide +kernel
theorem dX2_sortIn_55 : decode cX2_sortIn 55 = .ok (.goto (-40), 3) := by decide +kernel
theorem dX2_sortIn_58 : decode cX2_sortIn 58 = .ok (.aload_n 0, 1) := by decide +kernel
theorem dX2_sortIn_59 : decode cX2_sortIn 59 = .ok (.getfield 15, 3) := by decide +kernel
theorem dX2_sortIn_62 : decode cX2_sortIn 62 = .ok (.iload_n 2, 1) := by decide +kernel
theorem dX2_sortIn_63 : decode cX2_sortIn 63 = .ok (.iload_n 1, 1) := by decide +kernel
theorem dX2_sortIn_64 : decode cX2_sortIn 64 = .ok (.iastore, 1) := by decide +kernel
theorem dX2_sortIn_65 : decode cX2_sortIn 65 = .ok (.aload_n 0, 1) := by decide +kernel
theorem dX2_sortIn_66 : decode cX2_sortIn 66 = .ok (.dup, 1) := by decide +kernel
theorem dX2_sortIn_67 : decode cX2_sortIn 67 = .ok (.getfield 19, 3) := by decide +kernel
theorem dX2_sortIn_70 : decode cX2_sortIn 70 = .ok (.iconst 1, 1) := by decide +kernel
theorem dX2_sortIn_71 : decode cX2_sortIn 71 = .ok (.iadd, 1) := by decide +kernel
theorem dX2_sortIn_72 : decode cX2_sortIn 72 = .ok (.putfield 19, 3) := by decide +kernel
theorem dX2_sortIn_75 : decode cX2_sortIn 75 = .ok (.return_, 1) := by decide +kernel
theorem dX2_listKids_0 : decode cX2_listKids 0 = .ok (.iconst 0, 1) := by decide +kernel
theorem dX2_listKids_1 : decode cX2_listKids 1 = .ok (.istore_n 1, 1) := by decide +kernel
theorem dX2_listKids_2 : decode cX2_listKids 2 = .ok (.iconst 0, 1) := by decide +kernel
theorem dX2_listKids_3 : decode cX2_listKids 3 = .ok (.istore_n 2, 1) := by decide +kernel
theorem dX2_listKids_4 : decode cX2_listKids 4 = .ok (.iload_n 2, 1) := by decide +kernel
theorem dX2_listKids_5 : decode cX2_listKids 5 = .ok (.bipush 64, 2) := by decide +kernel
theorem dX2_listKids_7 : decode cX2_listKids 7 = .ok (.if_icmp .ge 107, 3) := by decide +kernel
theorem dX2_listKids_10 : decode cX2_listKids 10 = .ok (.aload_n 0, 1) := by decide +kernel
theorem dX2_listKids_11 : decode cX2_listKids 11 = .ok (.getfield 26, 3) := by decide +kernel
theorem dX2_listKids_14 : decode cX2_listKids 14 = .ok (.iload_n 2, 1) := by decide +kernel
theorem dX2_listKids_15 : decode cX2_listKids 15 = .ok (.iload_n 1, 1) := by decide +kernel
theorem dX2_listKids_16 : decode cX2_listKids 16 = .ok (.iastore, 1) := by decide +kernel
theorem dX2_listKids_17 : decode cX2_listKids 17 = .ok (.iconst 0, 1) := by decide +kernel
theorem dX2_listKids_18 : decode cX2_listKids 18 = .ok (.istore_n 3, 1) := by decide +kernel
theorem dX2_listKids_19 : decode cX2_listKids 19 = .ok (.iload_n 3, 1) := by decide +kernel
theorem dX2_listKids_20 : decode cX2_listKids 20 = .ok (.aload_n 0, 1) := by decide +kernel
theorem dX2_listKids_21 : decode cX2_listKids 21 = .ok (.getfield 19, 3) := by decide +kernel
theorem dX2_listKids_24 : decode cX2_listKids 24 = .ok (.if_icmp .ge 84, 3) := by decide +kernel
theorem dX2_listKids_27 : decode cX2_listKids 27 = .ok (.aload_n 0, 1) := by decide +kernel
theorem dX2_listKids_28 : decode cX2_listKids 28 = .ok (.getfield 15, 3) := by decide +kernel
theorem dX2_listKids_31 : decode cX2_listKids 31 = .ok (.iload_n 3, 1) := by decide +kernel
theorem dX2_listKids_32 : decode cX2_listKids 32 = .ok (.iaload, 1) := by decide +kernel
theorem dX2_listKids_33 : decode cX2_listKids 33 = .ok (.istore 4, 2) := by decide +kernel
theorem dX2_listKids_35 : decode cX2_listKids 35 = .ok (.aload_n 0, 1) := by decide +kernel
theorem dX2_listKids_36 : decode cX2_listKids 36 = .ok (.getfield 33, 3) := by decide +kernel
theorem dX2_listKids_39 : decode cX2_listKids 39 = .ok (.iload 4, 2) := by decide +kernel
theorem dX2_listKids_41 : decode cX2_listKids 41 = .ok (.invokevirtual 57, 3) := by decide +kernel
theorem dX2_listKids_44 : decode cX2_listKids 44 = .ok (.iload_n 2, 1) := by decide +kernel
theorem dX2_listKids_45 : decode cX2_listKids 45 = .ok (.if_icmp .eq 16, 3) := by decide +kernel
theorem dX2_listKids_48 : decode cX2_listKids 48 = .ok (.aload_n 0, 1) := by decide +kernel
theorem dX2_listKids_49 : decode cX2_listKids 49 = .ok (.getfield 33, 3) := by decide +kernel
theorem dX2_listKids_52 : decode cX2_listKids 52 = .ok (.iload 4, 2) := by decide +kernel
theorem dX2_listKids_54 : decode cX2_listKids 54 = .ok (.invokevirtual 61, 3) := by decide +kernel
theorem dX2_listKids_57 : decode cX2_listKids 57 = .ok (.iload_n 2, 1) := by decide +kernel
theorem dX2_listKids_58 : decode cX2_listKids 58 = .ok (.if_icmp .ne 7, 3) := by decide +kernel
theorem dX2_listKids_61 : decode cX2_listKids 61 = .ok (.iconst 1, 1) := by decide +kernel
theorem dX2_listKids_62 : decode cX2_listKids 62 = .ok (.goto 4, 3) := by decide +kernel
theorem dX2_listKids_65 : decode cX2_listKids 65 = .ok (.iconst 0, 1) := by decide +kernel
theorem dX2_listKids_66 : decode cX2_listKids 66 = .ok (.istore 5, 2) := by decide +kernel
theorem dX2_listKids_68 : decode cX2_listKids 68 = .ok (.aload_n 0, 1) := by decide +kernel
theorem dX2_listKids_69 : decode cX2_listKids 69 = .ok (.iload 4, 2) := by decide +kernel
theorem dX2_listKids_71 : decode cX2_listKids 71 = .ok (.invokevirtual 80, 3) := by decide +kernel
theorem dX2_listKids_74 : decode cX2_listKids 74 = .ok (.ifCond .eq 28, 3) := by decide +kernel
theorem dX2_listKids_77 : decode cX2_listKids 77 = .ok (.iload 5, 2) := by decide +kernel
theorem dX2_listKids_79 : decode cX2_listKids 79 = .ok (.ifCond .eq 23, 3) := by decide +kernel
theorem dX2_listKids_82 : decode cX2_listKids 82 = .ok (.iload_n 1, 1) := by decide +kernel
theorem dX2_listKids_83 : decode cX2_listKids 83 = .ok (.aload_n 0, 1) := by decide +kernel
theorem dX2_listKids_84 : decode cX2_listKids 84 = .ok (.getfield 23, 3) := by decide +kernel
theorem dX2_listKids_87 : decode cX2_listKids 87 = .ok (.arraylength, 1) := by decide +kernel
theorem dX2_listKids_88 : decode cX2_listKids 88 = .ok (.if_icmp .ge 14, 3) := by decide +kernel
theorem dX2_listKids_91 : decode cX2_listKids 91 = .ok (.aload_n 0, 1) := by decide +kernel
theorem dX2_listKids_92 : decode cX2_listKids 92 = .ok (.getfield 23, 3) := by decide +kernel
theorem dX2_listKids_95 : decode cX2_listKids 95 = .ok (.iload_n 1, 1) := by decide +kernel
theorem dX2_listKids_96 : decode cX2_listKids 96 = .ok (.iinc 1 1, 3) := by decide +kernel
theorem dX2_listKids_99 : decode cX2_listKids 99 = .ok (.iload 4, 2) := by decide +kernel
theorem dX2_listKids_101 : decode cX2_listKids 101 = .ok (.iastore, 1) := by decide +kernel
theorem dX2_listKids_102 : decode cX2_listKids 102 = .ok (.iinc 3 1, 3) := by decide +kernel
theorem dX2_listKids_105 : decode cX2_listKids 105 = .ok (.goto (-86), 3) := by decide +kernel
theorem dX2_listKids_108 : decode cX2_listKids 108 = .ok (.iinc 2 1, 3) := by decide +kernel
theorem dX2_listKids_111 : decode cX2_listKids 111 = .ok (.goto (-107), 3) := by decide +kernel
theorem dX2_listKids_114 : decode cX2_listKids 114 = .ok (.aload_n 0, 1) := by decide +kernel
theorem dX2_listKids_115 : decode cX2_listKids 115 = .ok (.getfield 26, 3) := by decide +kernel
theorem dX2_listKids_118 : decode cX2_listKids 118 = .ok (.bipush 64, 2) := by decide +kernel
theorem dX2_listKids_120 : decode cX2_listKids 120 = .ok (.iload_n 1, 1) := by decide +kernel
theorem dX2_listKids_121 : decode cX2_listKids 121 = .ok (.iastore, 1) := by decide +kernel
theorem dX2_listKids_122 : decode cX2_listKids 122 = .ok (.return_, 1) := by decide +kernel
theorem dX2_gatherBodies_0 : decode cX2_gatherBodies 0 = .ok (.bipush 63, 2) := by decide +kernel
theorem dX2_gatherBodies_2 : decode cX2_gatherBodies 2 = .ok (.istore_n 1, 1) := by decide +kernel
theorem dX2_gatherBodies_3 : decode cX2_gatherBodies 3 = .ok (.iload_n 1, 1) := by decide +kernel
theorem dX2_gatherBodies_4 : decode cX2_gatherBodies 4 = .ok (.ifCond .lt 53, 3) := by decide +kernel
theorem dX2_gatherBodies_7 : decode cX2_gatherBodies 7 = .ok (.lconst 1, 1) := by decide +kernel
theorem dX2_gatherBodies_8 : decode cX2_gatherBodies 8 = .ok (.iload_n 1, 1) := by decide +kernel
theorem dX2_gatherBodies_9 : decode cX2_gatherBodies 9 = .ok (.lshl, 1) := by decide +kernel
theorem dX2_gatherBodies_10 : decode cX2_gatherBodies 10 = .ok (.lstore_n 2, 1) := by decide +kernel
theorem dX2_gatherBodies_11 : decode cX2_gatherBodies 11 = .ok (.iconst 0, 1) := by decide +kernel
theorem dX2_gatherBodies_12 : decode cX2_gatherBodies 12 = .ok (.istore 4, 2) := by decide +kernel
theorem dX2_gatherBodies_14 : decode cX2_gatherBodies 14 = .ok (.iload 4, 2) := by decide +kernel
theorem dX2_gatherBodies_16 : decode cX2_gatherBodies 16 = .ok (.aload_n 0, 1) := by decide +kernel
theorem dX2_gatherBodies_17 : decode cX2_gatherBodies 17 = .ok (.iload_n 1, 1) := by decide +kernel
theorem dX2_gatherBodies_18 : decode cX2_gatherBodies 18 = .ok (.invokevirtual 83, 3) := by decide +kernel
theorem dX2_gatherBodies_21 : decode cX2_gatherBodies 21 = .ok (.if_icmp .ge 23, 3) := by decide +kernel
theorem dX2_gatherBodies_24 : decode cX2_gatherBodies 24 = .ok (.lload_n 2, 1) := by decide +kernel
theorem dX2_gatherBodies_25 : decode cX2_gatherBodies 25 = .ok (.aload_n 0, 1) := by decide +kernel
theorem dX2_gatherBodies_26 : decode cX2_gatherBodies 26 = .ok (.aload_n 0, 1) := by decide +kernel
theorem dX2_gatherBodies_27 : decode cX2_gatherBodies 27 = .ok (.iload_n 1, 1) := by decide +kernel
theorem dX2_gatherBodies_28 : decode cX2_gatherBodies 28 = .ok (.iload 4, 2) := by decide +kernel
theorem dX2_gatherBodies_30 : decode cX2_gatherBodies 30 = .ok (.invokevirtual 86, 3) := by decide +kernel
theorem dX2_gatherBodies_33 : decode cX2_gatherBodies 33 = .ok (.invokevirtual 90, 3) := by decide +kernel
theorem dX2_gatherBodies_36 : decode cX2_gatherBodies 36 = .ok (.lor, 1) := by decide +kernel
theorem dX2_gatherBodies_37 : decode cX2_gatherBodies 37 = .ok (.lstore_n 2, 1) := by decide +kernel
theorem dX2_gatherBodies_38 : decode cX2_gatherBodies 38 = .ok (.iinc 4 1, 3) := by decide +kernel
theorem dX2_gatherBodies_41 : decode cX2_gatherBodies 41 = .ok (.goto (-27), 3) := by decide +kernel
theorem dX2_gatherBodies_44 : decode cX2_gatherBodies 44 = .ok (.aload_n 0, 1) := by decide +kernel
theorem dX2_gatherBodies_45 : decode cX2_gatherBodies 45 = .ok (.getfield 29, 3) := by decide +kernel
theorem dX2_gatherBodies_48 : decode cX2_gatherBodies 48 = .ok (.iload_n 1, 1) := by decide +kernel
theorem dX2_gatherBodies_49 : decode cX2_gatherBodies 49 = .ok (.lload_n 2, 1) := by decide +kernel
theorem dX2_gatherBodies_50 : decode cX2_gatherBodies 50 = .ok (.lastore, 1) := by decide +kernel
theorem dX2_gatherBodies_51 : decode cX2_gatherBodies 51 = .ok (.iinc 1 (-1), 3) := by decide +kernel
theorem dX2_gatherBodies_54 : decode cX2_gatherBodies 54 = .ok (.goto (-51), 3) := by decide +kernel
theorem dX2_gatherBodies_57 : decode cX2_gatherBodies 57 = .ok (.return_, 1) := by decide +kernel
theorem dX2_isLegit_0 : decode cX2_isLegit 0 = .ok (.iload_n 1, 1) := by decide +kernel
theorem dX2_isLegit_1 : decode cX2_isLegit 1 = .ok (.invokestatic 94, 3) := by decide +kernel
theorem dX2_isLegit_4 : decode cX2_isLegit 4 = .ok (.ifCond .eq 16, 3) := by decide +kernel
theorem dX2_isLegit_7 : decode cX2_isLegit 7 = .ok (.aload_n 0, 1) := by decide +kernel
theorem dX2_isLegit_8 : decode cX2_isLegit 8 = .ok (.getfield 9, 3) := by decide +kernel
theorem dX2_isLegit_11 : decode cX2_isLegit 11 = .ok (.iload_n 1, 1) := by decide +kernel
theorem dX2_isLegit_12 : decode cX2_isLegit 12 = .ok (.baload, 1) := by decide +kernel
theorem dX2_isLegit_13 : decode cX2_isLegit 13 = .ok (.ifCond .eq 7, 3) := by decide +kernel
theorem dX2_isLegit_16 : decode cX2_isLegit 16 = .ok (.iconst 1, 1) := by decide +kernel
theorem dX2_isLegit_17 : decode cX2_isLegit 17 = .ok (.goto 4, 3) := by decide +kernel
theorem dX2_isLegit_20 : decode cX2_isLegit 20 = .ok (.iconst 0, 1) := by decide +kernel
theorem dX2_isLegit_21 : decode cX2_isLegit 21 = .ok (.ireturn, 1) := by decide +kernel
theorem dX2_size_0 : decode cX2_size 0 = .ok (.aload_n 0, 1) := by decide +kernel
theorem dX2_size_1 : decode cX2_size 1 = .ok (.getfield 19, 3) := by decide +kernel
theorem dX2_size_4 : decode cX2_size 4 = .ok (.ireturn, 1) := by decide +kernel
theorem dX2_byAge_0 : decode cX2_byAge 0 = .ok (.iload_n 1, 1) := by decide +kernel
theorem dX2_byAge_1 : decode cX2_byAge 1 = .ok (.ifCond .lt 20, 3) := by decide +kernel
theorem dX2_byAge_4 : decode cX2_byAge 4 = .ok (.iload_n 1, 1) := by decide +kernel
theorem dX2_byAge_5 : decode cX2_byAge 5 = .ok (.aload_n 0, 1) := by decide +kernel
theorem dX2_byAge_6 : decode cX2_byAge 6 = .ok (.getfield 19, 3) := by decide +kernel
theorem dX2_byAge_9 : decode cX2_byAge 9 = .ok (.if_icmp .ge 12, 3) := by decide +kernel
theorem dX2_byAge_12 : decode cX2_byAge 12 = .ok (.aload_n 0, 1) := by decide +kernel
theorem dX2_byAge_13 : decode cX2_byAge 13 = .ok (.getfield 15, 3) := by decide +kernel
theorem dX2_byAge_16 : decode cX2_byAge 16 = .ok (.iload_n 1, 1) := by decide +kernel
theorem dX2_byAge_17 : decode cX2_byAge 17 = .ok (.iaload, 1) := by decide +kernel
theorem dX2_byAge_18 : decode cX2_byAge 18 = .ok (.goto 4, 3) := by decide +kernel
theorem dX2_byAge_21 : decode cX2_byAge 21 = .ok (.iconst (-1), 1) := by decide +kernel
theorem dX2_byAge_22 : decode cX2_byAge 22 = .ok (.ireturn, 1) := by decide +kernel
theorem dX2_kidCount_0 : decode cX2_kidCount 0 = .ok (.iload_n 1, 1) := by decide +kernel
theorem dX2_kidCount_1 : decode cX2_kidCount 1 = .ok (.ifCond .lt 27, 3) := by decide +kernel
theorem dX2_kidCount_4 : decode cX2_kidCount 4 = .ok (.iload_n 1, 1) := by decide +kernel
theorem dX2_kidCount_5 : decode cX2_kidCount 5 = .ok (.bipush 64, 2) := by decide +kernel
theorem dX2_kidCount_7 : decode cX2_kidCount 7 = .ok (.if_icmp .ge 21, 3) := by decide +kernel
theorem dX2_kidCount_10 : decode cX2_kidCount 10 = .ok (.aload_n 0, 1) := by decide +kernel
theorem dX2_kidCount_11 : decode cX2_kidCount 11 = .ok (.getfield 26, 3) := by decide +kernel
theorem dX2_kidCount_14 : decode cX2_kidCount 14 = .ok (.iload_n 1, 1) := by decide +kernel
theorem dX2_kidCount_15 : decode cX2_kidCount 15 = .ok (.iconst 1, 1) := by decide +kernel
theorem dX2_kidCount_16 : decode cX2_kidCount 16 = .ok (.iadd, 1) := by decide +kernel
theorem dX2_kidCount_17 : decode cX2_kidCount 17 = .ok (.iaload, 1) := by decide +kernel
theorem dX2_kidCount_18 : decode cX2_kidCount 18 = .ok (.aload_n 0, 1) := by decide +kernel
theorem dX2_kidCount_19 : decode cX2_kidCount 19 = .ok (.getfield 26, 3) := by decide +kernel
theorem dX2_kidCount_22 : decode cX2_kidCount 22 = .ok (.iload_n 1, 1) := by decide +kernel
theorem dX2_kidCount_23 : decode cX2_kidCount 23 = .ok (.iaload, 1) := by decide +kernel
theorem dX2_kidCount_24 : decode cX2_kidCount 24 = .ok (.isub, 1) := by decide +kernel
theorem dX2_kidCount_25 : decode cX2_kidCount 25 = .ok (.goto 4, 3) := by decide +kernel
theorem dX2_kidCount_28 : decode cX2_kidCount 28 = .ok (.iconst 0, 1) := by decide +kernel
theorem dX2_kidCount_29 : decode cX2_kidCount 29 = .ok (.ireturn, 1) := by decide +kernel
theorem dX2_kid_0 : decode cX2_kid 0 = .ok (.iload_n 1, 1) := by decide +kernel
theorem dX2_kid_1 : decode cX2_kid 1 = .ok (.ifCond .lt 13, 3) := by decide +kernel
theorem dX2_kid_4 : decode cX2_kid 4 = .ok (.iload_n 1, 1) := by decide +kernel
theorem dX2_kid_5 : decode cX2_kid 5 = .ok (.bipush 64, 2) := by decide +kernel
theorem dX2_kid_7 : decode cX2_kid 7 = .ok (.if_icmp .ge 7, 3) := by decide +kernel
theorem dX2_kid_10 : decode cX2_kid 10 = .ok (.iload_n 2, 1) := by decide +kernel
theorem dX2_kid_11 : decode cX2_kid 11 = .ok (.ifCond .ge 5, 3) := by decide +kernel
theorem dX2_kid_14 : decode cX2_kid 14 = .ok (.iconst (-1), 1) := by decide +kernel
theorem dX2_kid_15 : decode cX2_kid 15 = .ok (.ireturn, 1) := by decide +kernel
theorem dX2_kid_16 : decode cX2_kid 16 = .ok (.aload_n 0, 1) := by decide +kernel
theorem dX2_kid_17 : decode cX2_kid 17 = .ok (.getfield 26, 3) := by decide +kernel
theorem dX2_kid_20 : decode cX2_kid 20 = .ok (.iload_n 1, 1) := by decide +kernel
theorem dX2_kid_21 : decode cX2_kid 21 = .ok (.iaload, 1) := by decide +kernel
theorem dX2_kid_22 : decode cX2_kid 22 = .ok (.iload_n 2, 1) := by decide +kernel
theorem dX2_kid_23 : decode cX2_kid 23 = .ok (.iadd, 1) := by decide +kernel
theorem dX2_kid_24 : decode cX2_kid 24 = .ok (.istore_n 3, 1) := by decide +kernel
theorem dX2_kid_25 : decode cX2_kid 25 = .ok (.iload_n 3, 1) := by decide +kernel
theorem dX2_kid_26 : decode cX2_kid 26 = .ok (.aload_n 0, 1) := by decide +kernel
theorem dX2_kid_27 : decode cX2_kid 27 = .ok (.getfield 26, 3) := by decide +kernel
theorem dX2_kid_30 : decode cX2_kid 30 = .ok (.iload_n 1, 1) := by decide +kernel
theorem dX2_kid_31 : decode cX2_kid 31 = .ok (.iconst 1, 1) := by decide +kernel
theorem dX2_kid_32 : decode cX2_kid 32 = .ok (.iadd, 1) := by decide +kernel
theorem dX2_kid_33 : decode cX2_kid 33 = .ok (.iaload, 1) := by decide +kernel
theorem dX2_kid_34 : decode cX2_kid 34 = .ok (.if_icmp .ge 12, 3) := by decide +kernel
theorem dX2_kid_37 : decode cX2_kid 37 = .ok (.aload_n 0, 1) := by decide +kernel
theorem dX2_kid_38 : decode cX2_kid 38 = .ok (.getfield 23, 3) := by decide +kernel
theorem dX2_kid_41 : decode cX2_kid 41 = .ok (.iload_n 3, 1) := by decide +kernel
theorem dX2_kid_42 : decode cX2_kid 42 = .ok (.iaload, 1) := by decide +kernel
theorem dX2_kid_43 : decode cX2_kid 43 = .ok (.goto 4, 3) := by decide +kernel
theorem dX2_kid_46 : decode cX2_kid 46 = .ok (.iconst (-1), 1) := by decide +kernel
theorem dX2_kid_47 : decode cX2_kid 47 = .ok (.ireturn, 1) := by decide +kernel
theorem dX2_body_0 : decode cX2_body 0 = .ok (.iload_n 1, 1) := by decide +kernel
theorem dX2_body_1 : decode cX2_body 1 = .ok (.invokestatic 94, 3) := by decide +kernel
theorem dX2_body_4 : decode cX2_body 4 = .ok (.ifCond .eq 12, 3) := by decide +kernel
theorem dX2_body_7 : decode cX2_body 7 = .ok (.aload_n 0, 1) := by decide +kernel
theorem dX2_body_8 : decode cX2_body 8 = .ok (.getfield 29, 3) := by decide +kernel
theorem dX2_body_11 : decode cX2_body 11 = .ok (.iload_n 1, 1) := by decide +kernel
theorem dX2_body_12 : decode cX2_body 12 = .ok (.laload, 1) := by decide +kernel
theorem dX2_body_13 : decode cX2_body 13 = .ok (.goto 4, 3) := by decide +kernel
theorem dX2_body_16 : decode cX2_body 16 = .ok (.lconst 0, 1) := by decide +kernel
theorem dX2_body_17 : decode cX2_body 17 = .ok (.lreturn, 1) := by decide +kernel
theorem dX3_init_0 : decode cX3_init 0 = .ok (.aload_n 0, 1) := by decide +kernel
theorem dX3_init_1 : decode cX3_init 1 = .ok (.invokespecial 3, 3) := by decide +kernel
theorem dX3_init_4 : decode cX3_init 4 = .ok (.aload_n 0, 1) := by decide +kernel
theorem dX3_init_5 : decode cX3_init 5 = .ok (.iconst (-1), 1) := by decide +kernel
theorem dX3_init_6 : decode cX3_init 6 = .ok (.putfield 9, 3) := by decide +kernel
theorem dX3_init_9 : decode cX3_init 9 = .ok (.aload_n 0, 1) := by decide +kernel
theorem dX3_init_10 : decode cX3_init 10 = .ok (.iconst (-1), 1) := by decide +kernel
theorem dX3_init_11 : decode cX3_init 11 = .ok (.putfield 15, 3) := by decide +kernel
theorem dX3_init_14 : decode cX3_init 14 = .ok (.aload_n 0, 1) := by decide +kernel
theorem dX3_init_15 : decode cX3_init 15 = .ok (.iconst (-1), 1) := by decide +kernel
theorem dX3_init_16 : decode cX3_init 16 = .ok (.putfield 18, 3) := by decide +kernel
theorem dX3_init_19 : decode cX3_init 19 = .ok (.aload_n 0, 1) := by decide +kernel
theorem dX3_init_20 : decode cX3_init 20 = .ok (.iconst (-1), 1) := by decide +kernel
theorem dX3_init_21 : decode cX3_init 21 = .ok (.putfield 21, 3) := by decide +kernel
theorem dX3_init_24 : decode cX3_init 24 = .ok (.aload_n 0, 1) := by decide +kernel
theorem dX3_init_25 : decode cX3_init 25 = .ok (.iconst (-1), 1) := by decide +kernel
theorem dX3_init_26 : decode cX3_init 26 = .ok (.putfield 24, 3) := by decide +kernel
theorem dX3_init_29 : decode cX3_init 29 = .ok (.aload_n 0, 1) := by decide +kernel
theorem dX3_init_30 : decode cX3_init 30 = .ok (.iconst (-1), 1) := by decide +kernel
theorem dX3_init_31 : decode cX3_init 31 = .ok (.putfield 27, 3) := by decide +kernel
theorem dX3_init_34 : decode cX3_init 34 = .ok (.aload_n 0, 1) := by decide +kernel
theorem dX3_init_35 : decode cX3_init 35 = .ok (.iconst (-1), 1) := by decide +kernel
theorem dX3_init_36 : decode cX3_init 36 = .ok (.putfield 30, 3) := by decide +kernel
theorem dX3_init_39 : decode cX3_init 39 = .ok (.aload_n 0, 1) := by decide +kernel
theorem dX3_init_40 : decode cX3_init 40 = .ok (.iconst (-1), 1) := by decide +kernel
theorem dX3_init_41 : decode cX3_init 41 = .ok (.putfield 33, 3) := by decide +kernel
theorem dX3_init_44 : decode cX3_init 44 = .ok (.aload_n 0, 1) := by decide +kernel
theorem dX3_init_45 : decode cX3_init 45 = .ok (.iconst 0, 1) := by decide +kernel
theorem dX3_init_46 : decode cX3_init 46 = .ok (.putfield 36, 3) := by decide +kernel
theorem dX3_init_49 : decode cX3_init 49 = .ok (.aload_n 0, 1) := by decide +kernel
theorem dX3_init_50 : decode cX3_init 50 = .ok (.iconst 1, 1) := by decide +kernel
theorem dX3_init_51 : decode cX3_init 51 = .ok (.putfield 40, 3) := by decide +kernel
theorem dX3_init_54 : decode cX3_init 54 = .ok (.return_, 1) := by decide +kernel
theorem dX3_isOfUnion_0 : decode cX3_isOfUnion 0 = .ok (.aload_n 0, 1) := by decide +kernel
theorem dX3_isOfUnion_1 : decode cX3_isOfUnion 1 = .ok (.getfield 9, 3) := by decide +kernel
theorem dX3_isOfUnion_4 : decode cX3_isOfUnion 4 = .ok (.iconst 1, 1) := by decide +kernel
theorem dX3_isOfUnion_5 : decode cX3_isOfUnion 5 = .ok (.if_icmp .eq 11, 3) := by decide +kernel
theorem dX3_isOfUnion_8 : decode cX3_isOfUnion 8 = .ok (.aload_n 0, 1) := by decide +kernel
theorem dX3_isOfUnion_9 : decode cX3_isOfUnion 9 = .ok (.getfield 9, 3) := by decide +kernel
theorem dX3_isOfUnion_12 : decode cX3_isOfUnion 12 = .ok (.iconst 2, 1) := by decide +kernel
theorem dX3_isOfUnion_13 : decode cX3_isOfUnion 13 = .ok (.if_icmp .ne 7, 3) := by decide +kernel
theorem dX3_isOfUnion_16 : decode cX3_isOfUnion 16 = .ok (.iconst 1, 1) := by decide +kernel
theorem dX3_isOfUnion_17 : decode cX3_isOfUnion 17 = .ok (.goto 4, 3) := by decide +kernel
theorem dX3_isOfUnion_20 : decode cX3_isOfUnion 20 = .ok (.iconst 0, 1) := by decide +kernel
theorem dX3_isOfUnion_21 : decode cX3_isOfUnion 21 = .ok (.ireturn, 1) := by decide +kernel
theorem dX3_isOfLoss_0 : decode cX3_isOfLoss 0 = .ok (.aload_n 0, 1) := by decide +kernel
theorem dX3_isOfLoss_1 : decode cX3_isOfLoss 1 = .ok (.getfield 9, 3) := by decide +kernel
theorem dX3_isOfLoss_4 : decode cX3_isOfLoss 4 = .ok (.bipush 7, 2) := by decide +kernel
theorem dX3_isOfLoss_6 : decode cX3_isOfLoss 6 = .ok (.if_icmp .eq 12, 3) := by decide +kernel
theorem dX3_isOfLoss_9 : decode cX3_isOfLoss 9 = .ok (.aload_n 0, 1) := by decide +kernel
theorem dX3_isOfLoss_10 : decode cX3_isOfLoss 10 = .ok (.getfield 9, 3) := by decide +kernel
theorem dX3_isOfLoss_13 : decode cX3_isOfLoss 13 = .ok (.bipush 8, 2) := by decide +kernel
theorem dX3_isOfLoss_15 : decode cX3_isOfLoss 15 = .ok (.if_icmp .ne 7, 3) := by decide +kernel
theorem dX3_isOfLoss_18 : decode cX3_isOfLoss 18 = .ok (.iconst 1, 1) := by decide +kernel
theorem dX3_isOfLoss_19 : decode cX3_isOfLoss 19 = .ok (.goto 4, 3) := by decide +kernel
theorem dX3_isOfLoss_22 : decode cX3_isOfLoss 22 = .ok (.iconst 0, 1) := by decide +kernel
theorem dX3_isOfLoss_23 : decode cX3_isOfLoss 23 = .ok (.ireturn, 1) := by decide +kernel
theorem dX3_opens_0 : decode cX3_opens 0 = .ok (.aload_n 0, 1) := by decide +kernel
theorem dX3_opens_1 : decode cX3_opens 1 = .ok (.getfield 9, 3) := by decide +kernel
theorem dX3_opens_4 : decode cX3_opens 4 = .ok (.iconst 1, 1) := by decide +kernel
theorem dX3_opens_5 : decode cX3_opens 5 = .ok (.if_icmp .eq 12, 3) := by decide +kernel
theorem dX3_opens_8 : decode cX3_opens 8 = .ok (.aload_n 0, 1) := by decide +kernel
theorem dX3_opens_9 : decode cX3_opens 9 = .ok (.getfield 9, 3) := by decide +kernel
theorem dX3_opens_12 : decode cX3_opens 12 = .ok (.bipush 7, 2) := by decide +kernel
theorem dX3_opens_14 : decode cX3_opens 14 = .ok (.if_icmp .ne 7, 3) := by decide +kernel
theorem dX3_opens_17 : decode cX3_opens 17 = .ok (.iconst 1, 1) := by decide +kernel
theorem dX3_opens_18 : decode cX3_opens 18 = .ok (.goto 4, 3) := by decide +kernel
theorem dX3_opens_21 : decode cX3_opens 21 = .ok (.iconst 0, 1) := by decide +kernel
theorem dX3_opens_22 : decode cX3_opens 22 = .ok (.ireturn, 1) := by decide +kernel
theorem dX3_turn_0 : decode cX3_turn 0 = .ok (.iconst 2, 1) := by decide +kernel
theorem dX3_turn_1 : decode cX3_turn 1 = .ok (.aload_n 0, 1) := by decide +kernel
theorem dX3_turn_2 : decode cX3_turn 2 = .ok (.getfield 15, 3) := by decide +kernel
theorem dX3_turn_5 : decode cX3_turn 5 = .ok (.imul, 1) := by decide +kernel
theorem dX3_turn_6 : decode cX3_turn 6 = .ok (.aload_n 0, 1) := by decide +kernel
theorem dX3_turn_7 : decode cX3_turn 7 = .ok (.getfield 9, 3) := by decide +kernel
theorem dX3_turn_10 : decode cX3_turn 10 = .ok (.iconst 1, 1) := by decide +kernel
theorem dX3_turn_11 : decode cX3_turn 11 = .ok (.if_icmp .ne 7, 3) := by decide +kernel
theorem dX3_turn_14 : decode cX3_turn 14 = .ok (.iconst 1, 1) := by decide +kernel
theorem dX3_turn_15 : decode cX3_turn 15 = .ok (.goto 4, 3) := by decide +kernel
theorem dX3_turn_18 : decode cX3_turn 18 = .ok (.iconst 0, 1) := by decide +kernel
theorem dX3_turn_19 : decode cX3_turn 19 = .ok (.iadd, 1) := by decide +kernel
theorem dX3_turn_20 : decode cX3_turn 20 = .ok (.ireturn, 1) := by decide +kernel
theorem dX3_takesTurnsWith_0 : decode cX3_takesTurnsWith 0 = .ok (.aload_n 0, 1) := by decide +kernel
theorem dX3_takesTurnsWith_1 : decode cX3_takesTurnsWith 1 = .ok (.invokevirtual 43, 3) := by decide +kernel
theorem dX3_takesTurnsWith_4 : decode cX3_takesTurnsWith 4 = .ok (.ifCond .eq 38, 3) := by decide +kernel
theorem dX3_takesTurnsWith_7 : decode cX3_takesTurnsWith 7 = .ok (.aload_n 1, 1) := by decide +kernel
theorem dX3_takesTurnsWith_8 : decode cX3_takesTurnsWith 8 = .ok (.invokevirtual 43, 3) := by decide +kernel
theorem dX3_takesTurnsWith_11 : decode cX3_takesTurnsWith 11 = .ok (.ifCond .eq 29, 3) := by decide +kernel
theorem dX3_takesTurnsWith_14 : decode cX3_takesTurnsWith 14 = .ok (.aload_n 1, 1) := by decide +kernel
theorem dX3_takesTurnsWith_15 : decode cX3_takesTurnsWith 15 = .ok (.getfield 18, 3) := by decide +kernel
theorem dX3_takesTurnsWith_18 : decode cX3_takesTurnsWith 18 = .ok (.aload_n 0, 1) := by decide +kernel
theorem dX3_takesTurnsWith_19 : decode cX3_takesTurnsWith 19 = .ok (.getfield 18, 3) := by decide +kernel
theorem dX3_takesTurnsWith_22 : decode cX3_takesTurnsWith 22 = .ok (.if_icmp .ne 18, 3) := by decide +kernel
theorem dX3_takesTurnsWith_25 : decode cX3_takesTurnsWith 25 = .ok (.aload_n 1, 1) := by decide +kernel
theorem dX3_takesTurnsWith_26 : decode cX3_takesTurnsWith 26 = .ok (.getfield 21, 3) := by decide +kernel
theorem dX3_takesTurnsWith_29 : decode cX3_takesTurnsWith 29 = .ok (.aload_n 0, 1) := by decide +kernel
theorem dX3_takesTurnsWith_30 : decode cX3_takesTurnsWith 30 = .ok (.getfield 21, 3) := by decide +kernel
theorem dX3_takesTurnsWith_33 : decode cX3_takesTurnsWith 33 = .ok (.if_icmp .ne 7, 3) := by decide +kernel
theorem dX3_takesTurnsWith_36 : decode cX3_takesTurnsWith 36 = .ok (.iconst 1, 1) := by decide +kernel
theorem dX3_takesTurnsWith_37 : decode cX3_takesTurnsWith 37 = .ok (.goto 4, 3) := by decide +kernel
theorem dX3_takesTurnsWith_40 : decode cX3_takesTurnsWith 40 = .ok (.iconst 0, 1) := by decide +kernel
theorem dX3_takesTurnsWith_41 : decode cX3_takesTurnsWith 41 = .ok (.ireturn, 1) := by decide +kernel
theorem dX3_takesTurnsWith_42 : decode cX3_takesTurnsWith 42 = .ok (.aload_n 0, 1) := by decide +kernel
theorem dX3_takesTurnsWith_43 : decode cX3_takesTurnsWith 43 = .ok (.invokevirtual 47, 3) := by decide +kernel
theorem dX3_takesTurnsWith_46 : decode cX3_takesTurnsWith 46 = .ok (.ifCond .eq 25, 3) := by decide +kernel
theorem dX3_takesTurnsWith_49 : decode cX3_takesTurnsWith 49 = .ok (.aload_n 1, 1) := by decide +kernel
theorem dX3_takesTurnsWith_50 : decode cX3_takesTurnsWith 50 = .ok (.invokevirtual 47, 3) := by decide +kernel
theorem dX3_takesTurnsWith_53 : decode cX3_takesTurnsWith 53 = .ok (.ifCond .eq 18, 3) := by decide +kernel
theorem dX3_takesTurnsWith_56 : decode cX3_takesTurnsWith 56 = .ok (.aload_n 1, 1) := by decide +kernel
theorem dX3_takesTurnsWith_57 : decode cX3_takesTurnsWith 57 = .ok (.getfield 30, 3) := by decide +kernel
theorem dX3_takesTurnsWith_60 : decode cX3_takesTurnsWith 60 = .ok (.aload_n 0, 1) := by decide +kernel
theorem dX3_takesTurnsWith_61 : decode cX3_takesTurnsWith 61 = .ok (.getfield 30, 3) := by decide +kernel
theorem dX3_takesTurnsWith_64 : decode cX3_takesTurnsWith 64 = .ok (.if_icmp .ne 7, 3) := by decide +kernel
theorem dX3_takesTurnsWith_67 : decode cX3_takesTurnsWith 67 = .ok (.iconst 1, 1) := by decide +kernel
theorem dX3_takesTurnsWith_68 : decode cX3_takesTurnsWith 68 = .ok (.goto 4, 3) := by decide +kernel
theorem dX3_takesTurnsWith_71 : decode cX3_takesTurnsWith 71 = .ok (.iconst 0, 1) := by decide +kernel
theorem dX3_takesTurnsWith_72 : decode cX3_takesTurnsWith 72 = .ok (.ireturn, 1) := by decide +kernel
theorem dX4_init_0 : decode cX4_init 0 = .ok (.aload_n 0, 1) := by decide +kernel
theorem dX4_init_1 : decode cX4_init 1 = .ok (.invokespecial 3, 3) := by decide +kernel
theorem dX4_init_4 : decode cX4_init 4 = .ok (.aload_n 0, 1) := by decide +kernel
theorem dX4_init_5 : decode cX4_init 5 = .ok (.bipush 64, 2) := by decide +kernel
theorem dX4_init_7 : decode cX4_init 7 = .ok (.newarray .int, 2) := by decide +kernel
theorem dX4_init_9 : decode cX4_init 9 = .ok (.putfield 9, 3) := by decide +kernel
theorem dX4_init_12 : decode cX4_init 12 = .ok (.aload_n 0, 1) := by decide +kernel
theorem dX4_init_13 : decode cX4_init 13 = .ok (.iconst 0, 1) := by decide +kernel
theorem dX4_init_14 : decode cX4_init 14 = .ok (.putfield 15, 3) := by decide +kernel
theorem dX4_init_17 : decode cX4_init 17 = .ok (.aload_n 0, 1) := by decide +kernel
theorem dX4_init_18 : decode cX4_init 18 = .ok (.iconst (-1), 1) := by decide +kernel
theorem dX4_init_19 : decode cX4_init 19 = .ok (.putfield 19, 3) := by decide +kernel
theorem dX4_init_22 : decode cX4_init 22 = .ok (.aload_n 0, 1) := by decide +kernel
theorem dX4_init_23 : decode cX4_init 23 = .ok (.iconst (-1), 1) := by decide +kernel
theorem dX4_init_24 : decode cX4_init 24 = .ok (.putfield 22, 3) := by decide +kernel
theorem dX4_init_27 : decode cX4_init 27 = .ok (.aload_n 0, 1) := by decide +kernel
theorem dX4_init_28 : decode cX4_init 28 = .ok (.sipush 129, 3) := by decide +kernel
theorem dX4_init_31 : decode cX4_init 31 = .ok (.newarray .int, 2) := by decide +kernel
theorem dX4_init_33 : decode cX4_init 33 = .ok (.putfield 25, 3) := by decide +kernel
theorem dX4_init_36 : decode cX4_init 36 = .ok (.aload_n 0, 1) := by decide +kernel
theorem dX4_init_37 : decode cX4_init 37 = .ok (.iconst 0, 1) := by decide +kernel
theorem dX4_init_38 : decode cX4_init 38 = .ok (.putfield 28, 3) := by decide +kernel
theorem dX4_init_41 : decode cX4_init 41 = .ok (.aload_n 0, 1) := by decide +kernel
theorem dX4_init_42 : decode cX4_init 42 = .ok (.bipush 64, 2) := by decide +kernel
theorem dX4_init_44 : decode cX4_init 44 = .ok (.newarray .int, 2) := by decide +kernel
theorem dX4_init_46 : decode cX4_init 46 = .ok (.putfield 31, 3) := by decide +kernel
theorem dX4_init_49 : decode cX4_init 49 = .ok (.aload_n 0, 1) := by decide +kernel
theorem dX4_init_50 : decode cX4_init 50 = .ok (.bipush 64, 2) := by decide +kernel
theorem dX4_init_52 : decode cX4_init 52 = .ok (.newarray .int, 2) := by decide +kernel
theorem dX4_init_54 : decode cX4_init 54 = .ok (.putfield 34, 3) := by decide +kernel
theorem dX4_init_57 : decode cX4_init 57 = .ok (.aload_n 0, 1) := by decide +kernel
theorem dX4_init_58 : decode cX4_init 58 = .ok (.iconst 0, 1) := by decide +kernel
theorem dX4_init_59 : decode cX4_init 59 = .ok (.putfield 37, 3) := by decide +kernel
theorem dX4_init_62 : decode cX4_init 62 = .ok (.aload_n 0, 1) := by decide +kernel
theorem dX4_init_63 : decode cX4_init 63 = .ok (.lconst 0, 1) := by decide +kernel
theorem dX4_init_64 : decode cX4_init 64 = .ok (.putfield 40, 3) := by decide +kernel
theorem dX4_init_67 : decode cX4_init 67 = .ok (.aload_n 0, 1) := by decide +kernel
theorem dX4_init_68 : decode cX4_init 68 = .ok (.bipush 64, 2) := by decide +kernel
theorem dX4_init_70 : decode cX4_init 70 = .ok (.newarray .int, 2) := by decide +kernel
theorem dX4_init_72 : decode cX4_init 72 = .ok (.putfield 44, 3) := by decide +kernel
theorem dX4_init_75 : decode cX4_init 75 = .ok (.aload_n 0, 1) := by decide +kernel
theorem dX4_init_76 : decode cX4_init 76 = .ok (.iconst 0, 1) := by decide +kernel
theorem dX4_init_77 : decode cX4_init 77 = .ok (.putfield 47, 3) := by decide +kernel
theorem dX4_init_80 : decode cX4_init 80 = .ok (.aload_n 0, 1) := by decide +kernel
theorem dX4_init_81 : decode cX4_init 81 = .ok (.aload_n 1, 1) := by decide +kernel
theorem dX4_init_82 : decode cX4_init 82 = .ok (.putfield 50, 3) := by decide +kernel
theorem dX4_init_85 : decode cX4_init 85 = .ok (.aload_n 0, 1) := by decide +kernel
theorem dX4_init_86 : decode cX4_init 86 = .ok (.aload_n 2, 1) := by decide +kernel
theorem dX4_init_87 : decode cX4_init 87 = .ok (.putfield 54, 3) := by decide +kernel
theorem dX4_init_90 : decode cX4_init 90 = .ok (.return_, 1) := by decide +kernel
theorem dX4_forget_0 : decode cX4_forget 0 = .ok (.aload_n 0, 1) := by decide +kernel
theorem dX4_forget_1 : decode cX4_forget 1 = .ok (.iconst (-1), 1) := by decide +kernel
theorem dX4_forget_2 : decode cX4_forget 2 = .ok (.putfield 19, 3) := by decide +kernel
theorem dX4_forget_5 : decode cX4_forget 5 = .ok (.aload_n 0, 1) := by decide +kernel
theorem dX4_forget_6 : decode cX4_forget 6 = .ok (.iconst (-1), 1) := by decide +kernel
theorem dX4_forget_7 : decode cX4_forget 7 = .ok (.putfield 22, 3) := by decide +kernel
theorem dX4_forget_10 : decode cX4_forget 10 = .ok (.return_, 1) := by decide +kernel
theorem dX4_fill_0 : decode cX4_fill 0 = .ok (.iload_n 1, 1) := by decide +kernel
theorem dX4_fill_1 : decode cX4_fill 1 = .ok (.aload_n 0, 1) := by decide +kernel
theorem dX4_fill_2 : decode cX4_fill 2 = .ok (.getfield 19, 3) := by decide +kernel
theorem dX4_fill_5 : decode cX4_fill 5 = .ok (.if_icmp .ne 11, 3) := by decide +kernel
theorem dX4_fill_8 : decode cX4_fill 8 = .ok (.iload_n 2, 1) := by decide +kernel
theorem dX4_fill_9 : decode cX4_fill 9 = .ok (.aload_n 0, 1) := by decide +kernel
theorem dX4_fill_10 : decode cX4_fill 10 = .ok (.getfield 22, 3) := by decide +kernel
theorem dX4_fill_13 : decode cX4_fill 13 = .ok (.if_icmp .eq 37, 3) := by decide +kernel
theorem dX4_fill_16 : decode cX4_fill 16 = .ok (.aload_n 0, 1) := by decide +kernel
theorem dX4_fill_17 : decode cX4_fill 17 = .ok (.iconst 0, 1) := by decide +kernel
theorem dX4_fill_18 : decode cX4_fill 18 = .ok (.putfield 15, 3) := by decide +kernel
theorem dX4_fill_21 : decode cX4_fill 21 = .ok (.aload_n 0, 1) := by decide +kernel
theorem dX4_fill_22 : decode cX4_fill 22 = .ok (.iload_n 1, 1) := by decide +kernel
theorem dX4_fill_23 : decode cX4_fill 23 = .ok (.putfield 19, 3) := by decide +kernel
theorem dX4_fill_26 : decode cX4_fill 26 = .ok (.aload_n 0, 1) := by decide +kernel
theorem dX4_fill_27 : decode cX4_fill 27 = .ok (.iload_n 2, 1) := by decide +kernel
theorem dX4_fill_28 : decode cX4_fill 28 = .ok (.putfield 22, 3) := by decide +kernel
theorem dX4_fill_31 : decode cX4_fill 31 = .ok (.iload_n 1, 1) := by decide +kernel
theorem dX4_fill_32 : decode cX4_fill 32 = .ok (.iconst 4, 1) := by decide +kernel
theorem dX4_fill_33 : decode cX4_fill 33 = .ok (.if_icmp .ne 11, 3) := by decide +kernel
theorem dX4_fill_36 : decode cX4_fill 36 = .ok (.aload_n 0, 1) := by decide +kernel
theorem dX4_fill_37 : decode cX4_fill 37 = .ok (.iload_n 2, 1) := by decide +kernel
theorem dX4_fill_38 : decode cX4_fill 38 = .ok (.invokevirtual 58, 3) := by decide +kernel
theorem dX4_fill_41 : decode cX4_fill 41 = .ok (.goto 9, 3) := by decide +kernel
theorem dX4_fill_44 : decode cX4_fill 44 = .ok (.aload_n 0, 1) := by decide +kernel
theorem dX4_fill_45 : decode cX4_fill 45 = .ok (.iload_n 1, 1) := by decide +kernel
theorem dX4_fill_46 : decode cX4_fill 46 = .ok (.iload_n 2, 1) := by decide +kernel
theorem dX4_fill_47 : decode cX4_fill 47 = .ok (.invokevirtual 62, 3) := by decide +kernel
theorem dX4_fill_50 : decode cX4_fill 50 = .ok (.aload_n 0, 1) := by decide +kernel
theorem dX4_fill_51 : decode cX4_fill 51 = .ok (.iconst 0, 1) := by decide +kernel
theorem dX4_fill_52 : decode cX4_fill 52 = .ok (.putfield 37, 3) := by decide +kernel
theorem dX4_fill_55 : decode cX4_fill 55 = .ok (.aload_n 0, 1) := by decide +kernel
theorem dX4_fill_56 : decode cX4_fill 56 = .ok (.lconst 0, 1) := by decide +kernel
theorem dX4_fill_57 : decode cX4_fill 57 = .ok (.putfield 40, 3) := by decide +kernel
theorem dX4_fill_60 : decode cX4_fill 60 = .ok (.iconst 0, 1) := by decide +kernel
theorem dX4_fill_61 : decode cX4_fill 61 = .ok (.istore 5, 2) := by decide +kernel
theorem dX4_fill_63 : decode cX4_fill 63 = .ok (.iload 5, 2) := by decide +kernel
theorem dX4_fill_65 : decode cX4_fill 65 = .ok (.aload_n 0, 1) := by decide +kernel
theorem dX4_fill_66 : decode cX4_fill 66 = .ok (.getfield 15, 3) := by decide +kernel
theorem dX4_fill_69 : decode cX4_fill 69 = .ok (.if_icmp .ge 110, 3) := by decide +kernel
theorem dX4_fill_72 : decode cX4_fill 72 = .ok (.aload_n 0, 1) := by decide +kernel
theorem dX4_fill_73 : decode cX4_fill 73 = .ok (.getfield 9, 3) := by decide +kernel
theorem dX4_fill_76 : decode cX4_fill 76 = .ok (.iload 5, 2) := by decide +kernel
theorem dX4_fill_78 : decode cX4_fill 78 = .ok (.iaload, 1) := by decide +kernel
theorem dX4_fill_79 : decode cX4_fill 79 = .ok (.istore 6, 2) := by decide +kernel
theorem dX4_fill_81 : decode cX4_fill 81 = .ok (.aload_n 0, 1) := by decide +kernel
theorem dX4_fill_82 : decode cX4_fill 82 = .ok (.getfield 50, 3) := by decide +kernel
theorem dX4_fill_85 : decode cX4_fill 85 = .ok (.iload 6, 2) := by decide +kernel
theorem dX4_fill_87 : decode cX4_fill 87 = .ok (.iload_n 3, 1) := by decide +kernel
theorem dX4_fill_88 : decode cX4_fill 88 = .ok (.invokevirtual 66, 3) := by decide +kernel
theorem dX4_fill_91 : decode cX4_fill 91 = .ok (.ifCond .eq 82, 3) := by decide +kernel
theorem dX4_fill_94 : decode cX4_fill 94 = .ok (.iload_n 1, 1) := by decide +kernel
theorem dX4_fill_95 : decode cX4_fill 95 = .ok (.ifCond .ne 18, 3) := by decide +kernel
theorem dX4_fill_98 : decode cX4_fill 98 = .ok (.aload_n 0, 1) := by decide +kernel
theorem dX4_fill_99 : decode cX4_fill 99 = .ok (.getfield 50, 3) := by decide +kernel
theorem dX4_fill_102 : decode cX4_fill 102 = .ok (.iload 6, 2) := by decide +kernel
theorem dX4_fill_104 : decode cX4_fill 104 = .ok (.invokevirtual 72, 3) := by decide +kernel
theorem dX4_fill_107 : decode cX4_fill 107 = .ok (.ifCond .ne 6, 3) := by decide +kernel
theorem dX4_fill_110 : decode cX4_fill 110 = .ok (.goto 63, 3) := by decide +kernel
theorem dX4_fill_113 : decode cX4_fill 113 = .ok (.iload 6, 2) := by decide +kernel
theorem dX4_fill_115 : decode cX4_fill 115 = .ok (.aload 4, 2) := by decide +kernel
theorem dX4_fill_117 : decode cX4_fill 117 = .ok (.arraylength, 1) := by decide +kernel
theorem dX4_fill_118 : decode cX4_fill 118 = .ok (.if_icmp .ge 55, 3) := by decide +kernel
theorem dX4_fill_121 : decode cX4_fill 121 = .ok (.aload 4, 2) := by decide +kernel
theorem dX4_fill_123 : decode cX4_fill 123 = .ok (.iload 6, 2) := by decide +kernel
theorem dX4_fill_125 : decode cX4_fill 125 = .ok (.iaload, 1) := by decide +kernel
theorem dX4_fill_126 : decode cX4_fill 126 = .ok (.iconst (-1), 1) := by decide +kernel
theorem dX4_fill_127 : decode cX4_fill 127 = .ok (.if_icmp .eq 15, 3) := by decide +kernel
theorem dX4_fill_130 : decode cX4_fill 130 = .ok (.aload 4, 2) := by decide +kernel
theorem dX4_fill_132 : decode cX4_fill 132 = .ok (.iload 6, 2) := by decide +kernel
theorem dX4_fill_134 : decode cX4_fill 134 = .ok (.iaload, 1) := by decide +kernel
theorem dX4_fill_135 : decode cX4_fill 135 = .ok (.iload_n 3, 1) := by decide +kernel
theorem dX4_fill_136 : decode cX4_fill 136 = .ok (.if_icmp .gt 6, 3) := by decide +kernel
theorem dX4_fill_139 : decode cX4_fill 139 = .ok (.goto 34, 3) := by decide +kernel
theorem dX4_fill_142 : decode cX4_fill 142 = .ok (.aload_n 0, 1) := by decide +kernel
theorem dX4_fill_143 : decode cX4_fill 143 = .ok (.getfield 34, 3) := by decide +kernel
theorem dX4_fill_146 : decode cX4_fill 146 = .ok (.aload_n 0, 1) := by decide +kernel
theorem dX4_fill_147 : decode cX4_fill 147 = .ok (.dup, 1) := by decide +kernel
theorem dX4_fill_148 : decode cX4_fill 148 = .ok (.getfield 37, 3) := by decide +kernel
theorem dX4_fill_151 : decode cX4_fill 151 = .ok (.dup_x1, 1) := by decide +kernel
theorem dX4_fill_152 : decode cX4_fill 152 = .ok (.iconst 1, 1) := by decide +kernel
theorem dX4_fill_153 : decode cX4_fill 153 = .ok (.iadd, 1) := by decide +kernel
theorem dX4_fill_154 : decode cX4_fill 154 = .ok (.putfield 37, 3) := by decide +kernel
theorem dX4_fill_157 : decode cX4_fill 157 = .ok (.iload 6, 2) := by decide +kernel
theorem dX4_fill_159 : decode cX4_fill 159 = .ok (.iastore, 1) := by decide +kernel
theorem dX4_fill_160 : decode cX4_fill 160 = .ok (.aload_n 0, 1) := by decide +kernel
theorem dX4_fill_161 : decode cX4_fill 161 = .ok (.dup, 1) := by decide +kernel
theorem dX4_fill_162 : decode cX4_fill 162 = .ok (.getfield 40, 3) := by decide +kernel
theorem dX4_fill_165 : decode cX4_fill 165 = .ok (.lconst 1, 1) := by decide +kernel
theorem dX4_fill_166 : decode cX4_fill 166 = .ok (.iload 6, 2) := by decide +kernel
theorem dX4_fill_168 : decode cX4_fill 168 = .ok (.lshl, 1) := by decide +kernel
theorem dX4_fill_169 : decode cX4_fill 169 = .ok (.lor, 1) := by decide +kernel
theorem dX4_fill_170 : decode cX4_fill 170 = .ok (.putfield 40, 3) := by decide +kernel
theorem dX4_fill_173 : decode cX4_fill 173 = .ok (.iinc 5 1, 3) := by decide +kernel
theorem dX4_fill_176 : decode cX4_fill 176 = .ok (.goto (-113), 3) := by decide +kernel
theorem dX4_fill_179 : decode cX4_fill 179 = .ok (.return_, 1) := by decide +kernel
theorem dX4_orderByBirths_0 : decode cX4_orderByBirths 0 = .ok (.iload_n 1, 1) := by decide +kernel
theorem dX4_orderByBirths_1 : decode cX4_orderByBirths 1 = .ok (.invokestatic 76, 3) := by decide +kernel
theorem dX4_orderByBirths_4 : decode cX4_orderByBirths 4 = .ok (.ifCond .ne 4, 3) := by decide +kernel
theorem dX4_orderByBirths_7 : decode cX4_orderByBirths 7 = .ok (.return_, 1) := by decide +kernel
theorem dX4_orderByBirths_8 : decode cX4_orderByBirths 8 = .ok (.iconst 0, 1) := by decide +kernel
theorem dX4_orderByBirths_9 : decode cX4_orderByBirths 9 = .ok (.istore_n 2, 1) := by decide +kernel
theorem dX4_orderByBirths_10 : decode cX4_orderByBirths 10 = .ok (.iload_n 2, 1) := by decide +kernel
theorem dX4_orderByBirths_11 : decode cX4_orderByBirths 11 = .ok (.bipush 64, 2) := by decide +kernel
theorem dX4_orderByBirths_13 : decode cX4_orderByBirths 13 = .ok (.if_icmp .ge 25, 3) := by decide +kernel
theorem dX4_orderByBirths_16 : decode cX4_orderByBirths 16 = .ok (.aload_n 0, 1) := by decide +kernel
theorem dX4_orderByBirths_17 : decode cX4_orderByBirths 17 = .ok (.getfield 31, 3) := by decide +kernel
theorem dX4_orderByBirths_20 : decode cX4_orderByBirths 20 = .ok (.iload_n 2, 1) := by decide +kernel
theorem dX4_orderByBirths_21 : decode cX4_orderByBirths 21 = .ok (.iload_n 2, 1) := by decide +kernel
theorem dX4_orderByBirths_22 : decode cX4_orderByBirths 22 = .ok (.iload_n 1, 1) := by decide +kernel
theorem dX4_orderByBirths_23 : decode cX4_orderByBirths 23 = .ok (.if_icmp .ne 7, 3) := by decide +kernel
theorem dX4_orderByBirths_26 : decode cX4_orderByBirths 26 = .ok (.iconst 0, 1) := by decide +kernel
theorem dX4_orderByBirths_27 : decode cX4_orderByBirths 27 = .ok (.goto 4, 3) := by decide +kernel
theorem dX4_orderByBirths_30 : decode cX4_orderByBirths 30 = .ok (.iconst (-1), 1) := by decide +kernel
theorem dX4_orderByBirths_31 : decode cX4_orderByBirths 31 = .ok (.iastore, 1) := by decide +kernel
theorem dX4_orderByBirths_32 : decode cX4_orderByBirths 32 = .ok (.iinc 2 1, 3) := by decide +kernel
theorem dX4_orderByBirths_35 : decode cX4_orderByBirths 35 = .ok (.goto (-25), 3) := by decide +kernel
theorem dX4_orderByBirths_38 : decode cX4_orderByBirths 38 = .ok (.iload_n 1, 1) := by decide +kernel
theorem dX4_orderByBirths_39 : decode cX4_orderByBirths 39 = .ok (.istore_n 2, 1) := by decide +kernel
theorem dX4_orderByBirths_40 : decode cX4_orderByBirths 40 = .ok (.iload_n 2, 1) := by decide +kernel
theorem dX4_orderByBirths_41 : decode cX4_orderByBirths 41 = .ok (.bipush 64, 2) := by decide +kernel
theorem dX4_orderByBirths_43 : decode cX4_orderByBirths 43 = .ok (.if_icmp .ge 24, 3) := by decide +kernel
theorem dX4_orderByBirths_46 : decode cX4_orderByBirths 46 = .ok (.aload_n 0, 1) := by decide +kernel
theorem dX4_orderByBirths_47 : decode cX4_orderByBirths 47 = .ok (.getfield 31, 3) := by decide +kernel
theorem dX4_orderByBirths_50 : decode cX4_orderByBirths 50 = .ok (.iload_n 2, 1) := by decide +kernel
theorem dX4_orderByBirths_51 : decode cX4_orderByBirths 51 = .ok (.iaload, 1) := by decide +kernel
theorem dX4_orderByBirths_52 : decode cX4_orderByBirths 52 = .ok (.iconst (-1), 1) := by decide +kernel
theorem dX4_orderByBirths_53 : decode cX4_orderByBirths 53 = .ok (.if_icmp .eq 8, 3) := by decide +kernel
theorem dX4_orderByBirths_56 : decode cX4_orderByBirths 56 = .ok (.aload_n 0, 1) := by decide +kernel
theorem dX4_orderByBirths_57 : decode cX4_orderByBirths 57 = .ok (.iload_n 2, 1) := by decide +kernel
theorem dX4_orderByBirths_58 : decode cX4_orderByBirths 58 = .ok (.invokevirtual 79, 3) := by decide +kernel
theorem dX4_orderByBirths_61 : decode cX4_orderByBirths 61 = .ok (.iinc 2 1, 3) := by decide +kernel
theorem dX4_orderByBirths_64 : decode cX4_orderByBirths 64 = .ok (.goto (-24), 3) := by decide +kernel
theorem dX4_orderByBirths_67 : decode cX4_orderByBirths 67 = .ok (.iconst 0, 1) := by decide +kernel
theorem dX4_orderByBirths_68 : decode cX4_orderByBirths 68 = .ok (.istore_n 2, 1) := by decide +kernel
theorem dX4_orderByBirths_69 : decode cX4_orderByBirths 69 = .ok (.iload_n 2, 1) := by decide +kernel
theorem dX4_orderByBirths_70 : decode cX4_orderByBirths 70 = .ok (.bipush 64, 2) := by decide +kernel
theorem dX4_orderByBirths_72 : decode cX4_orderByBirths 72 = .ok (.if_icmp .ge 82, 3) := by decide +kernel
theorem dX4_orderByBirths_75 : decode cX4_orderByBirths 75 = .ok (.iconst 0, 1) := by decide +kernel
theorem dX4_orderByBirths_76 : decode cX4_orderByBirths 76 = .ok (.istore_n 3, 1) := by decide +kernel
theorem dX4_orderByBirths_77 : decode cX4_orderByBirths 77 = .ok (.iload_n 3, 1) := by decide +kernel
theorem dX4_orderByBirths_78 : decode cX4_orderByBirths 78 = .ok (.aload_n 0, 1) := by decide +kernel
theorem dX4_orderByBirths_79 : decode cX4_orderByBirths 79 = .ok (.getfield 54, 3) := by decide +kernel
theorem dX4_orderByBirths_82 : decode cX4_orderByBirths 82 = .ok (.invokevirtual 82, 3) := by decide +kernel
theorem dX4_orderByBirths_85 : decode cX4_orderByBirths 85 = .ok (.if_icmp .ge 63, 3) := by decide +kernel
theorem dX4_orderByBirths_88 : decode cX4_orderByBirths 88 = .ok (.aload_n 0, 1) := by decide +kernel
theorem dX4_orderByBirths_89 : decode cX4_orderByBirths 89 = .ok (.getfield 54, 3) := by decide +kernel
theorem dX4_orderByBirths_92 : decode cX4_orderByBirths 92 = .ok (.iload_n 3, 1) := by decide +kernel
theorem dX4_orderByBirths_93 : decode cX4_orderByBirths 93 = .ok (.invokevirtual 87, 3) := by decide +kernel
theorem dX4_orderByBirths_96 : decode cX4_orderByBirths 96 = .ok (.istore 4, 2) := by decide +kernel
theorem dX4_orderByBirths_98 : decode cX4_orderByBirths 98 = .ok (.iload 4, 2) := by decide +kernel
theorem dX4_orderByBirths_100 : decode cX4_orderByBirths 100 = .ok (.iconst (-1), 1) := by decide +kernel
theorem dX4_orderByBirths_101 : decode cX4_orderByBirths 101 = .ok (.if_icmp .eq 41, 3) := by decide +kernel
theorem dX4_orderByBirths_104 : decode cX4_orderByBirths 104 = .ok (.aload_n 0, 1) := by decide +kernel
theorem dX4_orderByBirths_105 : decode cX4_orderByBirths 105 = .ok (.getfield 31, 3) := by decide +kernel
theorem dX4_orderByBirths_108 : decode cX4_orderByBirths 108 = .ok (.iload 4, 2) := by decide +kernel
theorem dX4_orderByBirths_110 : decode cX4_orderByBirths 110 = .ok (.iaload, 1) := by decide +kernel
theorem dX4_orderByBirths_111 : decode cX4_orderByBirths 111 = .ok (.iload_n 2, 1) := by decide +kernel
theorem dX4_orderByBirths_112 : decode cX4_orderByBirths 112 = .ok (.if_icmp .ne 30, 3) := by decide +kernel
theorem dX4_orderByBirths_115 : decode cX4_orderByBirths 115 = .ok (.aload_n 0, 1) := by decide +kernel
theorem dX4_orderByBirths_116 : decode cX4_orderByBirths 116 = .ok (.getfield 15, 3) := by decide +kernel
theorem dX4_orderByBirths_119 : decode cX4_orderByBirths 119 = .ok (.bipush 64, 2) := by decide +kernel
theorem dX4_orderByBirths_121 : decode cX4_orderByBirths 121 = .ok (.if_icmp .ge 21, 3) := by decide +kernel
theorem dX4_orderByBirths_124 : decode cX4_orderByBirths 124 = .ok (.aload_n 0, 1) := by decide +kernel
theorem dX4_orderByBirths_125 : decode cX4_orderByBirths 125 = .ok (.getfield 9, 3) := by decide +kernel
theorem dX4_orderByBirths_128 : decode cX4_orderByBirths 128 = .ok (.aload_n 0, 1) := by decide +kernel
theorem dX4_orderByBirths_129 : decode cX4_orderByBirths 129 = .ok (.dup, 1) := by decide +kernel
theorem dX4_orderByBirths_130 : decode cX4_orderByBirths 130 = .ok (.getfield 15, 3) := by decide +kernel
theorem dX4_orderByBirths_133 : decode cX4_orderByBirths 133 = .ok (.dup_x1, 1) := by decide +kernel
theorem dX4_orderByBirths_134 : decode cX4_orderByBirths 134 = .ok (.iconst 1, 1) := by decide +kernel
theorem dX4_orderByBirths_135 : decode cX4_orderByBirths 135 = .ok (.iadd, 1) := by decide +kernel
theorem dX4_orderByBirths_136 : decode cX4_orderByBirths 136 = .ok (.putfield 15, 3) := by decide +kernel
theorem dX4_orderByBirths_139 : decode cX4_orderByBirths 139 = .ok (.iload 4, 2) := by decide +kernel
theorem dX4_orderByBirths_141 : decode cX4_orderByBirths 141 = .ok (.iastore, 1) := by decide +kernel
theorem dX4_orderByBirths_142 : decode cX4_orderByBirths 142 = .ok (.iinc 3 1, 3) := by decide +kernel
theorem dX4_orderByBirths_145 : decode cX4_orderByBirths 145 = .ok (.goto (-68), 3) := by decide +kernel
theorem dX4_orderByBirths_148 : decode cX4_orderByBirths 148 = .ok (.iinc 2 1, 3) := by decide +kernel
theorem dX4_orderByBirths_151 : decode cX4_orderByBirths 151 = .ok (.goto (-82), 3) := by decide +kernel
theorem dX4_orderByBirths_154 : decode cX4_orderByBirths 154 = .ok (.return_, 1) := by decide +kernel
theorem dX4_countBirthsOfKids_0 : decode cX4_countBirthsOfKids 0 = .ok (.iconst 0, 1) := by decide +kernel
theorem dX4_countBirthsOfKids_1 : decode cX4_countBirthsOfKids 1 = .ok (.istore_n 2, 1) := by decide +kernel
theorem dX4_countBirthsOfKids_2 : decode cX4_countBirthsOfKids 2 = .ok (.iload_n 2, 1) := by decide +kernel
theorem dX4_countBirthsOfKids_3 : decode cX4_countBirthsOfKids 3 = .ok (.aload_n 0, 1) := by decide +kernel
theorem dX4_countBirthsOfKids_4 : decode cX4_countBirthsOfKids 4 = .ok (.getfield 54, 3) := by decide +kernel
theorem dX4_countBirthsOfKids_7 : decode cX4_countBirthsOfKids 7 = .ok (.iload_n 1, 1) := by decide +kernel
theorem dX4_countBirthsOfKids_8 : decode cX4_countBirthsOfKids 8 = .ok (.invokevirtual 91, 3) := by decide +kernel
theorem dX4_countBirthsOfKids_11 : decode cX4_countBirthsOfKids 11 = .ok (.if_icmp .ge 68, 3) := by decide +kernel
theorem dX4_countBirthsOfKids_14 : decode cX4_countBirthsOfKids 14 = .ok (.aload_n 0, 1) := by decide +kernel
theorem dX4_countBirthsOfKids_15 : decode cX4_countBirthsOfKids 15 = .ok (.getfield 54, 3) := by decide +kernel
theorem dX4_countBirthsOfKids_18 : decode cX4_countBirthsOfKids 18 = .ok (.iload_n 1, 1) := by decide +kernel
theorem dX4_countBirthsOfKids_19 : decode cX4_countBirthsOfKids 19 = .ok (.iload_n 2, 1) := by decide +kernel
theorem dX4_countBirthsOfKids_20 : decode cX4_countBirthsOfKids 20 = .ok (.invokevirtual 94, 3) := by decide +kernel
theorem dX4_countBirthsOfKids_23 : decode cX4_countBirthsOfKids 23 = .ok (.istore_n 3, 1) := by decide +kernel
theorem dX4_countBirthsOfKids_24 : decode cX4_countBirthsOfKids 24 = .ok (.iload_n 3, 1) := by decide +kernel
theorem dX4_countBirthsOfKids_25 : decode cX4_countBirthsOfKids 25 = .ok (.iconst (-1), 1) := by decide +kernel
theorem dX4_countBirthsOfKids_26 : decode cX4_countBirthsOfKids 26 = .ok (.if_icmp .ne 6, 3) := by decide +kernel
theorem dX4_countBirthsOfKids_29 : decode cX4_countBirthsOfKids 29 = .ok (.goto 44, 3) := by decide +kernel
theorem dX4_countBirthsOfKids_32 : decode cX4_countBirthsOfKids 32 = .ok (.aload_n 0, 1) := by decide +kernel
theorem dX4_countBirthsOfKids_33 : decode cX4_countBirthsOfKids 33 = .ok (.getfield 31, 3) := by decide +kernel
theorem dX4_countBirthsOfKids_36 : decode cX4_countBirthsOfKids 36 = .ok (.iload_n 3, 1) := by decide +kernel
theorem dX4_countBirthsOfKids_37 : decode cX4_countBirthsOfKids 37 = .ok (.iaload, 1) := by decide +kernel
theorem dX4_countBirthsOfKids_38 : decode cX4_countBirthsOfKids 38 = .ok (.iconst (-1), 1) := by decide +kernel
theorem dX4_countBirthsOfKids_39 : decode cX4_countBirthsOfKids 39 = .ok (.if_icmp .eq 20, 3) := by decide +kernel
theorem dX4_countBirthsOfKids_42 : decode cX4_countBirthsOfKids 42 = .ok (.aload_n 0, 1) := by decide +kernel
theorem dX4_countBirthsOfKids_43 : decode cX4_countBirthsOfKids 43 = .ok (.getfield 31, 3) := by decide +kernel
theorem dX4_countBirthsOfKids_46 : decode cX4_countBirthsOfKids 46 = .ok (.iload_n 3, 1) := by decide +kernel
theorem dX4_countBirthsOfKids_47 : decode cX4_countBirthsOfKids 47 = .ok (.iaload, 1) := by decide +kernel
theorem dX4_countBirthsOfKids_48 : decode cX4_countBirthsOfKids 48 = .ok (.aload_n 0, 1) := by decide +kernel
theorem dX4_countBirthsOfKids_49 : decode cX4_countBirthsOfKids 49 = .ok (.getfield 31, 3) := by decide +kernel
theorem dX4_countBirthsOfKids_52 : decode cX4_countBirthsOfKids 52 = .ok (.iload_n 1, 1) := by decide +kernel
theorem dX4_countBirthsOfKids_53 : decode cX4_countBirthsOfKids 53 = .ok (.iaload, 1) := by decide +kernel
theorem dX4_countBirthsOfKids_54 : decode cX4_countBirthsOfKids 54 = .ok (.iconst 1, 1) := by decide +kernel
theorem dX4_countBirthsOfKids_55 : decode cX4_countBirthsOfKids 55 = .ok (.iadd, 1) := by decide +kernel
theorem dX4_countBirthsOfKids_56 : decode cX4_countBirthsOfKids 56 = .ok (.if_icmp .le 17, 3) := by decide +kernel
theorem dX4_countBirthsOfKids_59 : decode cX4_countBirthsOfKids 59 = .ok (.aload_n 0, 1) := by decide +kernel
theorem dX4_countBirthsOfKids_60 : decode cX4_countBirthsOfKids 60 = .ok (.getfield 31, 3) := by decide +kernel
theorem dX4_countBirthsOfKids_63 : decode cX4_countBirthsOfKids 63 = .ok (.iload_n 3, 1) := by decide +kernel
theorem dX4_countBirthsOfKids_64 : decode cX4_countBirthsOfKids 64 = .ok (.aload_n 0, 1) := by decide +kernel
theorem dX4_countBirthsOfKids_65 : decode cX4_countBirthsOfKids 65 = .ok (.getfield 31, 3) := by decide +kernel
theorem dX4_countBirthsOfKids_68 : decode cX4_countBirthsOfKids 68 = .ok (.iload_n 1, 1) := by decide +kernel
theorem dX4_countBirthsOfKids_69 : decode cX4_countBirthsOfKids 69 = .ok (.iaload, 1) := by decide +kernel
theorem dX4_countBirthsOfKids_70 : decode cX4_countBirthsOfKids 70 = .ok (.iconst 1, 1) := by decide +kernel
theorem dX4_countBirthsOfKids_71 : decode cX4_countBirthsOfKids 71 = .ok (.iadd, 1) := by decide +kernel
theorem dX4_countBirthsOfKids_72 : decode cX4_countBirthsOfKids 72 = .ok (.iastore, 1) := by decide +kernel
theorem dX4_countBirthsOfKids_73 : decode cX4_countBirthsOfKids 73 = .ok (.iinc 2 1, 3) := by decide +kernel
theorem dX4_countBirthsOfKids_76 : decode cX4_countBirthsOfKids 76 = .ok (.goto (-74), 3) := by decide +kernel
theorem dX4_countBirthsOfKids_79 : decode cX4_countBirthsOfKids 79 = .ok (.return_, 1) := by decide +kernel
theorem dX4_orderByBranches_0 : decode cX4_orderByBranches 0 = .ok (.iload_n 2, 1) := by decide +kernel
theorem dX4_orderByBranches_1 : decode cX4_orderByBranches 1 = .ok (.invokestatic 76, 3) := by decide +kernel
theorem dX4_orderByBranches_4 : decode cX4_orderByBranches 4 = .ok (.ifCond .ne 4, 3) := by decide +kernel
theorem dX4_orderByBranches_7 : decode cX4_orderByBranches 7 = .ok (.return_, 1) := by decide +kernel
theorem dX4_orderByBranches_8 : decode cX4_orderByBranches 8 = .ok (.lconst 0, 1) := by decide +kernel
theorem dX4_orderByBranches_9 : decode cX4_orderByBranches 9 = .ok (.lstore_n 3, 1) := by decide +kernel
theorem dX4_orderByBranches_10 : decode cX4_orderByBranches 10 = .ok (.aload_n 0, 1) := by decide +kernel
theorem dX4_orderByBranches_11 : decode cX4_orderByBranches 11 = .ok (.getfield 25, 3) := by decide +kernel
theorem dX4_orderByBranches_14 : decode cX4_orderByBranches 14 = .ok (.iconst 0, 1) := by decide +kernel
theorem dX4_orderByBranches_15 : decode cX4_orderByBranches 15 = .ok (.iload_n 2, 1) := by decide +kernel
theorem dX4_orderByBranches_16 : decode cX4_orderByBranches 16 = .ok (.iastore, 1) := by decide +kernel
theorem dX4_orderByBranches_17 : decode cX4_orderByBranches 17 = .ok (.aload_n 0, 1) := by decide +kernel
theorem dX4_orderByBranches_18 : decode cX4_orderByBranches 18 = .ok (.iconst 1, 1) := by decide +kernel
theorem dX4_orderByBranches_19 : decode cX4_orderByBranches 19 = .ok (.putfield 28, 3) := by decide +kernel
theorem dX4_orderByBranches_22 : decode cX4_orderByBranches 22 = .ok (.iconst 0, 1) := by decide +kernel
theorem dX4_orderByBranches_23 : decode cX4_orderByBranches 23 = .ok (.istore 5, 2) := by decide +kernel
theorem dX4_orderByBranches_25 : decode cX4_orderByBranches 25 = .ok (.iload 5, 2) := by decide +kernel
theorem dX4_orderByBranches_27 : decode cX4_orderByBranches 27 = .ok (.aload_n 0, 1) := by decide +kernel
theorem dX4_orderByBranches_28 : decode cX4_orderByBranches 28 = .ok (.getfield 25, 3) := by decide +kernel
theorem dX4_orderByBranches_31 : decode cX4_orderByBranches 31 = .ok (.arraylength, 1) := by decide +kernel
theorem dX4_orderByBranches_32 : decode cX4_orderByBranches 32 = .ok (.if_icmp .ge 151, 3) := by decide +kernel
theorem dX4_orderByBranches_35 : decode cX4_orderByBranches 35 = .ok (.aload_n 0, 1) := by decide +kernel
theorem dX4_orderByBranches_36 : decode cX4_orderByBranches 36 = .ok (.getfield 28, 3) := by decide +kernel
theorem dX4_orderByBranches_39 : decode cX4_orderByBranches 39 = .ok (.ifCond .le 144, 3) := by decide +kernel
theorem dX4_orderByBranches_42 : decode cX4_orderByBranches 42 = .ok (.aload_n 0, 1) := by decide +kernel
theorem dX4_orderByBranches_43 : decode cX4_orderByBranches 43 = .ok (.dup, 1) := by decide +kernel
theorem dX4_orderByBranches_44 : decode cX4_orderByBranches 44 = .ok (.getfield 28, 3) := by decide +kernel
theorem dX4_orderByBranches_47 : decode cX4_orderByBranches 47 = .ok (.iconst 1, 1) := by decide +kernel
theorem dX4_orderByBranches_48 : decode cX4_orderByBranches 48 = .ok (.isub, 1) := by decide +kernel
theorem dX4_orderByBranches_49 : decode cX4_orderByBranches 49 = .ok (.putfield 28, 3) := by decide +kernel
theorem dX4_orderByBranches_52 : decode cX4_orderByBranches 52 = .ok (.aload_n 0, 1) := by decide +kernel
theorem dX4_orderByBranches_53 : decode cX4_orderByBranches 53 = .ok (.getfield 25, 3) := by decide +kernel
theorem dX4_orderByBranches_56 : decode cX4_orderByBranches 56 = .ok (.aload_n 0, 1) := by decide +kernel
theorem dX4_orderByBranches_57 : decode cX4_orderByBranches 57 = .ok (.getfield 28, 3) := by decide +kernel
theorem dX4_orderByBranches_60 : decode cX4_orderByBranches 60 = .ok (.iaload, 1) := by decide +kernel
theorem dX4_orderByBranches_61 : decode cX4_orderByBranches 61 = .ok (.istore 6, 2) := by decide +kernel
theorem dX4_orderByBranches_63 : decode cX4_orderByBranches 63 = .ok (.lload_n 3, 1) := by decide +kernel
theorem dX4_orderByBranches_64 : decode cX4_orderByBranches 64 = .ok (.lconst 1, 1) := by decide +kernel
theorem dX4_orderByBranches_65 : decode cX4_orderByBranches 65 = .ok (.iload 6, 2) := by decide +kernel
theorem dX4_orderByBranches_67 : decode cX4_orderByBranches 67 = .ok (.lshl, 1) := by decide +kernel
theorem dX4_orderByBranches_68 : decode cX4_orderByBranches 68 = .ok (.land, 1) := by decide +kernel
theorem dX4_orderByBranches_69 : decode cX4_orderByBranches 69 = .ok (.lconst 0, 1) := by decide +kernel
theorem dX4_orderByBranches_70 : decode cX4_orderByBranches 70 = .ok (.lcmp, 1) := by decide +kernel
theorem dX4_orderByBranches_71 : decode cX4_orderByBranches 71 = .ok (.ifCond .ne 106, 3) := by decide +kernel
theorem dX4_orderByBranches_74 : decode cX4_orderByBranches 74 = .ok (.aload_n 0, 1) := by decide +kernel
theorem dX4_orderByBranches_75 : decode cX4_orderByBranches 75 = .ok (.getfield 15, 3) := by decide +kernel
theorem dX4_orderByBranches_78 : decode cX4_orderByBranches 78 = .ok (.bipush 64, 2) := by decide +kernel
theorem dX4_orderByBranches_80 : decode cX4_orderByBranches 80 = .ok (.if_icmp .lt 6, 3) := by decide +kernel
theorem dX4_orderByBranches_83 : decode cX4_orderByBranches 83 = .ok (.goto 94, 3) := by decide +kernel
theorem dX4_orderByBranches_86 : decode cX4_orderByBranches 86 = .ok (.lload_n 3, 1) := by decide +kernel
theorem dX4_orderByBranches_87 : decode cX4_orderByBranches 87 = .ok (.lconst 1, 1) := by decide +kernel
theorem dX4_orderByBranches_88 : decode cX4_orderByBranches 88 = .ok (.iload 6, 2) := by decide +kernel
theorem dX4_orderByBranches_90 : decode cX4_orderByBranches 90 = .ok (.lshl, 1) := by decide +kernel
theorem dX4_orderByBranches_91 : decode cX4_orderByBranches 91 = .ok (.lor, 1) := by decide +kernel
theorem dX4_orderByBranches_92 : decode cX4_orderByBranches 92 = .ok (.lstore_n 3, 1) := by decide +kernel
theorem dX4_orderByBranches_93 : decode cX4_orderByBranches 93 = .ok (.aload_n 0, 1) := by decide +kernel
theorem dX4_orderByBranches_94 : decode cX4_orderByBranches 94 = .ok (.getfield 9, 3) := by decide +kernel
theorem dX4_orderByBranches_97 : decode cX4_orderByBranches 97 = .ok (.aload_n 0, 1) := by decide +kernel
theorem dX4_orderByBranches_98 : decode cX4_orderByBranches 98 = .ok (.dup, 1) := by decide +kernel
theorem dX4_orderByBranches_99 : decode cX4_orderByBranches 99 = .ok (.getfield 15, 3) := by decide +kernel
theorem dX4_orderByBranches_102 : decode cX4_orderByBranches 102 = .ok (.dup_x1, 1) := by decide +kernel
theorem dX4_orderByBranches_103 : decode cX4_orderByBranches 103 = .ok (.iconst 1, 1) := by decide +kernel
theorem dX4_orderByBranches_104 : decode cX4_orderByBranches 104 = .ok (.iadd, 1) := by decide +kernel
theorem dX4_orderByBranches_105 : decode cX4_orderByBranches 105 = .ok (.putfield 15, 3) := by decide +kernel
theorem dX4_orderByBranches_108 : decode cX4_orderByBranches 108 = .ok (.iload 6, 2) := by decide +kernel
theorem dX4_orderByBranches_110 : decode cX4_orderByBranches 110 = .ok (.iastore, 1) := by decide +kernel
theorem dX4_orderByBranches_111 : decode cX4_orderByBranches 111 = .ok (.iload_n 1, 1) := by decide +kernel
theorem dX4_orderByBranches_112 : decode cX4_orderByBranches 112 = .ok (.iconst 3, 1) := by decide +kernel
theorem dX4_orderByBranches_113 : decode cX4_orderByBranches 113 = .ok (.if_icmp .eq 8, 3) := by decide +kernel
theorem dX4_orderByBranches_116 : decode cX4_orderByBranches 116 = .ok (.iload_n 1, 1) := by decide +kernel
theorem dX4_orderByBranches_117 : decode cX4_orderByBranches 117 = .ok (.iconst 2, 1) := by decide +kernel
theorem dX4_orderByBranches_118 : decode cX4_orderByBranches 118 = .ok (.if_icmp .ne 23, 3) := by decide +kernel
theorem dX4_orderByBranches_121 : decode cX4_orderByBranches 121 = .ok (.aload_n 0, 1) := by decide +kernel
theorem dX4_orderByBranches_122 : decode cX4_orderByBranches 122 = .ok (.iload 6, 2) := by decide +kernel
theorem dX4_orderByBranches_124 : decode cX4_orderByBranches 124 = .ok (.iconst 2, 1) := by decide +kernel
theorem dX4_orderByBranches_125 : decode cX4_orderByBranches 125 = .ok (.iload_n 1, 1) := by decide +kernel
theorem dX4_orderByBranches_126 : decode cX4_orderByBranches 126 = .ok (.iconst 3, 1) := by decide +kernel
theorem dX4_orderByBranches_127 : decode cX4_orderByBranches 127 = .ok (.if_icmp .ne 7, 3) := by decide +kernel
theorem dX4_orderByBranches_130 : decode cX4_orderByBranches 130 = .ok (.iconst 1, 1) := by decide +kernel
theorem dX4_orderByBranches_131 : decode cX4_orderByBranches 131 = .ok (.goto 4, 3) := by decide +kernel
theorem dX4_orderByBranches_134 : decode cX4_orderByBranches 134 = .ok (.iconst 0, 1) := by decide +kernel
theorem dX4_orderByBranches_135 : decode cX4_orderByBranches 135 = .ok (.invokevirtual 98, 3) := by decide +kernel
theorem dX4_orderByBranches_138 : decode cX4_orderByBranches 138 = .ok (.goto 39, 3) := by decide +kernel
theorem dX4_orderByBranches_141 : decode cX4_orderByBranches 141 = .ok (.iload_n 1, 1) := by decide +kernel
theorem dX4_orderByBranches_142 : decode cX4_orderByBranches 142 = .ok (.ifCond .eq 11, 3) := by decide +kernel
theorem dX4_orderByBranches_145 : decode cX4_orderByBranches 145 = .ok (.aload_n 0, 1) := by decide +kernel
theorem dX4_orderByBranches_146 : decode cX4_orderByBranches 146 = .ok (.iload 6, 2) := by decide +kernel
theorem dX4_orderByBranches_148 : decode cX4_orderByBranches 148 = .ok (.iconst 0, 1) := by decide +kernel
theorem dX4_orderByBranches_149 : decode cX4_orderByBranches 149 = .ok (.iconst 0, 1) := by decide +kernel
theorem dX4_orderByBranches_150 : decode cX4_orderByBranches 150 = .ok (.invokevirtual 98, 3) := by decide +kernel
theorem dX4_orderByBranches_153 : decode cX4_orderByBranches 153 = .ok (.iload_n 1, 1) := by decide +kernel
theorem dX4_orderByBranches_154 : decode cX4_orderByBranches 154 = .ok (.ifCond .ne 15, 3) := by decide +kernel
theorem dX4_orderByBranches_157 : decode cX4_orderByBranches 157 = .ok (.aload_n 0, 1) := by decide +kernel
theorem dX4_orderByBranches_158 : decode cX4_orderByBranches 158 = .ok (.getfield 50, 3) := by decide +kernel
theorem dX4_orderByBranches_161 : decode cX4_orderByBranches 161 = .ok (.iload 6, 2) := by decide +kernel
theorem dX4_orderByBranches_163 : decode cX4_orderByBranches 163 = .ok (.invokevirtual 72, 3) := by decide +kernel
theorem dX4_orderByBranches_166 : decode cX4_orderByBranches 166 = .ok (.ifCond .eq 11, 3) := by decide +kernel
theorem dX4_orderByBranches_169 : decode cX4_orderByBranches 169 = .ok (.aload_n 0, 1) := by decide +kernel
theorem dX4_orderByBranches_170 : decode cX4_orderByBranches 170 = .ok (.iload 6, 2) := by decide +kernel
theorem dX4_orderByBranches_172 : decode cX4_orderByBranches 172 = .ok (.iconst 1, 1) := by decide +kernel
theorem dX4_orderByBranches_173 : decode cX4_orderByBranches 173 = .ok (.iconst 0, 1) := by decide +kernel
theorem dX4_orderByBranches_174 : decode cX4_orderByBranches 174 = .ok (.invokevirtual 98, 3) := by decide +kernel
theorem dX4_orderByBranches_177 : decode cX4_orderByBranches 177 = .ok (.iinc 5 1, 3) := by decide +kernel
theorem dX4_orderByBranches_180 : decode cX4_orderByBranches 180 = .ok (.goto (-155), 3) := by decide +kernel
theorem dX4_orderByBranches_183 : decode cX4_orderByBranches 183 = .ok (.return_, 1) := by decide +kernel
theorem dX4_pushKids_0 : decode cX4_pushKids 0 = .ok (.aload_n 0, 1) := by decide +kernel
theorem dX4_pushKids_1 : decode cX4_pushKids 1 = .ok (.getfield 54, 3) := by decide +kernel
theorem dX4_pushKids_4 : decode cX4_pushKids 4 = .ok (.iload_n 1, 1) := by decide +kernel
theorem dX4_pushKids_5 : decode cX4_pushKids 5 = .ok (.invokevirtual 91, 3) := by decide +kernel
theorem dX4_pushKids_8 : decode cX4_pushKids 8 = .ok (.istore 4, 2) := by decide +kernel
theorem dX4_pushKids_10 : decode cX4_pushKids 10 = .ok (.iconst 0, 1) := by decide +kernel
theorem dX4_pushKids_11 : decode cX4_pushKids 11 = .ok (.istore 5, 2) := by decide +kernel
theorem dX4_pushKids_13 : decode cX4_pushKids 13 = .ok (.iload 5, 2) := by decide +kernel
theorem dX4_pushKids_15 : decode cX4_pushKids 15 = .ok (.iload 4, 2) := by decide +kernel
theorem dX4_pushKids_17 : decode cX4_pushKids 17 = .ok (.if_icmp .ge 101, 3) := by decide +kernel
theorem dX4_pushKids_20 : decode cX4_pushKids 20 = .ok (.aload_n 0, 1) := by decide +kernel
theorem dX4_pushKids_21 : decode cX4_pushKids 21 = .ok (.getfield 54, 3) := by decide +kernel
theorem dX4_pushKids_24 : decode cX4_pushKids 24 = .ok (.iload_n 1, 1) := by decide +kernel
theorem dX4_pushKids_25 : decode cX4_pushKids 25 = .ok (.iload_n 3, 1) := by decide +kernel
theorem dX4_pushKids_26 : decode cX4_pushKids 26 = .ok (.ifCond .eq 8, 3) := by decide +kernel
theorem dX4_pushKids_29 : decode cX4_pushKids 29 = .ok (.iload 5, 2) := by decide +kernel
theorem dX4_pushKids_31 : decode cX4_pushKids 31 = .ok (.goto 10, 3) := by decide +kernel
theorem dX4_pushKids_34 : decode cX4_pushKids 34 = .ok (.iload 4, 2) := by decide +kernel
theorem dX4_pushKids_36 : decode cX4_pushKids 36 = .ok (.iconst 1, 1) := by decide +kernel
theorem dX4_pushKids_37 : decode cX4_pushKids 37 = .ok (.isub, 1) := by decide +kernel
theorem dX4_pushKids_38 : decode cX4_pushKids 38 = .ok (.iload 5, 2) := by decide +kernel
theorem dX4_pushKids_40 : decode cX4_pushKids 40 = .ok (.isub, 1) := by decide +kernel
theorem dX4_pushKids_41 : decode cX4_pushKids 41 = .ok (.invokevirtual 94, 3) := by decide +kernel
theorem dX4_pushKids_44 : decode cX4_pushKids 44 = .ok (.istore 6, 2) := by decide +kernel
theorem dX4_pushKids_46 : decode cX4_pushKids 46 = .ok (.iload_n 2, 1) := by decide +kernel
theorem dX4_pushKids_47 : decode cX4_pushKids 47 = .ok (.iconst 2, 1) := by decide +kernel
theorem dX4_pushKids_48 : decode cX4_pushKids 48 = .ok (.if_icmp .eq 28, 3) := by decide +kernel
theorem dX4_pushKids_51 : decode cX4_pushKids 51 = .ok (.aload_n 0, 1) := by decide +kernel
theorem dX4_pushKids_52 : decode cX4_pushKids 52 = .ok (.getfield 50, 3) := by decide +kernel
theorem dX4_pushKids_55 : decode cX4_pushKids 55 = .ok (.iload 6, 2) := by decide +kernel
theorem dX4_pushKids_57 : decode cX4_pushKids 57 = .ok (.invokevirtual 72, 3) := by decide +kernel
theorem dX4_pushKids_60 : decode cX4_pushKids 60 = .ok (.iload_n 2, 1) := by decide +kernel
theorem dX4_pushKids_61 : decode cX4_pushKids 61 = .ok (.iconst 1, 1) := by decide +kernel
theorem dX4_pushKids_62 : decode cX4_pushKids 62 = .ok (.if_icmp .ne 7, 3) := by decide +kernel
theorem dX4_pushKids_65 : decode cX4_pushKids 65 = .ok (.iconst 1, 1) := by decide +kernel
theorem dX4_pushKids_66 : decode cX4_pushKids 66 = .ok (.goto 4, 3) := by decide +kernel
theorem dX4_pushKids_69 : decode cX4_pushKids 69 = .ok (.iconst 0, 1) := by decide +kernel
theorem dX4_pushKids_70 : decode cX4_pushKids 70 = .ok (.if_icmp .eq 6, 3) := by decide +kernel
theorem dX4_pushKids_73 : decode cX4_pushKids 73 = .ok (.goto 39, 3) := by decide +kernel
theorem dX4_pushKids_76 : decode cX4_pushKids 76 = .ok (.iload 6, 2) := by decide +kernel
theorem dX4_pushKids_78 : decode cX4_pushKids 78 = .ok (.iconst (-1), 1) := by decide +kernel
theorem dX4_pushKids_79 : decode cX4_pushKids 79 = .ok (.if_icmp .eq 33, 3) := by decide +kernel
theorem dX4_pushKids_82 : decode cX4_pushKids 82 = .ok (.aload_n 0, 1) := by decide +kernel
theorem dX4_pushKids_83 : decode cX4_pushKids 83 = .ok (.getfield 28, 3) := by decide +kernel
theorem dX4_pushKids_86 : decode cX4_pushKids 86 = .ok (.aload_n 0, 1) := by decide +kernel
theorem dX4_pushKids_87 : decode cX4_pushKids 87 = .ok (.getfield 25, 3) := by decide +kernel
theorem dX4_pushKids_90 : decode cX4_pushKids 90 = .ok (.arraylength, 1) := by decide +kernel
theorem dX4_pushKids_91 : decode cX4_pushKids 91 = .ok (.if_icmp .ge 21, 3) := by decide +kernel
theorem dX4_pushKids_94 : decode cX4_pushKids 94 = .ok (.aload_n 0, 1) := by decide +kernel
theorem dX4_pushKids_95 : decode cX4_pushKids 95 = .ok (.getfield 25, 3) := by decide +kernel
theorem dX4_pushKids_98 : decode cX4_pushKids 98 = .ok (.aload_n 0, 1) := by decide +kernel
theorem dX4_pushKids_99 : decode cX4_pushKids 99 = .ok (.dup, 1) := by decide +kernel
theorem dX4_pushKids_100 : decode cX4_pushKids 100 = .ok (.getfield 28, 3) := by decide +kernel
theorem dX4_pushKids_103 : decode cX4_pushKids 103 = .ok (.dup_x1, 1) := by decide +kernel
theorem dX4_pushKids_104 : decode cX4_pushKids 104 = .ok (.iconst 1, 1) := by decide +kernel
theorem dX4_pushKids_105 : decode cX4_pushKids 105 = .ok (.iadd, 1) := by decide +kernel
theorem dX4_pushKids_106 : decode cX4_pushKids 106 = .ok (.putfield 28, 3) := by decide +kernel
theorem dX4_pushKids_109 : decode cX4_pushKids 109 = .ok (.iload 6, 2) := by decide +kernel
theorem dX4_pushKids_111 : decode cX4_pushKids 111 = .ok (.iastore, 1) := by decide +kernel
theorem dX4_pushKids_112 : decode cX4_pushKids 112 = .ok (.iinc 5 1, 3) := by decide +kernel
theorem dX4_pushKids_115 : decode cX4_pushKids 115 = .ok (.goto (-102), 3) := by decide +kernel
theorem dX4_pushKids_118 : decode cX4_pushKids 118 = .ok (.return_, 1) := by decide +kernel
theorem dX4_size_0 : decode cX4_size 0 = .ok (.aload_n 0, 1) := by decide +kernel
theorem dX4_size_1 : decode cX4_size 1 = .ok (.getfield 37, 3) := by decide +kernel
theorem dX4_size_4 : decode cX4_size 4 = .ok (.ireturn, 1) := by decide +kernel
theorem dX4_at_0 : decode cX4_at 0 = .ok (.iload_n 1, 1) := by decide +kernel
theorem dX4_at_1 : decode cX4_at 1 = .ok (.ifCond .lt 20, 3) := by decide +kernel
theorem dX4_at_4 : decode cX4_at 4 = .ok (.iload_n 1, 1) := by decide +kernel
theorem dX4_at_5 : decode cX4_at 5 = .ok (.aload_n 0, 1) := by decide +kernel
theorem dX4_at_6 : decode cX4_at 6 = .ok (.getfield 37, 3) := by decide +kernel
theorem dX4_at_9 : decode cX4_at 9 = .ok (.if_icmp .ge 12, 3) := by decide +kernel
theorem dX4_at_12 : decode cX4_at 12 = .ok (.aload_n 0, 1) := by decide +kernel
theorem dX4_at_13 : decode cX4_at 13 = .ok (.getfield 34, 3) := by decide +kernel
theorem dX4_at_16 : decode cX4_at 16 = .ok (.iload_n 1, 1) := by decide +kernel
theorem dX4_at_17 : decode cX4_at 17 = .ok (.iaload, 1) := by decide +kernel
theorem dX4_at_18 : decode cX4_at 18 = .ok (.goto 4, 3) := by decide +kernel
theorem dX4_at_21 : decode cX4_at 21 = .ok (.iconst (-1), 1) := by decide +kernel
theorem dX4_at_22 : decode cX4_at 22 = .ok (.ireturn, 1) := by decide +kernel
theorem dX4_placeOf_0 : decode cX4_placeOf 0 = .ok (.iconst 0, 1) := by decide +kernel
theorem dX4_placeOf_1 : decode cX4_placeOf 1 = .ok (.istore_n 2, 1) := by decide +kernel
theorem dX4_placeOf_2 : decode cX4_placeOf 2 = .ok (.iload_n 2, 1) := by decide +kernel
theorem dX4_placeOf_3 : decode cX4_placeOf 3 = .ok (.aload_n 0, 1) := by decide +kernel
theorem dX4_placeOf_4 : decode cX4_placeOf 4 = .ok (.getfield 37, 3) := by decide +kernel
theorem dX4_placeOf_7 : decode cX4_placeOf 7 = .ok (.if_icmp .ge 21, 3) := by decide +kernel
theorem dX4_placeOf_10 : decode cX4_placeOf 10 = .ok (.aload_n 0, 1) := by decide +kernel
theorem dX4_placeOf_11 : decode cX4_placeOf 11 = .ok (.getfield 34, 3) := by decide +kernel
theorem dX4_placeOf_14 : decode cX4_placeOf 14 = .ok (.iload_n 2, 1) := by decide +kernel
theorem dX4_placeOf_15 : decode cX4_placeOf 15 = .ok (.iaload, 1) := by decide +kernel
theorem dX4_placeOf_16 : decode cX4_placeOf 16 = .ok (.iload_n 1, 1) := by decide +kernel
theorem dX4_placeOf_17 : decode cX4_placeOf 17 = .ok (.if_icmp .ne 5, 3) := by decide +kernel
theorem dX4_placeOf_20 : decode cX4_placeOf 20 = .ok (.iload_n 2, 1) := by decide +kernel
theorem dX4_placeOf_21 : decode cX4_placeOf 21 = .ok (.ireturn, 1) := by decide +kernel
theorem dX4_placeOf_22 : decode cX4_placeOf 22 = .ok (.iinc 2 1, 3) := by decide +kernel
theorem dX4_placeOf_25 : decode cX4_placeOf 25 = .ok (.goto (-23), 3) := by decide +kernel
theorem dX4_placeOf_28 : decode cX4_placeOf 28 = .ok (.iconst (-1), 1) := by decide +kernel
theorem dX4_placeOf_29 : decode cX4_placeOf 29 = .ok (.ireturn, 1) := by decide +kernel
theorem dX4_has_0 : decode cX4_has 0 = .ok (.iload_n 1, 1) := by decide +kernel
theorem dX4_has_1 : decode cX4_has 1 = .ok (.invokestatic 76, 3) := by decide +kernel
theorem dX4_has_4 : decode cX4_has 4 = .ok (.ifCond .eq 20, 3) := by decide +kernel
theorem dX4_has_7 : decode cX4_has 7 = .ok (.aload_n 0, 1) := by decide +kernel
theorem dX4_has_8 : decode cX4_has 8 = .ok (.getfield 40, 3) := by decide +kernel
theorem dX4_has_11 : decode cX4_has 11 = .ok (.lconst 1, 1) := by decide +kernel
theorem dX4_has_12 : decode cX4_has 12 = .ok (.iload_n 1, 1) := by decide +kernel
theorem dX4_has_13 : decode cX4_has 13 = .ok (.lshl, 1) := by decide +kernel
theorem dX4_has_14 : decode cX4_has 14 = .ok (.land, 1) := by decide +kernel
theorem dX4_has_15 : decode cX4_has 15 = .ok (.lconst 0, 1) := by decide +kernel
theorem dX4_has_16 : decode cX4_has 16 = .ok (.lcmp, 1) := by decide +kernel
theorem dX4_has_17 : decode cX4_has 17 = .ok (.ifCond .eq 7, 3) := by decide +kernel
theorem dX4_has_20 : decode cX4_has 20 = .ok (.iconst 1, 1) := by decide +kernel
theorem dX4_has_21 : decode cX4_has 21 = .ok (.goto 4, 3) := by decide +kernel
theorem dX4_has_24 : decode cX4_has 24 = .ok (.iconst 0, 1) := by decide +kernel
theorem dX4_has_25 : decode cX4_has 25 = .ok (.ireturn, 1) := by decide +kernel
theorem dX4_stateByWrit_0 : decode cX4_stateByWrit 0 = .ok (.aload_n 0, 1) := by decide +kernel
theorem dX4_stateByWrit_1 : decode cX4_stateByWrit 1 = .ok (.iconst 0, 1) := by decide +kernel
theorem dX4_stateByWrit_2 : decode cX4_stateByWrit 2 = .ok (.putfield 47, 3) := by decide +kernel
theorem dX4_stateByWrit_5 : decode cX4_stateByWrit 5 = .ok (.aload_n 0, 1) := by decide +kernel
theorem dX4_stateByWrit_6 : decode cX4_stateByWrit 6 = .ok (.getfield 37, 3) := by decide +kernel
theorem dX4_stateByWrit_9 : decode cX4_stateByWrit 9 = .ok (.ifCond .ne 5, 3) := by decide +kernel
theorem dX4_stateByWrit_12 : decode cX4_stateByWrit 12 = .ok (.iconst (-1), 1) := by decide +kernel
theorem dX4_stateByWrit_13 : decode cX4_stateByWrit 13 = .ok (.ireturn, 1) := by decide +kernel
theorem dX4_stateByWrit_14 : decode cX4_stateByWrit 14 = .ok (.iload_n 1, 1) := by decide +kernel
theorem dX4_stateByWrit_15 : decode cX4_stateByWrit 15 = .ok (.istore_n 2, 1) := by decide +kernel
theorem dX4_stateByWrit_16 : decode cX4_stateByWrit 16 = .ok (.iconst 0, 1) := by decide +kernel
theorem dX4_stateByWrit_17 : decode cX4_stateByWrit 17 = .ok (.istore_n 3, 1) := by decide +kernel
theorem dX4_stateByWrit_18 : decode cX4_stateByWrit 18 = .ok (.iload_n 3, 1) := by decide +kernel
theorem dX4_stateByWrit_19 : decode cX4_stateByWrit 19 = .ok (.bipush 64, 2) := by decide +kernel
theorem dX4_stateByWrit_21 : decode cX4_stateByWrit 21 = .ok (.if_icmp .ge 46, 3) := by decide +kernel
theorem dX4_stateByWrit_24 : decode cX4_stateByWrit 24 = .ok (.iload_n 2, 1) := by decide +kernel
theorem dX4_stateByWrit_25 : decode cX4_stateByWrit 25 = .ok (.iconst (-1), 1) := by decide +kernel
theorem dX4_stateByWrit_26 : decode cX4_stateByWrit 26 = .ok (.if_icmp .eq 41, 3) := by decide +kernel
theorem dX4_stateByWrit_29 : decode cX4_stateByWrit 29 = .ok (.aload_n 0, 1) := by decide +kernel
theorem dX4_stateByWrit_30 : decode cX4_stateByWrit 30 = .ok (.iload_n 2, 1) := by decide +kernel
theorem dX4_stateByWrit_31 : decode cX4_stateByWrit 31 = .ok (.invokevirtual 102, 3) := by decide +kernel
theorem dX4_stateByWrit_34 : decode cX4_stateByWrit 34 = .ok (.ifCond .ne 33, 3) := by decide +kernel
theorem dX4_stateByWrit_37 : decode cX4_stateByWrit 37 = .ok (.aload_n 0, 1) := by decide +kernel
theorem dX4_stateByWrit_38 : decode cX4_stateByWrit 38 = .ok (.iload_n 2, 1) := by decide +kernel
theorem dX4_stateByWrit_39 : decode cX4_stateByWrit 39 = .ok (.invokevirtual 105, 3) := by decide +kernel
theorem dX4_stateByWrit_42 : decode cX4_stateByWrit 42 = .ok (.istore 4, 2) := by decide +kernel
theorem dX4_stateByWrit_44 : decode cX4_stateByWrit 44 = .ok (.iload 4, 2) := by decide +kernel
theorem dX4_stateByWrit_46 : decode cX4_stateByWrit 46 = .ok (.iconst (-1), 1) := by decide +kernel
theorem dX4_stateByWrit_47 : decode cX4_stateByWrit 47 = .ok (.if_icmp .eq 8, 3) := by decide +kernel
theorem dX4_stateByWrit_50 : decode cX4_stateByWrit 50 = .ok (.iload 4, 2) := by decide +kernel
theorem dX4_stateByWrit_52 : decode cX4_stateByWrit 52 = .ok (.goto 8, 3) := by decide +kernel
theorem dX4_stateByWrit_55 : decode cX4_stateByWrit 55 = .ok (.aload_n 0, 1) := by decide +kernel
theorem dX4_stateByWrit_56 : decode cX4_stateByWrit 56 = .ok (.iload_n 2, 1) := by decide +kernel
theorem dX4_stateByWrit_57 : decode cX4_stateByWrit 57 = .ok (.invokevirtual 108, 3) := by decide +kernel
theorem dX4_stateByWrit_60 : decode cX4_stateByWrit 60 = .ok (.istore_n 2, 1) := by decide +kernel
theorem dX4_stateByWrit_61 : decode cX4_stateByWrit 61 = .ok (.iinc 3 1, 3) := by decide +kernel
theorem dX4_stateByWrit_64 : decode cX4_stateByWrit 64 = .ok (.goto (-46), 3) := by decide +kernel
theorem dX4_stateByWrit_67 : decode cX4_stateByWrit 67 = .ok (.aload_n 0, 1) := by decide +kernel
theorem dX4_stateByWrit_68 : decode cX4_stateByWrit 68 = .ok (.getfield 47, 3) := by decide +kernel
theorem dX4_stateByWrit_71 : decode cX4_stateByWrit 71 = .ok (.iconst 1, 1) := by decide +kernel
theorem dX4_stateByWrit_72 : decode cX4_stateByWrit 72 = .ok (.if_icmp .le 8, 3) := by decide +kernel
theorem dX4_stateByWrit_75 : decode cX4_stateByWrit 75 = .ok (.bipush (-2), 2) := by decide +kernel
theorem dX4_stateByWrit_77 : decode cX4_stateByWrit 77 = .ok (.goto 4, 3) := by decide +kernel
theorem dX4_stateByWrit_80 : decode cX4_stateByWrit 80 = .ok (.iload_n 2, 1) := by decide +kernel
theorem dX4_stateByWrit_81 : decode cX4_stateByWrit 81 = .ok (.ireturn, 1) := by decide +kernel
theorem dX4_eldestSonWithLine_0 : decode cX4_eldestSonWithLine 0 = .ok (.iconst 0, 1) := by decide +kernel
theorem dX4_eldestSonWithLine_1 : decode cX4_eldestSonWithLine 1 = .ok (.istore_n 2, 1) := by decide +kernel
theorem dX4_eldestSonWithLine_2 : decode cX4_eldestSonWithLine 2 = .ok (.iload_n 2, 1) := by decide +kernel
theorem dX4_eldestSonWithLine_3 : decode cX4_eldestSonWithLine 3 = .ok (.aload_n 0, 1) := by decide +kernel
theorem dX4_eldestSonWithLine_4 : decode cX4_eldestSonWithLine 4 = .ok (.getfield 54, 3) := by decide +kernel
theorem dX4_eldestSonWithLine_7 : decode cX4_eldestSonWithLine 7 = .ok (.iload_n 1, 1) := by decide +kernel
theorem dX4_eldestSonWithLine_8 : decode cX4_eldestSonWithLine 8 = .ok (.invokevirtual 91, 3) := by decide +kernel
theorem dX4_eldestSonWithLine_11 : decode cX4_eldestSonWithLine 11 = .ok (.if_icmp .ge 50, 3) := by decide +kernel
theorem dX4_eldestSonWithLine_14 : decode cX4_eldestSonWithLine 14 = .ok (.aload_n 0, 1) := by decide +kernel
theorem dX4_eldestSonWithLine_15 : decode cX4_eldestSonWithLine 15 = .ok (.getfield 54, 3) := by decide +kernel
theorem dX4_eldestSonWithLine_18 : decode cX4_eldestSonWithLine 18 = .ok (.iload_n 1, 1) := by decide +kernel
theorem dX4_eldestSonWithLine_19 : decode cX4_eldestSonWithLine 19 = .ok (.iload_n 2, 1) := by decide +kernel
theorem dX4_eldestSonWithLine_20 : decode cX4_eldestSonWithLine 20 = .ok (.invokevirtual 94, 3) := by decide +kernel
theorem dX4_eldestSonWithLine_23 : decode cX4_eldestSonWithLine 23 = .ok (.istore_n 3, 1) := by decide +kernel
theorem dX4_eldestSonWithLine_24 : decode cX4_eldestSonWithLine 24 = .ok (.aload_n 0, 1) := by decide +kernel
theorem dX4_eldestSonWithLine_25 : decode cX4_eldestSonWithLine 25 = .ok (.getfield 50, 3) := by decide +kernel
theorem dX4_eldestSonWithLine_28 : decode cX4_eldestSonWithLine 28 = .ok (.iload_n 3, 1) := by decide +kernel
theorem dX4_eldestSonWithLine_29 : decode cX4_eldestSonWithLine 29 = .ok (.invokevirtual 72, 3) := by decide +kernel
theorem dX4_eldestSonWithLine_32 : decode cX4_eldestSonWithLine 32 = .ok (.ifCond .eq 23, 3) := by decide +kernel
theorem dX4_eldestSonWithLine_35 : decode cX4_eldestSonWithLine 35 = .ok (.aload_n 0, 1) := by decide +kernel
theorem dX4_eldestSonWithLine_36 : decode cX4_eldestSonWithLine 36 = .ok (.getfield 54, 3) := by decide +kernel
theorem dX4_eldestSonWithLine_39 : decode cX4_eldestSonWithLine 39 = .ok (.iload_n 3, 1) := by decide +kernel
theorem dX4_eldestSonWithLine_40 : decode cX4_eldestSonWithLine 40 = .ok (.invokevirtual 111, 3) := by decide +kernel
theorem dX4_eldestSonWithLine_43 : decode cX4_eldestSonWithLine 43 = .ok (.aload_n 0, 1) := by decide +kernel
theorem dX4_eldestSonWithLine_44 : decode cX4_eldestSonWithLine 44 = .ok (.getfield 40, 3) := by decide +kernel
theorem dX4_eldestSonWithLine_47 : decode cX4_eldestSonWithLine 47 = .ok (.land, 1) := by decide +kernel
theorem dX4_eldestSonWithLine_48 : decode cX4_eldestSonWithLine 48 = .ok (.lconst 0, 1) := by decide +kernel
theorem dX4_eldestSonWithLine_49 : decode cX4_eldestSonWithLine 49 = .ok (.lcmp, 1) := by decide +kernel
theorem dX4_eldestSonWithLine_50 : decode cX4_eldestSonWithLine 50 = .ok (.ifCond .eq 5, 3) := by decide +kernel
theorem dX4_eldestSonWithLine_53 : decode cX4_eldestSonWithLine 53 = .ok (.iload_n 3, 1) := by decide +kernel
theorem dX4_eldestSonWithLine_54 : decode cX4_eldestSonWithLine 54 = .ok (.ireturn, 1) := by decide +kernel
theorem dX4_eldestSonWithLine_55 : decode cX4_eldestSonWithLine 55 = .ok (.iinc 2 1, 3) := by decide +kernel
theorem dX4_eldestSonWithLine_58 : decode cX4_eldestSonWithLine 58 = .ok (.goto (-56), 3) := by decide +kernel
theorem dX4_eldestSonWithLine_61 : decode cX4_eldestSonWithLine 61 = .ok (.iconst (-1), 1) := by decide +kernel
theorem dX4_eldestSonWithLine_62 : decode cX4_eldestSonWithLine 62 = .ok (.ireturn, 1) := by decide +kernel
theorem dX4_soleDaughterWithLine_0 : decode cX4_soleDaughterWithLine 0 = .ok (.lconst 0, 1) := by decide +kernel
theorem dX4_soleDaughterWithLine_1 : decode cX4_soleDaughterWithLine 1 = .ok (.lstore_n 2, 1) := by decide +kernel
theorem dX4_soleDaughterWithLine_2 : decode cX4_soleDaughterWithLine 2 = .ok (.iconst (-1), 1) := by decide +kernel
theorem dX4_soleDaughterWithLine_3 : decode cX4_soleDaughterWithLine 3 = .ok (.istore 4, 2) := by decide +kernel
theorem dX4_soleDaughterWithLine_5 : decode cX4_soleDaughterWithLine 5 = .ok (.aload_n 0, 1) := by decide +kernel
theorem dX4_soleDaughterWithLine_6 : decode cX4_soleDaughterWithLine 6 = .ok (.iconst 0, 1) := by decide +kernel
theorem dX4_soleDaughterWithLine_7 : decode cX4_soleDaughterWithLine 7 = .ok (.putfield 47, 3) := by decide +kernel
theorem dX4_soleDaughterWithLine_10 : decode cX4_soleDaughterWithLine 10 = .ok (.iconst 0, 1) := by decide +kernel
theorem dX4_soleDaughterWithLine_11 : decode cX4_soleDaughterWithLine 11 = .ok (.istore 5, 2) := by decide +kernel
theorem dX4_soleDaughterWithLine_13 : decode cX4_soleDaughterWithLine 13 = .ok (.iload 5, 2) := by decide +kernel
theorem dX4_soleDaughterWithLine_15 : decode cX4_soleDaughterWithLine 15 = .ok (.aload_n 0, 1) := by decide +kernel
theorem dX4_soleDaughterWithLine_16 : decode cX4_soleDaughterWithLine 16 = .ok (.getfield 54, 3) := by decide +kernel
theorem dX4_soleDaughterWithLine_19 : decode cX4_soleDaughterWithLine 19 = .ok (.iload_n 1, 1) := by decide +kernel
theorem dX4_soleDaughterWithLine_20 : decode cX4_soleDaughterWithLine 20 = .ok (.invokevirtual 91, 3) := by decide +kernel
theorem dX4_soleDaughterWithLine_23 : decode cX4_soleDaughterWithLine 23 = .ok (.if_icmp .ge 112, 3) := by decide +kernel
theorem dX4_soleDaughterWithLine_26 : decode cX4_soleDaughterWithLine 26 = .ok (.aload_n 0, 1) := by decide +kernel
theorem dX4_soleDaughterWithLine_27 : decode cX4_soleDaughterWithLine 27 = .ok (.getfield 54, 3) := by decide +kernel
theorem dX4_soleDaughterWithLine_30 : decode cX4_soleDaughterWithLine 30 = .ok (.iload_n 1, 1) := by decide +kernel
theorem dX4_soleDaughterWithLine_31 : decode cX4_soleDaughterWithLine 31 = .ok (.iload 5, 2) := by decide +kernel
theorem dX4_soleDaughterWithLine_33 : decode cX4_soleDaughterWithLine 33 = .ok (.invokevirtual 94, 3) := by decide +kernel
theorem dX4_soleDaughterWithLine_36 : decode cX4_soleDaughterWithLine 36 = .ok (.istore 6, 2) := by decide +kernel
theorem dX4_soleDaughterWithLine_38 : decode cX4_soleDaughterWithLine 38 = .ok (.aload_n 0, 1) := by decide +kernel
theorem dX4_soleDaughterWithLine_39 : decode cX4_soleDaughterWithLine 39 = .ok (.getfield 54, 3) := by decide +kernel
theorem dX4_soleDaughterWithLine_42 : decode cX4_soleDaughterWithLine 42 = .ok (.iload 6, 2) := by decide +kernel
theorem dX4_soleDaughterWithLine_44 : decode cX4_soleDaughterWithLine 44 = .ok (.invokevirtual 111, 3) := by decide +kernel
theorem dX4_soleDaughterWithLine_47 : decode cX4_soleDaughterWithLine 47 = .ok (.aload_n 0, 1) := by decide +kernel
theorem dX4_soleDaughterWithLine_48 : decode cX4_soleDaughterWithLine 48 = .ok (.getfield 40, 3) := by decide +kernel
theorem dX4_soleDaughterWithLine_51 : decode cX4_soleDaughterWithLine 51 = .ok (.land, 1) := by decide +kernel
theorem dX4_soleDaughterWithLine_52 : decode cX4_soleDaughterWithLine 52 = .ok (.lload_n 2, 1) := by decide +kernel
theorem dX4_soleDaughterWithLine_53 : decode cX4_soleDaughterWithLine 53 = .ok (.ldc2_w 114, 3) := by decide +kernel
theorem dX4_soleDaughterWithLine_56 : decode cX4_soleDaughterWithLine 56 = .ok (.lxor, 1) := by decide +kernel
theorem dX4_soleDaughterWithLine_57 : decode cX4_soleDaughterWithLine 57 = .ok (.land, 1) := by decide +kernel
theorem dX4_soleDaughterWithLine_58 : decode cX4_soleDaughterWithLine 58 = .ok (.lstore 7, 2) := by decide +kernel
theorem dX4_soleDaughterWithLine_60 : decode cX4_soleDaughterWithLine 60 = .ok (.aload_n 0, 1) := by decide +kernel
theorem dX4_soleDaughterWithLine_61 : decode cX4_soleDaughterWithLine 61 = .ok (.getfield 50, 3) := by decide +kernel
theorem dX4_soleDaughterWithLine_64 : decode cX4_soleDaughterWithLine 64 = .ok (.iload 6, 2) := by decide +kernel
theorem dX4_soleDaughterWithLine_66 : decode cX4_soleDaughterWithLine 66 = .ok (.invokevirtual 72, 3) := by decide +kernel
theorem dX4_soleDaughterWithLine_69 : decode cX4_soleDaughterWithLine 69 = .ok (.ifCond .ne 60, 3) := by decide +kernel
theorem dX4_soleDaughterWithLine_72 : decode cX4_soleDaughterWithLine 72 = .ok (.lload 7, 2) := by decide +kernel
theorem dX4_soleDaughterWithLine_74 : decode cX4_soleDaughterWithLine 74 = .ok (.lconst 0, 1) := by decide +kernel
theorem dX4_soleDaughterWithLine_75 : decode cX4_soleDaughterWithLine 75 = .ok (.lcmp, 1) := by decide +kernel
theorem dX4_soleDaughterWithLine_76 : decode cX4_soleDaughterWithLine 76 = .ok (.ifCond .eq 53, 3) := by decide +kernel
theorem dX4_soleDaughterWithLine_79 : decode cX4_soleDaughterWithLine 79 = .ok (.aload_n 0, 1) := by decide +kernel
theorem dX4_soleDaughterWithLine_80 : decode cX4_soleDaughterWithLine 80 = .ok (.getfield 47, 3) := by decide +kernel
theorem dX4_soleDaughterWithLine_83 : decode cX4_soleDaughterWithLine 83 = .ok (.bipush 64, 2) := by decide +kernel
theorem dX4_soleDaughterWithLine_85 : decode cX4_soleDaughterWithLine 85 = .ok (.if_icmp .lt 6, 3) := by decide +kernel
theorem dX4_soleDaughterWithLine_88 : decode cX4_soleDaughterWithLine 88 = .ok (.goto 41, 3) := by decide +kernel
theorem dX4_soleDaughterWithLine_91 : decode cX4_soleDaughterWithLine 91 = .ok (.aload_n 0, 1) := by decide +kernel
theorem dX4_soleDaughterWithLine_92 : decode cX4_soleDaughterWithLine 92 = .ok (.getfield 44, 3) := by decide +kernel
theorem dX4_soleDaughterWithLine_95 : decode cX4_soleDaughterWithLine 95 = .ok (.aload_n 0, 1) := by decide +kernel
theorem dX4_soleDaughterWithLine_96 : decode cX4_soleDaughterWithLine 96 = .ok (.dup, 1) := by decide +kernel
theorem dX4_soleDaughterWithLine_97 : decode cX4_soleDaughterWithLine 97 = .ok (.getfield 47, 3) := by decide +kernel
theorem dX4_soleDaughterWithLine_100 : decode cX4_soleDaughterWithLine 100 = .ok (.dup_x1, 1) := by decide +kernel
theorem dX4_soleDaughterWithLine_101 : decode cX4_soleDaughterWithLine 101 = .ok (.iconst 1, 1) := by decide +kernel
theorem dX4_soleDaughterWithLine_102 : decode cX4_soleDaughterWithLine 102 = .ok (.iadd, 1) := by decide +kernel
theorem dX4_soleDaughterWithLine_103 : decode cX4_soleDaughterWithLine 103 = .ok (.putfield 47, 3) := by decide +kernel
theorem dX4_soleDaughterWithLine_106 : decode cX4_soleDaughterWithLine 106 = .ok (.aload_n 0, 1) := by decide +kernel
theorem dX4_soleDaughterWithLine_107 : decode cX4_soleDaughterWithLine 107 = .ok (.lload 7, 2) := by decide +kernel
theorem dX4_soleDaughterWithLine_109 : decode cX4_soleDaughterWithLine 109 = .ok (.invokevirtual 116, 3) := by decide +kernel
theorem dX4_soleDaughterWithLine_112 : decode cX4_soleDaughterWithLine 112 = .ok (.iastore, 1) := by decide +kernel
theorem dX4_soleDaughterWithLine_113 : decode cX4_soleDaughterWithLine 113 = .ok (.lload_n 2, 1) := by decide +kernel
theorem dX4_soleDaughterWithLine_114 : decode cX4_soleDaughterWithLine 114 = .ok (.aload_n 0, 1) := by decide +kernel
theorem dX4_soleDaughterWithLine_115 : decode cX4_soleDaughterWithLine 115 = .ok (.getfield 54, 3) := by decide +kernel
theorem dX4_soleDaughterWithLine_118 : decode cX4_soleDaughterWithLine 118 = .ok (.iload 6, 2) := by decide +kernel
theorem dX4_soleDaughterWithLine_120 : decode cX4_soleDaughterWithLine 120 = .ok (.invokevirtual 111, 3) := by decide +kernel
theorem dX4_soleDaughterWithLine_123 : decode cX4_soleDaughterWithLine 123 = .ok (.lor, 1) := by decide +kernel
theorem dX4_soleDaughterWithLine_124 : decode cX4_soleDaughterWithLine 124 = .ok (.lstore_n 2, 1) := by decide +kernel
theorem dX4_soleDaughterWithLine_125 : decode cX4_soleDaughterWithLine 125 = .ok (.iload 6, 2) := by decide +kernel
theorem dX4_soleDaughterWithLine_127 : decode cX4_soleDaughterWithLine 127 = .ok (.istore 4, 2) := by decide +kernel
theorem dX4_soleDaughterWithLine_129 : decode cX4_soleDaughterWithLine 129 = .ok (.iinc 5 1, 3) := by decide +kernel
theorem dX4_soleDaughterWithLine_132 : decode cX4_soleDaughterWithLine 132 = .ok (.goto (-119), 3) := by decide +kernel
theorem dX4_soleDaughterWithLine_135 : decode cX4_soleDaughterWithLine 135 = .ok (.aload_n 0, 1) := by decide +kernel
theorem dX4_soleDaughterWithLine_136 : decode cX4_soleDaughterWithLine 136 = .ok (.getfield 47, 3) := by decide +kernel
theorem dX4_soleDaughterWithLine_139 : decode cX4_soleDaughterWithLine 139 = .ok (.iconst 1, 1) := by decide +kernel
theorem dX4_soleDaughterWithLine_140 : decode cX4_soleDaughterWithLine 140 = .ok (.if_icmp .le 5, 3) := by decide +kernel
theorem dX4_soleDaughterWithLine_143 : decode cX4_soleDaughterWithLine 143 = .ok (.iconst (-1), 1) := by decide +kernel
theorem dX4_soleDaughterWithLine_144 : decode cX4_soleDaughterWithLine 144 = .ok (.ireturn, 1) := by decide +kernel
theorem dX4_soleDaughterWithLine_145 : decode cX4_soleDaughterWithLine 145 = .ok (.aload_n 0, 1) := by decide +kernel
theorem dX4_soleDaughterWithLine_146 : decode cX4_soleDaughterWithLine 146 = .ok (.iconst 0, 1) := by decide +kernel
theorem dX4_soleDaughterWithLine_147 : decode cX4_soleDaughterWithLine 147 = .ok (.putfield 47, 3) := by decide +kernel
theorem dX4_soleDaughterWithLine_150 : decode cX4_soleDaughterWithLine 150 = .ok (.iload 4, 2) := by decide +kernel
theorem dX4_soleDaughterWithLine_152 : decode cX4_soleDaughterWithLine 152 = .ok (.ireturn, 1) := by decide +kernel
theorem dX4_firstOf_0 : decode cX4_firstOf 0 = .ok (.iconst 0, 1) := by decide +kernel
theorem dX4_firstOf_1 : decode cX4_firstOf 1 = .ok (.istore_n 3, 1) := by decide +kernel
theorem dX4_firstOf_2 : decode cX4_firstOf 2 = .ok (.iload_n 3, 1) := by decide +kernel
theorem dX4_firstOf_3 : decode cX4_firstOf 3 = .ok (.aload_n 0, 1) := by decide +kernel
theorem dX4_firstOf_4 : decode cX4_firstOf 4 = .ok (.getfield 37, 3) := by decide +kernel
theorem dX4_firstOf_7 : decode cX4_firstOf 7 = .ok (.if_icmp .ge 31, 3) := by decide +kernel
theorem dX4_firstOf_10 : decode cX4_firstOf 10 = .ok (.lload_n 1, 1) := by decide +kernel
theorem dX4_firstOf_11 : decode cX4_firstOf 11 = .ok (.lconst 1, 1) := by decide +kernel
theorem dX4_firstOf_12 : decode cX4_firstOf 12 = .ok (.aload_n 0, 1) := by decide +kernel
theorem dX4_firstOf_13 : decode cX4_firstOf 13 = .ok (.getfield 34, 3) := by decide +kernel
theorem dX4_firstOf_16 : decode cX4_firstOf 16 = .ok (.iload_n 3, 1) := by decide +kernel
theorem dX4_firstOf_17 : decode cX4_firstOf 17 = .ok (.iaload, 1) := by decide +kernel
theorem dX4_firstOf_18 : decode cX4_firstOf 18 = .ok (.lshl, 1) := by decide +kernel
theorem dX4_firstOf_19 : decode cX4_firstOf 19 = .ok (.land, 1) := by decide +kernel
theorem dX4_firstOf_20 : decode cX4_firstOf 20 = .ok (.lconst 0, 1) := by decide +kernel
theorem dX4_firstOf_21 : decode cX4_firstOf 21 = .ok (.lcmp, 1) := by decide +kernel
theorem dX4_firstOf_22 : decode cX4_firstOf 22 = .ok (.ifCond .eq 10, 3) := by decide +kernel
theorem dX4_firstOf_25 : decode cX4_firstOf 25 = .ok (.aload_n 0, 1) := by decide +kernel
theorem dX4_firstOf_26 : decode cX4_firstOf 26 = .ok (.getfield 34, 3) := by decide +kernel
theorem dX4_firstOf_29 : decode cX4_firstOf 29 = .ok (.iload_n 3, 1) := by decide +kernel
theorem dX4_firstOf_30 : decode cX4_firstOf 30 = .ok (.iaload, 1) := by decide +kernel
theorem dX4_firstOf_31 : decode cX4_firstOf 31 = .ok (.ireturn, 1) := by decide +kernel
theorem dX4_firstOf_32 : decode cX4_firstOf 32 = .ok (.iinc 3 1, 3) := by decide +kernel
theorem dX4_firstOf_35 : decode cX4_firstOf 35 = .ok (.goto (-33), 3) := by decide +kernel
theorem dX4_firstOf_38 : decode cX4_firstOf 38 = .ok (.iconst (-1), 1) := by decide +kernel
theorem dX4_firstOf_39 : decode cX4_firstOf 39 = .ok (.ireturn, 1) := by decide +kernel
theorem dX5_init_0 : decode cX5_init 0 = .ok (.aload_n 0, 1) := by decide +kernel
theorem dX5_init_1 : decode cX5_init 1 = .ok (.invokespecial 3, 3) := by decide +kernel
theorem dX5_init_4 : decode cX5_init 4 = .ok (.aload_n 0, 1) := by decide +kernel
theorem dX5_init_5 : decode cX5_init 5 = .ok (.bipush 64, 2) := by decide +kernel
theorem dX5_init_7 : decode cX5_init 7 = .ok (.newarray .boolean, 2) := by decide +kernel
theorem dX5_init_9 : decode cX5_init 9 = .ok (.putfield 9, 3) := by decide +kernel
theorem dX5_init_12 : decode cX5_init 12 = .ok (.aload_n 0, 1) := by decide +kernel
theorem dX5_init_13 : decode cX5_init 13 = .ok (.bipush 64, 2) := by decide +kernel
theorem dX5_init_15 : decode cX5_init 15 = .ok (.newarray .boolean, 2) := by decide +kernel
theorem dX5_init_17 : decode cX5_init 17 = .ok (.putfield 15, 3) := by decide +kernel
theorem dX5_init_20 : decode cX5_init 20 = .ok (.aload_n 0, 1) := by decide +kernel
theorem dX5_init_21 : decode cX5_init 21 = .ok (.bipush 64, 2) := by decide +kernel
theorem dX5_init_23 : decode cX5_init 23 = .ok (.newarray .int, 2) := by decide +kernel
theorem dX5_init_25 : decode cX5_init 25 = .ok (.putfield 18, 3) := by decide +kernel
theorem dX5_init_28 : decode cX5_init 28 = .ok (.aload_n 0, 1) := by decide +kernel
theorem dX5_init_29 : decode cX5_init 29 = .ok (.bipush 64, 2) := by decide +kernel
theorem dX5_init_31 : decode cX5_init 31 = .ok (.newarray .int, 2) := by decide +kernel
theorem dX5_init_33 : decode cX5_init 33 = .ok (.putfield 22, 3) := by decide +kernel
theorem dX5_init_36 : decode cX5_init 36 = .ok (.aload_n 0, 1) := by decide +kernel
theorem dX5_init_37 : decode cX5_init 37 = .ok (.bipush 64, 2) := by decide +kernel
theorem dX5_init_39 : decode cX5_init 39 = .ok (.newarray .int, 2) := by decide +kernel
theorem dX5_init_41 : decode cX5_init 41 = .ok (.putfield 25, 3) := by decide +kernel
theorem dX5_init_44 : decode cX5_init 44 = .ok (.aload_n 0, 1) := by decide +kernel
theorem dX5_init_45 : decode cX5_init 45 = .ok (.bipush 64, 2) := by decide +kernel
theorem dX5_init_47 : decode cX5_init 47 = .ok (.newarray .int, 2) := by decide +kernel
theorem dX5_init_49 : decode cX5_init 49 = .ok (.putfield 28, 3) := by decide +kernel
theorem dX5_init_52 : decode cX5_init 52 = .ok (.aload_n 0, 1) := by decide +kernel
theorem dX5_init_53 : decode cX5_init 53 = .ok (.bipush 64, 2) := by decide +kernel
theorem dX5_init_55 : decode cX5_init 55 = .ok (.newarray .int, 2) := by decide +kernel
theorem dX5_init_57 : decode cX5_init 57 = .ok (.putfield 31, 3) := by decide +kernel
theorem dX5_init_60 : decode cX5_init 60 = .ok (.aload_n 0, 1) := by decide +kernel
theorem dX5_init_61 : decode cX5_init 61 = .ok (.bipush 64, 2) := by decide +kernel
theorem dX5_init_63 : decode cX5_init 63 = .ok (.newarray .int, 2) := by decide +kernel
theorem dX5_init_65 : decode cX5_init 65 = .ok (.putfield 34, 3) := by decide +kernel
theorem dX5_init_68 : decode cX5_init 68 = .ok (.return_, 1) := by decide +kernel
theorem dX5_rebuild_0 : decode cX5_rebuild 0 = .ok (.iconst 0, 1) := by decide +kernel
theorem dX5_rebuild_1 : decode cX5_rebuild 1 = .ok (.istore_n 2, 1) := by decide +kernel
theorem dX5_rebuild_2 : decode cX5_rebuild 2 = .ok (.iload_n 2, 1) := by decide +kernel
theorem dX5_rebuild_3 : decode cX5_rebuild 3 = .ok (.bipush 64, 2) := by decide +kernel
theorem dX5_rebuild_5 : decode cX5_rebuild 5 = .ok (.if_icmp .ge 51, 3) := by decide +kernel
theorem dX5_rebuild_8 : decode cX5_rebuild 8 = .ok (.aload_n 0, 1) := by decide +kernel
theorem dX5_rebuild_9 : decode cX5_rebuild 9 = .ok (.getfield 9, 3) := by decide +kernel
theorem dX5_rebuild_12 : decode cX5_rebuild 12 = .ok (.iload_n 2, 1) := by decide +kernel
theorem dX5_rebuild_13 : decode cX5_rebuild 13 = .ok (.iconst 0, 1) := by decide +kernel
theorem dX5_rebuild_14 : decode cX5_rebuild 14 = .ok (.bastore, 1) := by decide +kernel
theorem dX5_rebuild_15 : decode cX5_rebuild 15 = .ok (.aload_n 0, 1) := by decide +kernel
theorem dX5_rebuild_16 : decode cX5_rebuild 16 = .ok (.getfield 15, 3) := by decide +kernel
theorem dX5_rebuild_19 : decode cX5_rebuild 19 = .ok (.iload_n 2, 1) := by decide +kernel
theorem dX5_rebuild_20 : decode cX5_rebuild 20 = .ok (.iconst 0, 1) := by decide +kernel
theorem dX5_rebuild_21 : decode cX5_rebuild 21 = .ok (.bastore, 1) := by decide +kernel
theorem dX5_rebuild_22 : decode cX5_rebuild 22 = .ok (.aload_n 0, 1) := by decide +kernel
theorem dX5_rebuild_23 : decode cX5_rebuild 23 = .ok (.getfield 18, 3) := by decide +kernel
theorem dX5_rebuild_26 : decode cX5_rebuild 26 = .ok (.iload_n 2, 1) := by decide +kernel
theorem dX5_rebuild_27 : decode cX5_rebuild 27 = .ok (.iconst (-1), 1) := by decide +kernel
theorem dX5_rebuild_28 : decode cX5_rebuild 28 = .ok (.iastore, 1) := by decide +kernel
theorem dX5_rebuild_29 : decode cX5_rebuild 29 = .ok (.aload_n 0, 1) := by decide +kernel
theorem dX5_rebuild_30 : decode cX5_rebuild 30 = .ok (.getfield 22, 3) := by decide +kernel
theorem dX5_rebuild_33 : decode cX5_rebuild 33 = .ok (.iload_n 2, 1) := by decide +kernel
theorem dX5_rebuild_34 : decode cX5_rebuild 34 = .ok (.iconst (-1), 1) := by decide +kernel
theorem dX5_rebuild_35 : decode cX5_rebuild 35 = .ok (.iastore, 1) := by decide +kernel
theorem dX5_rebuild_36 : decode cX5_rebuild 36 = .ok (.aload_n 0, 1) := by decide +kernel
theorem dX5_rebuild_37 : decode cX5_rebuild 37 = .ok (.getfield 25, 3) := by decide +kernel
theorem dX5_rebuild_40 : decode cX5_rebuild 40 = .ok (.iload_n 2, 1) := by decide +kernel
theorem dX5_rebuild_41 : decode cX5_rebuild 41 = .ok (.iconst (-1), 1) := by decide +kernel
theorem dX5_rebuild_42 : decode cX5_rebuild 42 = .ok (.iastore, 1) := by decide +kernel
theorem dX5_rebuild_43 : decode cX5_rebuild 43 = .ok (.aload_n 0, 1) := by decide +kernel
theorem dX5_rebuild_44 : decode cX5_rebuild 44 = .ok (.getfield 28, 3) := by decide +kernel
theorem dX5_rebuild_47 : decode cX5_rebuild 47 = .ok (.iload_n 2, 1) := by decide +kernel
theorem dX5_rebuild_48 : decode cX5_rebuild 48 = .ok (.iconst (-1), 1) := by decide +kernel
theorem dX5_rebuild_49 : decode cX5_rebuild 49 = .ok (.iastore, 1) := by decide +kernel
theorem dX5_rebuild_50 : decode cX5_rebuild 50 = .ok (.iinc 2 1, 3) := by decide +kernel
theorem dX5_rebuild_53 : decode cX5_rebuild 53 = .ok (.goto (-51), 3) := by decide +kernel
theorem dX5_rebuild_56 : decode cX5_rebuild 56 = .ok (.iconst 0, 1) := by decide +kernel
theorem dX5_rebuild_57 : decode cX5_rebuild 57 = .ok (.istore_n 2, 1) := by decide +kernel
theorem dX5_rebuild_58 : decode cX5_rebuild 58 = .ok (.iload_n 2, 1) := by decide +kernel
theorem dX5_rebuild_59 : decode cX5_rebuild 59 = .ok (.aload_n 1, 1) := by decide +kernel
theorem dX5_rebuild_60 : decode cX5_rebuild 60 = .ok (.invokevirtual 37, 3) := by decide +kernel
theorem dX5_rebuild_63 : decode cX5_rebuild 63 = .ok (.if_icmp .ge 69, 3) := by decide +kernel
theorem dX5_rebuild_66 : decode cX5_rebuild 66 = .ok (.aload_n 1, 1) := by decide +kernel
theorem dX5_rebuild_67 : decode cX5_rebuild 67 = .ok (.iload_n 2, 1) := by decide +kernel
theorem dX5_rebuild_68 : decode cX5_rebuild 68 = .ok (.invokevirtual 43, 3) := by decide +kernel
theorem dX5_rebuild_71 : decode cX5_rebuild 71 = .ok (.astore_n 3, 1) := by decide +kernel
theorem dX5_rebuild_72 : decode cX5_rebuild 72 = .ok (.aload_n 3, 1) := by decide +kernel
theorem dX5_rebuild_73 : decode cX5_rebuild 73 = .ok (.ifnull 53, 3) := by decide +kernel
theorem dX5_rebuild_76 : decode cX5_rebuild 76 = .ok (.aload_n 3, 1) := by decide +kernel
theorem dX5_rebuild_77 : decode cX5_rebuild 77 = .ok (.getfield 47, 3) := by decide +kernel
theorem dX5_rebuild_80 : decode cX5_rebuild 80 = .ok (.invokestatic 53, 3) := by decide +kernel
theorem dX5_rebuild_83 : decode cX5_rebuild 83 = .ok (.ifCond .ne 6, 3) := by decide +kernel
theorem dX5_rebuild_86 : decode cX5_rebuild 86 = .ok (.goto 40, 3) := by decide +kernel
theorem dX5_rebuild_89 : decode cX5_rebuild 89 = .ok (.aload_n 3, 1) := by decide +kernel
theorem dX5_rebuild_90 : decode cX5_rebuild 90 = .ok (.getfield 57, 3) := by decide +kernel
theorem dX5_rebuild_93 : decode cX5_rebuild 93 = .ok (.ifCond .ne 12, 3) := by decide +kernel
theorem dX5_rebuild_96 : decode cX5_rebuild 96 = .ok (.aload_n 0, 1) := by decide +kernel
theorem dX5_rebuild_97 : decode cX5_rebuild 97 = .ok (.aload_n 3, 1) := by decide +kernel
theorem dX5_rebuild_98 : decode cX5_rebuild 98 = .ok (.aload_n 3, 1) := by decide +kernel
theorem dX5_rebuild_99 : decode cX5_rebuild 99 = .ok (.getfield 47, 3) := by decide +kernel
theorem dX5_rebuild_102 : decode cX5_rebuild 102 = .ok (.invokevirtual 60, 3) := by decide +kernel
theorem dX5_rebuild_105 : decode cX5_rebuild 105 = .ok (.aload_n 3, 1) := by decide +kernel
theorem dX5_rebuild_106 : decode cX5_rebuild 106 = .ok (.getfield 57, 3) := by decide +kernel
theorem dX5_rebuild_109 : decode cX5_rebuild 109 = .ok (.iconst 3, 1) := by decide +kernel
theorem dX5_rebuild_110 : decode cX5_rebuild 110 = .ok (.if_icmp .ne 16, 3) := by decide +kernel
theorem dX5_rebuild_113 : decode cX5_rebuild 113 = .ok (.aload_n 0, 1) := by decide +kernel
theorem dX5_rebuild_114 : decode cX5_rebuild 114 = .ok (.getfield 22, 3) := by decide +kernel
theorem dX5_rebuild_117 : decode cX5_rebuild 117 = .ok (.aload_n 3, 1) := by decide +kernel
theorem dX5_rebuild_118 : decode cX5_rebuild 118 = .ok (.getfield 47, 3) := by decide +kernel
theorem dX5_rebuild_121 : decode cX5_rebuild 121 = .ok (.aload_n 3, 1) := by decide +kernel
theorem dX5_rebuild_122 : decode cX5_rebuild 122 = .ok (.getfield 64, 3) := by decide +kernel
theorem dX5_rebuild_125 : decode cX5_rebuild 125 = .ok (.iastore, 1) := by decide +kernel
theorem dX5_rebuild_126 : decode cX5_rebuild 126 = .ok (.iinc 2 1, 3) := by decide +kernel
theorem dX5_rebuild_129 : decode cX5_rebuild 129 = .ok (.goto (-71), 3) := by decide +kernel
theorem dX5_rebuild_132 : decode cX5_rebuild 132 = .ok (.return_, 1) := by decide +kernel
theorem dX5_takeBirth_0 : decode cX5_takeBirth 0 = .ok (.aload_n 0, 1) := by decide +kernel
theorem dX5_takeBirth_1 : decode cX5_takeBirth 1 = .ok (.getfield 9, 3) := by decide +kernel
theorem dX5_takeBirth_4 : decode cX5_takeBirth 4 = .ok (.iload_n 2, 1) := by decide +kernel
theorem dX5_takeBirth_5 : decode cX5_takeBirth 5 = .ok (.iconst 1, 1) := by decide +kernel
theorem dX5_takeBirth_6 : decode cX5_takeBirth 6 = .ok (.bastore, 1) := by decide +kernel
theorem dX5_takeBirth_7 : decode cX5_takeBirth 7 = .ok (.aload_n 0, 1) := by decide +kernel
theorem dX5_takeBirth_8 : decode cX5_takeBirth 8 = .ok (.getfield 15, 3) := by decide +kernel
theorem dX5_takeBirth_11 : decode cX5_takeBirth 11 = .ok (.iload_n 2, 1) := by decide +kernel
theorem dX5_takeBirth_12 : decode cX5_takeBirth 12 = .ok (.aload_n 1, 1) := by decide +kernel
theorem dX5_takeBirth_13 : decode cX5_takeBirth 13 = .ok (.getfield 67, 3) := by decide +kernel
theorem dX5_takeBirth_16 : decode cX5_takeBirth 16 = .ok (.bastore, 1) := by decide +kernel
theorem dX5_takeBirth_17 : decode cX5_takeBirth 17 = .ok (.aload_n 0, 1) := by decide +kernel
theorem dX5_takeBirth_18 : decode cX5_takeBirth 18 = .ok (.getfield 18, 3) := by decide +kernel
theorem dX5_takeBirth_21 : decode cX5_takeBirth 21 = .ok (.iload_n 2, 1) := by decide +kernel
theorem dX5_takeBirth_22 : decode cX5_takeBirth 22 = .ok (.aload_n 1, 1) := by decide +kernel
theorem dX5_takeBirth_23 : decode cX5_takeBirth 23 = .ok (.getfield 64, 3) := by decide +kernel
theorem dX5_takeBirth_26 : decode cX5_takeBirth 26 = .ok (.iastore, 1) := by decide +kernel
theorem dX5_takeBirth_27 : decode cX5_takeBirth 27 = .ok (.aload_n 0, 1) := by decide +kernel
theorem dX5_takeBirth_28 : decode cX5_takeBirth 28 = .ok (.getfield 25, 3) := by decide +kernel
theorem dX5_takeBirth_31 : decode cX5_takeBirth 31 = .ok (.iload_n 2, 1) := by decide +kernel
theorem dX5_takeBirth_32 : decode cX5_takeBirth 32 = .ok (.aload_n 1, 1) := by decide +kernel
theorem dX5_takeBirth_33 : decode cX5_takeBirth 33 = .ok (.getfield 70, 3) := by decide +kernel
theorem dX5_takeBirth_36 : decode cX5_takeBirth 36 = .ok (.iastore, 1) := by decide +kernel
theorem dX5_takeBirth_37 : decode cX5_takeBirth 37 = .ok (.aload_n 0, 1) := by decide +kernel
theorem dX5_takeBirth_38 : decode cX5_takeBirth 38 = .ok (.getfield 28, 3) := by decide +kernel
theorem dX5_takeBirth_41 : decode cX5_takeBirth 41 = .ok (.iload_n 2, 1) := by decide +kernel
theorem dX5_takeBirth_42 : decode cX5_takeBirth 42 = .ok (.aload_n 1, 1) := by decide +kernel
theorem dX5_takeBirth_43 : decode cX5_takeBirth 43 = .ok (.getfield 73, 3) := by decide +kernel
theorem dX5_takeBirth_46 : decode cX5_takeBirth 46 = .ok (.iastore, 1) := by decide +kernel
theorem dX5_takeBirth_47 : decode cX5_takeBirth 47 = .ok (.return_, 1) := by decide +kernel
theorem dX5_has_0 : decode cX5_has 0 = .ok (.iload_n 1, 1) := by decide +kernel
theorem dX5_has_1 : decode cX5_has 1 = .ok (.ifCond .lt 22, 3) := by decide +kernel
theorem dX5_has_4 : decode cX5_has 4 = .ok (.iload_n 1, 1) := by decide +kernel
theorem dX5_has_5 : decode cX5_has 5 = .ok (.bipush 64, 2) := by decide +kernel
theorem dX5_has_7 : decode cX5_has 7 = .ok (.if_icmp .ge 16, 3) := by decide +kernel
theorem dX5_has_10 : decode cX5_has 10 = .ok (.aload_n 0, 1) := by decide +kernel
theorem dX5_has_11 : decode cX5_has 11 = .ok (.getfield 9, 3) := by decide +kernel
theorem dX5_has_14 : decode cX5_has 14 = .ok (.iload_n 1, 1) := by decide +kernel
theorem dX5_has_15 : decode cX5_has 15 = .ok (.baload, 1) := by decide +kernel
theorem dX5_has_16 : decode cX5_has 16 = .ok (.ifCond .eq 7, 3) := by decide +kernel
theorem dX5_has_19 : decode cX5_has 19 = .ok (.iconst 1, 1) := by decide +kernel
theorem dX5_has_20 : decode cX5_has 20 = .ok (.goto 4, 3) := by decide +kernel
theorem dX5_has_23 : decode cX5_has 23 = .ok (.iconst 0, 1) := by decide +kernel
theorem dX5_has_24 : decode cX5_has 24 = .ok (.ireturn, 1) := by decide +kernel
theorem dX5_isMale_0 : decode cX5_isMale 0 = .ok (.iload_n 1, 1) := by decide +kernel
theorem dX5_isMale_1 : decode cX5_isMale 1 = .ok (.ifCond .lt 22, 3) := by decide +kernel
theorem dX5_isMale_4 : decode cX5_isMale 4 = .ok (.iload_n 1, 1) := by decide +kernel
theorem dX5_isMale_5 : decode cX5_isMale 5 = .ok (.bipush 64, 2) := by decide +kernel
theorem dX5_isMale_7 : decode cX5_isMale 7 = .ok (.if_icmp .ge 16, 3) := by decide +kernel
theorem dX5_isMale_10 : decode cX5_isMale 10 = .ok (.aload_n 0, 1) := by decide +kernel
theorem dX5_isMale_11 : decode cX5_isMale 11 = .ok (.getfield 15, 3) := by decide +kernel
theorem dX5_isMale_14 : decode cX5_isMale 14 = .ok (.iload_n 1, 1) := by decide +kernel
theorem dX5_isMale_15 : decode cX5_isMale 15 = .ok (.baload, 1) := by decide +kernel
theorem dX5_isMale_16 : decode cX5_isMale 16 = .ok (.ifCond .eq 7, 3) := by decide +kernel
theorem dX5_isMale_19 : decode cX5_isMale 19 = .ok (.iconst 1, 1) := by decide +kernel
theorem dX5_isMale_20 : decode cX5_isMale 20 = .ok (.goto 4, 3) := by decide +kernel
theorem dX5_isMale_23 : decode cX5_isMale 23 = .ok (.iconst 0, 1) := by decide +kernel
theorem dX5_isMale_24 : decode cX5_isMale 24 = .ok (.ireturn, 1) := by decide +kernel
theorem dX5_bornOn_0 : decode cX5_bornOn 0 = .ok (.iload_n 1, 1) := by decide +kernel
theorem dX5_bornOn_1 : decode cX5_bornOn 1 = .ok (.invokestatic 53, 3) := by decide +kernel
theorem dX5_bornOn_4 : decode cX5_bornOn 4 = .ok (.ifCond .eq 12, 3) := by decide +kernel
theorem dX5_bornOn_7 : decode cX5_bornOn 7 = .ok (.aload_n 0, 1) := by decide +kernel
theorem dX5_bornOn_8 : decode cX5_bornOn 8 = .ok (.getfield 18, 3) := by decide +kernel
theorem dX5_bornOn_11 : decode cX5_bornOn 11 = .ok (.iload_n 1, 1) := by decide +kernel
theorem dX5_bornOn_12 : decode cX5_bornOn 12 = .ok (.iaload, 1) := by decide +kernel
theorem dX5_bornOn_13 : decode cX5_bornOn 13 = .ok (.goto 4, 3) := by decide +kernel
theorem dX5_bornOn_16 : decode cX5_bornOn 16 = .ok (.iconst (-1), 1) := by decide +kernel
theorem dX5_bornOn_17 : decode cX5_bornOn 17 = .ok (.ireturn, 1) := by decide +kernel
theorem dX5_deadOn_0 : decode cX5_deadOn 0 = .ok (.iload_n 1, 1) := by decide +kernel
theorem dX5_deadOn_1 : decode cX5_deadOn 1 = .ok (.invokestatic 53, 3) := by decide +kernel
theorem dX5_deadOn_4 : decode cX5_deadOn 4 = .ok (.ifCond .eq 12, 3) := by decide +kernel
theorem dX5_deadOn_7 : decode cX5_deadOn 7 = .ok (.aload_n 0, 1) := by decide +kernel
theorem dX5_deadOn_8 : decode cX5_deadOn 8 = .ok (.getfield 22, 3) := by decide +kernel
theorem dX5_deadOn_11 : decode cX5_deadOn 11 = .ok (.iload_n 1, 1) := by decide +kernel
theorem dX5_deadOn_12 : decode cX5_deadOn 12 = .ok (.iaload, 1) := by decide +kernel
theorem dX5_deadOn_13 : decode cX5_deadOn 13 = .ok (.goto 4, 3) := by decide +kernel
theorem dX5_deadOn_16 : decode cX5_deadOn 16 = .ok (.iconst (-1), 1) := by decide +kernel
theorem dX5_deadOn_17 : decode cX5_deadOn 17 = .ok (.ireturn, 1) := by decide +kernel
theorem dX5_father_0 : decode cX5_father 0 = .ok (.iload_n 1, 1) := by decide +kernel
theorem dX5_father_1 : decode cX5_father 1 = .ok (.invokestatic 53, 3) := by decide +kernel
theorem dX5_father_4 : decode cX5_father 4 = .ok (.ifCond .eq 12, 3) := by decide +kernel
theorem dX5_father_7 : decode cX5_father 7 = .ok (.aload_n 0, 1) := by decide +kernel
theorem dX5_father_8 : decode cX5_father 8 = .ok (.getfield 25, 3) := by decide +kernel
theorem dX5_father_11 : decode cX5_father 11 = .ok (.iload_n 1, 1) := by decide +kernel
theorem dX5_father_12 : decode cX5_father 12 = .ok (.iaload, 1) := by decide +kernel
theorem dX5_father_13 : decode cX5_father 13 = .ok (.goto 4, 3) := by decide +kernel
theorem dX5_father_16 : decode cX5_father 16 = .ok (.iconst (-1), 1) := by decide +kernel
theorem dX5_father_17 : decode cX5_father 17 = .ok (.ireturn, 1) := by decide +kernel
theorem dX5_mother_0 : decode cX5_mother 0 = .ok (.iload_n 1, 1) := by decide +kernel
theorem dX5_mother_1 : decode cX5_mother 1 = .ok (.invokestatic 53, 3) := by decide +kernel
theorem dX5_mother_4 : decode cX5_mother 4 = .ok (.ifCond .eq 12, 3) := by decide +kernel
theorem dX5_mother_7 : decode cX5_mother 7 = .ok (.aload_n 0, 1) := by decide +kernel
theorem dX5_mother_8 : decode cX5_mother 8 = .ok (.getfield 28, 3) := by decide +kernel
theorem dX5_mother_11 : decode cX5_mother 11 = .ok (.iload_n 1, 1) := by decide +kernel
theorem dX5_mother_12 : decode cX5_mother 12 = .ok (.iaload, 1) := by decide +kernel
theorem dX5_mother_13 : decode cX5_mother 13 = .ok (.goto 4, 3) := by decide +kernel
theorem dX5_mother_16 : decode cX5_mother 16 = .ok (.iconst (-1), 1) := by decide +kernel
theorem dX5_mother_17 : decode cX5_mother 17 = .ok (.ireturn, 1) := by decide +kernel
theorem dX5_isDeadAhead_0 : decode cX5_isDeadAhead 0 = .ok (.aload_n 0, 1) := by decide +kernel
theorem dX5_isDeadAhead_1 : decode cX5_isDeadAhead 1 = .ok (.iload_n 1, 1) := by decide +kernel
theorem dX5_isDeadAhead_2 : decode cX5_isDeadAhead 2 = .ok (.invokevirtual 76, 3) := by decide +kernel
theorem dX5_isDeadAhead_5 : decode cX5_isDeadAhead 5 = .ok (.istore_n 3, 1) := by decide +kernel
theorem dX5_isDeadAhead_6 : decode cX5_isDeadAhead 6 = .ok (.iload_n 3, 1) := by decide +kernel
theorem dX5_isDeadAhead_7 : decode cX5_isDeadAhead 7 = .ok (.iconst (-1), 1) := by decide +kernel
theorem dX5_isDeadAhead_8 : decode cX5_isDeadAhead 8 = .ok (.if_icmp .eq 12, 3) := by decide +kernel
theorem dX5_isDeadAhead_11 : decode cX5_isDeadAhead 11 = .ok (.iload_n 3, 1) := by decide +kernel
theorem dX5_isDeadAhead_12 : decode cX5_isDeadAhead 12 = .ok (.iload_n 2, 1) := by decide +kernel
theorem dX5_isDeadAhead_13 : decode cX5_isDeadAhead 13 = .ok (.if_icmp .ge 7, 3) := by decide +kernel
theorem dX5_isDeadAhead_16 : decode cX5_isDeadAhead 16 = .ok (.iconst 1, 1) := by decide +kernel
theorem dX5_isDeadAhead_17 : decode cX5_isDeadAhead 17 = .ok (.goto 4, 3) := by decide +kernel
theorem dX5_isDeadAhead_20 : decode cX5_isDeadAhead 20 = .ok (.iconst 0, 1) := by decide +kernel
theorem dX5_isDeadAhead_21 : decode cX5_isDeadAhead 21 = .ok (.ireturn, 1) := by decide +kernel
theorem dX5_isAlive_0 : decode cX5_isAlive 0 = .ok (.aload_n 0, 1) := by decide +kernel
theorem dX5_isAlive_1 : decode cX5_isAlive 1 = .ok (.iload_n 1, 1) := by decide +kernel
theorem dX5_isAlive_2 : decode cX5_isAlive 2 = .ok (.invokevirtual 80, 3) := by decide +kernel
theorem dX5_isAlive_5 : decode cX5_isAlive 5 = .ok (.ifCond .eq 37, 3) := by decide +kernel
theorem dX5_isAlive_8 : decode cX5_isAlive 8 = .ok (.aload_n 0, 1) := by decide +kernel
theorem dX5_isAlive_9 : decode cX5_isAlive 9 = .ok (.getfield 18, 3) := by decide +kernel
theorem dX5_isAlive_12 : decode cX5_isAlive 12 = .ok (.iload_n 1, 1) := by decide +kernel
theorem dX5_isAlive_13 : decode cX5_isAlive 13 = .ok (.iaload, 1) := by decide +kernel
theorem dX5_isAlive_14 : decode cX5_isAlive 14 = .ok (.iload_n 2, 1) := by decide +kernel
theorem dX5_isAlive_15 : decode cX5_isAlive 15 = .ok (.if_icmp .gt 27, 3) := by decide +kernel
theorem dX5_isAlive_18 : decode cX5_isAlive 18 = .ok (.aload_n 0, 1) := by decide +kernel
theorem dX5_isAlive_19 : decode cX5_isAlive 19 = .ok (.getfield 22, 3) := by decide +kernel
theorem dX5_isAlive_22 : decode cX5_isAlive 22 = .ok (.iload_n 1, 1) := by decide +kernel
theorem dX5_isAlive_23 : decode cX5_isAlive 23 = .ok (.iaload, 1) := by decide +kernel
theorem dX5_isAlive_24 : decode cX5_isAlive 24 = .ok (.iconst (-1), 1) := by decide +kernel
theorem dX5_isAlive_25 : decode cX5_isAlive 25 = .ok (.if_icmp .eq 13, 3) := by decide +kernel
theorem dX5_isAlive_28 : decode cX5_isAlive 28 = .ok (.aload_n 0, 1) := by decide +kernel
theorem dX5_isAlive_29 : decode cX5_isAlive 29 = .ok (.getfield 22, 3) := by decide +kernel
theorem dX5_isAlive_32 : decode cX5_isAlive 32 = .ok (.iload_n 1, 1) := by decide +kernel
theorem dX5_isAlive_33 : decode cX5_isAlive 33 = .ok (.iaload, 1) := by decide +kernel
theorem dX5_isAlive_34 : decode cX5_isAlive 34 = .ok (.iload_n 2, 1) := by decide +kernel
theorem dX5_isAlive_35 : decode cX5_isAlive 35 = .ok (.if_icmp .le 7, 3) := by decide +kernel
theorem dX5_isAlive_38 : decode cX5_isAlive 38 = .ok (.iconst 1, 1) := by decide +kernel
theorem dX5_isAlive_39 : decode cX5_isAlive 39 = .ok (.goto 4, 3) := by decide +kernel
theorem dX5_isAlive_42 : decode cX5_isAlive 42 = .ok (.iconst 0, 1) := by decide +kernel
theorem dX5_isAlive_43 : decode cX5_isAlive 43 = .ok (.ireturn, 1) := by decide +kernel
theorem dX5_isGrown_0 : decode cX5_isGrown 0 = .ok (.aload_n 0, 1) := by decide +kernel
theorem dX5_isGrown_1 : decode cX5_isGrown 1 = .ok (.iload_n 1, 1) := by decide +kernel
theorem dX5_isGrown_2 : decode cX5_isGrown 2 = .ok (.invokevirtual 80, 3) := by decide +kernel
theorem dX5_isGrown_5 : decode cX5_isGrown 5 = .ok (.ifCond .eq 21, 3) := by decide +kernel
theorem dX5_isGrown_8 : decode cX5_isGrown 8 = .ok (.aload_n 0, 1) := by decide +kernel
theorem dX5_isGrown_9 : decode cX5_isGrown 9 = .ok (.getfield 18, 3) := by decide +kernel
theorem dX5_isGrown_12 : decode cX5_isGrown 12 = .ok (.iload_n 1, 1) := by decide +kernel
theorem dX5_isGrown_13 : decode cX5_isGrown 13 = .ok (.iaload, 1) := by decide +kernel
theorem dX5_isGrown_14 : decode cX5_isGrown 14 = .ok (.iload_n 2, 1) := by decide +kernel
theorem dX5_isGrown_15 : decode cX5_isGrown 15 = .ok (.sipush 4000, 3) := by decide +kernel
theorem dX5_isGrown_18 : decode cX5_isGrown 18 = .ok (.isub, 1) := by decide +kernel
theorem dX5_isGrown_19 : decode cX5_isGrown 19 = .ok (.if_icmp .gt 7, 3) := by decide +kernel
theorem dX5_isGrown_22 : decode cX5_isGrown 22 = .ok (.iconst 1, 1) := by decide +kernel
theorem dX5_isGrown_23 : decode cX5_isGrown 23 = .ok (.goto 4, 3) := by decide +kernel
theorem dX5_isGrown_26 : decode cX5_isGrown 26 = .ok (.iconst 0, 1) := by decide +kernel
theorem dX5_isGrown_27 : decode cX5_isGrown 27 = .ok (.ireturn, 1) := by decide +kernel
theorem dX5_isElder_0 : decode cX5_isElder 0 = .ok (.aload_n 0, 1) := by decide +kernel
theorem dX5_isElder_1 : decode cX5_isElder 1 = .ok (.iload_n 1, 1) := by decide +kernel
theorem dX5_isElder_2 : decode cX5_isElder 2 = .ok (.invokevirtual 83, 3) := by decide +kernel
theorem dX5_isElder_5 : decode cX5_isElder 5 = .ok (.aload_n 0, 1) := by decide +kernel
theorem dX5_isElder_6 : decode cX5_isElder 6 = .ok (.iload_n 2, 1) := by decide +kernel
theorem dX5_isElder_7 : decode cX5_isElder 7 = .ok (.invokevirtual 83, 3) := by decide +kernel
theorem dX5_isElder_10 : decode cX5_isElder 10 = .ok (.if_icmp .eq 24, 3) := by decide +kernel
theorem dX5_isElder_13 : decode cX5_isElder 13 = .ok (.aload_n 0, 1) := by decide +kernel
theorem dX5_isElder_14 : decode cX5_isElder 14 = .ok (.iload_n 1, 1) := by decide +kernel
theorem dX5_isElder_15 : decode cX5_isElder 15 = .ok (.invokevirtual 83, 3) := by decide +kernel
theorem dX5_isElder_18 : decode cX5_isElder 18 = .ok (.aload_n 0, 1) := by decide +kernel
theorem dX5_isElder_19 : decode cX5_isElder 19 = .ok (.iload_n 2, 1) := by decide +kernel
theorem dX5_isElder_20 : decode cX5_isElder 20 = .ok (.invokevirtual 83, 3) := by decide +kernel
theorem dX5_isElder_23 : decode cX5_isElder 23 = .ok (.if_icmp .ge 7, 3) := by decide +kernel
theorem dX5_isElder_26 : decode cX5_isElder 26 = .ok (.iconst 1, 1) := by decide +kernel
theorem dX5_isElder_27 : decode cX5_isElder 27 = .ok (.goto 17, 3) := by decide +kernel
theorem dX5_isElder_30 : decode cX5_isElder 30 = .ok (.iconst 0, 1) := by decide +kernel
theorem dX5_isElder_31 : decode cX5_isElder 31 = .ok (.goto 13, 3) := by decide +kernel
theorem dX5_isElder_34 : decode cX5_isElder 34 = .ok (.iload_n 1, 1) := by decide +kernel
theorem dX5_isElder_35 : decode cX5_isElder 35 = .ok (.iload_n 2, 1) := by decide +kernel
theorem dX5_isElder_36 : decode cX5_isElder 36 = .ok (.if_icmp .ge 7, 3) := by decide +kernel
theorem dX5_isElder_39 : decode cX5_isElder 39 = .ok (.iconst 1, 1) := by decide +kernel
theorem dX5_isElder_40 : decode cX5_isElder 40 = .ok (.goto 4, 3) := by decide +kernel
theorem dX5_isElder_43 : decode cX5_isElder 43 = .ok (.iconst 0, 1) := by decide +kernel
theorem dX5_isElder_44 : decode cX5_isElder 44 = .ok (.ireturn, 1) := by decide +kernel
theorem dX6_init_0 : decode cX6_init 0 = .ok (.aload_n 0, 1) := by decide +kernel
theorem dX6_init_1 : decode cX6_init 1 = .ok (.invokespecial 3, 3) := by decide +kernel
theorem dX6_init_4 : decode cX6_init 4 = .ok (.aload_n 0, 1) := by decide +kernel
theorem dX6_init_5 : decode cX6_init 5 = .ok (.iconst 0, 1) := by decide +kernel
theorem dX6_init_6 : decode cX6_init 6 = .ok (.putfield 9, 3) := by decide +kernel
theorem dX6_init_9 : decode cX6_init 9 = .ok (.aload_n 0, 1) := by decide +kernel
theorem dX6_init_10 : decode cX6_init 10 = .ok (.iconst 0, 1) := by decide +kernel
theorem dX6_init_11 : decode cX6_init 11 = .ok (.putfield 15, 3) := by decide +kernel
theorem dX6_init_14 : decode cX6_init 14 = .ok (.aload_n 0, 1) := by decide +kernel
theorem dX6_init_15 : decode cX6_init 15 = .ok (.bipush (-9), 2) := by decide +kernel
theorem dX6_init_17 : decode cX6_init 17 = .ok (.putfield 18, 3) := by decide +kernel
theorem dX6_init_20 : decode cX6_init 20 = .ok (.aload_n 0, 1) := by decide +kernel
theorem dX6_init_21 : decode cX6_init 21 = .ok (.aload_n 1, 1) := by decide +kernel
theorem dX6_init_22 : decode cX6_init 22 = .ok (.putfield 21, 3) := by decide +kernel
theorem dX6_init_25 : decode cX6_init 25 = .ok (.return_, 1) := by decide +kernel
theorem dX6_readInto_0 : decode cX6_readInto 0 = .ok (.aload_n 0, 1) := by decide +kernel
theorem dX6_readInto_1 : decode cX6_readInto 1 = .ok (.iconst 0, 1) := by decide +kernel
theorem dX6_readInto_2 : decode cX6_readInto 2 = .ok (.putfield 9, 3) := by decide +kernel
theorem dX6_readInto_5 : decode cX6_readInto 5 = .ok (.aload_n 0, 1) := by decide +kernel
theorem dX6_readInto_6 : decode cX6_readInto 6 = .ok (.iconst 0, 1) := by decide +kernel
theorem dX6_readInto_7 : decode cX6_readInto 7 = .ok (.putfield 15, 3) := by decide +kernel
theorem dX6_readInto_10 : decode cX6_readInto 10 = .ok (.aload_n 0, 1) := by decide +kernel
theorem dX6_readInto_11 : decode cX6_readInto 11 = .ok (.bipush (-9), 2) := by decide +kernel
theorem dX6_readInto_13 : decode cX6_readInto 13 = .ok (.putfield 18, 3) := by decide +kernel
theorem dX6_readInto_16 : decode cX6_readInto 16 = .ok (.aload_n 1, 1) := by decide +kernel
theorem dX6_readInto_17 : decode cX6_readInto 17 = .ok (.aload_n 0, 1) := by decide +kernel
theorem dX6_readInto_18 : decode cX6_readInto 18 = .ok (.invokevirtual 25, 3) := by decide +kernel
theorem dX6_readInto_21 : decode cX6_readInto 21 = .ok (.putfield 29, 3) := by decide +kernel
theorem dX6_readInto_24 : decode cX6_readInto 24 = .ok (.aload_n 1, 1) := by decide +kernel
theorem dX6_readInto_25 : decode cX6_readInto 25 = .ok (.aload_n 0, 1) := by decide +kernel
theorem dX6_readInto_26 : decode cX6_readInto 26 = .ok (.invokevirtual 34, 3) := by decide +kernel
theorem dX6_readInto_29 : decode cX6_readInto 29 = .ok (.putfield 37, 3) := by decide +kernel
theorem dX6_readInto_32 : decode cX6_readInto 32 = .ok (.aload_n 0, 1) := by decide +kernel
theorem dX6_readInto_33 : decode cX6_readInto 33 = .ok (.aload_n 1, 1) := by decide +kernel
theorem dX6_readInto_34 : decode cX6_readInto 34 = .ok (.invokevirtual 40, 3) := by decide +kernel
theorem dX6_readInto_37 : decode cX6_readInto 37 = .ok (.aload_n 0, 1) := by decide +kernel
theorem dX6_readInto_38 : decode cX6_readInto 38 = .ok (.invokevirtual 44, 3) := by decide +kernel
theorem dX6_readInto_41 : decode cX6_readInto 41 = .ok (.aload_n 0, 1) := by decide +kernel
theorem dX6_readInto_42 : decode cX6_readInto 42 = .ok (.getfield 9, 3) := by decide +kernel
theorem dX6_readInto_45 : decode cX6_readInto 45 = .ok (.aload_n 0, 1) := by decide +kernel
theorem dX6_readInto_46 : decode cX6_readInto 46 = .ok (.getfield 21, 3) := by decide +kernel
theorem dX6_readInto_49 : decode cX6_readInto 49 = .ok (.invokevirtual 47, 3) := by decide +kernel
theorem dX6_readInto_52 : decode cX6_readInto 52 = .ok (.if_icmp .ge 7, 3) := by decide +kernel
theorem dX6_readInto_55 : decode cX6_readInto 55 = .ok (.aload_n 0, 1) := by decide +kernel
theorem dX6_readInto_56 : decode cX6_readInto 56 = .ok (.invokevirtual 52, 3) := by decide +kernel
theorem dX6_readInto_59 : decode cX6_readInto 59 = .ok (.aload_n 0, 1) := by decide +kernel
theorem dX6_readInto_60 : decode cX6_readInto 60 = .ok (.getfield 18, 3) := by decide +kernel
theorem dX6_readInto_63 : decode cX6_readInto 63 = .ok (.ireturn, 1) := by decide +kernel
theorem dX6_takeWhatIsOf_0 : decode cX6_takeWhatIsOf 0 = .ok (.aload_n 1, 1) := by decide +kernel
theorem dX6_takeWhatIsOf_1 : decode cX6_takeWhatIsOf 1 = .ok (.getfield 29, 3) := by decide +kernel
theorem dX6_takeWhatIsOf_4 : decode cX6_takeWhatIsOf 4 = .ok (.tableswitch 120 0 6 #[44, 52, 52, 71, 82, 101, 101], 44) := by decide +kernel
theorem dX6_takeWhatIsOf_48 : decode cX6_takeWhatIsOf 48 = .ok (.aload_n 0, 1) := by decide +kernel
theorem dX6_takeWhatIsOf_49 : decode cX6_takeWhatIsOf 49 = .ok (.aload_n 1, 1) := by decide +kernel
theorem dX6_takeWhatIsOf_50 : decode cX6_takeWhatIsOf 50 = .ok (.invokevirtual 55, 3) := by decide +kernel
theorem dX6_takeWhatIsOf_53 : decode cX6_takeWhatIsOf 53 = .ok (.goto 79, 3) := by decide +kernel
theorem dX6_takeWhatIsOf_56 : decode cX6_takeWhatIsOf 56 = .ok (.aload_n 1, 1) := by decide +kernel
theorem dX6_takeWhatIsOf_57 : decode cX6_takeWhatIsOf 57 = .ok (.aload_n 0, 1) := by decide +kernel
theorem dX6_takeWhatIsOf_58 : decode cX6_takeWhatIsOf 58 = .ok (.invokevirtual 34, 3) := by decide +kernel
theorem dX6_takeWhatIsOf_61 : decode cX6_takeWhatIsOf 61 = .ok (.putfield 58, 3) := by decide +kernel
theorem dX6_takeWhatIsOf_64 : decode cX6_takeWhatIsOf 64 = .ok (.aload_n 1, 1) := by decide +kernel
theorem dX6_takeWhatIsOf_65 : decode cX6_takeWhatIsOf 65 = .ok (.aload_n 0, 1) := by decide +kernel
theorem dX6_takeWhatIsOf_66 : decode cX6_takeWhatIsOf 66 = .ok (.invokevirtual 34, 3) := by decide +kernel
theorem dX6_takeWhatIsOf_69 : decode cX6_takeWhatIsOf 69 = .ok (.putfield 61, 3) := by decide +kernel
theorem dX6_takeWhatIsOf_72 : decode cX6_takeWhatIsOf 72 = .ok (.goto 60, 3) := by decide +kernel
theorem dX6_takeWhatIsOf_75 : decode cX6_takeWhatIsOf 75 = .ok (.aload_n 1, 1) := by decide +kernel
theorem dX6_takeWhatIsOf_76 : decode cX6_takeWhatIsOf 76 = .ok (.aload_n 0, 1) := by decide +kernel
theorem dX6_takeWhatIsOf_77 : decode cX6_takeWhatIsOf 77 = .ok (.invokevirtual 34, 3) := by decide +kernel
theorem dX6_takeWhatIsOf_80 : decode cX6_takeWhatIsOf 80 = .ok (.putfield 58, 3) := by decide +kernel
theorem dX6_takeWhatIsOf_83 : decode cX6_takeWhatIsOf 83 = .ok (.goto 49, 3) := by decide +kernel
theorem dX6_takeWhatIsOf_86 : decode cX6_takeWhatIsOf 86 = .ok (.aload_n 1, 1) := by decide +kernel
theorem dX6_takeWhatIsOf_87 : decode cX6_takeWhatIsOf 87 = .ok (.aload_n 0, 1) := by decide +kernel
theorem dX6_takeWhatIsOf_88 : decode cX6_takeWhatIsOf 88 = .ok (.invokevirtual 34, 3) := by decide +kernel
theorem dX6_takeWhatIsOf_91 : decode cX6_takeWhatIsOf 91 = .ok (.putfield 58, 3) := by decide +kernel
theorem dX6_takeWhatIsOf_94 : decode cX6_takeWhatIsOf 94 = .ok (.aload_n 1, 1) := by decide +kernel
theorem dX6_takeWhatIsOf_95 : decode cX6_takeWhatIsOf 95 = .ok (.aload_n 0, 1) := by decide +kernel
theorem dX6_takeWhatIsOf_96 : decode cX6_takeWhatIsOf 96 = .ok (.invokevirtual 64, 3) := by decide +kernel
theorem dX6_takeWhatIsOf_99 : decode cX6_takeWhatIsOf 99 = .ok (.putfield 67, 3) := by decide +kernel
theorem dX6_takeWhatIsOf_102 : decode cX6_takeWhatIsOf 102 = .ok (.goto 30, 3) := by decide +kernel
theorem dX6_takeWhatIsOf_105 : decode cX6_takeWhatIsOf 105 = .ok (.aload_n 1, 1) := by decide +kernel
theorem dX6_takeWhatIsOf_106 : decode cX6_takeWhatIsOf 106 = .ok (.aload_n 0, 1) := by decide +kernel
theorem dX6_takeWhatIsOf_107 : decode cX6_takeWhatIsOf 107 = .ok (.invokevirtual 34, 3) := by decide +kernel
theorem dX6_takeWhatIsOf_110 : decode cX6_takeWhatIsOf 110 = .ok (.putfield 58, 3) := by decide +kernel
theorem dX6_takeWhatIsOf_113 : decode cX6_takeWhatIsOf 113 = .ok (.aload_n 1, 1) := by decide +kernel
theorem dX6_takeWhatIsOf_114 : decode cX6_takeWhatIsOf 114 = .ok (.aload_n 0, 1) := by decide +kernel
theorem dX6_takeWhatIsOf_115 : decode cX6_takeWhatIsOf 115 = .ok (.invokevirtual 34, 3) := by decide +kernel
theorem dX6_takeWhatIsOf_118 : decode cX6_takeWhatIsOf 118 = .ok (.putfield 70, 3) := by decide +kernel
theorem dX6_takeWhatIsOf_121 : decode cX6_takeWhatIsOf 121 = .ok (.goto 11, 3) := by decide +kernel
theorem dX6_takeWhatIsOf_124 : decode cX6_takeWhatIsOf 124 = .ok (.aload_n 1, 1) := by decide +kernel
theorem dX6_takeWhatIsOf_125 : decode cX6_takeWhatIsOf 125 = .ok (.aload_n 0, 1) := by decide +kernel
theorem dX6_takeWhatIsOf_126 : decode cX6_takeWhatIsOf 126 = .ok (.invokevirtual 34, 3) := by decide +kernel
theorem dX6_takeWhatIsOf_129 : decode cX6_takeWhatIsOf 129 = .ok (.putfield 70, 3) := by decide +kernel
theorem dX6_takeWhatIsOf_132 : decode cX6_takeWhatIsOf 132 = .ok (.return_, 1) := by decide +kernel
theorem dX6_takeBirth_0 : decode cX6_takeBirth 0 = .ok (.aload_n 0, 1) := by decide +kernel
theorem dX6_takeBirth_1 : decode cX6_takeBirth 1 = .ok (.invokevirtual 44, 3) := by decide +kernel
theorem dX6_takeBirth_4 : decode cX6_takeBirth 4 = .ok (.aload_n 1, 1) := by decide +kernel
theorem dX6_takeBirth_5 : decode cX6_takeBirth 5 = .ok (.aload_n 0, 1) := by decide +kernel
theorem dX6_takeBirth_6 : decode cX6_takeBirth 6 = .ok (.ldc 73, 2) := by decide +kernel
theorem dX6_takeBirth_8 : decode cX6_takeBirth 8 = .ok (.invokevirtual 75, 3) := by decide +kernel
theorem dX6_takeBirth_11 : decode cX6_takeBirth 11 = .ok (.putfield 79, 3) := by decide +kernel
theorem dX6_takeBirth_14 : decode cX6_takeBirth 14 = .ok (.aload_n 1, 1) := by decide +kernel
theorem dX6_takeBirth_15 : decode cX6_takeBirth 15 = .ok (.getfield 79, 3) := by decide +kernel
theorem dX6_takeBirth_18 : decode cX6_takeBirth 18 = .ok (.ifCond .ne 16, 3) := by decide +kernel
theorem dX6_takeBirth_21 : decode cX6_takeBirth 21 = .ok (.aload_n 0, 1) := by decide +kernel
theorem dX6_takeBirth_22 : decode cX6_takeBirth 22 = .ok (.ldc 82, 2) := by decide +kernel
theorem dX6_takeBirth_24 : decode cX6_takeBirth 24 = .ok (.invokevirtual 75, 3) := by decide +kernel
theorem dX6_takeBirth_27 : decode cX6_takeBirth 27 = .ok (.ifCond .ne 7, 3) := by decide +kernel
theorem dX6_takeBirth_30 : decode cX6_takeBirth 30 = .ok (.aload_n 0, 1) := by decide +kernel
theorem dX6_takeBirth_31 : decode cX6_takeBirth 31 = .ok (.invokevirtual 52, 3) := by decide +kernel
theorem dX6_takeBirth_34 : decode cX6_takeBirth 34 = .ok (.aload_n 0, 1) := by decide +kernel
theorem dX6_takeBirth_35 : decode cX6_takeBirth 35 = .ok (.ldc 84, 2) := by decide +kernel
theorem dX6_takeBirth_37 : decode cX6_takeBirth 37 = .ok (.invokevirtual 86, 3) := by decide +kernel
theorem dX6_takeBirth_40 : decode cX6_takeBirth 40 = .ok (.aload_n 1, 1) := by decide +kernel
theorem dX6_takeBirth_41 : decode cX6_takeBirth 41 = .ok (.aload_n 0, 1) := by decide +kernel
theorem dX6_takeBirth_42 : decode cX6_takeBirth 42 = .ok (.invokevirtual 90, 3) := by decide +kernel
theorem dX6_takeBirth_45 : decode cX6_takeBirth 45 = .ok (.putfield 93, 3) := by decide +kernel
theorem dX6_takeBirth_48 : decode cX6_takeBirth 48 = .ok (.aload_n 0, 1) := by decide +kernel
theorem dX6_takeBirth_49 : decode cX6_takeBirth 49 = .ok (.ldc 96, 2) := by decide +kernel
theorem dX6_takeBirth_51 : decode cX6_takeBirth 51 = .ok (.invokevirtual 86, 3) := by decide +kernel
theorem dX6_takeBirth_54 : decode cX6_takeBirth 54 = .ok (.aload_n 1, 1) := by decide +kernel
theorem dX6_takeBirth_55 : decode cX6_takeBirth 55 = .ok (.aload_n 0, 1) := by decide +kernel
theorem dX6_takeBirth_56 : decode cX6_takeBirth 56 = .ok (.invokevirtual 90, 3) := by decide +kernel
theorem dX6_takeBirth_59 : decode cX6_takeBirth 59 = .ok (.putfield 98, 3) := by decide +kernel
theorem dX6_takeBirth_62 : decode cX6_takeBirth 62 = .ok (.return_, 1) := by decide +kernel
theorem dX6_takeKind_0 : decode cX6_takeKind 0 = .ok (.aload_n 0, 1) := by decide +kernel
theorem dX6_takeKind_1 : decode cX6_takeKind 1 = .ok (.invokevirtual 44, 3) := by decide +kernel
theorem dX6_takeKind_4 : decode cX6_takeKind 4 = .ok (.iconst 0, 1) := by decide +kernel
theorem dX6_takeKind_5 : decode cX6_takeKind 5 = .ok (.istore_n 1, 1) := by decide +kernel
theorem dX6_takeKind_6 : decode cX6_takeKind 6 = .ok (.iload_n 1, 1) := by decide +kernel
theorem dX6_takeKind_7 : decode cX6_takeKind 7 = .ok (.bipush 9, 2) := by decide +kernel
theorem dX6_takeKind_9 : decode cX6_takeKind 9 = .ok (.if_icmp .ge 22, 3) := by decide +kernel
theorem dX6_takeKind_12 : decode cX6_takeKind 12 = .ok (.aload_n 0, 1) := by decide +kernel
theorem dX6_takeKind_13 : decode cX6_takeKind 13 = .ok (.iload_n 1, 1) := by decide +kernel
theorem dX6_takeKind_14 : decode cX6_takeKind 14 = .ok (.invokestatic 101, 3) := by decide +kernel
theorem dX6_takeKind_17 : decode cX6_takeKind 17 = .ok (.invokevirtual 75, 3) := by decide +kernel
theorem dX6_takeKind_20 : decode cX6_takeKind 20 = .ok (.ifCond .eq 5, 3) := by decide +kernel
theorem dX6_takeKind_23 : decode cX6_takeKind 23 = .ok (.iload_n 1, 1) := by decide +kernel
theorem dX6_takeKind_24 : decode cX6_takeKind 24 = .ok (.ireturn, 1) := by decide +kernel
theorem dX6_takeKind_25 : decode cX6_takeKind 25 = .ok (.iinc 1 1, 3) := by decide +kernel
theorem dX6_takeKind_28 : decode cX6_takeKind 28 = .ok (.goto (-22), 3) := by decide +kernel
theorem dX6_takeKind_31 : decode cX6_takeKind 31 = .ok (.aload_n 0, 1) := by decide +kernel
theorem dX6_takeKind_32 : decode cX6_takeKind 32 = .ok (.invokevirtual 52, 3) := by decide +kernel
theorem dX6_takeKind_35 : decode cX6_takeKind 35 = .ok (.iconst (-1), 1) := by decide +kernel
theorem dX6_takeKind_36 : decode cX6_takeKind 36 = .ok (.ireturn, 1) := by decide +kernel
theorem dX6_takeRule_0 : decode cX6_takeRule 0 = .ok (.aload_n 0, 1) := by decide +kernel
theorem dX6_takeRule_1 : decode cX6_takeRule 1 = .ok (.invokevirtual 44, 3) := by decide +kernel
theorem dX6_takeRule_4 : decode cX6_takeRule 4 = .ok (.iconst 0, 1) := by decide +kernel
theorem dX6_takeRule_5 : decode cX6_takeRule 5 = .ok (.istore_n 1, 1) := by decide +kernel
theorem dX6_takeRule_6 : decode cX6_takeRule 6 = .ok (.iload_n 1, 1) := by decide +kernel
theorem dX6_takeRule_7 : decode cX6_takeRule 7 = .ok (.bipush 6, 2) := by decide +kernel
theorem dX6_takeRule_9 : decode cX6_takeRule 9 = .ok (.if_icmp .ge 22, 3) := by decide +kernel
theorem dX6_takeRule_12 : decode cX6_takeRule 12 = .ok (.aload_n 0, 1) := by decide +kernel
theorem dX6_takeRule_13 : decode cX6_takeRule 13 = .ok (.iload_n 1, 1) := by decide +kernel
theorem dX6_takeRule_14 : decode cX6_takeRule 14 = .ok (.invokestatic 105, 3) := by decide +kernel
theorem dX6_takeRule_17 : decode cX6_takeRule 17 = .ok (.invokevirtual 75, 3) := by decide +kernel
theorem dX6_takeRule_20 : decode cX6_takeRule 20 = .ok (.ifCond .eq 5, 3) := by decide +kernel
theorem dX6_takeRule_23 : decode cX6_takeRule 23 = .ok (.iload_n 1, 1) := by decide +kernel
theorem dX6_takeRule_24 : decode cX6_takeRule 24 = .ok (.ireturn, 1) := by decide +kernel
theorem dX6_takeRule_25 : decode cX6_takeRule 25 = .ok (.iinc 1 1, 3) := by decide +kernel
theorem dX6_takeRule_28 : decode cX6_takeRule 28 = .ok (.goto (-22), 3) := by decide +kernel
theorem dX6_takeRule_31 : decode cX6_takeRule 31 = .ok (.aload_n 0, 1) := by decide +kernel
theorem dX6_takeRule_32 : decode cX6_takeRule 32 = .ok (.invokevirtual 52, 3) := by decide +kernel
theorem dX6_takeRule_35 : decode cX6_takeRule 35 = .ok (.iconst (-1), 1) := by decide +kernel
theorem dX6_takeRule_36 : decode cX6_takeRule 36 = .ok (.ireturn, 1) := by decide +kernel
theorem dX6_takeWord_0 : decode cX6_takeWord 0 = .ok (.aload_n 0, 1) := by decide +kernel
theorem dX6_takeWord_1 : decode cX6_takeWord 1 = .ok (.invokevirtual 44, 3) := by decide +kernel
theorem dX6_takeWord_4 : decode cX6_takeWord 4 = .ok (.aload_n 0, 1) := by decide +kernel
theorem dX6_takeWord_5 : decode cX6_takeWord 5 = .ok (.aload_n 1, 1) := by decide +kernel
theorem dX6_takeWord_6 : decode cX6_takeWord 6 = .ok (.invokevirtual 75, 3) := by decide +kernel
theorem dX6_takeWord_9 : decode cX6_takeWord 9 = .ok (.ifCond .ne 7, 3) := by decide +kernel
theorem dX6_takeWord_12 : decode cX6_takeWord 12 = .ok (.aload_n 0, 1) := by decide +kernel
theorem dX6_takeWord_13 : decode cX6_takeWord 13 = .ok (.invokevirtual 52, 3) := by decide +kernel
theorem dX6_takeWord_16 : decode cX6_takeWord 16 = .ok (.return_, 1) := by decide +kernel
theorem dX6_takeParent_0 : decode cX6_takeParent 0 = .ok (.aload_n 0, 1) := by decide +kernel
theorem dX6_takeParent_1 : decode cX6_takeParent 1 = .ok (.invokevirtual 44, 3) := by decide +kernel
theorem dX6_takeParent_4 : decode cX6_takeParent 4 = .ok (.aload_n 0, 1) := by decide +kernel
theorem dX6_takeParent_5 : decode cX6_takeParent 5 = .ok (.ldc 108, 2) := by decide +kernel
theorem dX6_takeParent_7 : decode cX6_takeParent 7 = .ok (.invokevirtual 75, 3) := by decide +kernel
theorem dX6_takeParent_10 : decode cX6_takeParent 10 = .ok (.ifCond .eq 7, 3) := by decide +kernel
theorem dX6_takeParent_13 : decode cX6_takeParent 13 = .ok (.iconst (-1), 1) := by decide +kernel
theorem dX6_takeParent_14 : decode cX6_takeParent 14 = .ok (.goto 7, 3) := by decide +kernel
theorem dX6_takeParent_17 : decode cX6_takeParent 17 = .ok (.aload_n 0, 1) := by decide +kernel
theorem dX6_takeParent_18 : decode cX6_takeParent 18 = .ok (.invokevirtual 110, 3) := by decide +kernel
theorem dX6_takeParent_21 : decode cX6_takeParent 21 = .ok (.ireturn, 1) := by decide +kernel
theorem dX6_takeNumber_0 : decode cX6_takeNumber 0 = .ok (.aload_n 0, 1) := by decide +kernel
theorem dX6_takeNumber_1 : decode cX6_takeNumber 1 = .ok (.invokevirtual 44, 3) := by decide +kernel
theorem dX6_takeNumber_4 : decode cX6_takeNumber 4 = .ok (.aload_n 0, 1) := by decide +kernel
theorem dX6_takeNumber_5 : decode cX6_takeNumber 5 = .ok (.invokevirtual 110, 3) := by decide +kernel
theorem dX6_takeNumber_8 : decode cX6_takeNumber 8 = .ok (.ireturn, 1) := by decide +kernel
theorem dX6_numberAtHand_0 : decode cX6_numberAtHand 0 = .ok (.aload_n 0, 1) := by decide +kernel
theorem dX6_numberAtHand_1 : decode cX6_numberAtHand 1 = .ok (.getfield 15, 3) := by decide +kernel
theorem dX6_numberAtHand_4 : decode cX6_numberAtHand 4 = .ok (.aload_n 0, 1) := by decide +kernel
theorem dX6_numberAtHand_5 : decode cX6_numberAtHand 5 = .ok (.getfield 9, 3) := by decide +kernel
theorem dX6_numberAtHand_8 : decode cX6_numberAtHand 8 = .ok (.isub, 1) := by decide +kernel
theorem dX6_numberAtHand_9 : decode cX6_numberAtHand 9 = .ok (.istore_n 1, 1) := by decide +kernel
theorem dX6_numberAtHand_10 : decode cX6_numberAtHand 10 = .ok (.aload_n 0, 1) := by decide +kernel
theorem dX6_numberAtHand_11 : decode cX6_numberAtHand 11 = .ok (.getfield 21, 3) := by decide +kernel
theorem dX6_numberAtHand_14 : decode cX6_numberAtHand 14 = .ok (.aload_n 0, 1) := by decide +kernel
theorem dX6_numberAtHand_15 : decode cX6_numberAtHand 15 = .ok (.getfield 9, 3) := by decide +kernel
theorem dX6_numberAtHand_18 : decode cX6_numberAtHand 18 = .ok (.invokevirtual 113, 3) := by decide +kernel
theorem dX6_numberAtHand_21 : decode cX6_numberAtHand 21 = .ok (.invokestatic 117, 3) := by decide +kernel
theorem dX6_numberAtHand_24 : decode cX6_numberAtHand 24 = .ok (.ifCond .eq 8, 3) := by decide +kernel
theorem dX6_numberAtHand_27 : decode cX6_numberAtHand 27 = .ok (.iload_n 1, 1) := by decide +kernel
theorem dX6_numberAtHand_28 : decode cX6_numberAtHand 28 = .ok (.iconst 5, 1) := by decide +kernel
theorem dX6_numberAtHand_29 : decode cX6_numberAtHand 29 = .ok (.if_icmp .le 9, 3) := by decide +kernel
theorem dX6_numberAtHand_32 : decode cX6_numberAtHand 32 = .ok (.aload_n 0, 1) := by decide +kernel
theorem dX6_numberAtHand_33 : decode cX6_numberAtHand 33 = .ok (.invokevirtual 52, 3) := by decide +kernel
theorem dX6_numberAtHand_36 : decode cX6_numberAtHand 36 = .ok (.iconst (-1), 1) := by decide +kernel
theorem dX6_numberAtHand_37 : decode cX6_numberAtHand 37 = .ok (.ireturn, 1) := by decide +kernel
theorem dX6_numberAtHand_38 : decode cX6_numberAtHand 38 = .ok (.iconst 0, 1) := by decide +kernel
theorem dX6_numberAtHand_39 : decode cX6_numberAtHand 39 = .ok (.istore_n 2, 1) := by decide +kernel
theorem dX6_numberAtHand_40 : decode cX6_numberAtHand 40 = .ok (.aload_n 0, 1) := by decide +kernel
theorem dX6_numberAtHand_41 : decode cX6_numberAtHand 41 = .ok (.getfield 9, 3) := by decide +kernel
theorem dX6_numberAtHand_44 : decode cX6_numberAtHand 44 = .ok (.istore_n 3, 1) := by decide +kernel
theorem dX6_numberAtHand_45 : decode cX6_numberAtHand 45 = .ok (.iload_n 3, 1) := by decide +kernel
theorem dX6_numberAtHand_46 : decode cX6_numberAtHand 46 = .ok (.aload_n 0, 1) := by decide +kernel
theorem dX6_numberAtHand_47 : decode cX6_numberAtHand 47 = .ok (.getfield 15, 3) := by decide +kernel
theorem dX6_numberAtHand_50 : decode cX6_numberAtHand 50 = .ok (.if_icmp .ge 26, 3) := by decide +kernel
theorem dX6_numberAtHand_53 : decode cX6_numberAtHand 53 = .ok (.bipush 10, 2) := by decide +kernel
theorem dX6_numberAtHand_55 : decode cX6_numberAtHand 55 = .ok (.iload_n 2, 1) := by decide +kernel
theorem dX6_numberAtHand_56 : decode cX6_numberAtHand 56 = .ok (.imul, 1) := by decide +kernel
theorem dX6_numberAtHand_57 : decode cX6_numberAtHand 57 = .ok (.aload_n 0, 1) := by decide +kernel
theorem dX6_numberAtHand_58 : decode cX6_numberAtHand 58 = .ok (.getfield 21, 3) := by decide +kernel
theorem dX6_numberAtHand_61 : decode cX6_numberAtHand 61 = .ok (.iload_n 3, 1) := by decide +kernel
theorem dX6_numberAtHand_62 : decode cX6_numberAtHand 62 = .ok (.invokevirtual 113, 3) := by decide +kernel
theorem dX6_numberAtHand_65 : decode cX6_numberAtHand 65 = .ok (.iadd, 1) := by decide +kernel
theorem dX6_numberAtHand_66 : decode cX6_numberAtHand 66 = .ok (.bipush 48, 2) := by decide +kernel
theorem dX6_numberAtHand_68 : decode cX6_numberAtHand 68 = .ok (.isub, 1) := by decide +kernel
theorem dX6_numberAtHand_69 : decode cX6_numberAtHand 69 = .ok (.istore_n 2, 1) := by decide +kernel
theorem dX6_numberAtHand_70 : decode cX6_numberAtHand 70 = .ok (.iinc 3 1, 3) := by decide +kernel
theorem dX6_numberAtHand_73 : decode cX6_numberAtHand 73 = .ok (.goto (-28), 3) := by decide +kernel
theorem dX6_numberAtHand_76 : decode cX6_numberAtHand 76 = .ok (.iload_n 2, 1) := by decide +kernel
theorem dX6_numberAtHand_77 : decode cX6_numberAtHand 77 = .ok (.ireturn, 1) := by decide +kernel
theorem dX6_next_0 : decode cX6_next 0 = .ok (.aload_n 0, 1) := by decide +kernel
theorem dX6_next_1 : decode cX6_next 1 = .ok (.aload_n 0, 1) := by decide +kernel
theorem dX6_next_2 : decode cX6_next 2 = .ok (.getfield 15, 3) := by decide +kernel
theorem dX6_next_5 : decode cX6_next 5 = .ok (.putfield 9, 3) := by decide +kernel
theorem dX6_next_8 : decode cX6_next 8 = .ok (.aload_n 0, 1) := by decide +kernel
theorem dX6_next_9 : decode cX6_next 9 = .ok (.getfield 9, 3) := by decide +kernel
theorem dX6_next_12 : decode cX6_next 12 = .ok (.aload_n 0, 1) := by decide +kernel
theorem dX6_next_13 : decode cX6_next 13 = .ok (.getfield 21, 3) := by decide +kernel
theorem dX6_next_16 : decode cX6_next 16 = .ok (.invokevirtual 47, 3) := by decide +kernel
theorem dX6_next_19 : decode cX6_next 19 = .ok (.if_icmp .ge 32, 3) := by decide +kernel
theorem dX6_next_22 : decode cX6_next 22 = .ok (.aload_n 0, 1) := by decide +kernel
theorem dX6_next_23 : decode cX6_next 23 = .ok (.getfield 21, 3) := by decide +kernel
theorem dX6_next_26 : decode cX6_next 26 = .ok (.aload_n 0, 1) := by decide +kernel
theorem dX6_next_27 : decode cX6_next 27 = .ok (.getfield 9, 3) := by decide +kernel
theorem dX6_next_30 : decode cX6_next 30 = .ok (.invokevirtual 113, 3) := by decide +kernel
theorem dX6_next_33 : decode cX6_next 33 = .ok (.bipush 32, 2) := by decide +kernel
theorem dX6_next_35 : decode cX6_next 35 = .ok (.if_icmp .ne 16, 3) := by decide +kernel
theorem dX6_next_38 : decode cX6_next 38 = .ok (.aload_n 0, 1) := by decide +kernel
theorem dX6_next_39 : decode cX6_next 39 = .ok (.dup, 1) := by decide +kernel
theorem dX6_next_40 : decode cX6_next 40 = .ok (.getfield 9, 3) := by decide +kernel
theorem dX6_next_43 : decode cX6_next 43 = .ok (.iconst 1, 1) := by decide +kernel
theorem dX6_next_44 : decode cX6_next 44 = .ok (.iadd, 1) := by decide +kernel
theorem dX6_next_45 : decode cX6_next 45 = .ok (.putfield 9, 3) := by decide +kernel
theorem dX6_next_48 : decode cX6_next 48 = .ok (.goto (-40), 3) := by decide +kernel
theorem dX6_next_51 : decode cX6_next 51 = .ok (.aload_n 0, 1) := by decide +kernel
theorem dX6_next_52 : decode cX6_next 52 = .ok (.aload_n 0, 1) := by decide +kernel
theorem dX6_next_53 : decode cX6_next 53 = .ok (.getfield 9, 3) := by decide +kernel
theorem dX6_next_56 : decode cX6_next 56 = .ok (.putfield 15, 3) := by decide +kernel
theorem dX6_next_59 : decode cX6_next 59 = .ok (.aload_n 0, 1) := by decide +kernel
theorem dX6_next_60 : decode cX6_next 60 = .ok (.getfield 21, 3) := by decide +kernel
theorem dX6_next_63 : decode cX6_next 63 = .ok (.aload_n 0, 1) := by decide +kernel
theorem dX6_next_64 : decode cX6_next 64 = .ok (.getfield 9, 3) := by decide +kernel
theorem dX6_next_67 : decode cX6_next 67 = .ok (.invokevirtual 113, 3) := by decide +kernel
theorem dX6_next_70 : decode cX6_next 70 = .ok (.invokestatic 121, 3) := by decide +kernel
theorem dX6_next_73 : decode cX6_next 73 = .ok (.ifCond .eq 47, 3) := by decide +kernel
theorem dX6_next_76 : decode cX6_next 76 = .ok (.aload_n 0, 1) := by decide +kernel
theorem dX6_next_77 : decode cX6_next 77 = .ok (.getfield 15, 3) := by decide +kernel
theorem dX6_next_80 : decode cX6_next 80 = .ok (.aload_n 0, 1) := by decide +kernel
theorem dX6_next_81 : decode cX6_next 81 = .ok (.getfield 21, 3) := by decide +kernel
theorem dX6_next_84 : decode cX6_next 84 = .ok (.invokevirtual 47, 3) := by decide +kernel
theorem dX6_next_87 : decode cX6_next 87 = .ok (.if_icmp .ge 77, 3) := by decide +kernel
theorem dX6_next_90 : decode cX6_next 90 = .ok (.aload_n 0, 1) := by decide +kernel
theorem dX6_next_91 : decode cX6_next 91 = .ok (.getfield 21, 3) := by decide +kernel
theorem dX6_next_94 : decode cX6_next 94 = .ok (.aload_n 0, 1) := by decide +kernel
theorem dX6_next_95 : decode cX6_next 95 = .ok (.getfield 15, 3) := by decide +kernel
theorem dX6_next_98 : decode cX6_next 98 = .ok (.invokevirtual 113, 3) := by decide +kernel
theorem dX6_next_101 : decode cX6_next 101 = .ok (.invokestatic 121, 3) := by decide +kernel
theorem dX6_next_104 : decode cX6_next 104 = .ok (.ifCond .eq 60, 3) := by decide +kernel
theorem dX6_next_107 : decode cX6_next 107 = .ok (.aload_n 0, 1) := by decide +kernel
theorem dX6_next_108 : decode cX6_next 108 = .ok (.dup, 1) := by decide +kernel
theorem dX6_next_109 : decode cX6_next 109 = .ok (.getfield 15, 3) := by decide +kernel
theorem dX6_next_112 : decode cX6_next 112 = .ok (.iconst 1, 1) := by decide +kernel
theorem dX6_next_113 : decode cX6_next 113 = .ok (.iadd, 1) := by decide +kernel
theorem dX6_next_114 : decode cX6_next 114 = .ok (.putfield 15, 3) := by decide +kernel
theorem dX6_next_117 : decode cX6_next 117 = .ok (.goto (-41), 3) := by decide +kernel
theorem dX6_next_120 : decode cX6_next 120 = .ok (.aload_n 0, 1) := by decide +kernel
theorem dX6_next_121 : decode cX6_next 121 = .ok (.getfield 15, 3) := by decide +kernel
theorem dX6_next_124 : decode cX6_next 124 = .ok (.aload_n 0, 1) := by decide +kernel
theorem dX6_next_125 : decode cX6_next 125 = .ok (.getfield 21, 3) := by decide +kernel
theorem dX6_next_128 : decode cX6_next 128 = .ok (.invokevirtual 47, 3) := by decide +kernel
theorem dX6_next_131 : decode cX6_next 131 = .ok (.if_icmp .ge 33, 3) := by decide +kernel
theorem dX6_next_134 : decode cX6_next 134 = .ok (.aload_n 0, 1) := by decide +kernel
theorem dX6_next_135 : decode cX6_next 135 = .ok (.getfield 21, 3) := by decide +kernel
theorem dX6_next_138 : decode cX6_next 138 = .ok (.aload_n 0, 1) := by decide +kernel
theorem dX6_next_139 : decode cX6_next 139 = .ok (.getfield 15, 3) := by decide +kernel
theorem dX6_next_142 : decode cX6_next 142 = .ok (.invokevirtual 113, 3) := by decide +kernel
theorem dX6_next_145 : decode cX6_next 145 = .ok (.invokestatic 117, 3) := by decide +kernel
theorem dX6_next_148 : decode cX6_next 148 = .ok (.ifCond .eq 16, 3) := by decide +kernel
theorem dX6_next_151 : decode cX6_next 151 = .ok (.aload_n 0, 1) := by decide +kernel
theorem dX6_next_152 : decode cX6_next 152 = .ok (.dup, 1) := by decide +kernel
theorem dX6_next_153 : decode cX6_next 153 = .ok (.getfield 15, 3) := by decide +kernel
theorem dX6_next_156 : decode cX6_next 156 = .ok (.iconst 1, 1) := by decide +kernel
theorem dX6_next_157 : decode cX6_next 157 = .ok (.iadd, 1) := by decide +kernel
theorem dX6_next_158 : decode cX6_next 158 = .ok (.putfield 15, 3) := by decide +kernel
theorem dX6_next_161 : decode cX6_next 161 = .ok (.goto (-41), 3) := by decide +kernel
theorem dX6_next_164 : decode cX6_next 164 = .ok (.return_, 1) := by decide +kernel
theorem dX6_isWord_0 : decode cX6_isWord 0 = .ok (.aload_n 0, 1) := by decide +kernel
theorem dX6_isWord_1 : decode cX6_isWord 1 = .ok (.getfield 15, 3) := by decide +kernel
theorem dX6_isWord_4 : decode cX6_isWord 4 = .ok (.aload_n 0, 1) := by decide +kernel
theorem dX6_isWord_5 : decode cX6_isWord 5 = .ok (.getfield 9, 3) := by decide +kernel
theorem dX6_isWord_8 : decode cX6_isWord 8 = .ok (.isub, 1) := by decide +kernel
theorem dX6_isWord_9 : decode cX6_isWord 9 = .ok (.aload_n 1, 1) := by decide +kernel
theorem dX6_isWord_10 : decode cX6_isWord 10 = .ok (.invokevirtual 124, 3) := by decide +kernel
theorem dX6_isWord_13 : decode cX6_isWord 13 = .ok (.if_icmp .eq 5, 3) := by decide +kernel
theorem dX6_isWord_16 : decode cX6_isWord 16 = .ok (.iconst 0, 1) := by decide +kernel
theorem dX6_isWord_17 : decode cX6_isWord 17 = .ok (.ireturn, 1) := by decide +kernel
theorem dX6_isWord_18 : decode cX6_isWord 18 = .ok (.iconst 0, 1) := by decide +kernel
theorem dX6_isWord_19 : decode cX6_isWord 19 = .ok (.istore_n 2, 1) := by decide +kernel
theorem dX6_isWord_20 : decode cX6_isWord 20 = .ok (.iload_n 2, 1) := by decide +kernel
theorem dX6_isWord_21 : decode cX6_isWord 21 = .ok (.aload_n 1, 1) := by decide +kernel
theorem dX6_isWord_22 : decode cX6_isWord 22 = .ok (.invokevirtual 124, 3) := by decide +kernel
theorem dX6_isWord_25 : decode cX6_isWord 25 = .ok (.if_icmp .ge 32, 3) := by decide +kernel
theorem dX6_isWord_28 : decode cX6_isWord 28 = .ok (.aload_n 0, 1) := by decide +kernel
theorem dX6_isWord_29 : decode cX6_isWord 29 = .ok (.getfield 21, 3) := by decide +kernel
theorem dX6_isWord_32 : decode cX6_isWord 32 = .ok (.aload_n 0, 1) := by decide +kernel
theorem dX6_isWord_33 : decode cX6_isWord 33 = .ok (.getfield 9, 3) := by decide +kernel
theorem dX6_isWord_36 : decode cX6_isWord 36 = .ok (.iload_n 2, 1) := by decide +kernel
theorem dX6_isWord_37 : decode cX6_isWord 37 = .ok (.iadd, 1) := by decide +kernel
theorem dX6_isWord_38 : decode cX6_isWord 38 = .ok (.invokevirtual 113, 3) := by decide +kernel
theorem dX6_isWord_41 : decode cX6_isWord 41 = .ok (.aload_n 1, 1) := by decide +kernel
theorem dX6_isWord_42 : decode cX6_isWord 42 = .ok (.iload_n 2, 1) := by decide +kernel
theorem dX6_isWord_43 : decode cX6_isWord 43 = .ok (.invokevirtual 129, 3) := by decide +kernel
theorem dX6_isWord_46 : decode cX6_isWord 46 = .ok (.if_icmp .eq 5, 3) := by decide +kernel
theorem dX6_isWord_49 : decode cX6_isWord 49 = .ok (.iconst 0, 1) := by decide +kernel
theorem dX6_isWord_50 : decode cX6_isWord 50 = .ok (.ireturn, 1) := by decide +kernel
theorem dX6_isWord_51 : decode cX6_isWord 51 = .ok (.iinc 2 1, 3) := by decide +kernel
theorem dX6_isWord_54 : decode cX6_isWord 54 = .ok (.goto (-34), 3) := by decide +kernel
theorem dX6_isWord_57 : decode cX6_isWord 57 = .ok (.iconst 1, 1) := by decide +kernel
theorem dX6_isWord_58 : decode cX6_isWord 58 = .ok (.ireturn, 1) := by decide +kernel
theorem dX6_fail_0 : decode cX6_fail 0 = .ok (.aload_n 0, 1) := by decide +kernel
theorem dX6_fail_1 : decode cX6_fail 1 = .ok (.getfield 18, 3) := by decide +kernel
theorem dX6_fail_4 : decode cX6_fail 4 = .ok (.bipush (-9), 2) := by decide +kernel
theorem dX6_fail_6 : decode cX6_fail 6 = .ok (.if_icmp .ne 11, 3) := by decide +kernel
theorem dX6_fail_9 : decode cX6_fail 9 = .ok (.aload_n 0, 1) := by decide +kernel
theorem dX6_fail_10 : decode cX6_fail 10 = .ok (.aload_n 0, 1) := by decide +kernel
theorem dX6_fail_11 : decode cX6_fail 11 = .ok (.getfield 9, 3) := by decide +kernel
theorem dX6_fail_14 : decode cX6_fail 14 = .ok (.putfield 18, 3) := by decide +kernel
theorem dX6_fail_17 : decode cX6_fail 17 = .ok (.return_, 1) := by decide +kernel
theorem dX6_isLetter_0 : decode cX6_isLetter 0 = .ok (.iload_n 0, 1) := by decide +kernel
theorem dX6_isLetter_1 : decode cX6_isLetter 1 = .ok (.bipush 97, 2) := by decide +kernel
theorem dX6_isLetter_3 : decode cX6_isLetter 3 = .ok (.if_icmp .lt 13, 3) := by decide +kernel
theorem dX6_isLetter_6 : decode cX6_isLetter 6 = .ok (.iload_n 0, 1) := by decide +kernel
theorem dX6_isLetter_7 : decode cX6_isLetter 7 = .ok (.bipush 122, 2) := by decide +kernel
theorem dX6_isLetter_9 : decode cX6_isLetter 9 = .ok (.if_icmp .gt 7, 3) := by decide +kernel
theorem dX6_isLetter_12 : decode cX6_isLetter 12 = .ok (.iconst 1, 1) := by decide +kernel
theorem dX6_isLetter_13 : decode cX6_isLetter 13 = .ok (.goto 4, 3) := by decide +kernel
theorem dX6_isLetter_16 : decode cX6_isLetter 16 = .ok (.iconst 0, 1) := by decide +kernel
theorem dX6_isLetter_17 : decode cX6_isLetter 17 = .ok (.ireturn, 1) := by decide +kernel
theorem dX6_isDigit_0 : decode cX6_isDigit 0 = .ok (.iload_n 0, 1) := by decide +kernel
theorem dX6_isDigit_1 : decode cX6_isDigit 1 = .ok (.bipush 48, 2) := by decide +kernel
theorem dX6_isDigit_3 : decode cX6_isDigit 3 = .ok (.if_icmp .lt 13, 3) := by decide +kernel
theorem dX6_isDigit_6 : decode cX6_isDigit 6 = .ok (.iload_n 0, 1) := by decide +kernel
theorem dX6_isDigit_7 : decode cX6_isDigit 7 = .ok (.bipush 57, 2) := by decide +kernel
theorem dX6_isDigit_9 : decode cX6_isDigit 9 = .ok (.if_icmp .gt 7, 3) := by decide +kernel
theorem dX6_isDigit_12 : decode cX6_isDigit 12 = .ok (.iconst 1, 1) := by decide +kernel
theorem dX6_isDigit_13 : decode cX6_isDigit 13 = .ok (.goto 4, 3) := by decide +kernel
theorem dX6_isDigit_16 : decode cX6_isDigit 16 = .ok (.iconst 0, 1) := by decide +kernel
theorem dX6_isDigit_17 : decode cX6_isDigit 17 = .ok (.ireturn, 1) := by decide +kernel
theorem dX6_kindWord_0 : decode cX6_kindWord 0 = .ok (.iload_n 0, 1) := by decide +kernel
theorem dX6_kindWord_1 : decode cX6_kindWord 1 = .ok (.tableswitch 71 0 7 #[47, 50, 53, 56, 59, 62, 65, 68], 47) := by decide +kernel
theorem dX6_kindWord_48 : decode cX6_kindWord 48 = .ok (.ldc 133, 2) := by decide +kernel
theorem dX6_kindWord_50 : decode cX6_kindWord 50 = .ok (.areturn, 1) := by decide +kernel
theorem dX6_kindWord_51 : decode cX6_kindWord 51 = .ok (.ldc 135, 2) := by decide +kernel
theorem dX6_kindWord_53 : decode cX6_kindWord 53 = .ok (.areturn, 1) := by decide +kernel
theorem dX6_kindWord_54 : decode cX6_kindWord 54 = .ok (.ldc 137, 2) := by decide +kernel
theorem dX6_kindWord_56 : decode cX6_kindWord 56 = .ok (.areturn, 1) := by decide +kernel
theorem dX6_kindWord_57 : decode cX6_kindWord 57 = .ok (.ldc 139, 2) := by decide +kernel
theorem dX6_kindWord_59 : decode cX6_kindWord 59 = .ok (.areturn, 1) := by decide +kernel
theorem dX6_kindWord_60 : decode cX6_kindWord 60 = .ok (.ldc 141, 2) := by decide +kernel
theorem dX6_kindWord_62 : decode cX6_kindWord 62 = .ok (.areturn, 1) := by decide +kernel
theorem dX6_kindWord_63 : decode cX6_kindWord 63 = .ok (.ldc 142, 2) := by decide +kernel
theorem dX6_kindWord_65 : decode cX6_kindWord 65 = .ok (.areturn, 1) := by decide +kernel
theorem dX6_kindWord_66 : decode cX6_kindWord 66 = .ok (.ldc 144, 2) := by decide +kernel
theorem dX6_kindWord_68 : decode cX6_kindWord 68 = .ok (.areturn, 1) := by decide +kernel
theorem dX6_kindWord_69 : decode cX6_kindWord 69 = .ok (.ldc 146, 2) := by decide +kernel
theorem dX6_kindWord_71 : decode cX6_kindWord 71 = .ok (.areturn, 1) := by decide +kernel
theorem dX6_kindWord_72 : decode cX6_kindWord 72 = .ok (.ldc 148, 2) := by decide +kernel
theorem dX6_kindWord_74 : decode cX6_kindWord 74 = .ok (.areturn, 1) := by decide +kernel
theorem dX6_ruleWord_0 : decode cX6_ruleWord 0 = .ok (.iload_n 0, 1) := by decide +kernel
theorem dX6_ruleWord_1 : decode cX6_ruleWord 1 = .ok (.tableswitch 50 0 4 #[35, 38, 41, 44, 47], 35) := by decide +kernel
theorem dX6_ruleWord_36 : decode cX6_ruleWord 36 = .ok (.ldc 73, 2) := by decide +kernel
theorem dX6_ruleWord_38 : decode cX6_ruleWord 38 = .ok (.areturn, 1) := by decide +kernel
theorem dX6_ruleWord_39 : decode cX6_ruleWord 39 = .ok (.ldc 150, 2) := by decide +kernel
theorem dX6_ruleWord_41 : decode cX6_ruleWord 41 = .ok (.areturn, 1) := by decide +kernel
theorem dX6_ruleWord_42 : decode cX6_ruleWord 42 = .ok (.ldc 152, 2) := by decide +kernel
theorem dX6_ruleWord_44 : decode cX6_ruleWord 44 = .ok (.areturn, 1) := by decide +kernel
theorem dX6_ruleWord_45 : decode cX6_ruleWord 45 = .ok (.ldc 154, 2) := by decide +kernel
theorem dX6_ruleWord_47 : decode cX6_ruleWord 47 = .ok (.areturn, 1) := by decide +kernel
theorem dX6_ruleWord_48 : decode cX6_ruleWord 48 = .ok (.ldc 156, 2) := by decide +kernel
theorem dX6_ruleWord_50 : decode cX6_ruleWord 50 = .ok (.areturn, 1) := by decide +kernel
theorem dX6_ruleWord_51 : decode cX6_ruleWord 51 = .ok (.ldc 158, 2) := by decide +kernel
theorem dX6_ruleWord_53 : decode cX6_ruleWord 53 = .ok (.areturn, 1) := by decide +kernel
theorem dX7_init_0 : decode cX7_init 0 = .ok (.aload_n 0, 1) := by decide +kernel
theorem dX7_init_1 : decode cX7_init 1 = .ok (.invokespecial 3, 3) := by decide +kernel
theorem dX7_init_4 : decode cX7_init 4 = .ok (.aload_n 0, 1) := by decide +kernel
theorem dX7_init_5 : decode cX7_init 5 = .ok (.sipush 200, 3) := by decide +kernel
theorem dX7_init_8 : decode cX7_init 8 = .ok (.anewarray 9, 3) := by decide +kernel
theorem dX7_init_11 : decode cX7_init 11 = .ok (.putfield 11, 3) := by decide +kernel
theorem dX7_init_14 : decode cX7_init 14 = .ok (.aload_n 0, 1) := by decide +kernel
theorem dX7_init_15 : decode cX7_init 15 = .ok (.bipush 64, 2) := by decide +kernel
theorem dX7_init_17 : decode cX7_init 17 = .ok (.anewarray 9, 3) := by decide +kernel
theorem dX7_init_20 : decode cX7_init 20 = .ok (.putfield 17, 3) := by decide +kernel
theorem dX7_init_23 : decode cX7_init 23 = .ok (.aload_n 0, 1) := by decide +kernel
theorem dX7_init_24 : decode cX7_init 24 = .ok (.bipush 8, 2) := by decide +kernel
theorem dX7_init_26 : decode cX7_init 26 = .ok (.anewarray 9, 3) := by decide +kernel
theorem dX7_init_29 : decode cX7_init 29 = .ok (.putfield 20, 3) := by decide +kernel
theorem dX7_init_32 : decode cX7_init 32 = .ok (.aload_n 0, 1) := by decide +kernel
theorem dX7_init_33 : decode cX7_init 33 = .ok (.iconst 0, 1) := by decide +kernel
theorem dX7_init_34 : decode cX7_init 34 = .ok (.putfield 23, 3) := by decide +kernel
theorem dX7_init_37 : decode cX7_init 37 = .ok (.aload_n 0, 1) := by decide +kernel
theorem dX7_init_38 : decode cX7_init 38 = .ok (.iconst 0, 1) := by decide +kernel
theorem dX7_init_39 : decode cX7_init 39 = .ok (.putfield 27, 3) := by decide +kernel
theorem dX7_init_42 : decode cX7_init 42 = .ok (.aload_n 0, 1) := by decide +kernel
theorem dX7_init_43 : decode cX7_init 43 = .ok (.iconst 0, 1) := by decide +kernel
theorem dX7_init_44 : decode cX7_init 44 = .ok (.putfield 30, 3) := by decide +kernel
theorem dX7_init_47 : decode cX7_init 47 = .ok (.return_, 1) := by decide +kernel
theorem dX7_size_0 : decode cX7_size 0 = .ok (.aload_n 0, 1) := by decide +kernel
theorem dX7_size_1 : decode cX7_size 1 = .ok (.getfield 23, 3) := by decide +kernel
theorem dX7_size_4 : decode cX7_size 4 = .ok (.ireturn, 1) := by decide +kernel
theorem dX7_taken_0 : decode cX7_taken 0 = .ok (.iload_n 1, 1) := by decide +kernel
theorem dX7_taken_1 : decode cX7_taken 1 = .ok (.ifCond .lt 20, 3) := by decide +kernel
theorem dX7_taken_4 : decode cX7_taken 4 = .ok (.iload_n 1, 1) := by decide +kernel
theorem dX7_taken_5 : decode cX7_taken 5 = .ok (.aload_n 0, 1) := by decide +kernel
theorem dX7_taken_6 : decode cX7_taken 6 = .ok (.getfield 23, 3) := by decide +kernel
theorem dX7_taken_9 : decode cX7_taken 9 = .ok (.if_icmp .ge 12, 3) := by decide +kernel
theorem dX7_taken_12 : decode cX7_taken 12 = .ok (.aload_n 0, 1) := by decide +kernel
theorem dX7_taken_13 : decode cX7_taken 13 = .ok (.getfield 11, 3) := by decide +kernel
theorem dX7_taken_16 : decode cX7_taken 16 = .ok (.iload_n 1, 1) := by decide +kernel
theorem dX7_taken_17 : decode cX7_taken 17 = .ok (.aaload, 1) := by decide +kernel
theorem dX7_taken_18 : decode cX7_taken 18 = .ok (.goto 4, 3) := by decide +kernel
theorem dX7_taken_21 : decode cX7_taken 21 = .ok (.aconst_null, 1) := by decide +kernel
theorem dX7_taken_22 : decode cX7_taken 22 = .ok (.areturn, 1) := by decide +kernel
theorem dX7_standing_0 : decode cX7_standing 0 = .ok (.aload_n 0, 1) := by decide +kernel
theorem dX7_standing_1 : decode cX7_standing 1 = .ok (.iload_n 1, 1) := by decide +kernel
theorem dX7_standing_2 : decode cX7_standing 2 = .ok (.invokevirtual 33, 3) := by decide +kernel
theorem dX7_standing_5 : decode cX7_standing 5 = .ok (.astore_n 2, 1) := by decide +kernel
theorem dX7_standing_6 : decode cX7_standing 6 = .ok (.aload_n 2, 1) := by decide +kernel
theorem dX7_standing_7 : decode cX7_standing 7 = .ok (.ifnull 14, 3) := by decide +kernel
theorem dX7_standing_10 : decode cX7_standing 10 = .ok (.aload_n 2, 1) := by decide +kernel
theorem dX7_standing_11 : decode cX7_standing 11 = .ok (.getfield 37, 3) := by decide +kernel
theorem dX7_standing_14 : decode cX7_standing 14 = .ok (.ifCond .eq 7, 3) := by decide +kernel
theorem dX7_standing_17 : decode cX7_standing 17 = .ok (.aload_n 2, 1) := by decide +kernel
theorem dX7_standing_18 : decode cX7_standing 18 = .ok (.goto 4, 3) := by decide +kernel
theorem dX7_standing_21 : decode cX7_standing 21 = .ok (.aconst_null, 1) := by decide +kernel
theorem dX7_standing_22 : decode cX7_standing 22 = .ok (.areturn, 1) := by decide +kernel
theorem dX7_hasPerson_0 : decode cX7_hasPerson 0 = .ok (.iload_n 1, 1) := by decide +kernel
theorem dX7_hasPerson_1 : decode cX7_hasPerson 1 = .ok (.ifCond .lt 36, 3) := by decide +kernel
theorem dX7_hasPerson_4 : decode cX7_hasPerson 4 = .ok (.iload_n 1, 1) := by decide +kernel
theorem dX7_hasPerson_5 : decode cX7_hasPerson 5 = .ok (.aload_n 0, 1) := by decide +kernel
theorem dX7_hasPerson_6 : decode cX7_hasPerson 6 = .ok (.getfield 27, 3) := by decide +kernel
theorem dX7_hasPerson_9 : decode cX7_hasPerson 9 = .ok (.if_icmp .ge 28, 3) := by decide +kernel
theorem dX7_hasPerson_12 : decode cX7_hasPerson 12 = .ok (.aload_n 0, 1) := by decide +kernel
theorem dX7_hasPerson_13 : decode cX7_hasPerson 13 = .ok (.getfield 17, 3) := by decide +kernel
theorem dX7_hasPerson_16 : decode cX7_hasPerson 16 = .ok (.iload_n 1, 1) := by decide +kernel
theorem dX7_hasPerson_17 : decode cX7_hasPerson 17 = .ok (.aaload, 1) := by decide +kernel
theorem dX7_hasPerson_18 : decode cX7_hasPerson 18 = .ok (.ifnull 19, 3) := by decide +kernel
theorem dX7_hasPerson_21 : decode cX7_hasPerson 21 = .ok (.aload_n 0, 1) := by decide +kernel
theorem dX7_hasPerson_22 : decode cX7_hasPerson 22 = .ok (.getfield 17, 3) := by decide +kernel
theorem dX7_hasPerson_25 : decode cX7_hasPerson 25 = .ok (.iload_n 1, 1) := by decide +kernel
theorem dX7_hasPerson_26 : decode cX7_hasPerson 26 = .ok (.aaload, 1) := by decide +kernel
theorem dX7_hasPerson_27 : decode cX7_hasPerson 27 = .ok (.getfield 37, 3) := by decide +kernel
theorem dX7_hasPerson_30 : decode cX7_hasPerson 30 = .ok (.ifCond .eq 7, 3) := by decide +kernel
theorem dX7_hasPerson_33 : decode cX7_hasPerson 33 = .ok (.iconst 1, 1) := by decide +kernel
theorem dX7_hasPerson_34 : decode cX7_hasPerson 34 = .ok (.goto 4, 3) := by decide +kernel
theorem dX7_hasPerson_37 : decode cX7_hasPerson 37 = .ok (.iconst 0, 1) := by decide +kernel
theorem dX7_hasPerson_38 : decode cX7_hasPerson 38 = .ok (.ireturn, 1) := by decide +kernel
theorem dX7_hasTitle_0 : decode cX7_hasTitle 0 = .ok (.aload_n 0, 1) := by decide +kernel
theorem dX7_hasTitle_1 : decode cX7_hasTitle 1 = .ok (.iload_n 1, 1) := by decide +kernel
theorem dX7_hasTitle_2 : decode cX7_hasTitle 2 = .ok (.invokevirtual 44, 3) := by decide +kernel
theorem dX7_hasTitle_5 : decode cX7_hasTitle 5 = .ok (.ifnull 7, 3) := by decide +kernel
theorem dX7_hasTitle_8 : decode cX7_hasTitle 8 = .ok (.iconst 1, 1) := by decide +kernel
theorem dX7_hasTitle_9 : decode cX7_hasTitle 9 = .ok (.goto 4, 3) := by decide +kernel
theorem dX7_hasTitle_12 : decode cX7_hasTitle 12 = .ok (.iconst 0, 1) := by decide +kernel
theorem dX7_hasTitle_13 : decode cX7_hasTitle 13 = .ok (.ireturn, 1) := by decide +kernel
theorem dX7_grantOf_0 : decode cX7_grantOf 0 = .ok (.iload_n 1, 1) := by decide +kernel
theorem dX7_grantOf_1 : decode cX7_grantOf 1 = .ok (.ifCond .lt 11, 3) := by decide +kernel
theorem dX7_grantOf_4 : decode cX7_grantOf 4 = .ok (.iload_n 1, 1) := by decide +kernel
theorem dX7_grantOf_5 : decode cX7_grantOf 5 = .ok (.aload_n 0, 1) := by decide +kernel
theorem dX7_grantOf_6 : decode cX7_grantOf 6 = .ok (.getfield 30, 3) := by decide +kernel
theorem dX7_grantOf_9 : decode cX7_grantOf 9 = .ok (.if_icmp .lt 5, 3) := by decide +kernel
theorem dX7_grantOf_12 : decode cX7_grantOf 12 = .ok (.aconst_null, 1) := by decide +kernel
theorem dX7_grantOf_13 : decode cX7_grantOf 13 = .ok (.areturn, 1) := by decide +kernel
theorem dX7_grantOf_14 : decode cX7_grantOf 14 = .ok (.aload_n 0, 1) := by decide +kernel
theorem dX7_grantOf_15 : decode cX7_grantOf 15 = .ok (.getfield 20, 3) := by decide +kernel
theorem dX7_grantOf_18 : decode cX7_grantOf 18 = .ok (.iload_n 1, 1) := by decide +kernel
theorem dX7_grantOf_19 : decode cX7_grantOf 19 = .ok (.aaload, 1) := by decide +kernel
theorem dX7_grantOf_20 : decode cX7_grantOf 20 = .ok (.astore_n 2, 1) := by decide +kernel
theorem dX7_grantOf_21 : decode cX7_grantOf 21 = .ok (.aload_n 2, 1) := by decide +kernel
theorem dX7_grantOf_22 : decode cX7_grantOf 22 = .ok (.ifnull 14, 3) := by decide +kernel
theorem dX7_grantOf_25 : decode cX7_grantOf 25 = .ok (.aload_n 2, 1) := by decide +kernel
theorem dX7_grantOf_26 : decode cX7_grantOf 26 = .ok (.getfield 37, 3) := by decide +kernel
theorem dX7_grantOf_29 : decode cX7_grantOf 29 = .ok (.ifCond .eq 7, 3) := by decide +kernel
theorem dX7_grantOf_32 : decode cX7_grantOf 32 = .ok (.aload_n 2, 1) := by decide +kernel
theorem dX7_grantOf_33 : decode cX7_grantOf 33 = .ok (.goto 4, 3) := by decide +kernel
theorem dX7_grantOf_36 : decode cX7_grantOf 36 = .ok (.aconst_null, 1) := by decide +kernel
theorem dX7_grantOf_37 : decode cX7_grantOf 37 = .ok (.areturn, 1) := by decide +kernel
theorem dX7_knowsAllNamedBy_0 : decode cX7_knowsAllNamedBy 0 = .ok (.aload_n 0, 1) := by decide +kernel
theorem dX7_knowsAllNamedBy_1 : decode cX7_knowsAllNamedBy 1 = .ok (.aload_n 1, 1) := by decide +kernel
theorem dX7_knowsAllNamedBy_2 : decode cX7_knowsAllNamedBy 2 = .ok (.getfield 47, 3) := by decide +kernel
theorem dX7_knowsAllNamedBy_5 : decode cX7_knowsAllNamedBy 5 = .ok (.invokevirtual 50, 3) := by decide +kernel
theorem dX7_knowsAllNamedBy_8 : decode cX7_knowsAllNamedBy 8 = .ok (.ifCond .eq 59, 3) := by decide +kernel
theorem dX7_knowsAllNamedBy_11 : decode cX7_knowsAllNamedBy 11 = .ok (.aload_n 0, 1) := by decide +kernel
theorem dX7_knowsAllNamedBy_12 : decode cX7_knowsAllNamedBy 12 = .ok (.aload_n 1, 1) := by decide +kernel
theorem dX7_knowsAllNamedBy_13 : decode cX7_knowsAllNamedBy 13 = .ok (.getfield 54, 3) := by decide +kernel
theorem dX7_knowsAllNamedBy_16 : decode cX7_knowsAllNamedBy 16 = .ok (.invokevirtual 50, 3) := by decide +kernel
theorem dX7_knowsAllNamedBy_19 : decode cX7_knowsAllNamedBy 19 = .ok (.ifCond .eq 48, 3) := by decide +kernel
theorem dX7_knowsAllNamedBy_22 : decode cX7_knowsAllNamedBy 22 = .ok (.aload_n 0, 1) := by decide +kernel
theorem dX7_knowsAllNamedBy_23 : decode cX7_knowsAllNamedBy 23 = .ok (.aload_n 1, 1) := by decide +kernel
theorem dX7_knowsAllNamedBy_24 : decode cX7_knowsAllNamedBy 24 = .ok (.getfield 57, 3) := by decide +kernel
theorem dX7_knowsAllNamedBy_27 : decode cX7_knowsAllNamedBy 27 = .ok (.invokevirtual 50, 3) := by decide +kernel
theorem dX7_knowsAllNamedBy_30 : decode cX7_knowsAllNamedBy 30 = .ok (.ifCond .eq 37, 3) := by decide +kernel
theorem dX7_knowsAllNamedBy_33 : decode cX7_knowsAllNamedBy 33 = .ok (.aload_n 0, 1) := by decide +kernel
theorem dX7_knowsAllNamedBy_34 : decode cX7_knowsAllNamedBy 34 = .ok (.aload_n 1, 1) := by decide +kernel
theorem dX7_knowsAllNamedBy_35 : decode cX7_knowsAllNamedBy 35 = .ok (.getfield 60, 3) := by decide +kernel
theorem dX7_knowsAllNamedBy_38 : decode cX7_knowsAllNamedBy 38 = .ok (.invokevirtual 50, 3) := by decide +kernel
theorem dX7_knowsAllNamedBy_41 : decode cX7_knowsAllNamedBy 41 = .ok (.ifCond .eq 26, 3) := by decide +kernel
theorem dX7_knowsAllNamedBy_44 : decode cX7_knowsAllNamedBy 44 = .ok (.aload_n 1, 1) := by decide +kernel
theorem dX7_knowsAllNamedBy_45 : decode cX7_knowsAllNamedBy 45 = .ok (.getfield 63, 3) := by decide +kernel
theorem dX7_knowsAllNamedBy_48 : decode cX7_knowsAllNamedBy 48 = .ok (.iconst (-1), 1) := by decide +kernel
theorem dX7_knowsAllNamedBy_49 : decode cX7_knowsAllNamedBy 49 = .ok (.if_icmp .eq 14, 3) := by decide +kernel
theorem dX7_knowsAllNamedBy_52 : decode cX7_knowsAllNamedBy 52 = .ok (.aload_n 0, 1) := by decide +kernel
theorem dX7_knowsAllNamedBy_53 : decode cX7_knowsAllNamedBy 53 = .ok (.aload_n 1, 1) := by decide +kernel
theorem dX7_knowsAllNamedBy_54 : decode cX7_knowsAllNamedBy 54 = .ok (.getfield 63, 3) := by decide +kernel
theorem dX7_knowsAllNamedBy_57 : decode cX7_knowsAllNamedBy 57 = .ok (.invokevirtual 66, 3) := by decide +kernel
theorem dX7_knowsAllNamedBy_60 : decode cX7_knowsAllNamedBy 60 = .ok (.ifCond .eq 7, 3) := by decide +kernel
theorem dX7_knowsAllNamedBy_63 : decode cX7_knowsAllNamedBy 63 = .ok (.iconst 1, 1) := by decide +kernel
theorem dX7_knowsAllNamedBy_64 : decode cX7_knowsAllNamedBy 64 = .ok (.goto 4, 3) := by decide +kernel
theorem dX7_knowsAllNamedBy_67 : decode cX7_knowsAllNamedBy 67 = .ok (.iconst 0, 1) := by decide +kernel
theorem dX7_knowsAllNamedBy_68 : decode cX7_knowsAllNamedBy 68 = .ok (.ireturn, 1) := by decide +kernel
theorem dX7_knowsPerson_0 : decode cX7_knowsPerson 0 = .ok (.iload_n 1, 1) := by decide +kernel
theorem dX7_knowsPerson_1 : decode cX7_knowsPerson 1 = .ok (.iconst (-1), 1) := by decide +kernel
theorem dX7_knowsPerson_2 : decode cX7_knowsPerson 2 = .ok (.if_icmp .eq 11, 3) := by decide +kernel
theorem dX7_knowsPerson_5 : decode cX7_knowsPerson 5 = .ok (.aload_n 0, 1) := by decide +kernel
theorem dX7_knowsPerson_6 : decode cX7_knowsPerson 6 = .ok (.iload_n 1, 1) := by decide +kernel
theorem dX7_knowsPerson_7 : decode cX7_knowsPerson 7 = .ok (.invokevirtual 69, 3) := by decide +kernel
theorem dX7_knowsPerson_10 : decode cX7_knowsPerson 10 = .ok (.ifCond .eq 7, 3) := by decide +kernel
theorem dX7_knowsPerson_13 : decode cX7_knowsPerson 13 = .ok (.iconst 1, 1) := by decide +kernel
theorem dX7_knowsPerson_14 : decode cX7_knowsPerson 14 = .ok (.goto 4, 3) := by decide +kernel
theorem dX7_knowsPerson_17 : decode cX7_knowsPerson 17 = .ok (.iconst 0, 1) := by decide +kernel
theorem dX7_knowsPerson_18 : decode cX7_knowsPerson 18 = .ok (.ireturn, 1) := by decide +kernel
theorem dX7_hasRoomFor_0 : decode cX7_hasRoomFor 0 = .ok (.aload_n 0, 1) := by decide +kernel
theorem dX7_hasRoomFor_1 : decode cX7_hasRoomFor 1 = .ok (.getfield 23, 3) := by decide +kernel
theorem dX7_hasRoomFor_4 : decode cX7_hasRoomFor 4 = .ok (.sipush 200, 3) := by decide +kernel
theorem dX7_hasRoomFor_7 : decode cX7_hasRoomFor 7 = .ok (.if_icmp .lt 5, 3) := by decide +kernel
theorem dX7_hasRoomFor_10 : decode cX7_hasRoomFor 10 = .ok (.iconst 0, 1) := by decide +kernel
theorem dX7_hasRoomFor_11 : decode cX7_hasRoomFor 11 = .ok (.ireturn, 1) := by decide +kernel
theorem dX7_hasRoomFor_12 : decode cX7_hasRoomFor 12 = .ok (.aload_n 1, 1) := by decide +kernel
theorem dX7_hasRoomFor_13 : decode cX7_hasRoomFor 13 = .ok (.getfield 72, 3) := by decide +kernel
theorem dX7_hasRoomFor_16 : decode cX7_hasRoomFor 16 = .ok (.ifCond .ne 18, 3) := by decide +kernel
theorem dX7_hasRoomFor_19 : decode cX7_hasRoomFor 19 = .ok (.aload_n 0, 1) := by decide +kernel
theorem dX7_hasRoomFor_20 : decode cX7_hasRoomFor 20 = .ok (.getfield 27, 3) := by decide +kernel
theorem dX7_hasRoomFor_23 : decode cX7_hasRoomFor 23 = .ok (.bipush 64, 2) := by decide +kernel
theorem dX7_hasRoomFor_25 : decode cX7_hasRoomFor 25 = .ok (.if_icmp .ge 7, 3) := by decide +kernel
theorem dX7_hasRoomFor_28 : decode cX7_hasRoomFor 28 = .ok (.iconst 1, 1) := by decide +kernel
theorem dX7_hasRoomFor_29 : decode cX7_hasRoomFor 29 = .ok (.goto 4, 3) := by decide +kernel
theorem dX7_hasRoomFor_32 : decode cX7_hasRoomFor 32 = .ok (.iconst 0, 1) := by decide +kernel
theorem dX7_hasRoomFor_33 : decode cX7_hasRoomFor 33 = .ok (.ireturn, 1) := by decide +kernel
theorem dX7_hasRoomFor_34 : decode cX7_hasRoomFor 34 = .ok (.aload_n 1, 1) := by decide +kernel
theorem dX7_hasRoomFor_35 : decode cX7_hasRoomFor 35 = .ok (.getfield 72, 3) := by decide +kernel
theorem dX7_hasRoomFor_38 : decode cX7_hasRoomFor 38 = .ok (.iconst 4, 1) := by decide +kernel
theorem dX7_hasRoomFor_39 : decode cX7_hasRoomFor 39 = .ok (.if_icmp .ne 12, 3) := by decide +kernel
theorem dX7_hasRoomFor_42 : decode cX7_hasRoomFor 42 = .ok (.aload_n 0, 1) := by decide +kernel
theorem dX7_hasRoomFor_43 : decode cX7_hasRoomFor 43 = .ok (.getfield 30, 3) := by decide +kernel
theorem dX7_hasRoomFor_46 : decode cX7_hasRoomFor 46 = .ok (.bipush 8, 2) := by decide +kernel
theorem dX7_hasRoomFor_48 : decode cX7_hasRoomFor 48 = .ok (.if_icmp .ge 7, 3) := by decide +kernel
theorem dX7_hasRoomFor_51 : decode cX7_hasRoomFor 51 = .ok (.iconst 1, 1) := by decide +kernel
theorem dX7_hasRoomFor_52 : decode cX7_hasRoomFor 52 = .ok (.goto 4, 3) := by decide +kernel
theorem dX7_hasRoomFor_55 : decode cX7_hasRoomFor 55 = .ok (.iconst 0, 1) := by decide +kernel
theorem dX7_hasRoomFor_56 : decode cX7_hasRoomFor 56 = .ok (.ireturn, 1) := by decide +kernel
theorem dX7_add_0 : decode cX7_add 0 = .ok (.aload_n 0, 1) := by decide +kernel
theorem dX7_add_1 : decode cX7_add 1 = .ok (.aload_n 1, 1) := by decide +kernel
theorem dX7_add_2 : decode cX7_add 2 = .ok (.invokevirtual 75, 3) := by decide +kernel
theorem dX7_add_5 : decode cX7_add 5 = .ok (.ifCond .ne 4, 3) := by decide +kernel
theorem dX7_add_8 : decode cX7_add 8 = .ok (.return_, 1) := by decide +kernel
theorem dX7_add_9 : decode cX7_add 9 = .ok (.aload_n 1, 1) := by decide +kernel
theorem dX7_add_10 : decode cX7_add 10 = .ok (.getfield 72, 3) := by decide +kernel
theorem dX7_add_13 : decode cX7_add 13 = .ok (.ifCond .ne 28, 3) := by decide +kernel
theorem dX7_add_16 : decode cX7_add 16 = .ok (.aload_n 1, 1) := by decide +kernel
theorem dX7_add_17 : decode cX7_add 17 = .ok (.aload_n 0, 1) := by decide +kernel
theorem dX7_add_18 : decode cX7_add 18 = .ok (.getfield 27, 3) := by decide +kernel
theorem dX7_add_21 : decode cX7_add 21 = .ok (.putfield 57, 3) := by decide +kernel
theorem dX7_add_24 : decode cX7_add 24 = .ok (.aload_n 0, 1) := by decide +kernel
theorem dX7_add_25 : decode cX7_add 25 = .ok (.getfield 17, 3) := by decide +kernel
theorem dX7_add_28 : decode cX7_add 28 = .ok (.aload_n 0, 1) := by decide +kernel
theorem dX7_add_29 : decode cX7_add 29 = .ok (.dup, 1) := by decide +kernel
theorem dX7_add_30 : decode cX7_add 30 = .ok (.getfield 27, 3) := by decide +kernel
theorem dX7_add_33 : decode cX7_add 33 = .ok (.dup_x1, 1) := by decide +kernel
theorem dX7_add_34 : decode cX7_add 34 = .ok (.iconst 1, 1) := by decide +kernel
theorem dX7_add_35 : decode cX7_add 35 = .ok (.iadd, 1) := by decide +kernel
theorem dX7_add_36 : decode cX7_add 36 = .ok (.putfield 27, 3) := by decide +kernel
theorem dX7_add_39 : decode cX7_add 39 = .ok (.aload_n 1, 1) := by decide +kernel
theorem dX7_add_40 : decode cX7_add 40 = .ok (.aastore, 1) := by decide +kernel
theorem dX7_add_41 : decode cX7_add 41 = .ok (.aload_n 1, 1) := by decide +kernel
theorem dX7_add_42 : decode cX7_add 42 = .ok (.getfield 72, 3) := by decide +kernel
theorem dX7_add_45 : decode cX7_add 45 = .ok (.iconst 4, 1) := by decide +kernel
theorem dX7_add_46 : decode cX7_add 46 = .ok (.if_icmp .ne 28, 3) := by decide +kernel
theorem dX7_add_49 : decode cX7_add 49 = .ok (.aload_n 1, 1) := by decide +kernel
theorem dX7_add_50 : decode cX7_add 50 = .ok (.aload_n 0, 1) := by decide +kernel
theorem dX7_add_51 : decode cX7_add 51 = .ok (.getfield 30, 3) := by decide +kernel
theorem dX7_add_54 : decode cX7_add 54 = .ok (.putfield 63, 3) := by decide +kernel
theorem dX7_add_57 : decode cX7_add 57 = .ok (.aload_n 0, 1) := by decide +kernel
theorem dX7_add_58 : decode cX7_add 58 = .ok (.getfield 20, 3) := by decide +kernel
theorem dX7_add_61 : decode cX7_add 61 = .ok (.aload_n 0, 1) := by decide +kernel
theorem dX7_add_62 : decode cX7_add 62 = .ok (.dup, 1) := by decide +kernel
theorem dX7_add_63 : decode cX7_add 63 = .ok (.getfield 30, 3) := by decide +kernel
theorem dX7_add_66 : decode cX7_add 66 = .ok (.dup_x1, 1) := by decide +kernel
theorem dX7_add_67 : decode cX7_add 67 = .ok (.iconst 1, 1) := by decide +kernel
theorem dX7_add_68 : decode cX7_add 68 = .ok (.iadd, 1) := by decide +kernel
theorem dX7_add_69 : decode cX7_add 69 = .ok (.putfield 30, 3) := by decide +kernel
theorem dX7_add_72 : decode cX7_add 72 = .ok (.aload_n 1, 1) := by decide +kernel
theorem dX7_add_73 : decode cX7_add 73 = .ok (.aastore, 1) := by decide +kernel
theorem dX7_add_74 : decode cX7_add 74 = .ok (.aload_n 0, 1) := by decide +kernel
theorem dX7_add_75 : decode cX7_add 75 = .ok (.getfield 11, 3) := by decide +kernel
theorem dX7_add_78 : decode cX7_add 78 = .ok (.aload_n 0, 1) := by decide +kernel
theorem dX7_add_79 : decode cX7_add 79 = .ok (.dup, 1) := by decide +kernel
theorem dX7_add_80 : decode cX7_add 80 = .ok (.getfield 23, 3) := by decide +kernel
theorem dX7_add_83 : decode cX7_add 83 = .ok (.dup_x1, 1) := by decide +kernel
theorem dX7_add_84 : decode cX7_add 84 = .ok (.iconst 1, 1) := by decide +kernel
theorem dX7_add_85 : decode cX7_add 85 = .ok (.iadd, 1) := by decide +kernel
theorem dX7_add_86 : decode cX7_add 86 = .ok (.putfield 23, 3) := by decide +kernel
theorem dX7_add_89 : decode cX7_add 89 = .ok (.aload_n 1, 1) := by decide +kernel
theorem dX7_add_90 : decode cX7_add 90 = .ok (.aastore, 1) := by decide +kernel
theorem dX7_add_91 : decode cX7_add 91 = .ok (.return_, 1) := by decide +kernel
theorem dX7_dropLatest_0 : decode cX7_dropLatest 0 = .ok (.aload_n 0, 1) := by decide +kernel
theorem dX7_dropLatest_1 : decode cX7_dropLatest 1 = .ok (.aload_n 0, 1) := by decide +kernel
theorem dX7_dropLatest_2 : decode cX7_dropLatest 2 = .ok (.getfield 23, 3) := by decide +kernel
theorem dX7_dropLatest_5 : decode cX7_dropLatest 5 = .ok (.iconst 1, 1) := by decide +kernel
theorem dX7_dropLatest_6 : decode cX7_dropLatest 6 = .ok (.isub, 1) := by decide +kernel
theorem dX7_dropLatest_7 : decode cX7_dropLatest 7 = .ok (.invokevirtual 33, 3) := by decide +kernel
theorem dX7_dropLatest_10 : decode cX7_dropLatest 10 = .ok (.astore_n 1, 1) := by decide +kernel
theorem dX7_dropLatest_11 : decode cX7_dropLatest 11 = .ok (.aload_n 1, 1) := by decide +kernel
theorem dX7_dropLatest_12 : decode cX7_dropLatest 12 = .ok (.ifnonnull 4, 3) := by decide +kernel
theorem dX7_dropLatest_15 : decode cX7_dropLatest 15 = .ok (.return_, 1) := by decide +kernel
theorem dX7_dropLatest_16 : decode cX7_dropLatest 16 = .ok (.aload_n 0, 1) := by decide +kernel
theorem dX7_dropLatest_17 : decode cX7_dropLatest 17 = .ok (.dup, 1) := by decide +kernel
theorem dX7_dropLatest_18 : decode cX7_dropLatest 18 = .ok (.getfield 23, 3) := by decide +kernel
theorem dX7_dropLatest_21 : decode cX7_dropLatest 21 = .ok (.iconst 1, 1) := by decide +kernel
theorem dX7_dropLatest_22 : decode cX7_dropLatest 22 = .ok (.isub, 1) := by decide +kernel
theorem dX7_dropLatest_23 : decode cX7_dropLatest 23 = .ok (.putfield 23, 3) := by decide +kernel
theorem dX7_dropLatest_26 : decode cX7_dropLatest 26 = .ok (.aload_n 0, 1) := by decide +kernel
theorem dX7_dropLatest_27 : decode cX7_dropLatest 27 = .ok (.getfield 11, 3) := by decide +kernel
theorem dX7_dropLatest_30 : decode cX7_dropLatest 30 = .ok (.aload_n 0, 1) := by decide +kernel
theorem dX7_dropLatest_31 : decode cX7_dropLatest 31 = .ok (.getfield 23, 3) := by decide +kernel
theorem dX7_dropLatest_34 : decode cX7_dropLatest 34 = .ok (.aconst_null, 1) := by decide +kernel
theorem dX7_dropLatest_35 : decode cX7_dropLatest 35 = .ok (.aastore, 1) := by decide +kernel
theorem dX7_dropLatest_36 : decode cX7_dropLatest 36 = .ok (.aload_n 1, 1) := by decide +kernel
theorem dX7_dropLatest_37 : decode cX7_dropLatest 37 = .ok (.getfield 72, 3) := by decide +kernel
theorem dX7_dropLatest_40 : decode cX7_dropLatest 40 = .ok (.ifCond .ne 27, 3) := by decide +kernel
theorem dX7_dropLatest_43 : decode cX7_dropLatest 43 = .ok (.aload_n 0, 1) := by decide +kernel
theorem dX7_dropLatest_44 : decode cX7_dropLatest 44 = .ok (.getfield 27, 3) := by decide +kernel
theorem dX7_dropLatest_47 : decode cX7_dropLatest 47 = .ok (.ifCond .le 20, 3) := by decide +kernel
theorem dX7_dropLatest_50 : decode cX7_dropLatest 50 = .ok (.aload_n 0, 1) := by decide +kernel
theorem dX7_dropLatest_51 : decode cX7_dropLatest 51 = .ok (.getfield 17, 3) := by decide +kernel
theorem dX7_dropLatest_54 : decode cX7_dropLatest 54 = .ok (.aload_n 0, 1) := by decide +kernel
theorem dX7_dropLatest_55 : decode cX7_dropLatest 55 = .ok (.dup, 1) := by decide +kernel
theorem dX7_dropLatest_56 : decode cX7_dropLatest 56 = .ok (.getfield 27, 3) := by decide +kernel
theorem dX7_dropLatest_59 : decode cX7_dropLatest 59 = .ok (.iconst 1, 1) := by decide +kernel
theorem dX7_dropLatest_60 : decode cX7_dropLatest 60 = .ok (.isub, 1) := by decide +kernel
theorem dX7_dropLatest_61 : decode cX7_dropLatest 61 = .ok (.dup_x1, 1) := by decide +kernel
theorem dX7_dropLatest_62 : decode cX7_dropLatest 62 = .ok (.putfield 27, 3) := by decide +kernel
theorem dX7_dropLatest_65 : decode cX7_dropLatest 65 = .ok (.aconst_null, 1) := by decide +kernel
theorem dX7_dropLatest_66 : decode cX7_dropLatest 66 = .ok (.aastore, 1) := by decide +kernel
theorem dX7_dropLatest_67 : decode cX7_dropLatest 67 = .ok (.aload_n 1, 1) := by decide +kernel
theorem dX7_dropLatest_68 : decode cX7_dropLatest 68 = .ok (.getfield 72, 3) := by decide +kernel
theorem dX7_dropLatest_71 : decode cX7_dropLatest 71 = .ok (.iconst 4, 1) := by decide +kernel
theorem dX7_dropLatest_72 : decode cX7_dropLatest 72 = .ok (.if_icmp .ne 27, 3) := by decide +kernel
theorem dX7_dropLatest_75 : decode cX7_dropLatest 75 = .ok (.aload_n 0, 1) := by decide +kernel
theorem dX7_dropLatest_76 : decode cX7_dropLatest 76 = .ok (.getfield 30, 3) := by decide +kernel
theorem dX7_dropLatest_79 : decode cX7_dropLatest 79 = .ok (.ifCond .le 20, 3) := by decide +kernel
theorem dX7_dropLatest_82 : decode cX7_dropLatest 82 = .ok (.aload_n 0, 1) := by decide +kernel
theorem dX7_dropLatest_83 : decode cX7_dropLatest 83 = .ok (.getfield 20, 3) := by decide +kernel
theorem dX7_dropLatest_86 : decode cX7_dropLatest 86 = .ok (.aload_n 0, 1) := by decide +kernel
theorem dX7_dropLatest_87 : decode cX7_dropLatest 87 = .ok (.dup, 1) := by decide +kernel
theorem dX7_dropLatest_88 : decode cX7_dropLatest 88 = .ok (.getfield 30, 3) := by decide +kernel
theorem dX7_dropLatest_91 : decode cX7_dropLatest 91 = .ok (.iconst 1, 1) := by decide +kernel
theorem dX7_dropLatest_92 : decode cX7_dropLatest 92 = .ok (.isub, 1) := by decide +kernel
theorem dX7_dropLatest_93 : decode cX7_dropLatest 93 = .ok (.dup_x1, 1) := by decide +kernel
theorem dX7_dropLatest_94 : decode cX7_dropLatest 94 = .ok (.putfield 30, 3) := by decide +kernel
theorem dX7_dropLatest_97 : decode cX7_dropLatest 97 = .ok (.aconst_null, 1) := by decide +kernel
theorem dX7_dropLatest_98 : decode cX7_dropLatest 98 = .ok (.aastore, 1) := by decide +kernel
theorem dX7_dropLatest_99 : decode cX7_dropLatest 99 = .ok (.return_, 1) := by decide +kernel
theorem dX7_tellsAgain_0 : decode cX7_tellsAgain 0 = .ok (.iconst 0, 1) := by decide +kernel
theorem dX7_tellsAgain_1 : decode cX7_tellsAgain 1 = .ok (.istore_n 2, 1) := by decide +kernel
theorem dX7_tellsAgain_2 : decode cX7_tellsAgain 2 = .ok (.iload_n 2, 1) := by decide +kernel
theorem dX7_tellsAgain_3 : decode cX7_tellsAgain 3 = .ok (.aload_n 0, 1) := by decide +kernel
theorem dX7_tellsAgain_4 : decode cX7_tellsAgain 4 = .ok (.getfield 23, 3) := by decide +kernel
theorem dX7_tellsAgain_7 : decode cX7_tellsAgain 7 = .ok (.if_icmp .ge 62, 3) := by decide +kernel
theorem dX7_tellsAgain_10 : decode cX7_tellsAgain 10 = .ok (.aload_n 0, 1) := by decide +kernel
theorem dX7_tellsAgain_11 : decode cX7_tellsAgain 11 = .ok (.iload_n 2, 1) := by decide +kernel
theorem dX7_tellsAgain_12 : decode cX7_tellsAgain 12 = .ok (.invokevirtual 41, 3) := by decide +kernel
theorem dX7_tellsAgain_15 : decode cX7_tellsAgain 15 = .ok (.astore_n 3, 1) := by decide +kernel
theorem dX7_tellsAgain_16 : decode cX7_tellsAgain 16 = .ok (.aload_n 3, 1) := by decide +kernel
theorem dX7_tellsAgain_17 : decode cX7_tellsAgain 17 = .ok (.ifnull 46, 3) := by decide +kernel
theorem dX7_tellsAgain_20 : decode cX7_tellsAgain 20 = .ok (.aload_n 3, 1) := by decide +kernel
theorem dX7_tellsAgain_21 : decode cX7_tellsAgain 21 = .ok (.aload_n 1, 1) := by decide +kernel
theorem dX7_tellsAgain_22 : decode cX7_tellsAgain 22 = .ok (.if_acmp .ne 6, 3) := by decide +kernel
theorem dX7_tellsAgain_25 : decode cX7_tellsAgain 25 = .ok (.goto 38, 3) := by decide +kernel
theorem dX7_tellsAgain_28 : decode cX7_tellsAgain 28 = .ok (.aload_n 3, 1) := by decide +kernel
theorem dX7_tellsAgain_29 : decode cX7_tellsAgain 29 = .ok (.getfield 72, 3) := by decide +kernel
theorem dX7_tellsAgain_32 : decode cX7_tellsAgain 32 = .ok (.aload_n 1, 1) := by decide +kernel
theorem dX7_tellsAgain_33 : decode cX7_tellsAgain 33 = .ok (.getfield 72, 3) := by decide +kernel
theorem dX7_tellsAgain_36 : decode cX7_tellsAgain 36 = .ok (.if_icmp .ne 27, 3) := by decide +kernel
theorem dX7_tellsAgain_39 : decode cX7_tellsAgain 39 = .ok (.aload_n 3, 1) := by decide +kernel
theorem dX7_tellsAgain_40 : decode cX7_tellsAgain 40 = .ok (.getfield 57, 3) := by decide +kernel
theorem dX7_tellsAgain_43 : decode cX7_tellsAgain 43 = .ok (.aload_n 1, 1) := by decide +kernel
theorem dX7_tellsAgain_44 : decode cX7_tellsAgain 44 = .ok (.getfield 57, 3) := by decide +kernel
theorem dX7_tellsAgain_47 : decode cX7_tellsAgain 47 = .ok (.if_icmp .ne 16, 3) := by decide +kernel
theorem dX7_tellsAgain_50 : decode cX7_tellsAgain 50 = .ok (.aload_n 3, 1) := by decide +kernel
theorem dX7_tellsAgain_51 : decode cX7_tellsAgain 51 = .ok (.getfield 63, 3) := by decide +kernel
theorem dX7_tellsAgain_54 : decode cX7_tellsAgain 54 = .ok (.aload_n 1, 1) := by decide +kernel
theorem dX7_tellsAgain_55 : decode cX7_tellsAgain 55 = .ok (.getfield 63, 3) := by decide +kernel
theorem dX7_tellsAgain_58 : decode cX7_tellsAgain 58 = .ok (.if_icmp .ne 5, 3) := by decide +kernel
theorem dX7_tellsAgain_61 : decode cX7_tellsAgain 61 = .ok (.iconst 1, 1) := by decide +kernel
theorem dX7_tellsAgain_62 : decode cX7_tellsAgain 62 = .ok (.ireturn, 1) := by decide +kernel
theorem dX7_tellsAgain_63 : decode cX7_tellsAgain 63 = .ok (.iinc 2 1, 3) := by decide +kernel
theorem dX7_tellsAgain_66 : decode cX7_tellsAgain 66 = .ok (.goto (-64), 3) := by decide +kernel
theorem dX7_tellsAgain_69 : decode cX7_tellsAgain 69 = .ok (.iconst 0, 1) := by decide +kernel
theorem dX7_tellsAgain_70 : decode cX7_tellsAgain 70 = .ok (.ireturn, 1) := by decide +kernel
theorem dX7_isOutOfTurn_0 : decode cX7_isOutOfTurn 0 = .ok (.aconst_null, 1) := by decide +kernel
theorem dX7_isOutOfTurn_1 : decode cX7_isOutOfTurn 1 = .ok (.astore_n 2, 1) := by decide +kernel
theorem dX7_isOutOfTurn_2 : decode cX7_isOutOfTurn 2 = .ok (.iconst 0, 1) := by decide +kernel
theorem dX7_isOutOfTurn_3 : decode cX7_isOutOfTurn 3 = .ok (.istore_n 3, 1) := by decide +kernel
theorem dX7_isOutOfTurn_4 : decode cX7_isOutOfTurn 4 = .ok (.iload_n 3, 1) := by decide +kernel
theorem dX7_isOutOfTurn_5 : decode cX7_isOutOfTurn 5 = .ok (.aload_n 0, 1) := by decide +kernel
theorem dX7_isOutOfTurn_6 : decode cX7_isOutOfTurn 6 = .ok (.getfield 23, 3) := by decide +kernel
theorem dX7_isOutOfTurn_9 : decode cX7_isOutOfTurn 9 = .ok (.if_icmp .ge 84, 3) := by decide +kernel
theorem dX7_isOutOfTurn_12 : decode cX7_isOutOfTurn 12 = .ok (.aload_n 0, 1) := by decide +kernel
theorem dX7_isOutOfTurn_13 : decode cX7_isOutOfTurn 13 = .ok (.iload_n 3, 1) := by decide +kernel
theorem dX7_isOutOfTurn_14 : decode cX7_isOutOfTurn 14 = .ok (.invokevirtual 41, 3) := by decide +kernel
theorem dX7_isOutOfTurn_17 : decode cX7_isOutOfTurn 17 = .ok (.astore 4, 2) := by decide +kernel
theorem dX7_isOutOfTurn_19 : decode cX7_isOutOfTurn 19 = .ok (.aload 4, 2) := by decide +kernel
theorem dX7_isOutOfTurn_21 : decode cX7_isOutOfTurn 21 = .ok (.ifnull 66, 3) := by decide +kernel
theorem dX7_isOutOfTurn_24 : decode cX7_isOutOfTurn 24 = .ok (.aload 4, 2) := by decide +kernel
theorem dX7_isOutOfTurn_26 : decode cX7_isOutOfTurn 26 = .ok (.aload_n 1, 1) := by decide +kernel
theorem dX7_isOutOfTurn_27 : decode cX7_isOutOfTurn 27 = .ok (.if_acmp .eq 60, 3) := by decide +kernel
theorem dX7_isOutOfTurn_30 : decode cX7_isOutOfTurn 30 = .ok (.aload_n 1, 1) := by decide +kernel
theorem dX7_isOutOfTurn_31 : decode cX7_isOutOfTurn 31 = .ok (.aload 4, 2) := by decide +kernel
theorem dX7_isOutOfTurn_33 : decode cX7_isOutOfTurn 33 = .ok (.invokevirtual 83, 3) := by decide +kernel
theorem dX7_isOutOfTurn_36 : decode cX7_isOutOfTurn 36 = .ok (.ifCond .ne 6, 3) := by decide +kernel
theorem dX7_isOutOfTurn_39 : decode cX7_isOutOfTurn 39 = .ok (.goto 48, 3) := by decide +kernel
theorem dX7_isOutOfTurn_42 : decode cX7_isOutOfTurn 42 = .ok (.aload 4, 2) := by decide +kernel
theorem dX7_isOutOfTurn_44 : decode cX7_isOutOfTurn 44 = .ok (.invokevirtual 86, 3) := by decide +kernel
theorem dX7_isOutOfTurn_47 : decode cX7_isOutOfTurn 47 = .ok (.aload_n 1, 1) := by decide +kernel
theorem dX7_isOutOfTurn_48 : decode cX7_isOutOfTurn 48 = .ok (.invokevirtual 86, 3) := by decide +kernel
theorem dX7_isOutOfTurn_51 : decode cX7_isOutOfTurn 51 = .ok (.if_icmp .ne 5, 3) := by decide +kernel
theorem dX7_isOutOfTurn_54 : decode cX7_isOutOfTurn 54 = .ok (.iconst 1, 1) := by decide +kernel
theorem dX7_isOutOfTurn_55 : decode cX7_isOutOfTurn 55 = .ok (.ireturn, 1) := by decide +kernel
theorem dX7_isOutOfTurn_56 : decode cX7_isOutOfTurn 56 = .ok (.aload 4, 2) := by decide +kernel
theorem dX7_isOutOfTurn_58 : decode cX7_isOutOfTurn 58 = .ok (.invokevirtual 86, 3) := by decide +kernel
theorem dX7_isOutOfTurn_61 : decode cX7_isOutOfTurn 61 = .ok (.aload_n 1, 1) := by decide +kernel
theorem dX7_isOutOfTurn_62 : decode cX7_isOutOfTurn 62 = .ok (.invokevirtual 86, 3) := by decide +kernel
theorem dX7_isOutOfTurn_65 : decode cX7_isOutOfTurn 65 = .ok (.if_icmp .ge 22, 3) := by decide +kernel
theorem dX7_isOutOfTurn_68 : decode cX7_isOutOfTurn 68 = .ok (.aload_n 2, 1) := by decide +kernel
theorem dX7_isOutOfTurn_69 : decode cX7_isOutOfTurn 69 = .ok (.ifnull 15, 3) := by decide +kernel
theorem dX7_isOutOfTurn_72 : decode cX7_isOutOfTurn 72 = .ok (.aload 4, 2) := by decide +kernel
theorem dX7_isOutOfTurn_74 : decode cX7_isOutOfTurn 74 = .ok (.invokevirtual 86, 3) := by decide +kernel
theorem dX7_isOutOfTurn_77 : decode cX7_isOutOfTurn 77 = .ok (.aload_n 2, 1) := by decide +kernel
theorem dX7_isOutOfTurn_78 : decode cX7_isOutOfTurn 78 = .ok (.invokevirtual 86, 3) := by decide +kernel
theorem dX7_isOutOfTurn_81 : decode cX7_isOutOfTurn 81 = .ok (.if_icmp .le 6, 3) := by decide +kernel
theorem dX7_isOutOfTurn_84 : decode cX7_isOutOfTurn 84 = .ok (.aload 4, 2) := by decide +kernel
theorem dX7_isOutOfTurn_86 : decode cX7_isOutOfTurn 86 = .ok (.astore_n 2, 1) := by decide +kernel
theorem dX7_isOutOfTurn_87 : decode cX7_isOutOfTurn 87 = .ok (.iinc 3 1, 3) := by decide +kernel
theorem dX7_isOutOfTurn_90 : decode cX7_isOutOfTurn 90 = .ok (.goto (-86), 3) := by decide +kernel
theorem dX7_isOutOfTurn_93 : decode cX7_isOutOfTurn 93 = .ok (.aload_n 2, 1) := by decide +kernel
theorem dX7_isOutOfTurn_94 : decode cX7_isOutOfTurn 94 = .ok (.ifnull 14, 3) := by decide +kernel
theorem dX7_isOutOfTurn_97 : decode cX7_isOutOfTurn 97 = .ok (.aload_n 2, 1) := by decide +kernel
theorem dX7_isOutOfTurn_98 : decode cX7_isOutOfTurn 98 = .ok (.invokevirtual 90, 3) := by decide +kernel
theorem dX7_isOutOfTurn_101 : decode cX7_isOutOfTurn 101 = .ok (.ifCond .eq 7, 3) := by decide +kernel
theorem dX7_isOutOfTurn_104 : decode cX7_isOutOfTurn 104 = .ok (.iconst 1, 1) := by decide +kernel
theorem dX7_isOutOfTurn_105 : decode cX7_isOutOfTurn 105 = .ok (.goto 4, 3) := by decide +kernel
theorem dX7_isOutOfTurn_108 : decode cX7_isOutOfTurn 108 = .ok (.iconst 0, 1) := by decide +kernel
theorem dX7_isOutOfTurn_109 : decode cX7_isOutOfTurn 109 = .ok (.istore_n 3, 1) := by decide +kernel
theorem dX7_isOutOfTurn_110 : decode cX7_isOutOfTurn 110 = .ok (.iload_n 3, 1) := by decide +kernel
theorem dX7_isOutOfTurn_111 : decode cX7_isOutOfTurn 111 = .ok (.aload_n 1, 1) := by decide +kernel
theorem dX7_isOutOfTurn_112 : decode cX7_isOutOfTurn 112 = .ok (.invokevirtual 90, 3) := by decide +kernel
theorem dX7_isOutOfTurn_115 : decode cX7_isOutOfTurn 115 = .ok (.if_icmp .ne 7, 3) := by decide +kernel
theorem dX7_isOutOfTurn_118 : decode cX7_isOutOfTurn 118 = .ok (.iconst 1, 1) := by decide +kernel
theorem dX7_isOutOfTurn_119 : decode cX7_isOutOfTurn 119 = .ok (.goto 4, 3) := by decide +kernel
theorem dX7_isOutOfTurn_122 : decode cX7_isOutOfTurn 122 = .ok (.iconst 0, 1) := by decide +kernel
theorem dX7_isOutOfTurn_123 : decode cX7_isOutOfTurn 123 = .ok (.ireturn, 1) := by decide +kernel
theorem dX7_nextPart_0 : decode cX7_nextPart 0 = .ok (.iconst (-1), 1) := by decide +kernel
theorem dX7_nextPart_1 : decode cX7_nextPart 1 = .ok (.istore_n 2, 1) := by decide +kernel
theorem dX7_nextPart_2 : decode cX7_nextPart 2 = .ok (.iconst 0, 1) := by decide +kernel
theorem dX7_nextPart_3 : decode cX7_nextPart 3 = .ok (.istore_n 3, 1) := by decide +kernel
theorem dX7_nextPart_4 : decode cX7_nextPart 4 = .ok (.iload_n 3, 1) := by decide +kernel
theorem dX7_nextPart_5 : decode cX7_nextPart 5 = .ok (.aload_n 0, 1) := by decide +kernel
theorem dX7_nextPart_6 : decode cX7_nextPart 6 = .ok (.getfield 23, 3) := by decide +kernel
theorem dX7_nextPart_9 : decode cX7_nextPart 9 = .ok (.if_icmp .ge 74, 3) := by decide +kernel
theorem dX7_nextPart_12 : decode cX7_nextPart 12 = .ok (.aload_n 0, 1) := by decide +kernel
theorem dX7_nextPart_13 : decode cX7_nextPart 13 = .ok (.iload_n 3, 1) := by decide +kernel
theorem dX7_nextPart_14 : decode cX7_nextPart 14 = .ok (.invokevirtual 41, 3) := by decide +kernel
theorem dX7_nextPart_17 : decode cX7_nextPart 17 = .ok (.astore 4, 2) := by decide +kernel
theorem dX7_nextPart_19 : decode cX7_nextPart 19 = .ok (.aload 4, 2) := by decide +kernel
theorem dX7_nextPart_21 : decode cX7_nextPart 21 = .ok (.ifnull 56, 3) := by decide +kernel
theorem dX7_nextPart_24 : decode cX7_nextPart 24 = .ok (.aload 4, 2) := by decide +kernel
theorem dX7_nextPart_26 : decode cX7_nextPart 26 = .ok (.getfield 72, 3) := by decide +kernel
theorem dX7_nextPart_29 : decode cX7_nextPart 29 = .ok (.iconst 2, 1) := by decide +kernel
theorem dX7_nextPart_30 : decode cX7_nextPart 30 = .ok (.if_icmp .ne 47, 3) := by decide +kernel
theorem dX7_nextPart_33 : decode cX7_nextPart 33 = .ok (.aload_n 1, 1) := by decide +kernel
theorem dX7_nextPart_34 : decode cX7_nextPart 34 = .ok (.aload 4, 2) := by decide +kernel
theorem dX7_nextPart_36 : decode cX7_nextPart 36 = .ok (.invokevirtual 83, 3) := by decide +kernel
theorem dX7_nextPart_39 : decode cX7_nextPart 39 = .ok (.ifCond .ne 6, 3) := by decide +kernel
theorem dX7_nextPart_42 : decode cX7_nextPart 42 = .ok (.goto 35, 3) := by decide +kernel
theorem dX7_nextPart_45 : decode cX7_nextPart 45 = .ok (.aload 4, 2) := by decide +kernel
theorem dX7_nextPart_47 : decode cX7_nextPart 47 = .ok (.getfield 94, 3) := by decide +kernel
theorem dX7_nextPart_50 : decode cX7_nextPart 50 = .ok (.aload_n 1, 1) := by decide +kernel
theorem dX7_nextPart_51 : decode cX7_nextPart 51 = .ok (.getfield 94, 3) := by decide +kernel
theorem dX7_nextPart_54 : decode cX7_nextPart 54 = .ok (.if_icmp .le 23, 3) := by decide +kernel
theorem dX7_nextPart_57 : decode cX7_nextPart 57 = .ok (.iload_n 2, 1) := by decide +kernel
theorem dX7_nextPart_58 : decode cX7_nextPart 58 = .ok (.iconst (-1), 1) := by decide +kernel
theorem dX7_nextPart_59 : decode cX7_nextPart 59 = .ok (.if_icmp .eq 12, 3) := by decide +kernel
theorem dX7_nextPart_62 : decode cX7_nextPart 62 = .ok (.aload 4, 2) := by decide +kernel
theorem dX7_nextPart_64 : decode cX7_nextPart 64 = .ok (.getfield 94, 3) := by decide +kernel
theorem dX7_nextPart_67 : decode cX7_nextPart 67 = .ok (.iload_n 2, 1) := by decide +kernel
theorem dX7_nextPart_68 : decode cX7_nextPart 68 = .ok (.if_icmp .ge 9, 3) := by decide +kernel
theorem dX7_nextPart_71 : decode cX7_nextPart 71 = .ok (.aload 4, 2) := by decide +kernel
theorem dX7_nextPart_73 : decode cX7_nextPart 73 = .ok (.getfield 94, 3) := by decide +kernel
theorem dX7_nextPart_76 : decode cX7_nextPart 76 = .ok (.istore_n 2, 1) := by decide +kernel
theorem dX7_nextPart_77 : decode cX7_nextPart 77 = .ok (.iinc 3 1, 3) := by decide +kernel
theorem dX7_nextPart_80 : decode cX7_nextPart 80 = .ok (.goto (-76), 3) := by decide +kernel
theorem dX7_nextPart_83 : decode cX7_nextPart 83 = .ok (.iload_n 2, 1) := by decide +kernel
theorem dX7_nextPart_84 : decode cX7_nextPart 84 = .ok (.ireturn, 1) := by decide +kernel
theorem dX7_latestLossOrBack_0 : decode cX7_latestLossOrBack 0 = .ok (.aconst_null, 1) := by decide +kernel
theorem dX7_latestLossOrBack_1 : decode cX7_latestLossOrBack 1 = .ok (.astore_n 3, 1) := by decide +kernel
theorem dX7_latestLossOrBack_2 : decode cX7_latestLossOrBack 2 = .ok (.iconst 0, 1) := by decide +kernel
theorem dX7_latestLossOrBack_3 : decode cX7_latestLossOrBack 3 = .ok (.istore 4, 2) := by decide +kernel
theorem dX7_latestLossOrBack_5 : decode cX7_latestLossOrBack 5 = .ok (.iload 4, 2) := by decide +kernel
theorem dX7_latestLossOrBack_7 : decode cX7_latestLossOrBack 7 = .ok (.aload_n 0, 1) := by decide +kernel
theorem dX7_latestLossOrBack_8 : decode cX7_latestLossOrBack 8 = .ok (.getfield 23, 3) := by decide +kernel
theorem dX7_latestLossOrBack_11 : decode cX7_latestLossOrBack 11 = .ok (.if_icmp .ge 70, 3) := by decide +kernel
theorem dX7_latestLossOrBack_14 : decode cX7_latestLossOrBack 14 = .ok (.aload_n 0, 1) := by decide +kernel
theorem dX7_latestLossOrBack_15 : decode cX7_latestLossOrBack 15 = .ok (.iload 4, 2) := by decide +kernel
theorem dX7_latestLossOrBack_17 : decode cX7_latestLossOrBack 17 = .ok (.invokevirtual 41, 3) := by decide +kernel
theorem dX7_latestLossOrBack_20 : decode cX7_latestLossOrBack 20 = .ok (.astore 5, 2) := by decide +kernel
theorem dX7_latestLossOrBack_22 : decode cX7_latestLossOrBack 22 = .ok (.aload 5, 2) := by decide +kernel
theorem dX7_latestLossOrBack_24 : decode cX7_latestLossOrBack 24 = .ok (.ifnull 51, 3) := by decide +kernel
theorem dX7_latestLossOrBack_27 : decode cX7_latestLossOrBack 27 = .ok (.aload 5, 2) := by decide +kernel
theorem dX7_latestLossOrBack_29 : decode cX7_latestLossOrBack 29 = .ok (.invokevirtual 97, 3) := by decide +kernel
theorem dX7_latestLossOrBack_32 : decode cX7_latestLossOrBack 32 = .ok (.ifCond .eq 43, 3) := by decide +kernel
theorem dX7_latestLossOrBack_35 : decode cX7_latestLossOrBack 35 = .ok (.aload 5, 2) := by decide +kernel
theorem dX7_latestLossOrBack_37 : decode cX7_latestLossOrBack 37 = .ok (.getfield 63, 3) := by decide +kernel
theorem dX7_latestLossOrBack_40 : decode cX7_latestLossOrBack 40 = .ok (.iload_n 1, 1) := by decide +kernel
theorem dX7_latestLossOrBack_41 : decode cX7_latestLossOrBack 41 = .ok (.if_icmp .ne 34, 3) := by decide +kernel
theorem dX7_latestLossOrBack_44 : decode cX7_latestLossOrBack 44 = .ok (.aload 5, 2) := by decide +kernel
theorem dX7_latestLossOrBack_46 : decode cX7_latestLossOrBack 46 = .ok (.getfield 94, 3) := by decide +kernel
theorem dX7_latestLossOrBack_49 : decode cX7_latestLossOrBack 49 = .ok (.iload_n 2, 1) := by decide +kernel
theorem dX7_latestLossOrBack_50 : decode cX7_latestLossOrBack 50 = .ok (.if_icmp .le 6, 3) := by decide +kernel
theorem dX7_latestLossOrBack_53 : decode cX7_latestLossOrBack 53 = .ok (.goto 22, 3) := by decide +kernel
theorem dX7_latestLossOrBack_56 : decode cX7_latestLossOrBack 56 = .ok (.aload_n 3, 1) := by decide +kernel
theorem dX7_latestLossOrBack_57 : decode cX7_latestLossOrBack 57 = .ok (.ifnull 15, 3) := by decide +kernel
theorem dX7_latestLossOrBack_60 : decode cX7_latestLossOrBack 60 = .ok (.aload 5, 2) := by decide +kernel
theorem dX7_latestLossOrBack_62 : decode cX7_latestLossOrBack 62 = .ok (.getfield 94, 3) := by decide +kernel
theorem dX7_latestLossOrBack_65 : decode cX7_latestLossOrBack 65 = .ok (.aload_n 3, 1) := by decide +kernel
theorem dX7_latestLossOrBack_66 : decode cX7_latestLossOrBack 66 = .ok (.getfield 94, 3) := by decide +kernel
theorem dX7_latestLossOrBack_69 : decode cX7_latestLossOrBack 69 = .ok (.if_icmp .le 6, 3) := by decide +kernel
theorem dX7_latestLossOrBack_72 : decode cX7_latestLossOrBack 72 = .ok (.aload 5, 2) := by decide +kernel
theorem dX7_latestLossOrBack_74 : decode cX7_latestLossOrBack 74 = .ok (.astore_n 3, 1) := by decide +kernel
theorem dX7_latestLossOrBack_75 : decode cX7_latestLossOrBack 75 = .ok (.iinc 4 1, 3) := by decide +kernel
theorem dX7_latestLossOrBack_78 : decode cX7_latestLossOrBack 78 = .ok (.goto (-73), 3) := by decide +kernel
theorem dX7_latestLossOrBack_81 : decode cX7_latestLossOrBack 81 = .ok (.aload_n 3, 1) := by decide +kernel
theorem dX7_latestLossOrBack_82 : decode cX7_latestLossOrBack 82 = .ok (.areturn, 1) := by decide +kernel
theorem dX8_init_0 : decode cX8_init 0 = .ok (.aload_n 0, 1) := by decide +kernel
theorem dX8_init_1 : decode cX8_init 1 = .ok (.invokespecial 3, 3) := by decide +kernel
theorem dX8_init_4 : decode cX8_init 4 = .ok (.aload_n 0, 1) := by decide +kernel
theorem dX8_init_5 : decode cX8_init 5 = .ok (.bipush 80, 2) := by decide +kernel
theorem dX8_init_7 : decode cX8_init 7 = .ok (.newarray .int, 2) := by decide +kernel
theorem dX8_init_9 : decode cX8_init 9 = .ok (.putfield 9, 3) := by decide +kernel
theorem dX8_init_12 : decode cX8_init 12 = .ok (.aload_n 0, 1) := by decide +kernel
theorem dX8_init_13 : decode cX8_init 13 = .ok (.iconst 0, 1) := by decide +kernel
theorem dX8_init_14 : decode cX8_init 14 = .ok (.putfield 15, 3) := by decide +kernel
theorem dX8_init_17 : decode cX8_init 17 = .ok (.return_, 1) := by decide +kernel
theorem dX8_size_0 : decode cX8_size 0 = .ok (.aload_n 0, 1) := by decide +kernel
theorem dX8_size_1 : decode cX8_size 1 = .ok (.getfield 15, 3) := by decide +kernel
theorem dX8_size_4 : decode cX8_size 4 = .ok (.ireturn, 1) := by decide +kernel
theorem dX8_hasRoomFor_0 : decode cX8_hasRoomFor 0 = .ok (.aload_n 0, 1) := by decide +kernel
theorem dX8_hasRoomFor_1 : decode cX8_hasRoomFor 1 = .ok (.getfield 15, 3) := by decide +kernel
theorem dX8_hasRoomFor_4 : decode cX8_hasRoomFor 4 = .ok (.iload_n 1, 1) := by decide +kernel
theorem dX8_hasRoomFor_5 : decode cX8_hasRoomFor 5 = .ok (.iadd, 1) := by decide +kernel
theorem dX8_hasRoomFor_6 : decode cX8_hasRoomFor 6 = .ok (.bipush 80, 2) := by decide +kernel
theorem dX8_hasRoomFor_8 : decode cX8_hasRoomFor 8 = .ok (.if_icmp .gt 7, 3) := by decide +kernel
theorem dX8_hasRoomFor_11 : decode cX8_hasRoomFor 11 = .ok (.iconst 1, 1) := by decide +kernel
theorem dX8_hasRoomFor_12 : decode cX8_hasRoomFor 12 = .ok (.goto 4, 3) := by decide +kernel
theorem dX8_hasRoomFor_15 : decode cX8_hasRoomFor 15 = .ok (.iconst 0, 1) := by decide +kernel
theorem dX8_hasRoomFor_16 : decode cX8_hasRoomFor 16 = .ok (.ireturn, 1) := by decide +kernel
theorem dX8_add_0 : decode cX8_add 0 = .ok (.bipush 24, 2) := by decide +kernel
theorem dX8_add_2 : decode cX8_add 2 = .ok (.istore_n 2, 1) := by decide +kernel
theorem dX8_add_3 : decode cX8_add 3 = .ok (.iload_n 2, 1) := by decide +kernel
theorem dX8_add_4 : decode cX8_add 4 = .ok (.ifCond .lt 41, 3) := by decide +kernel
theorem dX8_add_7 : decode cX8_add 7 = .ok (.aload_n 0, 1) := by decide +kernel
theorem dX8_add_8 : decode cX8_add 8 = .ok (.getfield 15, 3) := by decide +kernel
theorem dX8_add_11 : decode cX8_add 11 = .ok (.bipush 80, 2) := by decide +kernel
theorem dX8_add_13 : decode cX8_add 13 = .ok (.if_icmp .ge 26, 3) := by decide +kernel
theorem dX8_add_16 : decode cX8_add 16 = .ok (.aload_n 0, 1) := by decide +kernel
theorem dX8_add_17 : decode cX8_add 17 = .ok (.getfield 9, 3) := by decide +kernel
theorem dX8_add_20 : decode cX8_add 20 = .ok (.aload_n 0, 1) := by decide +kernel
theorem dX8_add_21 : decode cX8_add 21 = .ok (.dup, 1) := by decide +kernel
theorem dX8_add_22 : decode cX8_add 22 = .ok (.getfield 15, 3) := by decide +kernel
theorem dX8_add_25 : decode cX8_add 25 = .ok (.dup_x1, 1) := by decide +kernel
theorem dX8_add_26 : decode cX8_add 26 = .ok (.iconst 1, 1) := by decide +kernel
theorem dX8_add_27 : decode cX8_add 27 = .ok (.iadd, 1) := by decide +kernel
theorem dX8_add_28 : decode cX8_add 28 = .ok (.putfield 15, 3) := by decide +kernel
theorem dX8_add_31 : decode cX8_add 31 = .ok (.iload_n 1, 1) := by decide +kernel
theorem dX8_add_32 : decode cX8_add 32 = .ok (.iload_n 2, 1) := by decide +kernel
theorem dX8_add_33 : decode cX8_add 33 = .ok (.ishr, 1) := by decide +kernel
theorem dX8_add_34 : decode cX8_add 34 = .ok (.sipush 255, 3) := by decide +kernel
theorem dX8_add_37 : decode cX8_add 37 = .ok (.iand, 1) := by decide +kernel
theorem dX8_add_38 : decode cX8_add 38 = .ok (.iastore, 1) := by decide +kernel
theorem dX8_add_39 : decode cX8_add 39 = .ok (.iinc 2 (-8), 3) := by decide +kernel
theorem dX8_add_42 : decode cX8_add 42 = .ok (.goto (-39), 3) := by decide +kernel
theorem dX8_add_45 : decode cX8_add 45 = .ok (.return_, 1) := by decide +kernel
theorem dX8_keep_0 : decode cX8_keep 0 = .ok (.iload_n 1, 1) := by decide +kernel
theorem dX8_keep_1 : decode cX8_keep 1 = .ok (.ifCond .lt 16, 3) := by decide +kernel
theorem dX8_keep_4 : decode cX8_keep 4 = .ok (.iload_n 1, 1) := by decide +kernel
theorem dX8_keep_5 : decode cX8_keep 5 = .ok (.aload_n 0, 1) := by decide +kernel
theorem dX8_keep_6 : decode cX8_keep 6 = .ok (.getfield 15, 3) := by decide +kernel
theorem dX8_keep_9 : decode cX8_keep 9 = .ok (.if_icmp .gt 8, 3) := by decide +kernel
theorem dX8_keep_12 : decode cX8_keep 12 = .ok (.aload_n 0, 1) := by decide +kernel
theorem dX8_keep_13 : decode cX8_keep 13 = .ok (.iload_n 1, 1) := by decide +kernel
theorem dX8_keep_14 : decode cX8_keep 14 = .ok (.putfield 15, 3) := by decide +kernel
theorem dX8_keep_17 : decode cX8_keep 17 = .ok (.return_, 1) := by decide +kernel
theorem dX8_at_0 : decode cX8_at 0 = .ok (.iload_n 1, 1) := by decide +kernel
theorem dX8_at_1 : decode cX8_at 1 = .ok (.ifCond .lt 20, 3) := by decide +kernel
theorem dX8_at_4 : decode cX8_at 4 = .ok (.iload_n 1, 1) := by decide +kernel
theorem dX8_at_5 : decode cX8_at 5 = .ok (.aload_n 0, 1) := by decide +kernel
theorem dX8_at_6 : decode cX8_at 6 = .ok (.getfield 15, 3) := by decide +kernel
theorem dX8_at_9 : decode cX8_at 9 = .ok (.if_icmp .ge 12, 3) := by decide +kernel
theorem dX8_at_12 : decode cX8_at 12 = .ok (.aload_n 0, 1) := by decide +kernel
theorem dX8_at_13 : decode cX8_at 13 = .ok (.getfield 9, 3) := by decide +kernel
theorem dX8_at_16 : decode cX8_at 16 = .ok (.iload_n 1, 1) := by decide +kernel
theorem dX8_at_17 : decode cX8_at 17 = .ok (.iaload, 1) := by decide +kernel
theorem dX8_at_18 : decode cX8_at 18 = .ok (.goto 4, 3) := by decide +kernel
theorem dX8_at_21 : decode cX8_at 21 = .ok (.iconst (-1), 1) := by decide +kernel
theorem dX8_at_22 : decode cX8_at 22 = .ok (.ireturn, 1) := by decide +kernel
theorem dX9_init_0 : decode cX9_init 0 = .ok (.aload_n 0, 1) := by decide +kernel
theorem dX9_init_1 : decode cX9_init 1 = .ok (.invokespecial 3, 3) := by decide +kernel
theorem dX9_init_4 : decode cX9_init 4 = .ok (.aload_n 0, 1) := by decide +kernel
theorem dX9_init_5 : decode cX9_init 5 = .ok (.sipush 200, 3) := by decide +kernel
theorem dX9_init_8 : decode cX9_init 8 = .ok (.newarray .int, 2) := by decide +kernel
theorem dX9_init_10 : decode cX9_init 10 = .ok (.putfield 9, 3) := by decide +kernel
theorem dX9_init_13 : decode cX9_init 13 = .ok (.aload_n 0, 1) := by decide +kernel
theorem dX9_init_14 : decode cX9_init 14 = .ok (.sipush 200, 3) := by decide +kernel
theorem dX9_init_17 : decode cX9_init 17 = .ok (.newarray .int, 2) := by decide +kernel
theorem dX9_init_19 : decode cX9_init 19 = .ok (.putfield 15, 3) := by decide +kernel
theorem dX9_init_22 : decode cX9_init 22 = .ok (.aload_n 0, 1) := by decide +kernel
theorem dX9_init_23 : decode cX9_init 23 = .ok (.sipush 200, 3) := by decide +kernel
theorem dX9_init_26 : decode cX9_init 26 = .ok (.newarray .int, 2) := by decide +kernel
theorem dX9_init_28 : decode cX9_init 28 = .ok (.putfield 18, 3) := by decide +kernel
theorem dX9_init_31 : decode cX9_init 31 = .ok (.aload_n 0, 1) := by decide +kernel
theorem dX9_init_32 : decode cX9_init 32 = .ok (.sipush 200, 3) := by decide +kernel
theorem dX9_init_35 : decode cX9_init 35 = .ok (.newarray .int, 2) := by decide +kernel
theorem dX9_init_37 : decode cX9_init 37 = .ok (.putfield 21, 3) := by decide +kernel
theorem dX9_init_40 : decode cX9_init 40 = .ok (.aload_n 0, 1) := by decide +kernel
theorem dX9_init_41 : decode cX9_init 41 = .ok (.iconst 0, 1) := by decide +kernel
theorem dX9_init_42 : decode cX9_init 42 = .ok (.putfield 24, 3) := by decide +kernel
theorem dX9_init_45 : decode cX9_init 45 = .ok (.return_, 1) := by decide +kernel
theorem dX9_rebuild_0 : decode cX9_rebuild 0 = .ok (.aload_n 0, 1) := by decide +kernel
theorem dX9_rebuild_1 : decode cX9_rebuild 1 = .ok (.iconst 0, 1) := by decide +kernel
theorem dX9_rebuild_2 : decode cX9_rebuild 2 = .ok (.putfield 24, 3) := by decide +kernel
theorem dX9_rebuild_5 : decode cX9_rebuild 5 = .ok (.iconst 0, 1) := by decide +kernel
theorem dX9_rebuild_6 : decode cX9_rebuild 6 = .ok (.istore_n 3, 1) := by decide +kernel
theorem dX9_rebuild_7 : decode cX9_rebuild 7 = .ok (.iload_n 3, 1) := by decide +kernel
theorem dX9_rebuild_8 : decode cX9_rebuild 8 = .ok (.aload_n 1, 1) := by decide +kernel
theorem dX9_rebuild_9 : decode cX9_rebuild 9 = .ok (.invokevirtual 28, 3) := by decide +kernel
theorem dX9_rebuild_12 : decode cX9_rebuild 12 = .ok (.if_icmp .ge 111, 3) := by decide +kernel
theorem dX9_rebuild_15 : decode cX9_rebuild 15 = .ok (.aload_n 1, 1) := by decide +kernel
theorem dX9_rebuild_16 : decode cX9_rebuild 16 = .ok (.iload_n 3, 1) := by decide +kernel
theorem dX9_rebuild_17 : decode cX9_rebuild 17 = .ok (.invokevirtual 33, 3) := by decide +kernel
theorem dX9_rebuild_20 : decode cX9_rebuild 20 = .ok (.astore 4, 2) := by decide +kernel
theorem dX9_rebuild_22 : decode cX9_rebuild 22 = .ok (.aload 4, 2) := by decide +kernel
theorem dX9_rebuild_24 : decode cX9_rebuild 24 = .ok (.ifnull 93, 3) := by decide +kernel
theorem dX9_rebuild_27 : decode cX9_rebuild 27 = .ok (.aload 4, 2) := by decide +kernel
theorem dX9_rebuild_29 : decode cX9_rebuild 29 = .ok (.getfield 37, 3) := by decide +kernel
theorem dX9_rebuild_32 : decode cX9_rebuild 32 = .ok (.iconst 1, 1) := by decide +kernel
theorem dX9_rebuild_33 : decode cX9_rebuild 33 = .ok (.if_icmp .ne 84, 3) := by decide +kernel
theorem dX9_rebuild_36 : decode cX9_rebuild 36 = .ok (.aload_n 0, 1) := by decide +kernel
theorem dX9_rebuild_37 : decode cX9_rebuild 37 = .ok (.getfield 24, 3) := by decide +kernel
theorem dX9_rebuild_40 : decode cX9_rebuild 40 = .ok (.sipush 200, 3) := by decide +kernel
theorem dX9_rebuild_43 : decode cX9_rebuild 43 = .ok (.if_icmp .lt 6, 3) := by decide +kernel
theorem dX9_rebuild_46 : decode cX9_rebuild 46 = .ok (.goto 71, 3) := by decide +kernel
theorem dX9_rebuild_49 : decode cX9_rebuild 49 = .ok (.aload_n 0, 1) := by decide +kernel
theorem dX9_rebuild_50 : decode cX9_rebuild 50 = .ok (.getfield 9, 3) := by decide +kernel
theorem dX9_rebuild_53 : decode cX9_rebuild 53 = .ok (.aload_n 0, 1) := by decide +kernel
theorem dX9_rebuild_54 : decode cX9_rebuild 54 = .ok (.getfield 24, 3) := by decide +kernel
theorem dX9_rebuild_57 : decode cX9_rebuild 57 = .ok (.aload 4, 2) := by decide +kernel
theorem dX9_rebuild_59 : decode cX9_rebuild 59 = .ok (.getfield 42, 3) := by decide +kernel
theorem dX9_rebuild_62 : decode cX9_rebuild 62 = .ok (.iastore, 1) := by decide +kernel
theorem dX9_rebuild_63 : decode cX9_rebuild 63 = .ok (.aload_n 0, 1) := by decide +kernel
theorem dX9_rebuild_64 : decode cX9_rebuild 64 = .ok (.getfield 15, 3) := by decide +kernel
theorem dX9_rebuild_67 : decode cX9_rebuild 67 = .ok (.aload_n 0, 1) := by decide +kernel
theorem dX9_rebuild_68 : decode cX9_rebuild 68 = .ok (.getfield 24, 3) := by decide +kernel
theorem dX9_rebuild_71 : decode cX9_rebuild 71 = .ok (.aload 4, 2) := by decide +kernel
theorem dX9_rebuild_73 : decode cX9_rebuild 73 = .ok (.getfield 45, 3) := by decide +kernel
theorem dX9_rebuild_76 : decode cX9_rebuild 76 = .ok (.iastore, 1) := by decide +kernel
theorem dX9_rebuild_77 : decode cX9_rebuild 77 = .ok (.aload_n 0, 1) := by decide +kernel
theorem dX9_rebuild_78 : decode cX9_rebuild 78 = .ok (.getfield 18, 3) := by decide +kernel
theorem dX9_rebuild_81 : decode cX9_rebuild 81 = .ok (.aload_n 0, 1) := by decide +kernel
theorem dX9_rebuild_82 : decode cX9_rebuild 82 = .ok (.getfield 24, 3) := by decide +kernel
theorem dX9_rebuild_85 : decode cX9_rebuild 85 = .ok (.aload 4, 2) := by decide +kernel
theorem dX9_rebuild_87 : decode cX9_rebuild 87 = .ok (.getfield 48, 3) := by decide +kernel
theorem dX9_rebuild_90 : decode cX9_rebuild 90 = .ok (.iastore, 1) := by decide +kernel
theorem dX9_rebuild_91 : decode cX9_rebuild 91 = .ok (.aload_n 0, 1) := by decide +kernel
theorem dX9_rebuild_92 : decode cX9_rebuild 92 = .ok (.getfield 21, 3) := by decide +kernel
theorem dX9_rebuild_95 : decode cX9_rebuild 95 = .ok (.aload_n 0, 1) := by decide +kernel
theorem dX9_rebuild_96 : decode cX9_rebuild 96 = .ok (.getfield 24, 3) := by decide +kernel
theorem dX9_rebuild_99 : decode cX9_rebuild 99 = .ok (.aload 4, 2) := by decide +kernel
theorem dX9_rebuild_101 : decode cX9_rebuild 101 = .ok (.aload_n 1, 1) := by decide +kernel
theorem dX9_rebuild_102 : decode cX9_rebuild 102 = .ok (.aload_n 2, 1) := by decide +kernel
theorem dX9_rebuild_103 : decode cX9_rebuild 103 = .ok (.invokestatic 51, 3) := by decide +kernel
theorem dX9_rebuild_106 : decode cX9_rebuild 106 = .ok (.iastore, 1) := by decide +kernel
theorem dX9_rebuild_107 : decode cX9_rebuild 107 = .ok (.aload_n 0, 1) := by decide +kernel
theorem dX9_rebuild_108 : decode cX9_rebuild 108 = .ok (.dup, 1) := by decide +kernel
theorem dX9_rebuild_109 : decode cX9_rebuild 109 = .ok (.getfield 24, 3) := by decide +kernel
theorem dX9_rebuild_112 : decode cX9_rebuild 112 = .ok (.iconst 1, 1) := by decide +kernel
theorem dX9_rebuild_113 : decode cX9_rebuild 113 = .ok (.iadd, 1) := by decide +kernel
theorem dX9_rebuild_114 : decode cX9_rebuild 114 = .ok (.putfield 24, 3) := by decide +kernel
theorem dX9_rebuild_117 : decode cX9_rebuild 117 = .ok (.iinc 3 1, 3) := by decide +kernel
theorem dX9_rebuild_120 : decode cX9_rebuild 120 = .ok (.goto (-113), 3) := by decide +kernel
theorem dX9_rebuild_123 : decode cX9_rebuild 123 = .ok (.return_, 1) := by decide +kernel
theorem dX9_lastDay_0 : decode cX9_lastDay 0 = .ok (.ldc 55, 2) := by decide +kernel
theorem dX9_lastDay_2 : decode cX9_lastDay 2 = .ok (.istore_n 3, 1) := by decide +kernel
theorem dX9_lastDay_3 : decode cX9_lastDay 3 = .ok (.aload_n 1, 1) := by decide +kernel
theorem dX9_lastDay_4 : decode cX9_lastDay 4 = .ok (.aload_n 0, 1) := by decide +kernel
theorem dX9_lastDay_5 : decode cX9_lastDay 5 = .ok (.invokevirtual 56, 3) := by decide +kernel
theorem dX9_lastDay_8 : decode cX9_lastDay 8 = .ok (.istore 4, 2) := by decide +kernel
theorem dX9_lastDay_10 : decode cX9_lastDay 10 = .ok (.iload 4, 2) := by decide +kernel
theorem dX9_lastDay_12 : decode cX9_lastDay 12 = .ok (.iconst (-1), 1) := by decide +kernel
theorem dX9_lastDay_13 : decode cX9_lastDay 13 = .ok (.if_icmp .eq 8, 3) := by decide +kernel
theorem dX9_lastDay_16 : decode cX9_lastDay 16 = .ok (.iload 4, 2) := by decide +kernel
theorem dX9_lastDay_18 : decode cX9_lastDay 18 = .ok (.iconst 1, 1) := by decide +kernel
theorem dX9_lastDay_19 : decode cX9_lastDay 19 = .ok (.isub, 1) := by decide +kernel
theorem dX9_lastDay_20 : decode cX9_lastDay 20 = .ok (.istore_n 3, 1) := by decide +kernel
theorem dX9_lastDay_21 : decode cX9_lastDay 21 = .ok (.iload_n 3, 1) := by decide +kernel
theorem dX9_lastDay_22 : decode cX9_lastDay 22 = .ok (.aload_n 2, 1) := by decide +kernel
theorem dX9_lastDay_23 : decode cX9_lastDay 23 = .ok (.aload_n 0, 1) := by decide +kernel
theorem dX9_lastDay_24 : decode cX9_lastDay 24 = .ok (.getfield 42, 3) := by decide +kernel
theorem dX9_lastDay_27 : decode cX9_lastDay 27 = .ok (.invokevirtual 60, 3) := by decide +kernel
theorem dX9_lastDay_30 : decode cX9_lastDay 30 = .ok (.invokestatic 66, 3) := by decide +kernel
theorem dX9_lastDay_33 : decode cX9_lastDay 33 = .ok (.istore_n 3, 1) := by decide +kernel
theorem dX9_lastDay_34 : decode cX9_lastDay 34 = .ok (.iload_n 3, 1) := by decide +kernel
theorem dX9_lastDay_35 : decode cX9_lastDay 35 = .ok (.aload_n 2, 1) := by decide +kernel
theorem dX9_lastDay_36 : decode cX9_lastDay 36 = .ok (.aload_n 0, 1) := by decide +kernel
theorem dX9_lastDay_37 : decode cX9_lastDay 37 = .ok (.getfield 45, 3) := by decide +kernel
theorem dX9_lastDay_40 : decode cX9_lastDay 40 = .ok (.invokevirtual 60, 3) := by decide +kernel
theorem dX9_lastDay_43 : decode cX9_lastDay 43 = .ok (.invokestatic 66, 3) := by decide +kernel
theorem dX9_lastDay_46 : decode cX9_lastDay 46 = .ok (.ireturn, 1) := by decide +kernel
theorem dX9_earlier_0 : decode cX9_earlier 0 = .ok (.iload_n 1, 1) := by decide +kernel
theorem dX9_earlier_1 : decode cX9_earlier 1 = .ok (.iconst (-1), 1) := by decide +kernel
theorem dX9_earlier_2 : decode cX9_earlier 2 = .ok (.if_icmp .eq 12, 3) := by decide +kernel
theorem dX9_earlier_5 : decode cX9_earlier 5 = .ok (.iload_n 1, 1) := by decide +kernel
theorem dX9_earlier_6 : decode cX9_earlier 6 = .ok (.iload_n 0, 1) := by decide +kernel
theorem dX9_earlier_7 : decode cX9_earlier 7 = .ok (.if_icmp .ge 7, 3) := by decide +kernel
theorem dX9_earlier_10 : decode cX9_earlier 10 = .ok (.iload_n 1, 1) := by decide +kernel
theorem dX9_earlier_11 : decode cX9_earlier 11 = .ok (.goto 4, 3) := by decide +kernel
theorem dX9_earlier_14 : decode cX9_earlier 14 = .ok (.iload_n 0, 1) := by decide +kernel
theorem dX9_earlier_15 : decode cX9_earlier 15 = .ok (.ireturn, 1) := by decide +kernel
theorem dX9_isOpen_0 : decode cX9_isOpen 0 = .ok (.aload_n 0, 1) := by decide +kernel
theorem dX9_isOpen_1 : decode cX9_isOpen 1 = .ok (.getfield 18, 3) := by decide +kernel
theorem dX9_isOpen_4 : decode cX9_isOpen 4 = .ok (.iload_n 1, 1) := by decide +kernel
theorem dX9_isOpen_5 : decode cX9_isOpen 5 = .ok (.iaload, 1) := by decide +kernel
theorem dX9_isOpen_6 : decode cX9_isOpen 6 = .ok (.iload_n 2, 1) := by decide +kernel
theorem dX9_isOpen_7 : decode cX9_isOpen 7 = .ok (.if_icmp .gt 17, 3) := by decide +kernel
theorem dX9_isOpen_10 : decode cX9_isOpen 10 = .ok (.iload_n 2, 1) := by decide +kernel
theorem dX9_isOpen_11 : decode cX9_isOpen 11 = .ok (.aload_n 0, 1) := by decide +kernel
theorem dX9_isOpen_12 : decode cX9_isOpen 12 = .ok (.getfield 21, 3) := by decide +kernel
theorem dX9_isOpen_15 : decode cX9_isOpen 15 = .ok (.iload_n 1, 1) := by decide +kernel
theorem dX9_isOpen_16 : decode cX9_isOpen 16 = .ok (.iaload, 1) := by decide +kernel
theorem dX9_isOpen_17 : decode cX9_isOpen 17 = .ok (.if_icmp .gt 7, 3) := by decide +kernel
theorem dX9_isOpen_20 : decode cX9_isOpen 20 = .ok (.iconst 1, 1) := by decide +kernel
theorem dX9_isOpen_21 : decode cX9_isOpen 21 = .ok (.goto 4, 3) := by decide +kernel
theorem dX9_isOpen_24 : decode cX9_isOpen 24 = .ok (.iconst 0, 1) := by decide +kernel
theorem dX9_isOpen_25 : decode cX9_isOpen 25 = .ok (.ireturn, 1) := by decide +kernel
theorem dX9_joined_0 : decode cX9_joined 0 = .ok (.iconst 0, 1) := by decide +kernel
theorem dX9_joined_1 : decode cX9_joined 1 = .ok (.istore 4, 2) := by decide +kernel
theorem dX9_joined_3 : decode cX9_joined 3 = .ok (.iload 4, 2) := by decide +kernel
theorem dX9_joined_5 : decode cX9_joined 5 = .ok (.aload_n 0, 1) := by decide +kernel
theorem dX9_joined_6 : decode cX9_joined 6 = .ok (.getfield 24, 3) := by decide +kernel
theorem dX9_joined_9 : decode cX9_joined 9 = .ok (.if_icmp .ge 43, 3) := by decide +kernel
theorem dX9_joined_12 : decode cX9_joined 12 = .ok (.aload_n 0, 1) := by decide +kernel
theorem dX9_joined_13 : decode cX9_joined 13 = .ok (.getfield 9, 3) := by decide +kernel
theorem dX9_joined_16 : decode cX9_joined 16 = .ok (.iload 4, 2) := by decide +kernel
theorem dX9_joined_18 : decode cX9_joined 18 = .ok (.iaload, 1) := by decide +kernel
theorem dX9_joined_19 : decode cX9_joined 19 = .ok (.iload_n 1, 1) := by decide +kernel
theorem dX9_joined_20 : decode cX9_joined 20 = .ok (.if_icmp .ne 26, 3) := by decide +kernel
theorem dX9_joined_23 : decode cX9_joined 23 = .ok (.aload_n 0, 1) := by decide +kernel
theorem dX9_joined_24 : decode cX9_joined 24 = .ok (.getfield 15, 3) := by decide +kernel
theorem dX9_joined_27 : decode cX9_joined 27 = .ok (.iload 4, 2) := by decide +kernel
theorem dX9_joined_29 : decode cX9_joined 29 = .ok (.iaload, 1) := by decide +kernel
theorem dX9_joined_30 : decode cX9_joined 30 = .ok (.iload_n 2, 1) := by decide +kernel
theorem dX9_joined_31 : decode cX9_joined 31 = .ok (.if_icmp .ne 15, 3) := by decide +kernel
theorem dX9_joined_34 : decode cX9_joined 34 = .ok (.aload_n 0, 1) := by decide +kernel
theorem dX9_joined_35 : decode cX9_joined 35 = .ok (.iload 4, 2) := by decide +kernel
theorem dX9_joined_37 : decode cX9_joined 37 = .ok (.iload_n 3, 1) := by decide +kernel
theorem dX9_joined_38 : decode cX9_joined 38 = .ok (.invokevirtual 70, 3) := by decide +kernel
theorem dX9_joined_41 : decode cX9_joined 41 = .ok (.ifCond .eq 5, 3) := by decide +kernel
theorem dX9_joined_44 : decode cX9_joined 44 = .ok (.iconst 1, 1) := by decide +kernel
theorem dX9_joined_45 : decode cX9_joined 45 = .ok (.ireturn, 1) := by decide +kernel
theorem dX9_joined_46 : decode cX9_joined 46 = .ok (.iinc 4 1, 3) := by decide +kernel
theorem dX9_joined_49 : decode cX9_joined 49 = .ok (.goto (-46), 3) := by decide +kernel
theorem dX9_joined_52 : decode cX9_joined 52 = .ok (.iconst 0, 1) := by decide +kernel
theorem dX9_joined_53 : decode cX9_joined 53 = .ok (.ireturn, 1) := by decide +kernel
theorem dX9_otherIn_0 : decode cX9_otherIn 0 = .ok (.iconst 0, 1) := by decide +kernel
theorem dX9_otherIn_1 : decode cX9_otherIn 1 = .ok (.istore_n 3, 1) := by decide +kernel
theorem dX9_otherIn_2 : decode cX9_otherIn 2 = .ok (.iload_n 3, 1) := by decide +kernel
theorem dX9_otherIn_3 : decode cX9_otherIn 3 = .ok (.aload_n 0, 1) := by decide +kernel
theorem dX9_otherIn_4 : decode cX9_otherIn 4 = .ok (.getfield 24, 3) := by decide +kernel
theorem dX9_otherIn_7 : decode cX9_otherIn 7 = .ok (.if_icmp .ge 55, 3) := by decide +kernel
theorem dX9_otherIn_10 : decode cX9_otherIn 10 = .ok (.aload_n 0, 1) := by decide +kernel
theorem dX9_otherIn_11 : decode cX9_otherIn 11 = .ok (.iload_n 3, 1) := by decide +kernel
theorem dX9_otherIn_12 : decode cX9_otherIn 12 = .ok (.iload_n 2, 1) := by decide +kernel
theorem dX9_otherIn_13 : decode cX9_otherIn 13 = .ok (.invokevirtual 70, 3) := by decide +kernel
theorem dX9_otherIn_16 : decode cX9_otherIn 16 = .ok (.ifCond .ne 6, 3) := by decide +kernel
theorem dX9_otherIn_19 : decode cX9_otherIn 19 = .ok (.goto 37, 3) := by decide +kernel
theorem dX9_otherIn_22 : decode cX9_otherIn 22 = .ok (.aload_n 0, 1) := by decide +kernel
theorem dX9_otherIn_23 : decode cX9_otherIn 23 = .ok (.getfield 9, 3) := by decide +kernel
theorem dX9_otherIn_26 : decode cX9_otherIn 26 = .ok (.iload_n 3, 1) := by decide +kernel
theorem dX9_otherIn_27 : decode cX9_otherIn 27 = .ok (.iaload, 1) := by decide +kernel
theorem dX9_otherIn_28 : decode cX9_otherIn 28 = .ok (.iload_n 1, 1) := by decide +kernel
theorem dX9_otherIn_29 : decode cX9_otherIn 29 = .ok (.if_icmp .ne 10, 3) := by decide +kernel
theorem dX9_otherIn_32 : decode cX9_otherIn 32 = .ok (.aload_n 0, 1) := by decide +kernel
theorem dX9_otherIn_33 : decode cX9_otherIn 33 = .ok (.getfield 15, 3) := by decide +kernel
theorem dX9_otherIn_36 : decode cX9_otherIn 36 = .ok (.iload_n 3, 1) := by decide +kernel
theorem dX9_otherIn_37 : decode cX9_otherIn 37 = .ok (.iaload, 1) := by decide +kernel
theorem dX9_otherIn_38 : decode cX9_otherIn 38 = .ok (.ireturn, 1) := by decide +kernel
theorem dX9_otherIn_39 : decode cX9_otherIn 39 = .ok (.aload_n 0, 1) := by decide +kernel
theorem dX9_otherIn_40 : decode cX9_otherIn 40 = .ok (.getfield 15, 3) := by decide +kernel
theorem dX9_otherIn_43 : decode cX9_otherIn 43 = .ok (.iload_n 3, 1) := by decide +kernel
theorem dX9_otherIn_44 : decode cX9_otherIn 44 = .ok (.iaload, 1) := by decide +kernel
theorem dX9_otherIn_45 : decode cX9_otherIn 45 = .ok (.iload_n 1, 1) := by decide +kernel
theorem dX9_otherIn_46 : decode cX9_otherIn 46 = .ok (.if_icmp .ne 10, 3) := by decide +kernel
theorem dX9_otherIn_49 : decode cX9_otherIn 49 = .ok (.aload_n 0, 1) := by decide +kernel
theorem dX9_otherIn_50 : decode cX9_otherIn 50 = .ok (.getfield 9, 3) := by decide +kernel
theorem dX9_otherIn_53 : decode cX9_otherIn 53 = .ok (.iload_n 3, 1) := by decide +kernel
theorem dX9_otherIn_54 : decode cX9_otherIn 54 = .ok (.iaload, 1) := by decide +kernel
theorem dX9_otherIn_55 : decode cX9_otherIn 55 = .ok (.ireturn, 1) := by decide +kernel
theorem dX9_otherIn_56 : decode cX9_otherIn 56 = .ok (.iinc 3 1, 3) := by decide +kernel
theorem dX9_otherIn_59 : decode cX9_otherIn 59 = .ok (.goto (-57), 3) := by decide +kernel
theorem dX9_otherIn_62 : decode cX9_otherIn 62 = .ok (.iconst (-1), 1) := by decide +kernel
theorem dX9_otherIn_63 : decode cX9_otherIn 63 = .ok (.ireturn, 1) := by decide +kernel
theorem dX9_putSomebodyInTwo_0 : decode cX9_putSomebodyInTwo 0 = .ok (.iconst 0, 1) := by decide +kernel
theorem dX9_putSomebodyInTwo_1 : decode cX9_putSomebodyInTwo 1 = .ok (.istore_n 1, 1) := by decide +kernel
theorem dX9_putSomebodyInTwo_2 : decode cX9_putSomebodyInTwo 2 = .ok (.iload_n 1, 1) := by decide +kernel
theorem dX9_putSomebodyInTwo_3 : decode cX9_putSomebodyInTwo 3 = .ok (.aload_n 0, 1) := by decide +kernel
theorem dX9_putSomebodyInTwo_4 : decode cX9_putSomebodyInTwo 4 = .ok (.getfield 24, 3) := by decide +kernel
theorem dX9_putSomebodyInTwo_7 : decode cX9_putSomebodyInTwo 7 = .ok (.if_icmp .ge 94, 3) := by decide +kernel
theorem dX9_putSomebodyInTwo_10 : decode cX9_putSomebodyInTwo 10 = .ok (.iconst 0, 1) := by decide +kernel
theorem dX9_putSomebodyInTwo_11 : decode cX9_putSomebodyInTwo 11 = .ok (.istore_n 2, 1) := by decide +kernel
theorem dX9_putSomebodyInTwo_12 : decode cX9_putSomebodyInTwo 12 = .ok (.iload_n 2, 1) := by decide +kernel
theorem dX9_putSomebodyInTwo_13 : decode cX9_putSomebodyInTwo 13 = .ok (.iload_n 1, 1) := by decide +kernel
theorem dX9_putSomebodyInTwo_14 : decode cX9_putSomebodyInTwo 14 = .ok (.if_icmp .ge 81, 3) := by decide +kernel
theorem dX9_putSomebodyInTwo_17 : decode cX9_putSomebodyInTwo 17 = .ok (.aload_n 0, 1) := by decide +kernel
theorem dX9_putSomebodyInTwo_18 : decode cX9_putSomebodyInTwo 18 = .ok (.getfield 9, 3) := by decide +kernel
theorem dX9_putSomebodyInTwo_21 : decode cX9_putSomebodyInTwo 21 = .ok (.iload_n 1, 1) := by decide +kernel
theorem dX9_putSomebodyInTwo_22 : decode cX9_putSomebodyInTwo 22 = .ok (.iaload, 1) := by decide +kernel
theorem dX9_putSomebodyInTwo_23 : decode cX9_putSomebodyInTwo 23 = .ok (.aload_n 0, 1) := by decide +kernel
theorem dX9_putSomebodyInTwo_24 : decode cX9_putSomebodyInTwo 24 = .ok (.getfield 9, 3) := by decide +kernel
theorem dX9_putSomebodyInTwo_27 : decode cX9_putSomebodyInTwo 27 = .ok (.iload_n 2, 1) := by decide +kernel
theorem dX9_putSomebodyInTwo_28 : decode cX9_putSomebodyInTwo 28 = .ok (.iaload, 1) := by decide +kernel
theorem dX9_putSomebodyInTwo_29 : decode cX9_putSomebodyInTwo 29 = .ok (.if_icmp .eq 18, 3) := by decide +kernel
theorem dX9_putSomebodyInTwo_32 : decode cX9_putSomebodyInTwo 32 = .ok (.aload_n 0, 1) := by decide +kernel
theorem dX9_putSomebodyInTwo_33 : decode cX9_putSomebodyInTwo 33 = .ok (.getfield 15, 3) := by decide +kernel
theorem dX9_putSomebodyInTwo_36 : decode cX9_putSomebodyInTwo 36 = .ok (.iload_n 1, 1) := by decide +kernel
theorem dX9_putSomebodyInTwo_37 : decode cX9_putSomebodyInTwo 37 = .ok (.iaload, 1) := by decide +kernel
theorem dX9_putSomebodyInTwo_38 : decode cX9_putSomebodyInTwo 38 = .ok (.aload_n 0, 1) := by decide +kernel
theorem dX9_putSomebodyInTwo_39 : decode cX9_putSomebodyInTwo 39 = .ok (.getfield 15, 3) := by decide +kernel
theorem dX9_putSomebodyInTwo_42 : decode cX9_putSomebodyInTwo 42 = .ok (.iload_n 2, 1) := by decide +kernel
theorem dX9_putSomebodyInTwo_43 : decode cX9_putSomebodyInTwo 43 = .ok (.iaload, 1) := by decide +kernel
theorem dX9_putSomebodyInTwo_44 : decode cX9_putSomebodyInTwo 44 = .ok (.if_icmp .ne 7, 3) := by decide +kernel
theorem dX9_putSomebodyInTwo_47 : decode cX9_putSomebodyInTwo 47 = .ok (.iconst 1, 1) := by decide +kernel
theorem dX9_putSomebodyInTwo_48 : decode cX9_putSomebodyInTwo 48 = .ok (.goto 4, 3) := by decide +kernel
theorem dX9_putSomebodyInTwo_51 : decode cX9_putSomebodyInTwo 51 = .ok (.iconst 0, 1) := by decide +kernel
theorem dX9_putSomebodyInTwo_52 : decode cX9_putSomebodyInTwo 52 = .ok (.istore_n 3, 1) := by decide +kernel
theorem dX9_putSomebodyInTwo_53 : decode cX9_putSomebodyInTwo 53 = .ok (.iload_n 3, 1) := by decide +kernel
theorem dX9_putSomebodyInTwo_54 : decode cX9_putSomebodyInTwo 54 = .ok (.ifCond .eq 35, 3) := by decide +kernel
theorem dX9_putSomebodyInTwo_57 : decode cX9_putSomebodyInTwo 57 = .ok (.aload_n 0, 1) := by decide +kernel
theorem dX9_putSomebodyInTwo_58 : decode cX9_putSomebodyInTwo 58 = .ok (.getfield 18, 3) := by decide +kernel
theorem dX9_putSomebodyInTwo_61 : decode cX9_putSomebodyInTwo 61 = .ok (.iload_n 1, 1) := by decide +kernel
theorem dX9_putSomebodyInTwo_62 : decode cX9_putSomebodyInTwo 62 = .ok (.iaload, 1) := by decide +kernel
theorem dX9_putSomebodyInTwo_63 : decode cX9_putSomebodyInTwo 63 = .ok (.aload_n 0, 1) := by decide +kernel
theorem dX9_putSomebodyInTwo_64 : decode cX9_putSomebodyInTwo 64 = .ok (.getfield 21, 3) := by decide +kernel
theorem dX9_putSomebodyInTwo_67 : decode cX9_putSomebodyInTwo 67 = .ok (.iload_n 2, 1) := by decide +kernel
theorem dX9_putSomebodyInTwo_68 : decode cX9_putSomebodyInTwo 68 = .ok (.iaload, 1) := by decide +kernel
theorem dX9_putSomebodyInTwo_69 : decode cX9_putSomebodyInTwo 69 = .ok (.if_icmp .gt 20, 3) := by decide +kernel
theorem dX9_putSomebodyInTwo_72 : decode cX9_putSomebodyInTwo 72 = .ok (.aload_n 0, 1) := by decide +kernel
theorem dX9_putSomebodyInTwo_73 : decode cX9_putSomebodyInTwo 73 = .ok (.getfield 18, 3) := by decide +kernel
theorem dX9_putSomebodyInTwo_76 : decode cX9_putSomebodyInTwo 76 = .ok (.iload_n 2, 1) := by decide +kernel
theorem dX9_putSomebodyInTwo_77 : decode cX9_putSomebodyInTwo 77 = .ok (.iaload, 1) := by decide +kernel
theorem dX9_putSomebodyInTwo_78 : decode cX9_putSomebodyInTwo 78 = .ok (.aload_n 0, 1) := by decide +kernel
theorem dX9_putSomebodyInTwo_79 : decode cX9_putSomebodyInTwo 79 = .ok (.getfield 21, 3) := by decide +kernel
theorem dX9_putSomebodyInTwo_82 : decode cX9_putSomebodyInTwo 82 = .ok (.iload_n 1, 1) := by decide +kernel
theorem dX9_putSomebodyInTwo_83 : decode cX9_putSomebodyInTwo 83 = .ok (.iaload, 1) := by decide +kernel
theorem dX9_putSomebodyInTwo_84 : decode cX9_putSomebodyInTwo 84 = .ok (.if_icmp .gt 5, 3) := by decide +kernel
theorem dX9_putSomebodyInTwo_87 : decode cX9_putSomebodyInTwo 87 = .ok (.iconst 1, 1) := by decide +kernel
theorem dX9_putSomebodyInTwo_88 : decode cX9_putSomebodyInTwo 88 = .ok (.ireturn, 1) := by decide +kernel
theorem dX9_putSomebodyInTwo_89 : decode cX9_putSomebodyInTwo 89 = .ok (.iinc 2 1, 3) := by decide +kernel
theorem dX9_putSomebodyInTwo_92 : decode cX9_putSomebodyInTwo 92 = .ok (.goto (-80), 3) := by decide +kernel
theorem dX9_putSomebodyInTwo_95 : decode cX9_putSomebodyInTwo 95 = .ok (.iinc 1 1, 3) := by decide +kernel
theorem dX9_putSomebodyInTwo_98 : decode cX9_putSomebodyInTwo 98 = .ok (.goto (-96), 3) := by decide +kernel
theorem dX9_putSomebodyInTwo_101 : decode cX9_putSomebodyInTwo 101 = .ok (.iconst 0, 1) := by decide +kernel
theorem dX9_putSomebodyInTwo_102 : decode cX9_putSomebodyInTwo 102 = .ok (.ireturn, 1) := by decide +kernel
theorem dX10_init_0 : decode cX10_init 0 = .ok (.aload_n 0, 1) := by decide +kernel
theorem dX10_init_1 : decode cX10_init 1 = .ok (.invokespecial 1, 3) := by decide +kernel
theorem dX10_init_4 : decode cX10_init 4 = .ok (.aload_n 0, 1) := by decide +kernel
theorem dX10_init_5 : decode cX10_init 5 = .ok (.new 7, 3) := by decide +kernel
theorem dX10_init_8 : decode cX10_init 8 = .ok (.dup, 1) := by decide +kernel
theorem dX10_init_9 : decode cX10_init 9 = .ok (.invokespecial 9, 3) := by decide +kernel
theorem dX10_init_12 : decode cX10_init 12 = .ok (.putfield 10, 3) := by decide +kernel
theorem dX10_init_15 : decode cX10_init 15 = .ok (.aload_n 0, 1) := by decide +kernel
theorem dX10_init_16 : decode cX10_init 16 = .ok (.new 16, 3) := by decide +kernel
theorem dX10_init_19 : decode cX10_init 19 = .ok (.dup, 1) := by decide +kernel
theorem dX10_init_20 : decode cX10_init 20 = .ok (.aload_n 0, 1) := by decide +kernel
theorem dX10_init_21 : decode cX10_init 21 = .ok (.getfield 10, 3) := by decide +kernel
theorem dX10_init_24 : decode cX10_init 24 = .ok (.invokespecial 18, 3) := by decide +kernel
theorem dX10_init_27 : decode cX10_init 27 = .ok (.putfield 21, 3) := by decide +kernel
theorem dX10_init_30 : decode cX10_init 30 = .ok (.aload_n 0, 1) := by decide +kernel
theorem dX10_init_31 : decode cX10_init 31 = .ok (.new 25, 3) := by decide +kernel
theorem dX10_init_34 : decode cX10_init 34 = .ok (.dup, 1) := by decide +kernel
theorem dX10_init_35 : decode cX10_init 35 = .ok (.invokespecial 27, 3) := by decide +kernel
theorem dX10_init_38 : decode cX10_init 38 = .ok (.putfield 28, 3) := by decide +kernel
theorem dX10_init_41 : decode cX10_init 41 = .ok (.aload_n 0, 1) := by decide +kernel
theorem dX10_init_42 : decode cX10_init 42 = .ok (.new 32, 3) := by decide +kernel
theorem dX10_init_45 : decode cX10_init 45 = .ok (.dup, 1) := by decide +kernel
theorem dX10_init_46 : decode cX10_init 46 = .ok (.invokespecial 34, 3) := by decide +kernel
theorem dX10_init_49 : decode cX10_init 49 = .ok (.putfield 35, 3) := by decide +kernel
theorem dX10_init_52 : decode cX10_init 52 = .ok (.aload_n 0, 1) := by decide +kernel
theorem dX10_init_53 : decode cX10_init 53 = .ok (.new 39, 3) := by decide +kernel
theorem dX10_init_56 : decode cX10_init 56 = .ok (.dup, 1) := by decide +kernel
theorem dX10_init_57 : decode cX10_init 57 = .ok (.invokespecial 41, 3) := by decide +kernel
theorem dX10_init_60 : decode cX10_init 60 = .ok (.putfield 42, 3) := by decide +kernel
theorem dX10_init_63 : decode cX10_init 63 = .ok (.aload_n 0, 1) := by decide +kernel
theorem dX10_init_64 : decode cX10_init 64 = .ok (.new 46, 3) := by decide +kernel
theorem dX10_init_67 : decode cX10_init 67 = .ok (.dup, 1) := by decide +kernel
theorem dX10_init_68 : decode cX10_init 68 = .ok (.aload_n 0, 1) := by decide +kernel
theorem dX10_init_69 : decode cX10_init 69 = .ok (.getfield 35, 3) := by decide +kernel
theorem dX10_init_72 : decode cX10_init 72 = .ok (.invokespecial 48, 3) := by decide +kernel
theorem dX10_init_75 : decode cX10_init 75 = .ok (.putfield 51, 3) := by decide +kernel
theorem dX10_init_78 : decode cX10_init 78 = .ok (.aload_n 0, 1) := by decide +kernel
theorem dX10_init_79 : decode cX10_init 79 = .ok (.new 55, 3) := by decide +kernel
theorem dX10_init_82 : decode cX10_init 82 = .ok (.dup, 1) := by decide +kernel
theorem dX10_init_83 : decode cX10_init 83 = .ok (.aload_n 0, 1) := by decide +kernel
theorem dX10_init_84 : decode cX10_init 84 = .ok (.getfield 35, 3) := by decide +kernel
theorem dX10_init_87 : decode cX10_init 87 = .ok (.aload_n 0, 1) := by decide +kernel
theorem dX10_init_88 : decode cX10_init 88 = .ok (.getfield 51, 3) := by decide +kernel
theorem dX10_init_91 : decode cX10_init 91 = .ok (.invokespecial 57, 3) := by decide +kernel
theorem dX10_init_94 : decode cX10_init 94 = .ok (.putfield 60, 3) := by decide +kernel
theorem dX10_init_97 : decode cX10_init 97 = .ok (.aload_n 0, 1) := by decide +kernel
theorem dX10_init_98 : decode cX10_init 98 = .ok (.bipush 8, 2) := by decide +kernel
theorem dX10_init_100 : decode cX10_init 100 = .ok (.anewarray 64, 3) := by decide +kernel
theorem dX10_init_103 : decode cX10_init 103 = .ok (.putfield 66, 3) := by decide +kernel
theorem dX10_init_106 : decode cX10_init 106 = .ok (.aload_n 0, 1) := by decide +kernel
theorem dX10_init_107 : decode cX10_init 107 = .ok (.iconst 0, 1) := by decide +kernel
theorem dX10_init_108 : decode cX10_init 108 = .ok (.putfield 70, 3) := by decide +kernel
theorem dX10_init_111 : decode cX10_init 111 = .ok (.aload_n 0, 1) := by decide +kernel
theorem dX10_init_112 : decode cX10_init 112 = .ok (.bipush (-9), 2) := by decide +kernel
theorem dX10_init_114 : decode cX10_init 114 = .ok (.putfield 74, 3) := by decide +kernel
theorem dX10_init_117 : decode cX10_init 117 = .ok (.aload_n 0, 1) := by decide +kernel
theorem dX10_init_118 : decode cX10_init 118 = .ok (.iconst 0, 1) := by decide +kernel
theorem dX10_init_119 : decode cX10_init 119 = .ok (.putfield 77, 3) := by decide +kernel
theorem dX10_init_122 : decode cX10_init 122 = .ok (.iconst 0, 1) := by decide +kernel
theorem dX10_init_123 : decode cX10_init 123 = .ok (.istore_n 1, 1) := by decide +kernel
theorem dX10_init_124 : decode cX10_init 124 = .ok (.iload_n 1, 1) := by decide +kernel
theorem dX10_init_125 : decode cX10_init 125 = .ok (.bipush 8, 2) := by decide +kernel
theorem dX10_init_127 : decode cX10_init 127 = .ok (.if_icmp .ge 39, 3) := by decide +kernel
theorem dX10_init_130 : decode cX10_init 130 = .ok (.aload_n 0, 1) := by decide +kernel
theorem dX10_init_131 : decode cX10_init 131 = .ok (.getfield 66, 3) := by decide +kernel
theorem dX10_init_134 : decode cX10_init 134 = .ok (.iload_n 1, 1) := by decide +kernel
theorem dX10_init_135 : decode cX10_init 135 = .ok (.new 64, 3) := by decide +kernel
theorem dX10_init_138 : decode cX10_init 138 = .ok (.dup, 1) := by decide +kernel
theorem dX10_init_139 : decode cX10_init 139 = .ok (.iload_n 1, 1) := by decide +kernel
theorem dX10_init_140 : decode cX10_init 140 = .ok (.aload_n 0, 1) := by decide +kernel
theorem dX10_init_141 : decode cX10_init 141 = .ok (.getfield 28, 3) := by decide +kernel
theorem dX10_init_144 : decode cX10_init 144 = .ok (.aload_n 0, 1) := by decide +kernel
theorem dX10_init_145 : decode cX10_init 145 = .ok (.getfield 35, 3) := by decide +kernel
theorem dX10_init_148 : decode cX10_init 148 = .ok (.aload_n 0, 1) := by decide +kernel
theorem dX10_init_149 : decode cX10_init 149 = .ok (.getfield 51, 3) := by decide +kernel
theorem dX10_init_152 : decode cX10_init 152 = .ok (.aload_n 0, 1) := by decide +kernel
theorem dX10_init_153 : decode cX10_init 153 = .ok (.getfield 60, 3) := by decide +kernel
theorem dX10_init_156 : decode cX10_init 156 = .ok (.invokespecial 80, 3) := by decide +kernel
theorem dX10_init_159 : decode cX10_init 159 = .ok (.aastore, 1) := by decide +kernel
theorem dX10_init_160 : decode cX10_init 160 = .ok (.iinc 1 1, 3) := by decide +kernel
theorem dX10_init_163 : decode cX10_init 163 = .ok (.goto (-39), 3) := by decide +kernel
theorem dX10_init_166 : decode cX10_init 166 = .ok (.return_, 1) := by decide +kernel
theorem dX10_feed_0 : decode cX10_feed 0 = .ok (.aload_n 0, 1) := by decide +kernel
theorem dX10_feed_1 : decode cX10_feed 1 = .ok (.getfield 10, 3) := by decide +kernel
theorem dX10_feed_4 : decode cX10_feed 4 = .ok (.bipush 20, 2) := by decide +kernel
theorem dX10_feed_6 : decode cX10_feed 6 = .ok (.invokevirtual 83, 3) := by decide +kernel
theorem dX10_feed_9 : decode cX10_feed 9 = .ok (.ifCond .ne 10, 3) := by decide +kernel
theorem dX10_feed_12 : decode cX10_feed 12 = .ok (.aload_n 0, 1) := by decide +kernel
theorem dX10_feed_13 : decode cX10_feed 13 = .ok (.bipush 9, 2) := by decide +kernel
theorem dX10_feed_15 : decode cX10_feed 15 = .ok (.invokevirtual 87, 3) := by decide +kernel
theorem dX10_feed_18 : decode cX10_feed 18 = .ok (.ireturn, 1) := by decide +kernel
theorem dX10_feed_19 : decode cX10_feed 19 = .ok (.aload_n 0, 1) := by decide +kernel
theorem dX10_feed_20 : decode cX10_feed 20 = .ok (.getfield 10, 3) := by decide +kernel
theorem dX10_feed_23 : decode cX10_feed 23 = .ok (.iload_n 1, 1) := by decide +kernel
theorem dX10_feed_24 : decode cX10_feed 24 = .ok (.invokevirtual 91, 3) := by decide +kernel
theorem dX10_feed_27 : decode cX10_feed 27 = .ok (.aload_n 0, 1) := by decide +kernel
theorem dX10_feed_28 : decode cX10_feed 28 = .ok (.getfield 10, 3) := by decide +kernel
theorem dX10_feed_31 : decode cX10_feed 31 = .ok (.iload_n 2, 1) := by decide +kernel
theorem dX10_feed_32 : decode cX10_feed 32 = .ok (.invokevirtual 91, 3) := by decide +kernel
theorem dX10_feed_35 : decode cX10_feed 35 = .ok (.aload_n 0, 1) := by decide +kernel
theorem dX10_feed_36 : decode cX10_feed 36 = .ok (.getfield 10, 3) := by decide +kernel
theorem dX10_feed_39 : decode cX10_feed 39 = .ok (.iload_n 3, 1) := by decide +kernel
theorem dX10_feed_40 : decode cX10_feed 40 = .ok (.invokevirtual 91, 3) := by decide +kernel
theorem dX10_feed_43 : decode cX10_feed 43 = .ok (.aload_n 0, 1) := by decide +kernel
theorem dX10_feed_44 : decode cX10_feed 44 = .ok (.getfield 10, 3) := by decide +kernel
theorem dX10_feed_47 : decode cX10_feed 47 = .ok (.iload 4, 2) := by decide +kernel
theorem dX10_feed_49 : decode cX10_feed 49 = .ok (.invokevirtual 91, 3) := by decide +kernel
theorem dX10_feed_52 : decode cX10_feed 52 = .ok (.aload_n 0, 1) := by decide +kernel
theorem dX10_feed_53 : decode cX10_feed 53 = .ok (.getfield 10, 3) := by decide +kernel
theorem dX10_feed_56 : decode cX10_feed 56 = .ok (.iload 5, 2) := by decide +kernel
theorem dX10_feed_58 : decode cX10_feed 58 = .ok (.invokevirtual 91, 3) := by decide +kernel
theorem dX10_feed_61 : decode cX10_feed 61 = .ok (.aload_n 0, 1) := by decide +kernel
theorem dX10_feed_62 : decode cX10_feed 62 = .ok (.aload_n 0, 1) := by decide +kernel
theorem dX10_feed_63 : decode cX10_feed 63 = .ok (.getfield 10, 3) := by decide +kernel
theorem dX10_feed_66 : decode cX10_feed 66 = .ok (.invokevirtual 95, 3) := by decide +kernel
theorem dX10_feed_69 : decode cX10_feed 69 = .ok (.invokevirtual 99, 3) := by decide +kernel
theorem dX10_feed_72 : decode cX10_feed 72 = .ok (.ireturn, 1) := by decide +kernel
theorem dX10_end_0 : decode cX10_end 0 = .ok (.iload_n 1, 1) := by decide +kernel
theorem dX10_end_1 : decode cX10_end 1 = .ok (.ifCond .lt 14, 3) := by decide +kernel
theorem dX10_end_4 : decode cX10_end 4 = .ok (.iload_n 1, 1) := by decide +kernel
theorem dX10_end_5 : decode cX10_end 5 = .ok (.aload_n 0, 1) := by decide +kernel
theorem dX10_end_6 : decode cX10_end 6 = .ok (.getfield 10, 3) := by decide +kernel
theorem dX10_end_9 : decode cX10_end 9 = .ok (.invokevirtual 95, 3) := by decide +kernel
theorem dX10_end_12 : decode cX10_end 12 = .ok (.if_icmp .le 9, 3) := by decide +kernel
theorem dX10_end_15 : decode cX10_end 15 = .ok (.aload_n 0, 1) := by decide +kernel
theorem dX10_end_16 : decode cX10_end 16 = .ok (.iconst 3, 1) := by decide +kernel
theorem dX10_end_17 : decode cX10_end 17 = .ok (.invokevirtual 87, 3) := by decide +kernel
theorem dX10_end_20 : decode cX10_end 20 = .ok (.ireturn, 1) := by decide +kernel
theorem dX10_end_21 : decode cX10_end 21 = .ok (.aload_n 0, 1) := by decide +kernel
theorem dX10_end_22 : decode cX10_end 22 = .ok (.getfield 10, 3) := by decide +kernel
theorem dX10_end_25 : decode cX10_end 25 = .ok (.iload_n 1, 1) := by decide +kernel
theorem dX10_end_26 : decode cX10_end 26 = .ok (.invokevirtual 102, 3) := by decide +kernel
theorem dX10_end_29 : decode cX10_end 29 = .ok (.aload_n 0, 1) := by decide +kernel
theorem dX10_end_30 : decode cX10_end 30 = .ok (.iload_n 1, 1) := by decide +kernel
theorem dX10_end_31 : decode cX10_end 31 = .ok (.invokevirtual 99, 3) := by decide +kernel
theorem dX10_end_34 : decode cX10_end 34 = .ok (.ireturn, 1) := by decide +kernel
theorem dX10_record_0 : decode cX10_record 0 = .ok (.new 105, 3) := by decide +kernel
theorem dX10_record_3 : decode cX10_record 3 = .ok (.dup, 1) := by decide +kernel
theorem dX10_record_4 : decode cX10_record 4 = .ok (.invokespecial 107, 3) := by decide +kernel
theorem dX10_record_7 : decode cX10_record 7 = .ok (.astore_n 1, 1) := by decide +kernel
theorem dX10_record_8 : decode cX10_record 8 = .ok (.aload_n 0, 1) := by decide +kernel
theorem dX10_record_9 : decode cX10_record 9 = .ok (.iconst 0, 1) := by decide +kernel
theorem dX10_record_10 : decode cX10_record 10 = .ok (.putfield 77, 3) := by decide +kernel
theorem dX10_record_13 : decode cX10_record 13 = .ok (.aload_n 0, 1) := by decide +kernel
theorem dX10_record_14 : decode cX10_record 14 = .ok (.aload_n 0, 1) := by decide +kernel
theorem dX10_record_15 : decode cX10_record 15 = .ok (.getfield 21, 3) := by decide +kernel
theorem dX10_record_18 : decode cX10_record 18 = .ok (.aload_n 1, 1) := by decide +kernel
theorem dX10_record_19 : decode cX10_record 19 = .ok (.invokevirtual 108, 3) := by decide +kernel
theorem dX10_record_22 : decode cX10_record 22 = .ok (.putfield 74, 3) := by decide +kernel
theorem dX10_record_25 : decode cX10_record 25 = .ok (.aload_n 0, 1) := by decide +kernel
theorem dX10_record_26 : decode cX10_record 26 = .ok (.getfield 10, 3) := by decide +kernel
theorem dX10_record_29 : decode cX10_record 29 = .ok (.iconst 0, 1) := by decide +kernel
theorem dX10_record_30 : decode cX10_record 30 = .ok (.invokevirtual 102, 3) := by decide +kernel
theorem dX10_record_33 : decode cX10_record 33 = .ok (.aload_n 0, 1) := by decide +kernel
theorem dX10_record_34 : decode cX10_record 34 = .ok (.getfield 74, 3) := by decide +kernel
theorem dX10_record_37 : decode cX10_record 37 = .ok (.bipush (-9), 2) := by decide +kernel
theorem dX10_record_39 : decode cX10_record 39 = .ok (.if_icmp .eq 9, 3) := by decide +kernel
theorem dX10_record_42 : decode cX10_record 42 = .ok (.aload_n 0, 1) := by decide +kernel
theorem dX10_record_43 : decode cX10_record 43 = .ok (.iconst 2, 1) := by decide +kernel
theorem dX10_record_44 : decode cX10_record 44 = .ok (.invokevirtual 87, 3) := by decide +kernel
theorem dX10_record_47 : decode cX10_record 47 = .ok (.ireturn, 1) := by decide +kernel
theorem dX10_record_48 : decode cX10_record 48 = .ok (.aload_n 0, 1) := by decide +kernel
theorem dX10_record_49 : decode cX10_record 49 = .ok (.getfield 28, 3) := by decide +kernel
theorem dX10_record_52 : decode cX10_record 52 = .ok (.aload_n 1, 1) := by decide +kernel
theorem dX10_record_53 : decode cX10_record 53 = .ok (.invokevirtual 112, 3) := by decide +kernel
theorem dX10_record_56 : decode cX10_record 56 = .ok (.ifCond .ne 9, 3) := by decide +kernel
theorem dX10_record_59 : decode cX10_record 59 = .ok (.aload_n 0, 1) := by decide +kernel
theorem dX10_record_60 : decode cX10_record 60 = .ok (.iconst 1, 1) := by decide +kernel
theorem dX10_record_61 : decode cX10_record 61 = .ok (.invokevirtual 87, 3) := by decide +kernel
theorem dX10_record_64 : decode cX10_record 64 = .ok (.ireturn, 1) := by decide +kernel
theorem dX10_record_65 : decode cX10_record 65 = .ok (.aload_n 0, 1) := by decide +kernel
theorem dX10_record_66 : decode cX10_record 66 = .ok (.getfield 28, 3) := by decide +kernel
theorem dX10_record_69 : decode cX10_record 69 = .ok (.aload_n 1, 1) := by decide +kernel
theorem dX10_record_70 : decode cX10_record 70 = .ok (.invokevirtual 116, 3) := by decide +kernel
theorem dX10_record_73 : decode cX10_record 73 = .ok (.ifCond .ne 10, 3) := by decide +kernel
theorem dX10_record_76 : decode cX10_record 76 = .ok (.aload_n 0, 1) := by decide +kernel
theorem dX10_record_77 : decode cX10_record 77 = .ok (.bipush 9, 2) := by decide +kernel
theorem dX10_record_79 : decode cX10_record 79 = .ok (.invokevirtual 87, 3) := by decide +kernel
theorem dX10_record_82 : decode cX10_record 82 = .ok (.ireturn, 1) := by decide +kernel
theorem dX10_record_83 : decode cX10_record 83 = .ok (.aload_n 0, 1) := by decide +kernel
theorem dX10_record_84 : decode cX10_record 84 = .ok (.getfield 28, 3) := by decide +kernel
theorem dX10_record_87 : decode cX10_record 87 = .ok (.aload_n 1, 1) := by decide +kernel
theorem dX10_record_88 : decode cX10_record 88 = .ok (.invokevirtual 118, 3) := by decide +kernel
theorem dX10_record_91 : decode cX10_record 91 = .ok (.aload_n 0, 1) := by decide +kernel
theorem dX10_record_92 : decode cX10_record 92 = .ok (.aload_n 0, 1) := by decide +kernel
theorem dX10_record_93 : decode cX10_record 93 = .ok (.invokevirtual 121, 3) := by decide +kernel
theorem dX10_record_96 : decode cX10_record 96 = .ok (.putfield 77, 3) := by decide +kernel
theorem dX10_record_99 : decode cX10_record 99 = .ok (.aload_n 0, 1) := by decide +kernel
theorem dX10_record_100 : decode cX10_record 100 = .ok (.getfield 77, 3) := by decide +kernel
theorem dX10_record_103 : decode cX10_record 103 = .ok (.ifCond .eq 10, 3) := by decide +kernel
theorem dX10_record_106 : decode cX10_record 106 = .ok (.aload_n 0, 1) := by decide +kernel
theorem dX10_record_107 : decode cX10_record 107 = .ok (.getfield 28, 3) := by decide +kernel
theorem dX10_record_110 : decode cX10_record 110 = .ok (.invokevirtual 124, 3) := by decide +kernel
theorem dX10_record_113 : decode cX10_record 113 = .ok (.aload_n 0, 1) := by decide +kernel
theorem dX10_record_114 : decode cX10_record 114 = .ok (.invokevirtual 127, 3) := by decide +kernel
theorem dX10_record_117 : decode cX10_record 117 = .ok (.aload_n 0, 1) := by decide +kernel
theorem dX10_record_118 : decode cX10_record 118 = .ok (.getfield 77, 3) := by decide +kernel
theorem dX10_record_121 : decode cX10_record 121 = .ok (.ifCond .eq 11, 3) := by decide +kernel
theorem dX10_record_124 : decode cX10_record 124 = .ok (.aload_n 0, 1) := by decide +kernel
theorem dX10_record_125 : decode cX10_record 125 = .ok (.iconst 5, 1) := by decide +kernel
theorem dX10_record_126 : decode cX10_record 126 = .ok (.invokevirtual 87, 3) := by decide +kernel
theorem dX10_record_129 : decode cX10_record 129 = .ok (.goto 16, 3) := by decide +kernel
theorem dX10_record_132 : decode cX10_record 132 = .ok (.aload_n 0, 1) := by decide +kernel
theorem dX10_record_133 : decode cX10_record 133 = .ok (.aload_n 0, 1) := by decide +kernel
theorem dX10_record_134 : decode cX10_record 134 = .ok (.getfield 28, 3) := by decide +kernel
theorem dX10_record_137 : decode cX10_record 137 = .ok (.invokevirtual 130, 3) := by decide +kernel
theorem dX10_record_140 : decode cX10_record 140 = .ok (.iconst 1, 1) := by decide +kernel
theorem dX10_record_141 : decode cX10_record 141 = .ok (.isub, 1) := by decide +kernel
theorem dX10_record_142 : decode cX10_record 142 = .ok (.invokevirtual 99, 3) := by decide +kernel
theorem dX10_record_145 : decode cX10_record 145 = .ok (.ireturn, 1) := by decide +kernel
theorem dX10_bond_0 : decode cX10_bond 0 = .ok (.aload_n 0, 1) := by decide +kernel
theorem dX10_bond_1 : decode cX10_bond 1 = .ok (.getfield 77, 3) := by decide +kernel
theorem dX10_bond_4 : decode cX10_bond 4 = .ok (.ireturn, 1) := by decide +kernel
theorem dX10_person_0 : decode cX10_person 0 = .ok (.aload_n 0, 1) := by decide +kernel
theorem dX10_person_1 : decode cX10_person 1 = .ok (.getfield 35, 3) := by decide +kernel
theorem dX10_person_4 : decode cX10_person 4 = .ok (.iload_n 1, 1) := by decide +kernel
theorem dX10_person_5 : decode cX10_person 5 = .ok (.invokevirtual 170, 3) := by decide +kernel
theorem dX10_person_8 : decode cX10_person 8 = .ok (.ifCond .ne 9, 3) := by decide +kernel
theorem dX10_person_11 : decode cX10_person 11 = .ok (.aload_n 0, 1) := by decide +kernel
theorem dX10_person_12 : decode cX10_person 12 = .ok (.iconst 1, 1) := by decide +kernel
theorem dX10_person_13 : decode cX10_person 13 = .ok (.invokevirtual 87, 3) := by decide +kernel
theorem dX10_person_16 : decode cX10_person 16 = .ok (.ireturn, 1) := by decide +kernel
theorem dX10_person_17 : decode cX10_person 17 = .ok (.iload_n 2, 1) := by decide +kernel
theorem dX10_person_18 : decode cX10_person 18 = .ok (.tableswitch 132 0 5 #[38, 59, 72, 85, 98, 111], 38) := by decide +kernel
theorem dX10_person_56 : decode cX10_person 56 = .ok (.aload_n 0, 1) := by decide +kernel
theorem dX10_person_57 : decode cX10_person 57 = .ok (.aload_n 0, 1) := by decide +kernel
theorem dX10_person_58 : decode cX10_person 58 = .ok (.getfield 35, 3) := by decide +kernel
theorem dX10_person_61 : decode cX10_person 61 = .ok (.iload_n 1, 1) := by decide +kernel
theorem dX10_person_62 : decode cX10_person 62 = .ok (.invokevirtual 173, 3) := by decide +kernel
theorem dX10_person_65 : decode cX10_person 65 = .ok (.ifCond .eq 7, 3) := by decide +kernel
theorem dX10_person_68 : decode cX10_person 68 = .ok (.iconst 1, 1) := by decide +kernel
theorem dX10_person_69 : decode cX10_person 69 = .ok (.goto 4, 3) := by decide +kernel
theorem dX10_person_72 : decode cX10_person 72 = .ok (.iconst 0, 1) := by decide +kernel
theorem dX10_person_73 : decode cX10_person 73 = .ok (.invokevirtual 99, 3) := by decide +kernel
theorem dX10_person_76 : decode cX10_person 76 = .ok (.ireturn, 1) := by decide +kernel
theorem dX10_person_77 : decode cX10_person 77 = .ok (.aload_n 0, 1) := by decide +kernel
theorem dX10_person_78 : decode cX10_person 78 = .ok (.aload_n 0, 1) := by decide +kernel
theorem dX10_person_79 : decode cX10_person 79 = .ok (.getfield 35, 3) := by decide +kernel
theorem dX10_person_82 : decode cX10_person 82 = .ok (.iload_n 1, 1) := by decide +kernel
theorem dX10_person_83 : decode cX10_person 83 = .ok (.invokevirtual 176, 3) := by decide +kernel
theorem dX10_person_86 : decode cX10_person 86 = .ok (.invokevirtual 99, 3) := by decide +kernel
theorem dX10_person_89 : decode cX10_person 89 = .ok (.ireturn, 1) := by decide +kernel
theorem dX10_person_90 : decode cX10_person 90 = .ok (.aload_n 0, 1) := by decide +kernel
theorem dX10_person_91 : decode cX10_person 91 = .ok (.aload_n 0, 1) := by decide +kernel
theorem dX10_person_92 : decode cX10_person 92 = .ok (.getfield 35, 3) := by decide +kernel
theorem dX10_person_95 : decode cX10_person 95 = .ok (.iload_n 1, 1) := by decide +kernel
theorem dX10_person_96 : decode cX10_person 96 = .ok (.invokevirtual 179, 3) := by decide +kernel
theorem dX10_person_99 : decode cX10_person 99 = .ok (.invokevirtual 99, 3) := by decide +kernel
theorem dX10_person_102 : decode cX10_person 102 = .ok (.ireturn, 1) := by decide +kernel
theorem dX10_person_103 : decode cX10_person 103 = .ok (.aload_n 0, 1) := by decide +kernel
theorem dX10_person_104 : decode cX10_person 104 = .ok (.aload_n 0, 1) := by decide +kernel
theorem dX10_person_105 : decode cX10_person 105 = .ok (.getfield 35, 3) := by decide +kernel
theorem dX10_person_108 : decode cX10_person 108 = .ok (.iload_n 1, 1) := by decide +kernel
theorem dX10_person_109 : decode cX10_person 109 = .ok (.invokevirtual 182, 3) := by decide +kernel
theorem dX10_person_112 : decode cX10_person 112 = .ok (.invokevirtual 99, 3) := by decide +kernel
theorem dX10_person_115 : decode cX10_person 115 = .ok (.ireturn, 1) := by decide +kernel
theorem dX10_person_116 : decode cX10_person 116 = .ok (.aload_n 0, 1) := by decide +kernel
theorem dX10_person_117 : decode cX10_person 117 = .ok (.aload_n 0, 1) := by decide +kernel
theorem dX10_person_118 : decode cX10_person 118 = .ok (.getfield 35, 3) := by decide +kernel
theorem dX10_person_121 : decode cX10_person 121 = .ok (.iload_n 1, 1) := by decide +kernel
theorem dX10_person_122 : decode cX10_person 122 = .ok (.invokevirtual 185, 3) := by decide +kernel
theorem dX10_person_125 : decode cX10_person 125 = .ok (.invokevirtual 99, 3) := by decide +kernel
theorem dX10_person_128 : decode cX10_person 128 = .ok (.ireturn, 1) := by decide +kernel
theorem dX10_person_129 : decode cX10_person 129 = .ok (.aload_n 0, 1) := by decide +kernel
theorem dX10_person_130 : decode cX10_person 130 = .ok (.aload_n 0, 1) := by decide +kernel
theorem dX10_person_131 : decode cX10_person 131 = .ok (.getfield 51, 3) := by decide +kernel
theorem dX10_person_134 : decode cX10_person 134 = .ok (.iload_n 1, 1) := by decide +kernel
theorem dX10_person_135 : decode cX10_person 135 = .ok (.invokevirtual 188, 3) := by decide +kernel
theorem dX10_person_138 : decode cX10_person 138 = .ok (.ifCond .eq 7, 3) := by decide +kernel
theorem dX10_person_141 : decode cX10_person 141 = .ok (.iconst 1, 1) := by decide +kernel
theorem dX10_person_142 : decode cX10_person 142 = .ok (.goto 4, 3) := by decide +kernel
theorem dX10_person_145 : decode cX10_person 145 = .ok (.iconst 0, 1) := by decide +kernel
theorem dX10_person_146 : decode cX10_person 146 = .ok (.invokevirtual 99, 3) := by decide +kernel
theorem dX10_person_149 : decode cX10_person 149 = .ok (.ireturn, 1) := by decide +kernel
theorem dX10_person_150 : decode cX10_person 150 = .ok (.aload_n 0, 1) := by decide +kernel
theorem dX10_person_151 : decode cX10_person 151 = .ok (.iconst 3, 1) := by decide +kernel
theorem dX10_person_152 : decode cX10_person 152 = .ok (.invokevirtual 87, 3) := by decide +kernel
theorem dX10_person_155 : decode cX10_person 155 = .ok (.ireturn, 1) := by decide +kernel
theorem dX10_partner_0 : decode cX10_partner 0 = .ok (.aload_n 0, 1) := by decide +kernel
theorem dX10_partner_1 : decode cX10_partner 1 = .ok (.getfield 35, 3) := by decide +kernel
theorem dX10_partner_4 : decode cX10_partner 4 = .ok (.iload_n 1, 1) := by decide +kernel
theorem dX10_partner_5 : decode cX10_partner 5 = .ok (.invokevirtual 170, 3) := by decide +kernel
theorem dX10_partner_8 : decode cX10_partner 8 = .ok (.ifCond .ne 9, 3) := by decide +kernel
theorem dX10_partner_11 : decode cX10_partner 11 = .ok (.aload_n 0, 1) := by decide +kernel
theorem dX10_partner_12 : decode cX10_partner 12 = .ok (.iconst 1, 1) := by decide +kernel
theorem dX10_partner_13 : decode cX10_partner 13 = .ok (.invokevirtual 87, 3) := by decide +kernel
theorem dX10_partner_16 : decode cX10_partner 16 = .ok (.ireturn, 1) := by decide +kernel
theorem dX10_partner_17 : decode cX10_partner 17 = .ok (.iload_n 2, 1) := by decide +kernel
theorem dX10_partner_18 : decode cX10_partner 18 = .ok (.invokestatic 191, 3) := by decide +kernel
theorem dX10_partner_21 : decode cX10_partner 21 = .ok (.ifCond .ne 9, 3) := by decide +kernel
theorem dX10_partner_24 : decode cX10_partner 24 = .ok (.aload_n 0, 1) := by decide +kernel
theorem dX10_partner_25 : decode cX10_partner 25 = .ok (.iconst 3, 1) := by decide +kernel
theorem dX10_partner_26 : decode cX10_partner 26 = .ok (.invokevirtual 87, 3) := by decide +kernel
theorem dX10_partner_29 : decode cX10_partner 29 = .ok (.ireturn, 1) := by decide +kernel
theorem dX10_partner_30 : decode cX10_partner 30 = .ok (.aload_n 0, 1) := by decide +kernel
theorem dX10_partner_31 : decode cX10_partner 31 = .ok (.aload_n 0, 1) := by decide +kernel
theorem dX10_partner_32 : decode cX10_partner 32 = .ok (.getfield 42, 3) := by decide +kernel
theorem dX10_partner_35 : decode cX10_partner 35 = .ok (.iload_n 1, 1) := by decide +kernel
theorem dX10_partner_36 : decode cX10_partner 36 = .ok (.iload_n 2, 1) := by decide +kernel
theorem dX10_partner_37 : decode cX10_partner 37 = .ok (.invokevirtual 194, 3) := by decide +kernel
theorem dX10_partner_40 : decode cX10_partner 40 = .ok (.invokevirtual 99, 3) := by decide +kernel
theorem dX10_partner_43 : decode cX10_partner 43 = .ok (.ireturn, 1) := by decide +kernel
theorem dX10_holder_0 : decode cX10_holder 0 = .ok (.aload_n 0, 1) := by decide +kernel
theorem dX10_holder_1 : decode cX10_holder 1 = .ok (.getfield 28, 3) := by decide +kernel
theorem dX10_holder_4 : decode cX10_holder 4 = .ok (.iload_n 1, 1) := by decide +kernel
theorem dX10_holder_5 : decode cX10_holder 5 = .ok (.invokevirtual 201, 3) := by decide +kernel
theorem dX10_holder_8 : decode cX10_holder 8 = .ok (.ifCond .ne 9, 3) := by decide +kernel
theorem dX10_holder_11 : decode cX10_holder 11 = .ok (.aload_n 0, 1) := by decide +kernel
theorem dX10_holder_12 : decode cX10_holder 12 = .ok (.iconst 1, 1) := by decide +kernel
theorem dX10_holder_13 : decode cX10_holder 13 = .ok (.invokevirtual 87, 3) := by decide +kernel
theorem dX10_holder_16 : decode cX10_holder 16 = .ok (.ireturn, 1) := by decide +kernel
theorem dX10_holder_17 : decode cX10_holder 17 = .ok (.iload_n 2, 1) := by decide +kernel
theorem dX10_holder_18 : decode cX10_holder 18 = .ok (.invokestatic 191, 3) := by decide +kernel
theorem dX10_holder_21 : decode cX10_holder 21 = .ok (.ifCond .ne 9, 3) := by decide +kernel
theorem dX10_holder_24 : decode cX10_holder 24 = .ok (.aload_n 0, 1) := by decide +kernel
theorem dX10_holder_25 : decode cX10_holder 25 = .ok (.iconst 3, 1) := by decide +kernel
theorem dX10_holder_26 : decode cX10_holder 26 = .ok (.invokevirtual 87, 3) := by decide +kernel
theorem dX10_holder_29 : decode cX10_holder 29 = .ok (.ireturn, 1) := by decide +kernel
theorem dX10_holder_30 : decode cX10_holder 30 = .ok (.aload_n 0, 1) := by decide +kernel
theorem dX10_holder_31 : decode cX10_holder 31 = .ok (.iload_n 1, 1) := by decide +kernel
theorem dX10_holder_32 : decode cX10_holder 32 = .ok (.invokevirtual 204, 3) := by decide +kernel
theorem dX10_holder_35 : decode cX10_holder 35 = .ok (.astore_n 3, 1) := by decide +kernel
theorem dX10_holder_36 : decode cX10_holder 36 = .ok (.aload_n 0, 1) := by decide +kernel
theorem dX10_holder_37 : decode cX10_holder 37 = .ok (.aload_n 3, 1) := by decide +kernel
theorem dX10_holder_38 : decode cX10_holder 38 = .ok (.aload_n 3, 1) := by decide +kernel
theorem dX10_holder_39 : decode cX10_holder 39 = .ok (.iload_n 2, 1) := by decide +kernel
theorem dX10_holder_40 : decode cX10_holder 40 = .ok (.invokevirtual 208, 3) := by decide +kernel
theorem dX10_holder_43 : decode cX10_holder 43 = .ok (.invokevirtual 211, 3) := by decide +kernel
theorem dX10_holder_46 : decode cX10_holder 46 = .ok (.invokevirtual 99, 3) := by decide +kernel
theorem dX10_holder_49 : decode cX10_holder 49 = .ok (.ireturn, 1) := by decide +kernel
theorem dX10_since_0 : decode cX10_since 0 = .ok (.aload_n 0, 1) := by decide +kernel
theorem dX10_since_1 : decode cX10_since 1 = .ok (.getfield 28, 3) := by decide +kernel
theorem dX10_since_4 : decode cX10_since 4 = .ok (.iload_n 1, 1) := by decide +kernel
theorem dX10_since_5 : decode cX10_since 5 = .ok (.invokevirtual 201, 3) := by decide +kernel
theorem dX10_since_8 : decode cX10_since 8 = .ok (.ifCond .ne 9, 3) := by decide +kernel
theorem dX10_since_11 : decode cX10_since 11 = .ok (.aload_n 0, 1) := by decide +kernel
theorem dX10_since_12 : decode cX10_since 12 = .ok (.iconst 1, 1) := by decide +kernel
theorem dX10_since_13 : decode cX10_since 13 = .ok (.invokevirtual 87, 3) := by decide +kernel
theorem dX10_since_16 : decode cX10_since 16 = .ok (.ireturn, 1) := by decide +kernel
theorem dX10_since_17 : decode cX10_since 17 = .ok (.iload_n 2, 1) := by decide +kernel
theorem dX10_since_18 : decode cX10_since 18 = .ok (.invokestatic 191, 3) := by decide +kernel
theorem dX10_since_21 : decode cX10_since 21 = .ok (.ifCond .ne 9, 3) := by decide +kernel
theorem dX10_since_24 : decode cX10_since 24 = .ok (.aload_n 0, 1) := by decide +kernel
theorem dX10_since_25 : decode cX10_since 25 = .ok (.iconst 3, 1) := by decide +kernel
theorem dX10_since_26 : decode cX10_since 26 = .ok (.invokevirtual 87, 3) := by decide +kernel
theorem dX10_since_29 : decode cX10_since 29 = .ok (.ireturn, 1) := by decide +kernel
theorem dX10_since_30 : decode cX10_since 30 = .ok (.aload_n 0, 1) := by decide +kernel
theorem dX10_since_31 : decode cX10_since 31 = .ok (.iload_n 1, 1) := by decide +kernel
theorem dX10_since_32 : decode cX10_since 32 = .ok (.invokevirtual 204, 3) := by decide +kernel
theorem dX10_since_35 : decode cX10_since 35 = .ok (.astore_n 3, 1) := by decide +kernel
theorem dX10_since_36 : decode cX10_since 36 = .ok (.aload_n 0, 1) := by decide +kernel
theorem dX10_since_37 : decode cX10_since 37 = .ok (.aload_n 3, 1) := by decide +kernel
theorem dX10_since_38 : decode cX10_since 38 = .ok (.aload_n 3, 1) := by decide +kernel
theorem dX10_since_39 : decode cX10_since 39 = .ok (.iload_n 2, 1) := by decide +kernel
theorem dX10_since_40 : decode cX10_since 40 = .ok (.invokevirtual 208, 3) := by decide +kernel
theorem dX10_since_43 : decode cX10_since 43 = .ok (.invokevirtual 214, 3) := by decide +kernel
theorem dX10_since_46 : decode cX10_since 46 = .ok (.invokevirtual 99, 3) := by decide +kernel
theorem dX10_since_49 : decode cX10_since 49 = .ok (.ireturn, 1) := by decide +kernel
theorem dX10_line_0 : decode cX10_line 0 = .ok (.aload_n 0, 1) := by decide +kernel
theorem dX10_line_1 : decode cX10_line 1 = .ok (.getfield 28, 3) := by decide +kernel
theorem dX10_line_4 : decode cX10_line 4 = .ok (.iload_n 1, 1) := by decide +kernel
theorem dX10_line_5 : decode cX10_line 5 = .ok (.invokevirtual 201, 3) := by decide +kernel
theorem dX10_line_8 : decode cX10_line 8 = .ok (.ifCond .ne 9, 3) := by decide +kernel
theorem dX10_line_11 : decode cX10_line 11 = .ok (.aload_n 0, 1) := by decide +kernel
theorem dX10_line_12 : decode cX10_line 12 = .ok (.iconst 1, 1) := by decide +kernel
theorem dX10_line_13 : decode cX10_line 13 = .ok (.invokevirtual 87, 3) := by decide +kernel
theorem dX10_line_16 : decode cX10_line 16 = .ok (.ireturn, 1) := by decide +kernel
theorem dX10_line_17 : decode cX10_line 17 = .ok (.iload_n 2, 1) := by decide +kernel
theorem dX10_line_18 : decode cX10_line 18 = .ok (.invokestatic 191, 3) := by decide +kernel
theorem dX10_line_21 : decode cX10_line 21 = .ok (.ifCond .ne 9, 3) := by decide +kernel
theorem dX10_line_24 : decode cX10_line 24 = .ok (.aload_n 0, 1) := by decide +kernel
theorem dX10_line_25 : decode cX10_line 25 = .ok (.iconst 3, 1) := by decide +kernel
theorem dX10_line_26 : decode cX10_line 26 = .ok (.invokevirtual 87, 3) := by decide +kernel
theorem dX10_line_29 : decode cX10_line 29 = .ok (.ireturn, 1) := by decide +kernel
theorem dX10_line_30 : decode cX10_line 30 = .ok (.aload_n 0, 1) := by decide +kernel
theorem dX10_line_31 : decode cX10_line 31 = .ok (.iload_n 1, 1) := by decide +kernel
theorem dX10_line_32 : decode cX10_line 32 = .ok (.invokevirtual 204, 3) := by decide +kernel
theorem dX10_line_35 : decode cX10_line 35 = .ok (.iload_n 2, 1) := by decide +kernel
theorem dX10_line_36 : decode cX10_line 36 = .ok (.invokevirtual 217, 3) := by decide +kernel
theorem dX10_line_39 : decode cX10_line 39 = .ok (.iload_n 3, 1) := by decide +kernel
theorem dX10_line_40 : decode cX10_line 40 = .ok (.ifCond .lt 14, 3) := by decide +kernel
theorem dX10_line_43 : decode cX10_line 43 = .ok (.iload_n 3, 1) := by decide +kernel
theorem dX10_line_44 : decode cX10_line 44 = .ok (.aload_n 0, 1) := by decide +kernel
theorem dX10_line_45 : decode cX10_line 45 = .ok (.getfield 60, 3) := by decide +kernel
theorem dX10_line_48 : decode cX10_line 48 = .ok (.invokevirtual 220, 3) := by decide +kernel
theorem dX10_line_51 : decode cX10_line 51 = .ok (.if_icmp .lt 9, 3) := by decide +kernel
theorem dX10_line_54 : decode cX10_line 54 = .ok (.aload_n 0, 1) := by decide +kernel
theorem dX10_line_55 : decode cX10_line 55 = .ok (.iconst 1, 1) := by decide +kernel
theorem dX10_line_56 : decode cX10_line 56 = .ok (.invokevirtual 87, 3) := by decide +kernel
theorem dX10_line_59 : decode cX10_line 59 = .ok (.ireturn, 1) := by decide +kernel
theorem dX10_line_60 : decode cX10_line 60 = .ok (.aload_n 0, 1) := by decide +kernel
theorem dX10_line_61 : decode cX10_line 61 = .ok (.aload_n 0, 1) := by decide +kernel
theorem dX10_line_62 : decode cX10_line 62 = .ok (.getfield 60, 3) := by decide +kernel
theorem dX10_line_65 : decode cX10_line 65 = .ok (.iload_n 3, 1) := by decide +kernel
theorem dX10_line_66 : decode cX10_line 66 = .ok (.invokevirtual 221, 3) := by decide +kernel
theorem dX10_line_69 : decode cX10_line 69 = .ok (.invokevirtual 99, 3) := by decide +kernel
theorem dX10_line_72 : decode cX10_line 72 = .ok (.ireturn, 1) := by decide +kernel
theorem dX10_rank_0 : decode cX10_rank 0 = .ok (.aload_n 0, 1) := by decide +kernel
theorem dX10_rank_1 : decode cX10_rank 1 = .ok (.getfield 28, 3) := by decide +kernel
theorem dX10_rank_4 : decode cX10_rank 4 = .ok (.iload_n 1, 1) := by decide +kernel
theorem dX10_rank_5 : decode cX10_rank 5 = .ok (.invokevirtual 201, 3) := by decide +kernel
theorem dX10_rank_8 : decode cX10_rank 8 = .ok (.ifCond .eq 14, 3) := by decide +kernel
theorem dX10_rank_11 : decode cX10_rank 11 = .ok (.aload_n 0, 1) := by decide +kernel
theorem dX10_rank_12 : decode cX10_rank 12 = .ok (.getfield 35, 3) := by decide +kernel
theorem dX10_rank_15 : decode cX10_rank 15 = .ok (.iload_n 2, 1) := by decide +kernel
theorem dX10_rank_16 : decode cX10_rank 16 = .ok (.invokevirtual 170, 3) := by decide +kernel
theorem dX10_rank_19 : decode cX10_rank 19 = .ok (.ifCond .ne 9, 3) := by decide +kernel
theorem dX10_rank_22 : decode cX10_rank 22 = .ok (.aload_n 0, 1) := by decide +kernel
theorem dX10_rank_23 : decode cX10_rank 23 = .ok (.iconst 1, 1) := by decide +kernel
theorem dX10_rank_24 : decode cX10_rank 24 = .ok (.invokevirtual 87, 3) := by decide +kernel
theorem dX10_rank_27 : decode cX10_rank 27 = .ok (.ireturn, 1) := by decide +kernel
theorem dX10_rank_28 : decode cX10_rank 28 = .ok (.iload_n 3, 1) := by decide +kernel
theorem dX10_rank_29 : decode cX10_rank 29 = .ok (.invokestatic 191, 3) := by decide +kernel
theorem dX10_rank_32 : decode cX10_rank 32 = .ok (.ifCond .ne 9, 3) := by decide +kernel
theorem dX10_rank_35 : decode cX10_rank 35 = .ok (.aload_n 0, 1) := by decide +kernel
theorem dX10_rank_36 : decode cX10_rank 36 = .ok (.iconst 3, 1) := by decide +kernel
theorem dX10_rank_37 : decode cX10_rank 37 = .ok (.invokevirtual 87, 3) := by decide +kernel
theorem dX10_rank_40 : decode cX10_rank 40 = .ok (.ireturn, 1) := by decide +kernel
theorem dX10_rank_41 : decode cX10_rank 41 = .ok (.aload_n 0, 1) := by decide +kernel
theorem dX10_rank_42 : decode cX10_rank 42 = .ok (.iload_n 1, 1) := by decide +kernel
theorem dX10_rank_43 : decode cX10_rank 43 = .ok (.invokevirtual 204, 3) := by decide +kernel
theorem dX10_rank_46 : decode cX10_rank 46 = .ok (.iload_n 3, 1) := by decide +kernel
theorem dX10_rank_47 : decode cX10_rank 47 = .ok (.invokevirtual 217, 3) := by decide +kernel
theorem dX10_rank_50 : decode cX10_rank 50 = .ok (.aload_n 0, 1) := by decide +kernel
theorem dX10_rank_51 : decode cX10_rank 51 = .ok (.aload_n 0, 1) := by decide +kernel
theorem dX10_rank_52 : decode cX10_rank 52 = .ok (.getfield 60, 3) := by decide +kernel
theorem dX10_rank_55 : decode cX10_rank 55 = .ok (.iload_n 2, 1) := by decide +kernel
theorem dX10_rank_56 : decode cX10_rank 56 = .ok (.invokevirtual 224, 3) := by decide +kernel
theorem dX10_rank_59 : decode cX10_rank 59 = .ok (.invokevirtual 99, 3) := by decide +kernel
theorem dX10_rank_62 : decode cX10_rank 62 = .ok (.ireturn, 1) := by decide +kernel
theorem dX10_tenures_0 : decode cX10_tenures 0 = .ok (.aload_n 0, 1) := by decide +kernel
theorem dX10_tenures_1 : decode cX10_tenures 1 = .ok (.getfield 28, 3) := by decide +kernel
theorem dX10_tenures_4 : decode cX10_tenures 4 = .ok (.iload_n 1, 1) := by decide +kernel
theorem dX10_tenures_5 : decode cX10_tenures 5 = .ok (.invokevirtual 201, 3) := by decide +kernel
theorem dX10_tenures_8 : decode cX10_tenures 8 = .ok (.ifCond .ne 9, 3) := by decide +kernel
theorem dX10_tenures_11 : decode cX10_tenures 11 = .ok (.aload_n 0, 1) := by decide +kernel
theorem dX10_tenures_12 : decode cX10_tenures 12 = .ok (.iconst 1, 1) := by decide +kernel
theorem dX10_tenures_13 : decode cX10_tenures 13 = .ok (.invokevirtual 87, 3) := by decide +kernel
theorem dX10_tenures_16 : decode cX10_tenures 16 = .ok (.ireturn, 1) := by decide +kernel
theorem dX10_tenures_17 : decode cX10_tenures 17 = .ok (.aload_n 0, 1) := by decide +kernel
theorem dX10_tenures_18 : decode cX10_tenures 18 = .ok (.aload_n 0, 1) := by decide +kernel
theorem dX10_tenures_19 : decode cX10_tenures 19 = .ok (.iload_n 1, 1) := by decide +kernel
theorem dX10_tenures_20 : decode cX10_tenures 20 = .ok (.invokevirtual 204, 3) := by decide +kernel
theorem dX10_tenures_23 : decode cX10_tenures 23 = .ok (.invokevirtual 233, 3) := by decide +kernel
theorem dX10_tenures_26 : decode cX10_tenures 26 = .ok (.invokevirtual 99, 3) := by decide +kernel
theorem dX10_tenures_29 : decode cX10_tenures 29 = .ok (.ireturn, 1) := by decide +kernel
theorem dX10_tenure_0 : decode cX10_tenure 0 = .ok (.aload_n 0, 1) := by decide +kernel
theorem dX10_tenure_1 : decode cX10_tenure 1 = .ok (.getfield 28, 3) := by decide +kernel
theorem dX10_tenure_4 : decode cX10_tenure 4 = .ok (.iload_n 1, 1) := by decide +kernel
theorem dX10_tenure_5 : decode cX10_tenure 5 = .ok (.invokevirtual 201, 3) := by decide +kernel
theorem dX10_tenure_8 : decode cX10_tenure 8 = .ok (.ifCond .ne 9, 3) := by decide +kernel
theorem dX10_tenure_11 : decode cX10_tenure 11 = .ok (.aload_n 0, 1) := by decide +kernel
theorem dX10_tenure_12 : decode cX10_tenure 12 = .ok (.iconst 1, 1) := by decide +kernel
theorem dX10_tenure_13 : decode cX10_tenure 13 = .ok (.invokevirtual 87, 3) := by decide +kernel
theorem dX10_tenure_16 : decode cX10_tenure 16 = .ok (.ireturn, 1) := by decide +kernel
theorem dX10_tenure_17 : decode cX10_tenure 17 = .ok (.aload_n 0, 1) := by decide +kernel
theorem dX10_tenure_18 : decode cX10_tenure 18 = .ok (.iload_n 1, 1) := by decide +kernel
theorem dX10_tenure_19 : decode cX10_tenure 19 = .ok (.invokevirtual 204, 3) := by decide +kernel
theorem dX10_tenure_22 : decode cX10_tenure 22 = .ok (.astore 4, 2) := by decide +kernel
theorem dX10_tenure_24 : decode cX10_tenure 24 = .ok (.aload 4, 2) := by decide +kernel
theorem dX10_tenure_26 : decode cX10_tenure 26 = .ok (.iload_n 2, 1) := by decide +kernel
theorem dX10_tenure_27 : decode cX10_tenure 27 = .ok (.invokevirtual 236, 3) := by decide +kernel
theorem dX10_tenure_30 : decode cX10_tenure 30 = .ok (.istore 5, 2) := by decide +kernel
theorem dX10_tenure_32 : decode cX10_tenure 32 = .ok (.iload 5, 2) := by decide +kernel
theorem dX10_tenure_34 : decode cX10_tenure 34 = .ok (.iconst (-1), 1) := by decide +kernel
theorem dX10_tenure_35 : decode cX10_tenure 35 = .ok (.if_icmp .ne 9, 3) := by decide +kernel
theorem dX10_tenure_38 : decode cX10_tenure 38 = .ok (.aload_n 0, 1) := by decide +kernel
theorem dX10_tenure_39 : decode cX10_tenure 39 = .ok (.iconst 1, 1) := by decide +kernel
theorem dX10_tenure_40 : decode cX10_tenure 40 = .ok (.invokevirtual 87, 3) := by decide +kernel
theorem dX10_tenure_43 : decode cX10_tenure 43 = .ok (.ireturn, 1) := by decide +kernel
theorem dX10_tenure_44 : decode cX10_tenure 44 = .ok (.iload_n 3, 1) := by decide +kernel
theorem dX10_tenure_45 : decode cX10_tenure 45 = .ok (.ifCond .ne 15, 3) := by decide +kernel
theorem dX10_tenure_48 : decode cX10_tenure 48 = .ok (.aload_n 0, 1) := by decide +kernel
theorem dX10_tenure_49 : decode cX10_tenure 49 = .ok (.aload 4, 2) := by decide +kernel
theorem dX10_tenure_51 : decode cX10_tenure 51 = .ok (.iload 5, 2) := by decide +kernel
theorem dX10_tenure_53 : decode cX10_tenure 53 = .ok (.invokevirtual 211, 3) := by decide +kernel
theorem dX10_tenure_56 : decode cX10_tenure 56 = .ok (.invokevirtual 99, 3) := by decide +kernel
theorem dX10_tenure_59 : decode cX10_tenure 59 = .ok (.ireturn, 1) := by decide +kernel
theorem dX10_tenure_60 : decode cX10_tenure 60 = .ok (.iload_n 3, 1) := by decide +kernel
theorem dX10_tenure_61 : decode cX10_tenure 61 = .ok (.iconst 1, 1) := by decide +kernel
theorem dX10_tenure_62 : decode cX10_tenure 62 = .ok (.if_icmp .ne 15, 3) := by decide +kernel
theorem dX10_tenure_65 : decode cX10_tenure 65 = .ok (.aload_n 0, 1) := by decide +kernel
theorem dX10_tenure_66 : decode cX10_tenure 66 = .ok (.aload 4, 2) := by decide +kernel
theorem dX10_tenure_68 : decode cX10_tenure 68 = .ok (.iload 5, 2) := by decide +kernel
theorem dX10_tenure_70 : decode cX10_tenure 70 = .ok (.invokevirtual 214, 3) := by decide +kernel
theorem dX10_tenure_73 : decode cX10_tenure 73 = .ok (.invokevirtual 99, 3) := by decide +kernel
theorem dX10_tenure_76 : decode cX10_tenure 76 = .ok (.ireturn, 1) := by decide +kernel
theorem dX10_tenure_77 : decode cX10_tenure 77 = .ok (.aload_n 0, 1) := by decide +kernel
theorem dX10_tenure_78 : decode cX10_tenure 78 = .ok (.iconst 3, 1) := by decide +kernel
theorem dX10_tenure_79 : decode cX10_tenure 79 = .ok (.invokevirtual 87, 3) := by decide +kernel
theorem dX10_tenure_82 : decode cX10_tenure 82 = .ok (.ireturn, 1) := by decide +kernel
theorem dX10_status_0 : decode cX10_status 0 = .ok (.aload_n 0, 1) := by decide +kernel
theorem dX10_status_1 : decode cX10_status 1 = .ok (.getfield 70, 3) := by decide +kernel
theorem dX10_status_4 : decode cX10_status 4 = .ok (.ireturn, 1) := by decide +kernel
theorem dX10_accept_0 : decode cX10_accept 0 = .ok (.aload_n 0, 1) := by decide +kernel
theorem dX10_accept_1 : decode cX10_accept 1 = .ok (.iconst 0, 1) := by decide +kernel
theorem dX10_accept_2 : decode cX10_accept 2 = .ok (.putfield 70, 3) := by decide +kernel
theorem dX10_accept_5 : decode cX10_accept 5 = .ok (.iload_n 1, 1) := by decide +kernel
theorem dX10_accept_6 : decode cX10_accept 6 = .ok (.ireturn, 1) := by decide +kernel
theorem dX10_refuse_0 : decode cX10_refuse 0 = .ok (.aload_n 0, 1) := by decide +kernel
theorem dX10_refuse_1 : decode cX10_refuse 1 = .ok (.iload_n 1, 1) := by decide +kernel
theorem dX10_refuse_2 : decode cX10_refuse 2 = .ok (.putfield 70, 3) := by decide +kernel
theorem dX10_refuse_5 : decode cX10_refuse 5 = .ok (.bipush (-9), 2) := by decide +kernel
theorem dX10_refuse_7 : decode cX10_refuse 7 = .ok (.ireturn, 1) := by decide +kernel
theorem dX10_isDay_0 : decode cX10_isDay 0 = .ok (.iload_n 0, 1) := by decide +kernel
theorem dX10_isDay_1 : decode cX10_isDay 1 = .ok (.ifCond .lt 13, 3) := by decide +kernel
theorem dX10_isDay_4 : decode cX10_isDay 4 = .ok (.iload_n 0, 1) := by decide +kernel
theorem dX10_isDay_5 : decode cX10_isDay 5 = .ok (.ldc 239, 2) := by decide +kernel
theorem dX10_isDay_7 : decode cX10_isDay 7 = .ok (.if_icmp .gt 7, 3) := by decide +kernel
theorem dX10_isDay_10 : decode cX10_isDay 10 = .ok (.iconst 1, 1) := by decide +kernel
theorem dX10_isDay_11 : decode cX10_isDay 11 = .ok (.goto 4, 3) := by decide +kernel
theorem dX10_isDay_14 : decode cX10_isDay 14 = .ok (.iconst 0, 1) := by decide +kernel
theorem dX10_isDay_15 : decode cX10_isDay 15 = .ok (.ireturn, 1) := by decide +kernel
theorem dX10_isPersonNumber_0 : decode cX10_isPersonNumber 0 = .ok (.iload_n 0, 1) := by decide +kernel
theorem dX10_isPersonNumber_1 : decode cX10_isPersonNumber 1 = .ok (.ifCond .lt 13, 3) := by decide +kernel
theorem dX10_isPersonNumber_4 : decode cX10_isPersonNumber 4 = .ok (.iload_n 0, 1) := by decide +kernel
theorem dX10_isPersonNumber_5 : decode cX10_isPersonNumber 5 = .ok (.bipush 64, 2) := by decide +kernel
theorem dX10_isPersonNumber_7 : decode cX10_isPersonNumber 7 = .ok (.if_icmp .ge 7, 3) := by decide +kernel
theorem dX10_isPersonNumber_10 : decode cX10_isPersonNumber 10 = .ok (.iconst 1, 1) := by decide +kernel
theorem dX10_isPersonNumber_11 : decode cX10_isPersonNumber 11 = .ok (.goto 4, 3) := by decide +kernel
theorem dX10_isPersonNumber_14 : decode cX10_isPersonNumber 14 = .ok (.iconst 0, 1) := by decide +kernel
theorem dX10_isPersonNumber_15 : decode cX10_isPersonNumber 15 = .ok (.ireturn, 1) := by decide +kernel
theorem dX10_firstBrokenBond_0 : decode cX10_firstBrokenBond 0 = .ok (.aload_n 0, 1) := by decide +kernel
theorem dX10_firstBrokenBond_1 : decode cX10_firstBrokenBond 1 = .ok (.getfield 35, 3) := by decide +kernel
theorem dX10_firstBrokenBond_4 : decode cX10_firstBrokenBond 4 = .ok (.aload_n 0, 1) := by decide +kernel
theorem dX10_firstBrokenBond_5 : decode cX10_firstBrokenBond 5 = .ok (.getfield 28, 3) := by decide +kernel
theorem dX10_firstBrokenBond_8 : decode cX10_firstBrokenBond 8 = .ok (.invokevirtual 240, 3) := by decide +kernel
theorem dX10_firstBrokenBond_11 : decode cX10_firstBrokenBond 11 = .ok (.aload_n 0, 1) := by decide +kernel
theorem dX10_firstBrokenBond_12 : decode cX10_firstBrokenBond 12 = .ok (.getfield 42, 3) := by decide +kernel
theorem dX10_firstBrokenBond_15 : decode cX10_firstBrokenBond 15 = .ok (.aload_n 0, 1) := by decide +kernel
theorem dX10_firstBrokenBond_16 : decode cX10_firstBrokenBond 16 = .ok (.getfield 28, 3) := by decide +kernel
theorem dX10_firstBrokenBond_19 : decode cX10_firstBrokenBond 19 = .ok (.aload_n 0, 1) := by decide +kernel
theorem dX10_firstBrokenBond_20 : decode cX10_firstBrokenBond 20 = .ok (.getfield 35, 3) := by decide +kernel
theorem dX10_firstBrokenBond_23 : decode cX10_firstBrokenBond 23 = .ok (.invokevirtual 244, 3) := by decide +kernel
theorem dX10_firstBrokenBond_26 : decode cX10_firstBrokenBond 26 = .ok (.aload_n 0, 1) := by decide +kernel
theorem dX10_firstBrokenBond_27 : decode cX10_firstBrokenBond 27 = .ok (.getfield 28, 3) := by decide +kernel
theorem dX10_firstBrokenBond_30 : decode cX10_firstBrokenBond 30 = .ok (.aload_n 0, 1) := by decide +kernel
theorem dX10_firstBrokenBond_31 : decode cX10_firstBrokenBond 31 = .ok (.getfield 35, 3) := by decide +kernel
theorem dX10_firstBrokenBond_34 : decode cX10_firstBrokenBond 34 = .ok (.aload_n 0, 1) := by decide +kernel
theorem dX10_firstBrokenBond_35 : decode cX10_firstBrokenBond 35 = .ok (.getfield 42, 3) := by decide +kernel
theorem dX10_firstBrokenBond_38 : decode cX10_firstBrokenBond 38 = .ok (.invokestatic 247, 3) := by decide +kernel
theorem dX10_firstBrokenBond_41 : decode cX10_firstBrokenBond 41 = .ok (.ireturn, 1) := by decide +kernel
theorem dX10_settle_0 : decode cX10_settle 0 = .ok (.aload_n 0, 1) := by decide +kernel
theorem dX10_settle_1 : decode cX10_settle 1 = .ok (.getfield 35, 3) := by decide +kernel
theorem dX10_settle_4 : decode cX10_settle 4 = .ok (.aload_n 0, 1) := by decide +kernel
theorem dX10_settle_5 : decode cX10_settle 5 = .ok (.getfield 28, 3) := by decide +kernel
theorem dX10_settle_8 : decode cX10_settle 8 = .ok (.invokevirtual 240, 3) := by decide +kernel
theorem dX10_settle_11 : decode cX10_settle 11 = .ok (.aload_n 0, 1) := by decide +kernel
theorem dX10_settle_12 : decode cX10_settle 12 = .ok (.getfield 42, 3) := by decide +kernel
theorem dX10_settle_15 : decode cX10_settle 15 = .ok (.aload_n 0, 1) := by decide +kernel
theorem dX10_settle_16 : decode cX10_settle 16 = .ok (.getfield 28, 3) := by decide +kernel
theorem dX10_settle_19 : decode cX10_settle 19 = .ok (.aload_n 0, 1) := by decide +kernel
theorem dX10_settle_20 : decode cX10_settle 20 = .ok (.getfield 35, 3) := by decide +kernel
theorem dX10_settle_23 : decode cX10_settle 23 = .ok (.invokevirtual 244, 3) := by decide +kernel
theorem dX10_settle_26 : decode cX10_settle 26 = .ok (.aload_n 0, 1) := by decide +kernel
theorem dX10_settle_27 : decode cX10_settle 27 = .ok (.getfield 51, 3) := by decide +kernel
theorem dX10_settle_30 : decode cX10_settle 30 = .ok (.aload_n 0, 1) := by decide +kernel
theorem dX10_settle_31 : decode cX10_settle 31 = .ok (.getfield 42, 3) := by decide +kernel
theorem dX10_settle_34 : decode cX10_settle 34 = .ok (.invokevirtual 253, 3) := by decide +kernel
theorem dX10_settle_37 : decode cX10_settle 37 = .ok (.aload_n 0, 1) := by decide +kernel
theorem dX10_settle_38 : decode cX10_settle 38 = .ok (.getfield 60, 3) := by decide +kernel
theorem dX10_settle_41 : decode cX10_settle 41 = .ok (.invokevirtual 256, 3) := by decide +kernel
theorem dX10_settle_44 : decode cX10_settle 44 = .ok (.iconst 0, 1) := by decide +kernel
theorem dX10_settle_45 : decode cX10_settle 45 = .ok (.istore_n 1, 1) := by decide +kernel
theorem dX10_settle_46 : decode cX10_settle 46 = .ok (.iload_n 1, 1) := by decide +kernel
theorem dX10_settle_47 : decode cX10_settle 47 = .ok (.bipush 8, 2) := by decide +kernel
theorem dX10_settle_49 : decode cX10_settle 49 = .ok (.if_icmp .ge 18, 3) := by decide +kernel
theorem dX10_settle_52 : decode cX10_settle 52 = .ok (.aload_n 0, 1) := by decide +kernel
theorem dX10_settle_53 : decode cX10_settle 53 = .ok (.getfield 66, 3) := by decide +kernel
theorem dX10_settle_56 : decode cX10_settle 56 = .ok (.iload_n 1, 1) := by decide +kernel
theorem dX10_settle_57 : decode cX10_settle 57 = .ok (.aaload, 1) := by decide +kernel
theorem dX10_settle_58 : decode cX10_settle 58 = .ok (.invokevirtual 259, 3) := by decide +kernel
theorem dX10_settle_61 : decode cX10_settle 61 = .ok (.iinc 1 1, 3) := by decide +kernel
theorem dX10_settle_64 : decode cX10_settle 64 = .ok (.goto (-18), 3) := by decide +kernel
theorem dX10_settle_67 : decode cX10_settle 67 = .ok (.return_, 1) := by decide +kernel
theorem dX10_courseOf_0 : decode cX10_courseOf 0 = .ok (.aload_n 0, 1) := by decide +kernel
theorem dX10_courseOf_1 : decode cX10_courseOf 1 = .ok (.getfield 66, 3) := by decide +kernel
theorem dX10_courseOf_4 : decode cX10_courseOf 4 = .ok (.iload_n 1, 1) := by decide +kernel
theorem dX10_courseOf_5 : decode cX10_courseOf 5 = .ok (.aaload, 1) := by decide +kernel
theorem dX10_courseOf_6 : decode cX10_courseOf 6 = .ok (.astore_n 2, 1) := by decide +kernel
theorem dX10_courseOf_7 : decode cX10_courseOf 7 = .ok (.aload_n 2, 1) := by decide +kernel
theorem dX10_courseOf_8 : decode cX10_courseOf 8 = .ok (.invokevirtual 260, 3) := by decide +kernel
theorem dX10_courseOf_11 : decode cX10_courseOf 11 = .ok (.ifCond .eq 5, 3) := by decide +kernel
theorem dX10_courseOf_14 : decode cX10_courseOf 14 = .ok (.aload_n 2, 1) := by decide +kernel
theorem dX10_courseOf_15 : decode cX10_courseOf 15 = .ok (.areturn, 1) := by decide +kernel
theorem dX10_courseOf_16 : decode cX10_courseOf 16 = .ok (.aload_n 2, 1) := by decide +kernel
theorem dX10_courseOf_17 : decode cX10_courseOf 17 = .ok (.invokevirtual 263, 3) := by decide +kernel
theorem dX10_courseOf_20 : decode cX10_courseOf 20 = .ok (.istore_n 3, 1) := by decide +kernel
theorem dX10_courseOf_21 : decode cX10_courseOf 21 = .ok (.iconst 0, 1) := by decide +kernel
theorem dX10_courseOf_22 : decode cX10_courseOf 22 = .ok (.istore 4, 2) := by decide +kernel
theorem dX10_courseOf_24 : decode cX10_courseOf 24 = .ok (.iload 4, 2) := by decide +kernel
theorem dX10_courseOf_26 : decode cX10_courseOf 26 = .ok (.sipush 200, 3) := by decide +kernel
theorem dX10_courseOf_29 : decode cX10_courseOf 29 = .ok (.if_icmp .ge 25, 3) := by decide +kernel
theorem dX10_courseOf_32 : decode cX10_courseOf 32 = .ok (.iload_n 3, 1) := by decide +kernel
theorem dX10_courseOf_33 : decode cX10_courseOf 33 = .ok (.iconst (-1), 1) := by decide +kernel
theorem dX10_courseOf_34 : decode cX10_courseOf 34 = .ok (.if_icmp .eq 20, 3) := by decide +kernel
theorem dX10_courseOf_37 : decode cX10_courseOf 37 = .ok (.aload_n 2, 1) := by decide +kernel
theorem dX10_courseOf_38 : decode cX10_courseOf 38 = .ok (.iload_n 3, 1) := by decide +kernel
theorem dX10_courseOf_39 : decode cX10_courseOf 39 = .ok (.invokevirtual 266, 3) := by decide +kernel
theorem dX10_courseOf_42 : decode cX10_courseOf 42 = .ok (.aload_n 2, 1) := by decide +kernel
theorem dX10_courseOf_43 : decode cX10_courseOf 43 = .ok (.iload_n 3, 1) := by decide +kernel
theorem dX10_courseOf_44 : decode cX10_courseOf 44 = .ok (.invokevirtual 269, 3) := by decide +kernel
theorem dX10_courseOf_47 : decode cX10_courseOf 47 = .ok (.istore_n 3, 1) := by decide +kernel
theorem dX10_courseOf_48 : decode cX10_courseOf 48 = .ok (.iinc 4 1, 3) := by decide +kernel
theorem dX10_courseOf_51 : decode cX10_courseOf 51 = .ok (.goto (-27), 3) := by decide +kernel
theorem dX10_courseOf_54 : decode cX10_courseOf 54 = .ok (.aload_n 2, 1) := by decide +kernel
theorem dX10_courseOf_55 : decode cX10_courseOf 55 = .ok (.areturn, 1) := by decide +kernel
