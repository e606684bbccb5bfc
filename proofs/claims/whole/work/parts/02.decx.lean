theorem dJ0_toCharArray_70df3_0 : decode cJ0_toCharArray_70df3 0 = .ok (.aload_n 0, 1) := by decide +kernel
theorem dJ0_toCharArray_70df3_1 : decode cJ0_toCharArray_70df3 1 = .ok (.invokevirtual 492, 3) := by decide +kernel
theorem dJ0_toCharArray_70df3_4 : decode cJ0_toCharArray_70df3 4 = .ok (.ifCond .eq 13, 3) := by decide +kernel
theorem dJ0_toCharArray_70df3_7 : decode cJ0_toCharArray_70df3 7 = .ok (.aload_n 0, 1) := by decide +kernel
theorem dJ0_toCharArray_70df3_8 : decode cJ0_toCharArray_70df3 8 = .ok (.getfield 9, 3) := by decide +kernel
theorem dJ0_toCharArray_70df3_11 : decode cJ0_toCharArray_70df3 11 = .ok (.invokestatic 299, 3) := by decide +kernel
theorem dJ0_toCharArray_70df3_14 : decode cJ0_toCharArray_70df3 14 = .ok (.goto 10, 3) := by decide +kernel
theorem dJ0_toCharArray_70df3_17 : decode cJ0_toCharArray_70df3 17 = .ok (.aload_n 0, 1) := by decide +kernel
theorem dJ0_toCharArray_70df3_18 : decode cJ0_toCharArray_70df3 18 = .ok (.getfield 9, 3) := by decide +kernel
theorem dJ0_toCharArray_70df3_21 : decode cJ0_toCharArray_70df3 21 = .ok (.invokestatic 303, 3) := by decide +kernel
theorem dJ0_toCharArray_70df3_24 : decode cJ0_toCharArray_70df3 24 = .ok (.areturn, 1) := by decide +kernel
theorem dJ0_isLatin1_aae02_0 : decode cJ0_isLatin1_aae02 0 = .ok (.getstatic 38, 3) := by decide +kernel
theorem dJ0_isLatin1_aae02_3 : decode cJ0_isLatin1_aae02 3 = .ok (.ifCond .eq 14, 3) := by decide +kernel
theorem dJ0_isLatin1_aae02_6 : decode cJ0_isLatin1_aae02 6 = .ok (.aload_n 0, 1) := by decide +kernel
theorem dJ0_isLatin1_aae02_7 : decode cJ0_isLatin1_aae02 7 = .ok (.getfield 15, 3) := by decide +kernel
theorem dJ0_isLatin1_aae02_10 : decode cJ0_isLatin1_aae02 10 = .ok (.ifCond .ne 7, 3) := by decide +kernel
theorem dJ0_isLatin1_aae02_13 : decode cJ0_isLatin1_aae02 13 = .ok (.iconst 1, 1) := by decide +kernel
theorem dJ0_isLatin1_aae02_14 : decode cJ0_isLatin1_aae02 14 = .ok (.goto 4, 3) := by decide +kernel
theorem dJ0_isLatin1_aae02_17 : decode cJ0_isLatin1_aae02 17 = .ok (.iconst 0, 1) := by decide +kernel
theorem dJ0_isLatin1_aae02_18 : decode cJ0_isLatin1_aae02 18 = .ok (.ireturn, 1) := by decide +kernel
theorem dJ0_checkBoundsOffCount_cabcc_0 : decode cJ0_checkBoundsOffCount_cabcc 0 = .ok (.iload_n 0, 1) := by decide +kernel
theorem dJ0_checkBoundsOffCount_cabcc_1 : decode cJ0_checkBoundsOffCount_cabcc 1 = .ok (.iload_n 1, 1) := by decide +kernel
theorem dJ0_checkBoundsOffCount_cabcc_2 : decode cJ0_checkBoundsOffCount_cabcc 2 = .ok (.iload_n 2, 1) := by decide +kernel
theorem dJ0_checkBoundsOffCount_cabcc_3 : decode cJ0_checkBoundsOffCount_cabcc 3 = .ok (.getstatic 1053, 3) := by decide +kernel
theorem dJ0_checkBoundsOffCount_cabcc_6 : decode cJ0_checkBoundsOffCount_cabcc 6 = .ok (.invokestatic 1065, 3) := by decide +kernel
theorem dJ0_checkBoundsOffCount_cabcc_9 : decode cJ0_checkBoundsOffCount_cabcc 9 = .ok (.ireturn, 1) := by decide +kernel
theorem dJ1_toChars_9d188_0 : decode cJ1_toChars_9d188 0 = .ok (.aload_n 0, 1) := by decide +kernel
theorem dJ1_toChars_9d188_1 : decode cJ1_toChars_9d188 1 = .ok (.arraylength, 1) := by decide +kernel
theorem dJ1_toChars_9d188_2 : decode cJ1_toChars_9d188 2 = .ok (.newarray .char, 2) := by decide +kernel
theorem dJ1_toChars_9d188_4 : decode cJ1_toChars_9d188 4 = .ok (.astore_n 1, 1) := by decide +kernel
theorem dJ1_toChars_9d188_5 : decode cJ1_toChars_9d188 5 = .ok (.aload_n 0, 1) := by decide +kernel
theorem dJ1_toChars_9d188_6 : decode cJ1_toChars_9d188 6 = .ok (.iconst 0, 1) := by decide +kernel
theorem dJ1_toChars_9d188_7 : decode cJ1_toChars_9d188 7 = .ok (.aload_n 1, 1) := by decide +kernel
theorem dJ1_toChars_9d188_8 : decode cJ1_toChars_9d188 8 = .ok (.iconst 0, 1) := by decide +kernel
theorem dJ1_toChars_9d188_9 : decode cJ1_toChars_9d188 9 = .ok (.aload_n 0, 1) := by decide +kernel
theorem dJ1_toChars_9d188_10 : decode cJ1_toChars_9d188 10 = .ok (.arraylength, 1) := by decide +kernel
theorem dJ1_toChars_9d188_11 : decode cJ1_toChars_9d188 11 = .ok (.invokestatic 13, 3) := by decide +kernel
theorem dJ1_toChars_9d188_14 : decode cJ1_toChars_9d188 14 = .ok (.aload_n 1, 1) := by decide +kernel
theorem dJ1_toChars_9d188_15 : decode cJ1_toChars_9d188 15 = .ok (.areturn, 1) := by decide +kernel
theorem dJ1_inflate_03870_0 : decode cJ1_inflate_03870 0 = .ok (.iconst 0, 1) := by decide +kernel
theorem dJ1_inflate_03870_1 : decode cJ1_inflate_03870 1 = .ok (.istore 5, 2) := by decide +kernel
theorem dJ1_inflate_03870_3 : decode cJ1_inflate_03870 3 = .ok (.iload 5, 2) := by decide +kernel
theorem dJ1_inflate_03870_5 : decode cJ1_inflate_03870 5 = .ok (.iload 4, 2) := by decide +kernel
theorem dJ1_inflate_03870_7 : decode cJ1_inflate_03870 7 = .ok (.if_icmp .ge 26, 3) := by decide +kernel
theorem dJ1_inflate_03870_10 : decode cJ1_inflate_03870 10 = .ok (.aload_n 2, 1) := by decide +kernel
theorem dJ1_inflate_03870_11 : decode cJ1_inflate_03870 11 = .ok (.iload_n 3, 1) := by decide +kernel
theorem dJ1_inflate_03870_12 : decode cJ1_inflate_03870 12 = .ok (.iinc 3 1, 3) := by decide +kernel
theorem dJ1_inflate_03870_15 : decode cJ1_inflate_03870 15 = .ok (.aload_n 0, 1) := by decide +kernel
theorem dJ1_inflate_03870_16 : decode cJ1_inflate_03870 16 = .ok (.iload_n 1, 1) := by decide +kernel
theorem dJ1_inflate_03870_17 : decode cJ1_inflate_03870 17 = .ok (.iinc 1 1, 3) := by decide +kernel
theorem dJ1_inflate_03870_20 : decode cJ1_inflate_03870 20 = .ok (.baload, 1) := by decide +kernel
theorem dJ1_inflate_03870_21 : decode cJ1_inflate_03870 21 = .ok (.sipush 255, 3) := by decide +kernel
theorem dJ1_inflate_03870_24 : decode cJ1_inflate_03870 24 = .ok (.iand, 1) := by decide +kernel
theorem dJ1_inflate_03870_25 : decode cJ1_inflate_03870 25 = .ok (.i2c, 1) := by decide +kernel
theorem dJ1_inflate_03870_26 : decode cJ1_inflate_03870 26 = .ok (.castore, 1) := by decide +kernel
theorem dJ1_inflate_03870_27 : decode cJ1_inflate_03870 27 = .ok (.iinc 5 1, 3) := by decide +kernel
theorem dJ1_inflate_03870_30 : decode cJ1_inflate_03870 30 = .ok (.goto (-27), 3) := by decide +kernel
theorem dJ1_inflate_03870_33 : decode cJ1_inflate_03870 33 = .ok (.return_, 1) := by decide +kernel
theorem dJ2_getChar_3b067_0 : decode cJ2_getChar_3b067 0 = .ok (.getstatic 44, 3) := by decide +kernel
theorem dJ2_getChar_3b067_3 : decode cJ2_getChar_3b067 3 = .ok (.ifCond .ne 25, 3) := by decide +kernel
theorem dJ2_getChar_3b067_6 : decode cJ2_getChar_3b067 6 = .ok (.iload_n 1, 1) := by decide +kernel
theorem dJ2_getChar_3b067_7 : decode cJ2_getChar_3b067 7 = .ok (.ifCond .lt 11, 3) := by decide +kernel
theorem dJ2_getChar_3b067_10 : decode cJ2_getChar_3b067 10 = .ok (.iload_n 1, 1) := by decide +kernel
theorem dJ2_getChar_3b067_11 : decode cJ2_getChar_3b067 11 = .ok (.aload_n 0, 1) := by decide +kernel
theorem dJ2_getChar_3b067_12 : decode cJ2_getChar_3b067 12 = .ok (.invokestatic 48, 3) := by decide +kernel
theorem dJ2_getChar_3b067_15 : decode cJ2_getChar_3b067 15 = .ok (.if_icmp .lt 13, 3) := by decide +kernel
theorem dJ2_getChar_3b067_18 : decode cJ2_getChar_3b067 18 = .ok (.new 52, 3) := by decide +kernel
theorem dJ2_getChar_3b067_21 : decode cJ2_getChar_3b067 21 = .ok (.dup, 1) := by decide +kernel
theorem dJ2_getChar_3b067_22 : decode cJ2_getChar_3b067 22 = .ok (.ldc 54, 2) := by decide +kernel
theorem dJ2_getChar_3b067_24 : decode cJ2_getChar_3b067 24 = .ok (.invokespecial 56, 3) := by decide +kernel
theorem dJ2_getChar_3b067_27 : decode cJ2_getChar_3b067 27 = .ok (.athrow, 1) := by decide +kernel
theorem dJ2_getChar_3b067_28 : decode cJ2_getChar_3b067 28 = .ok (.iload_n 1, 1) := by decide +kernel
theorem dJ2_getChar_3b067_29 : decode cJ2_getChar_3b067 29 = .ok (.iconst 1, 1) := by decide +kernel
theorem dJ2_getChar_3b067_30 : decode cJ2_getChar_3b067 30 = .ok (.ishl, 1) := by decide +kernel
theorem dJ2_getChar_3b067_31 : decode cJ2_getChar_3b067 31 = .ok (.istore_n 1, 1) := by decide +kernel
theorem dJ2_getChar_3b067_32 : decode cJ2_getChar_3b067 32 = .ok (.aload_n 0, 1) := by decide +kernel
theorem dJ2_getChar_3b067_33 : decode cJ2_getChar_3b067 33 = .ok (.iload_n 1, 1) := by decide +kernel
theorem dJ2_getChar_3b067_34 : decode cJ2_getChar_3b067 34 = .ok (.iinc 1 1, 3) := by decide +kernel
theorem dJ2_getChar_3b067_37 : decode cJ2_getChar_3b067 37 = .ok (.baload, 1) := by decide +kernel
theorem dJ2_getChar_3b067_38 : decode cJ2_getChar_3b067 38 = .ok (.sipush 255, 3) := by decide +kernel
theorem dJ2_getChar_3b067_41 : decode cJ2_getChar_3b067 41 = .ok (.iand, 1) := by decide +kernel
theorem dJ2_getChar_3b067_42 : decode cJ2_getChar_3b067 42 = .ok (.getstatic 59, 3) := by decide +kernel
theorem dJ2_getChar_3b067_45 : decode cJ2_getChar_3b067 45 = .ok (.ishl, 1) := by decide +kernel
theorem dJ2_getChar_3b067_46 : decode cJ2_getChar_3b067 46 = .ok (.aload_n 0, 1) := by decide +kernel
theorem dJ2_getChar_3b067_47 : decode cJ2_getChar_3b067 47 = .ok (.iload_n 1, 1) := by decide +kernel
theorem dJ2_getChar_3b067_48 : decode cJ2_getChar_3b067 48 = .ok (.baload, 1) := by decide +kernel
theorem dJ2_getChar_3b067_49 : decode cJ2_getChar_3b067 49 = .ok (.sipush 255, 3) := by decide +kernel
theorem dJ2_getChar_3b067_52 : decode cJ2_getChar_3b067 52 = .ok (.iand, 1) := by decide +kernel
theorem dJ2_getChar_3b067_53 : decode cJ2_getChar_3b067 53 = .ok (.getstatic 63, 3) := by decide +kernel
theorem dJ2_getChar_3b067_56 : decode cJ2_getChar_3b067 56 = .ok (.ishl, 1) := by decide +kernel
theorem dJ2_getChar_3b067_57 : decode cJ2_getChar_3b067 57 = .ok (.ior, 1) := by decide +kernel
theorem dJ2_getChar_3b067_58 : decode cJ2_getChar_3b067 58 = .ok (.i2c, 1) := by decide +kernel
theorem dJ2_getChar_3b067_59 : decode cJ2_getChar_3b067 59 = .ok (.ireturn, 1) := by decide +kernel
theorem dJ2_length_9d52b_0 : decode cJ2_length_9d52b 0 = .ok (.aload_n 0, 1) := by decide +kernel
theorem dJ2_length_9d52b_1 : decode cJ2_length_9d52b 1 = .ok (.arraylength, 1) := by decide +kernel
theorem dJ2_length_9d52b_2 : decode cJ2_length_9d52b 2 = .ok (.iconst 1, 1) := by decide +kernel
theorem dJ2_length_9d52b_3 : decode cJ2_length_9d52b 3 = .ok (.ishr, 1) := by decide +kernel
theorem dJ2_length_9d52b_4 : decode cJ2_length_9d52b 4 = .ok (.ireturn, 1) := by decide +kernel
theorem dJ2_toChars_9d188_0 : decode cJ2_toChars_9d188 0 = .ok (.aload_n 0, 1) := by decide +kernel
theorem dJ2_toChars_9d188_1 : decode cJ2_toChars_9d188 1 = .ok (.arraylength, 1) := by decide +kernel
theorem dJ2_toChars_9d188_2 : decode cJ2_toChars_9d188 2 = .ok (.iconst 1, 1) := by decide +kernel
theorem dJ2_toChars_9d188_3 : decode cJ2_toChars_9d188 3 = .ok (.ishr, 1) := by decide +kernel
theorem dJ2_toChars_9d188_4 : decode cJ2_toChars_9d188 4 = .ok (.newarray .char, 2) := by decide +kernel
theorem dJ2_toChars_9d188_6 : decode cJ2_toChars_9d188 6 = .ok (.astore_n 1, 1) := by decide +kernel
theorem dJ2_toChars_9d188_7 : decode cJ2_toChars_9d188 7 = .ok (.aload_n 0, 1) := by decide +kernel
theorem dJ2_toChars_9d188_8 : decode cJ2_toChars_9d188 8 = .ok (.iconst 0, 1) := by decide +kernel
theorem dJ2_toChars_9d188_9 : decode cJ2_toChars_9d188 9 = .ok (.aload_n 1, 1) := by decide +kernel
theorem dJ2_toChars_9d188_10 : decode cJ2_toChars_9d188 10 = .ok (.arraylength, 1) := by decide +kernel
theorem dJ2_toChars_9d188_11 : decode cJ2_toChars_9d188 11 = .ok (.aload_n 1, 1) := by decide +kernel
theorem dJ2_toChars_9d188_12 : decode cJ2_toChars_9d188 12 = .ok (.iconst 0, 1) := by decide +kernel
theorem dJ2_toChars_9d188_13 : decode cJ2_toChars_9d188 13 = .ok (.invokestatic 103, 3) := by decide +kernel
theorem dJ2_toChars_9d188_16 : decode cJ2_toChars_9d188 16 = .ok (.aload_n 1, 1) := by decide +kernel
theorem dJ2_toChars_9d188_17 : decode cJ2_toChars_9d188 17 = .ok (.areturn, 1) := by decide +kernel
theorem dJ2_getChars_a1a8b_0 : decode cJ2_getChars_a1a8b 0 = .ok (.iload_n 1, 1) := by decide +kernel
theorem dJ2_getChars_a1a8b_1 : decode cJ2_getChars_a1a8b 1 = .ok (.iload_n 2, 1) := by decide +kernel
theorem dJ2_getChars_a1a8b_2 : decode cJ2_getChars_a1a8b 2 = .ok (.if_icmp .ge 11, 3) := by decide +kernel
theorem dJ2_getChars_a1a8b_5 : decode cJ2_getChars_a1a8b 5 = .ok (.iload_n 1, 1) := by decide +kernel
theorem dJ2_getChars_a1a8b_6 : decode cJ2_getChars_a1a8b 6 = .ok (.iload_n 2, 1) := by decide +kernel
theorem dJ2_getChars_a1a8b_7 : decode cJ2_getChars_a1a8b 7 = .ok (.iload_n 1, 1) := by decide +kernel
theorem dJ2_getChars_a1a8b_8 : decode cJ2_getChars_a1a8b 8 = .ok (.isub, 1) := by decide +kernel
theorem dJ2_getChars_a1a8b_9 : decode cJ2_getChars_a1a8b 9 = .ok (.aload_n 0, 1) := by decide +kernel
theorem dJ2_getChars_a1a8b_10 : decode cJ2_getChars_a1a8b 10 = .ok (.invokestatic 173, 3) := by decide +kernel
theorem dJ2_getChars_a1a8b_13 : decode cJ2_getChars_a1a8b 13 = .ok (.iload_n 1, 1) := by decide +kernel
theorem dJ2_getChars_a1a8b_14 : decode cJ2_getChars_a1a8b 14 = .ok (.istore 5, 2) := by decide +kernel
theorem dJ2_getChars_a1a8b_16 : decode cJ2_getChars_a1a8b 16 = .ok (.iload 5, 2) := by decide +kernel
theorem dJ2_getChars_a1a8b_18 : decode cJ2_getChars_a1a8b 18 = .ok (.iload_n 2, 1) := by decide +kernel
theorem dJ2_getChars_a1a8b_19 : decode cJ2_getChars_a1a8b 19 = .ok (.if_icmp .ge 22, 3) := by decide +kernel
theorem dJ2_getChars_a1a8b_22 : decode cJ2_getChars_a1a8b 22 = .ok (.aload_n 3, 1) := by decide +kernel
theorem dJ2_getChars_a1a8b_23 : decode cJ2_getChars_a1a8b 23 = .ok (.iload 4, 2) := by decide +kernel
theorem dJ2_getChars_a1a8b_25 : decode cJ2_getChars_a1a8b 25 = .ok (.iinc 4 1, 3) := by decide +kernel
theorem dJ2_getChars_a1a8b_28 : decode cJ2_getChars_a1a8b 28 = .ok (.aload_n 0, 1) := by decide +kernel
theorem dJ2_getChars_a1a8b_29 : decode cJ2_getChars_a1a8b 29 = .ok (.iload 5, 2) := by decide +kernel
theorem dJ2_getChars_a1a8b_31 : decode cJ2_getChars_a1a8b 31 = .ok (.invokestatic 71, 3) := by decide +kernel
theorem dJ2_getChars_a1a8b_34 : decode cJ2_getChars_a1a8b 34 = .ok (.castore, 1) := by decide +kernel
theorem dJ2_getChars_a1a8b_35 : decode cJ2_getChars_a1a8b 35 = .ok (.iinc 5 1, 3) := by decide +kernel
theorem dJ2_getChars_a1a8b_38 : decode cJ2_getChars_a1a8b 38 = .ok (.goto (-22), 3) := by decide +kernel
theorem dJ2_getChars_a1a8b_41 : decode cJ2_getChars_a1a8b 41 = .ok (.return_, 1) := by decide +kernel
theorem dJ2_checkBoundsOffCount_d044e_0 : decode cJ2_checkBoundsOffCount_d044e 0 = .ok (.iload_n 0, 1) := by decide +kernel
theorem dJ2_checkBoundsOffCount_d044e_1 : decode cJ2_checkBoundsOffCount_d044e 1 = .ok (.iload_n 1, 1) := by decide +kernel
theorem dJ2_checkBoundsOffCount_d044e_2 : decode cJ2_checkBoundsOffCount_d044e 2 = .ok (.aload_n 2, 1) := by decide +kernel
theorem dJ2_checkBoundsOffCount_d044e_3 : decode cJ2_checkBoundsOffCount_d044e 3 = .ok (.invokestatic 48, 3) := by decide +kernel
theorem dJ2_checkBoundsOffCount_d044e_6 : decode cJ2_checkBoundsOffCount_d044e 6 = .ok (.invokestatic 419, 3) := by decide +kernel
theorem dJ2_checkBoundsOffCount_d044e_9 : decode cJ2_checkBoundsOffCount_d044e 9 = .ok (.pop, 1) := by decide +kernel
theorem dJ2_checkBoundsOffCount_d044e_10 : decode cJ2_checkBoundsOffCount_d044e 10 = .ok (.return_, 1) := by decide +kernel
theorem dJ3_checkFromIndexSize_8c36e_0 : decode cJ3_checkFromIndexSize_8c36e 0 = .ok (.iload_n 2, 1) := by decide +kernel
theorem dJ3_checkFromIndexSize_8c36e_1 : decode cJ3_checkFromIndexSize_8c36e 1 = .ok (.iload_n 0, 1) := by decide +kernel
theorem dJ3_checkFromIndexSize_8c36e_2 : decode cJ3_checkFromIndexSize_8c36e 2 = .ok (.ior, 1) := by decide +kernel
theorem dJ3_checkFromIndexSize_8c36e_3 : decode cJ3_checkFromIndexSize_8c36e 3 = .ok (.iload_n 1, 1) := by decide +kernel
theorem dJ3_checkFromIndexSize_8c36e_4 : decode cJ3_checkFromIndexSize_8c36e 4 = .ok (.ior, 1) := by decide +kernel
theorem dJ3_checkFromIndexSize_8c36e_5 : decode cJ3_checkFromIndexSize_8c36e 5 = .ok (.ifCond .lt 10, 3) := by decide +kernel
theorem dJ3_checkFromIndexSize_8c36e_8 : decode cJ3_checkFromIndexSize_8c36e 8 = .ok (.iload_n 1, 1) := by decide +kernel
theorem dJ3_checkFromIndexSize_8c36e_9 : decode cJ3_checkFromIndexSize_8c36e 9 = .ok (.iload_n 2, 1) := by decide +kernel
theorem dJ3_checkFromIndexSize_8c36e_10 : decode cJ3_checkFromIndexSize_8c36e 10 = .ok (.iload_n 0, 1) := by decide +kernel
theorem dJ3_checkFromIndexSize_8c36e_11 : decode cJ3_checkFromIndexSize_8c36e 11 = .ok (.isub, 1) := by decide +kernel
theorem dJ3_checkFromIndexSize_8c36e_12 : decode cJ3_checkFromIndexSize_8c36e 12 = .ok (.if_icmp .le 11, 3) := by decide +kernel
theorem dJ3_checkFromIndexSize_8c36e_15 : decode cJ3_checkFromIndexSize_8c36e 15 = .ok (.aload_n 3, 1) := by decide +kernel
theorem dJ3_checkFromIndexSize_8c36e_16 : decode cJ3_checkFromIndexSize_8c36e 16 = .ok (.iload_n 0, 1) := by decide +kernel
theorem dJ3_checkFromIndexSize_8c36e_17 : decode cJ3_checkFromIndexSize_8c36e 17 = .ok (.iload_n 1, 1) := by decide +kernel
theorem dJ3_checkFromIndexSize_8c36e_18 : decode cJ3_checkFromIndexSize_8c36e 18 = .ok (.iload_n 2, 1) := by decide +kernel
theorem dJ3_checkFromIndexSize_8c36e_19 : decode cJ3_checkFromIndexSize_8c36e 19 = .ok (.invokestatic 103, 3) := by decide +kernel
theorem dJ3_checkFromIndexSize_8c36e_22 : decode cJ3_checkFromIndexSize_8c36e 22 = .ok (.athrow, 1) := by decide +kernel
theorem dJ3_checkFromIndexSize_8c36e_23 : decode cJ3_checkFromIndexSize_8c36e 23 = .ok (.iload_n 0, 1) := by decide +kernel
theorem dJ3_checkFromIndexSize_8c36e_24 : decode cJ3_checkFromIndexSize_8c36e 24 = .ok (.ireturn, 1) := by decide +kernel
theorem dJ6_bitCount_0f7a4_0 : decode cJ6_bitCount_0f7a4 0 = .ok (.iload_n 0, 1) := by decide +kernel
theorem dJ6_bitCount_0f7a4_1 : decode cJ6_bitCount_0f7a4 1 = .ok (.iload_n 0, 1) := by decide +kernel
theorem dJ6_bitCount_0f7a4_2 : decode cJ6_bitCount_0f7a4 2 = .ok (.iconst 1, 1) := by decide +kernel
theorem dJ6_bitCount_0f7a4_3 : decode cJ6_bitCount_0f7a4 3 = .ok (.iushr, 1) := by decide +kernel
theorem dJ6_bitCount_0f7a4_4 : decode cJ6_bitCount_0f7a4 4 = .ok (.ldc_w 265, 3) := by decide +kernel
theorem dJ6_bitCount_0f7a4_7 : decode cJ6_bitCount_0f7a4 7 = .ok (.iand, 1) := by decide +kernel
theorem dJ6_bitCount_0f7a4_8 : decode cJ6_bitCount_0f7a4 8 = .ok (.isub, 1) := by decide +kernel
theorem dJ6_bitCount_0f7a4_9 : decode cJ6_bitCount_0f7a4 9 = .ok (.istore_n 0, 1) := by decide +kernel
theorem dJ6_bitCount_0f7a4_10 : decode cJ6_bitCount_0f7a4 10 = .ok (.iload_n 0, 1) := by decide +kernel
theorem dJ6_bitCount_0f7a4_11 : decode cJ6_bitCount_0f7a4 11 = .ok (.ldc_w 266, 3) := by decide +kernel
theorem dJ6_bitCount_0f7a4_14 : decode cJ6_bitCount_0f7a4 14 = .ok (.iand, 1) := by decide +kernel
theorem dJ6_bitCount_0f7a4_15 : decode cJ6_bitCount_0f7a4 15 = .ok (.iload_n 0, 1) := by decide +kernel
theorem dJ6_bitCount_0f7a4_16 : decode cJ6_bitCount_0f7a4 16 = .ok (.iconst 2, 1) := by decide +kernel
theorem dJ6_bitCount_0f7a4_17 : decode cJ6_bitCount_0f7a4 17 = .ok (.iushr, 1) := by decide +kernel
theorem dJ6_bitCount_0f7a4_18 : decode cJ6_bitCount_0f7a4 18 = .ok (.ldc_w 266, 3) := by decide +kernel
theorem dJ6_bitCount_0f7a4_21 : decode cJ6_bitCount_0f7a4 21 = .ok (.iand, 1) := by decide +kernel
theorem dJ6_bitCount_0f7a4_22 : decode cJ6_bitCount_0f7a4 22 = .ok (.iadd, 1) := by decide +kernel
theorem dJ6_bitCount_0f7a4_23 : decode cJ6_bitCount_0f7a4 23 = .ok (.istore_n 0, 1) := by decide +kernel
theorem dJ6_bitCount_0f7a4_24 : decode cJ6_bitCount_0f7a4 24 = .ok (.iload_n 0, 1) := by decide +kernel
theorem dJ6_bitCount_0f7a4_25 : decode cJ6_bitCount_0f7a4 25 = .ok (.iload_n 0, 1) := by decide +kernel
theorem dJ6_bitCount_0f7a4_26 : decode cJ6_bitCount_0f7a4 26 = .ok (.iconst 4, 1) := by decide +kernel
theorem dJ6_bitCount_0f7a4_27 : decode cJ6_bitCount_0f7a4 27 = .ok (.iushr, 1) := by decide +kernel
theorem dJ6_bitCount_0f7a4_28 : decode cJ6_bitCount_0f7a4 28 = .ok (.iadd, 1) := by decide +kernel
theorem dJ6_bitCount_0f7a4_29 : decode cJ6_bitCount_0f7a4 29 = .ok (.ldc_w 267, 3) := by decide +kernel
theorem dJ6_bitCount_0f7a4_32 : decode cJ6_bitCount_0f7a4 32 = .ok (.iand, 1) := by decide +kernel
theorem dJ6_bitCount_0f7a4_33 : decode cJ6_bitCount_0f7a4 33 = .ok (.istore_n 0, 1) := by decide +kernel
theorem dJ6_bitCount_0f7a4_34 : decode cJ6_bitCount_0f7a4 34 = .ok (.iload_n 0, 1) := by decide +kernel
theorem dJ6_bitCount_0f7a4_35 : decode cJ6_bitCount_0f7a4 35 = .ok (.iload_n 0, 1) := by decide +kernel
theorem dJ6_bitCount_0f7a4_36 : decode cJ6_bitCount_0f7a4 36 = .ok (.bipush 8, 2) := by decide +kernel
theorem dJ6_bitCount_0f7a4_38 : decode cJ6_bitCount_0f7a4 38 = .ok (.iushr, 1) := by decide +kernel
theorem dJ6_bitCount_0f7a4_39 : decode cJ6_bitCount_0f7a4 39 = .ok (.iadd, 1) := by decide +kernel
theorem dJ6_bitCount_0f7a4_40 : decode cJ6_bitCount_0f7a4 40 = .ok (.istore_n 0, 1) := by decide +kernel
theorem dJ6_bitCount_0f7a4_41 : decode cJ6_bitCount_0f7a4 41 = .ok (.iload_n 0, 1) := by decide +kernel
theorem dJ6_bitCount_0f7a4_42 : decode cJ6_bitCount_0f7a4 42 = .ok (.iload_n 0, 1) := by decide +kernel
theorem dJ6_bitCount_0f7a4_43 : decode cJ6_bitCount_0f7a4 43 = .ok (.bipush 16, 2) := by decide +kernel
theorem dJ6_bitCount_0f7a4_45 : decode cJ6_bitCount_0f7a4 45 = .ok (.iushr, 1) := by decide +kernel
theorem dJ6_bitCount_0f7a4_46 : decode cJ6_bitCount_0f7a4 46 = .ok (.iadd, 1) := by decide +kernel
theorem dJ6_bitCount_0f7a4_47 : decode cJ6_bitCount_0f7a4 47 = .ok (.istore_n 0, 1) := by decide +kernel
theorem dJ6_bitCount_0f7a4_48 : decode cJ6_bitCount_0f7a4 48 = .ok (.iload_n 0, 1) := by decide +kernel
theorem dJ6_bitCount_0f7a4_49 : decode cJ6_bitCount_0f7a4 49 = .ok (.bipush 63, 2) := by decide +kernel
theorem dJ6_bitCount_0f7a4_51 : decode cJ6_bitCount_0f7a4 51 = .ok (.iand, 1) := by decide +kernel
theorem dJ6_bitCount_0f7a4_52 : decode cJ6_bitCount_0f7a4 52 = .ok (.ireturn, 1) := by decide +kernel
theorem dJ9_abs_0f7a4_0 : decode cJ9_abs_0f7a4 0 = .ok (.iload_n 0, 1) := by decide +kernel
theorem dJ9_abs_0f7a4_1 : decode cJ9_abs_0f7a4 1 = .ok (.ifCond .ge 8, 3) := by decide +kernel
theorem dJ9_abs_0f7a4_4 : decode cJ9_abs_0f7a4 4 = .ok (.iload_n 0, 1) := by decide +kernel
theorem dJ9_abs_0f7a4_5 : decode cJ9_abs_0f7a4 5 = .ok (.ineg, 1) := by decide +kernel
theorem dJ9_abs_0f7a4_6 : decode cJ9_abs_0f7a4 6 = .ok (.goto 4, 3) := by decide +kernel
theorem dJ9_abs_0f7a4_9 : decode cJ9_abs_0f7a4 9 = .ok (.iload_n 0, 1) := by decide +kernel
theorem dJ9_abs_0f7a4_10 : decode cJ9_abs_0f7a4 10 = .ok (.ireturn, 1) := by decide +kernel
theorem dJ9_max_7cf53_0 : decode cJ9_max_7cf53 0 = .ok (.iload_n 0, 1) := by decide +kernel
theorem dJ9_max_7cf53_1 : decode cJ9_max_7cf53 1 = .ok (.iload_n 1, 1) := by decide +kernel
theorem dJ9_max_7cf53_2 : decode cJ9_max_7cf53 2 = .ok (.if_icmp .lt 7, 3) := by decide +kernel
theorem dJ9_max_7cf53_5 : decode cJ9_max_7cf53 5 = .ok (.iload_n 0, 1) := by decide +kernel
theorem dJ9_max_7cf53_6 : decode cJ9_max_7cf53 6 = .ok (.goto 4, 3) := by decide +kernel
theorem dJ9_max_7cf53_9 : decode cJ9_max_7cf53 9 = .ok (.iload_n 1, 1) := by decide +kernel
theorem dJ9_max_7cf53_10 : decode cJ9_max_7cf53 10 = .ok (.ireturn, 1) := by decide +kernel
theorem dJ9_min_7cf53_0 : decode cJ9_min_7cf53 0 = .ok (.iload_n 0, 1) := by decide +kernel
theorem dJ9_min_7cf53_1 : decode cJ9_min_7cf53 1 = .ok (.iload_n 1, 1) := by decide +kernel
theorem dJ9_min_7cf53_2 : decode cJ9_min_7cf53 2 = .ok (.if_icmp .gt 7, 3) := by decide +kernel
theorem dJ9_min_7cf53_5 : decode cJ9_min_7cf53 5 = .ok (.iload_n 0, 1) := by decide +kernel
theorem dJ9_min_7cf53_6 : decode cJ9_min_7cf53 6 = .ok (.goto 4, 3) := by decide +kernel
theorem dJ9_min_7cf53_9 : decode cJ9_min_7cf53 9 = .ok (.iload_n 1, 1) := by decide +kernel
theorem dJ9_min_7cf53_10 : decode cJ9_min_7cf53 10 = .ok (.ireturn, 1) := by decide +kernel
theorem dX0_init_0 : decode cX0_init 0 = .ok (.aload_n 0, 1) := by decide +kernel
theorem dX0_init_1 : decode cX0_init 1 = .ok (.invokespecial 3, 3) := by decide +kernel
theorem dX0_init_4 : decode cX0_init 4 = .ok (.aload_n 0, 1) := by decide +kernel
theorem dX0_init_5 : decode cX0_init 5 = .ok (.bipush 100, 2) := by decide +kernel
theorem dX0_init_7 : decode cX0_init 7 = .ok (.newarray .int, 2) := by decide +kernel
theorem dX0_init_9 : decode cX0_init 9 = .ok (.putfield 9, 3) := by decide +kernel
theorem dX0_init_12 : decode cX0_init 12 = .ok (.aload_n 0, 1) := by decide +kernel
theorem dX0_init_13 : decode cX0_init 13 = .ok (.bipush 100, 2) := by decide +kernel
theorem dX0_init_15 : decode cX0_init 15 = .ok (.newarray .int, 2) := by decide +kernel
theorem dX0_init_17 : decode cX0_init 17 = .ok (.putfield 15, 3) := by decide +kernel
theorem dX0_init_20 : decode cX0_init 20 = .ok (.return_, 1) := by decide +kernel
theorem dX0_span_0 : decode cX0_span 0 = .ok (.iconst 0, 1) := by decide +kernel
theorem dX0_span_1 : decode cX0_span 1 = .ok (.istore_n 3, 1) := by decide +kernel
theorem dX0_span_2 : decode cX0_span 2 = .ok (.iload_n 3, 1) := by decide +kernel
theorem dX0_span_3 : decode cX0_span 3 = .ok (.bipush 99, 2) := by decide +kernel
theorem dX0_span_5 : decode cX0_span 5 = .ok (.if_icmp .gt 26, 3) := by decide +kernel
theorem dX0_span_8 : decode cX0_span 8 = .ok (.aload_n 0, 1) := by decide +kernel
theorem dX0_span_9 : decode cX0_span 9 = .ok (.getfield 9, 3) := by decide +kernel
theorem dX0_span_12 : decode cX0_span 12 = .ok (.iload_n 3, 1) := by decide +kernel
theorem dX0_span_13 : decode cX0_span 13 = .ok (.sipush 201, 3) := by decide +kernel
theorem dX0_span_16 : decode cX0_span 16 = .ok (.iastore, 1) := by decide +kernel
theorem dX0_span_17 : decode cX0_span 17 = .ok (.aload_n 0, 1) := by decide +kernel
theorem dX0_span_18 : decode cX0_span 18 = .ok (.getfield 15, 3) := by decide +kernel
theorem dX0_span_21 : decode cX0_span 21 = .ok (.iload_n 3, 1) := by decide +kernel
theorem dX0_span_22 : decode cX0_span 22 = .ok (.bipush (-4), 2) := by decide +kernel
theorem dX0_span_24 : decode cX0_span 24 = .ok (.iastore, 1) := by decide +kernel
theorem dX0_span_25 : decode cX0_span 25 = .ok (.iinc 3 1, 3) := by decide +kernel
theorem dX0_span_28 : decode cX0_span 28 = .ok (.goto (-26), 3) := by decide +kernel
theorem dX0_span_31 : decode cX0_span 31 = .ok (.iconst 0, 1) := by decide +kernel
theorem dX0_span_32 : decode cX0_span 32 = .ok (.istore_n 3, 1) := by decide +kernel
theorem dX0_span_33 : decode cX0_span 33 = .ok (.iload_n 3, 1) := by decide +kernel
theorem dX0_span_34 : decode cX0_span 34 = .ok (.aload_n 2, 1) := by decide +kernel
theorem dX0_span_35 : decode cX0_span 35 = .ok (.getfield 18, 3) := by decide +kernel
theorem dX0_span_38 : decode cX0_span 38 = .ok (.if_icmp .ge 27, 3) := by decide +kernel
theorem dX0_span_41 : decode cX0_span 41 = .ok (.aload_n 1, 1) := by decide +kernel
theorem dX0_span_42 : decode cX0_span 42 = .ok (.getfield 24, 3) := by decide +kernel
theorem dX0_span_45 : decode cX0_span 45 = .ok (.iload_n 3, 1) := by decide +kernel
theorem dX0_span_46 : decode cX0_span 46 = .ok (.iaload, 1) := by decide +kernel
theorem dX0_span_47 : decode cX0_span 47 = .ok (.bipush (-4), 2) := by decide +kernel
theorem dX0_span_49 : decode cX0_span 49 = .ok (.if_icmp .ne 10, 3) := by decide +kernel
theorem dX0_span_52 : decode cX0_span 52 = .ok (.aload_n 0, 1) := by decide +kernel
theorem dX0_span_53 : decode cX0_span 53 = .ok (.aload_n 1, 1) := by decide +kernel
theorem dX0_span_54 : decode cX0_span 54 = .ok (.aload_n 2, 1) := by decide +kernel
theorem dX0_span_55 : decode cX0_span 55 = .ok (.iload_n 3, 1) := by decide +kernel
theorem dX0_span_56 : decode cX0_span 56 = .ok (.invokevirtual 29, 3) := by decide +kernel
theorem dX0_span_59 : decode cX0_span 59 = .ok (.iinc 3 1, 3) := by decide +kernel
theorem dX0_span_62 : decode cX0_span 62 = .ok (.goto (-29), 3) := by decide +kernel
theorem dX0_span_65 : decode cX0_span 65 = .ok (.iconst 1, 1) := by decide +kernel
theorem dX0_span_66 : decode cX0_span 66 = .ok (.istore_n 3, 1) := by decide +kernel
theorem dX0_span_67 : decode cX0_span 67 = .ok (.iload_n 3, 1) := by decide +kernel
theorem dX0_span_68 : decode cX0_span 68 = .ok (.bipush 99, 2) := by decide +kernel
theorem dX0_span_70 : decode cX0_span 70 = .ok (.if_icmp .gt 36, 3) := by decide +kernel
theorem dX0_span_73 : decode cX0_span 73 = .ok (.aload_n 0, 1) := by decide +kernel
theorem dX0_span_74 : decode cX0_span 74 = .ok (.getfield 15, 3) := by decide +kernel
theorem dX0_span_77 : decode cX0_span 77 = .ok (.iload_n 3, 1) := by decide +kernel
theorem dX0_span_78 : decode cX0_span 78 = .ok (.iaload, 1) := by decide +kernel
theorem dX0_span_79 : decode cX0_span 79 = .ok (.bipush (-4), 2) := by decide +kernel
theorem dX0_span_81 : decode cX0_span 81 = .ok (.if_icmp .eq 19, 3) := by decide +kernel
theorem dX0_span_84 : decode cX0_span 84 = .ok (.aload_n 0, 1) := by decide +kernel
theorem dX0_span_85 : decode cX0_span 85 = .ok (.getfield 15, 3) := by decide +kernel
theorem dX0_span_88 : decode cX0_span 88 = .ok (.iload_n 3, 1) := by decide +kernel
theorem dX0_span_89 : decode cX0_span 89 = .ok (.aload_n 1, 1) := by decide +kernel
theorem dX0_span_90 : decode cX0_span 90 = .ok (.aload_n 0, 1) := by decide +kernel
theorem dX0_span_91 : decode cX0_span 91 = .ok (.getfield 15, 3) := by decide +kernel
theorem dX0_span_94 : decode cX0_span 94 = .ok (.iload_n 3, 1) := by decide +kernel
theorem dX0_span_95 : decode cX0_span 95 = .ok (.iaload, 1) := by decide +kernel
theorem dX0_span_96 : decode cX0_span 96 = .ok (.invokevirtual 33, 3) := by decide +kernel
theorem dX0_span_99 : decode cX0_span 99 = .ok (.iastore, 1) := by decide +kernel
theorem dX0_span_100 : decode cX0_span 100 = .ok (.iinc 3 1, 3) := by decide +kernel
theorem dX0_span_103 : decode cX0_span 103 = .ok (.goto (-36), 3) := by decide +kernel
theorem dX0_span_106 : decode cX0_span 106 = .ok (.return_, 1) := by decide +kernel
theorem dX0_crossWidest_0 : decode cX0_crossWidest 0 = .ok (.aload_n 1, 1) := by decide +kernel
theorem dX0_crossWidest_1 : decode cX0_crossWidest 1 = .ok (.iload_n 3, 1) := by decide +kernel
theorem dX0_crossWidest_2 : decode cX0_crossWidest 2 = .ok (.invokevirtual 37, 3) := by decide +kernel
theorem dX0_crossWidest_5 : decode cX0_crossWidest 5 = .ok (.iconst 0, 1) := by decide +kernel
theorem dX0_crossWidest_6 : decode cX0_crossWidest 6 = .ok (.istore 4, 2) := by decide +kernel
theorem dX0_crossWidest_8 : decode cX0_crossWidest 8 = .ok (.aload_n 1, 1) := by decide +kernel
theorem dX0_crossWidest_9 : decode cX0_crossWidest 9 = .ok (.getfield 41, 3) := by decide +kernel
theorem dX0_crossWidest_12 : decode cX0_crossWidest 12 = .ok (.iconst 1, 1) := by decide +kernel
theorem dX0_crossWidest_13 : decode cX0_crossWidest 13 = .ok (.iadd, 1) := by decide +kernel
theorem dX0_crossWidest_14 : decode cX0_crossWidest 14 = .ok (.istore 5, 2) := by decide +kernel
theorem dX0_crossWidest_16 : decode cX0_crossWidest 16 = .ok (.iload 5, 2) := by decide +kernel
theorem dX0_crossWidest_18 : decode cX0_crossWidest 18 = .ok (.sipush 200, 3) := by decide +kernel
theorem dX0_crossWidest_21 : decode cX0_crossWidest 21 = .ok (.if_icmp .gt 65, 3) := by decide +kernel
theorem dX0_crossWidest_24 : decode cX0_crossWidest 24 = .ok (.iload 4, 2) := by decide +kernel
theorem dX0_crossWidest_26 : decode cX0_crossWidest 26 = .ok (.bipush 99, 2) := by decide +kernel
theorem dX0_crossWidest_28 : decode cX0_crossWidest 28 = .ok (.if_icmp .ge 58, 3) := by decide +kernel
theorem dX0_crossWidest_31 : decode cX0_crossWidest 31 = .ok (.iload 4, 2) := by decide +kernel
theorem dX0_crossWidest_33 : decode cX0_crossWidest 33 = .ok (.istore 6, 2) := by decide +kernel
theorem dX0_crossWidest_35 : decode cX0_crossWidest 35 = .ok (.bipush 99, 2) := by decide +kernel
theorem dX0_crossWidest_37 : decode cX0_crossWidest 37 = .ok (.iload 4, 2) := by decide +kernel
theorem dX0_crossWidest_39 : decode cX0_crossWidest 39 = .ok (.aload_n 1, 1) := by decide +kernel
theorem dX0_crossWidest_40 : decode cX0_crossWidest 40 = .ok (.iload 5, 2) := by decide +kernel
theorem dX0_crossWidest_42 : decode cX0_crossWidest 42 = .ok (.invokevirtual 44, 3) := by decide +kernel
theorem dX0_crossWidest_45 : decode cX0_crossWidest 45 = .ok (.iadd, 1) := by decide +kernel
theorem dX0_crossWidest_46 : decode cX0_crossWidest 46 = .ok (.invokestatic 47, 3) := by decide +kernel
theorem dX0_crossWidest_49 : decode cX0_crossWidest 49 = .ok (.istore 4, 2) := by decide +kernel
theorem dX0_crossWidest_51 : decode cX0_crossWidest 51 = .ok (.iload 6, 2) := by decide +kernel
theorem dX0_crossWidest_53 : decode cX0_crossWidest 53 = .ok (.iconst 1, 1) := by decide +kernel
theorem dX0_crossWidest_54 : decode cX0_crossWidest 54 = .ok (.iadd, 1) := by decide +kernel
theorem dX0_crossWidest_55 : decode cX0_crossWidest 55 = .ok (.istore 7, 2) := by decide +kernel
theorem dX0_crossWidest_57 : decode cX0_crossWidest 57 = .ok (.iload 7, 2) := by decide +kernel
theorem dX0_crossWidest_59 : decode cX0_crossWidest 59 = .ok (.iload 4, 2) := by decide +kernel
theorem dX0_crossWidest_61 : decode cX0_crossWidest 61 = .ok (.if_icmp .gt 19, 3) := by decide +kernel
theorem dX0_crossWidest_64 : decode cX0_crossWidest 64 = .ok (.aload_n 0, 1) := by decide +kernel
theorem dX0_crossWidest_65 : decode cX0_crossWidest 65 = .ok (.aload_n 2, 1) := by decide +kernel
theorem dX0_crossWidest_66 : decode cX0_crossWidest 66 = .ok (.iload 7, 2) := by decide +kernel
theorem dX0_crossWidest_68 : decode cX0_crossWidest 68 = .ok (.iload 5, 2) := by decide +kernel
theorem dX0_crossWidest_70 : decode cX0_crossWidest 70 = .ok (.iload_n 3, 1) := by decide +kernel
theorem dX0_crossWidest_71 : decode cX0_crossWidest 71 = .ok (.invokevirtual 53, 3) := by decide +kernel
theorem dX0_crossWidest_74 : decode cX0_crossWidest 74 = .ok (.iinc 7 1, 3) := by decide +kernel
theorem dX0_crossWidest_77 : decode cX0_crossWidest 77 = .ok (.goto (-20), 3) := by decide +kernel
theorem dX0_crossWidest_80 : decode cX0_crossWidest 80 = .ok (.iinc 5 1, 3) := by decide +kernel
theorem dX0_crossWidest_83 : decode cX0_crossWidest 83 = .ok (.goto (-67), 3) := by decide +kernel
theorem dX0_crossWidest_86 : decode cX0_crossWidest 86 = .ok (.return_, 1) := by decide +kernel
theorem dX0_offer_0 : decode cX0_offer 0 = .ok (.iload_n 3, 1) := by decide +kernel
theorem dX0_offer_1 : decode cX0_offer 1 = .ok (.aload_n 0, 1) := by decide +kernel
theorem dX0_offer_2 : decode cX0_offer 2 = .ok (.getfield 9, 3) := by decide +kernel
theorem dX0_offer_5 : decode cX0_offer 5 = .ok (.iload_n 2, 1) := by decide +kernel
theorem dX0_offer_6 : decode cX0_offer 6 = .ok (.iaload, 1) := by decide +kernel
theorem dX0_offer_7 : decode cX0_offer 7 = .ok (.if_icmp .ge 7, 3) := by decide +kernel
theorem dX0_offer_10 : decode cX0_offer 10 = .ok (.iconst 1, 1) := by decide +kernel
theorem dX0_offer_11 : decode cX0_offer 11 = .ok (.goto 4, 3) := by decide +kernel
theorem dX0_offer_14 : decode cX0_offer 14 = .ok (.iconst 0, 1) := by decide +kernel
theorem dX0_offer_15 : decode cX0_offer 15 = .ok (.istore 5, 2) := by decide +kernel
theorem dX0_offer_17 : decode cX0_offer 17 = .ok (.iload_n 3, 1) := by decide +kernel
theorem dX0_offer_18 : decode cX0_offer 18 = .ok (.aload_n 0, 1) := by decide +kernel
theorem dX0_offer_19 : decode cX0_offer 19 = .ok (.getfield 9, 3) := by decide +kernel
theorem dX0_offer_22 : decode cX0_offer 22 = .ok (.iload_n 2, 1) := by decide +kernel
theorem dX0_offer_23 : decode cX0_offer 23 = .ok (.iaload, 1) := by decide +kernel
theorem dX0_offer_24 : decode cX0_offer 24 = .ok (.if_icmp .ne 41, 3) := by decide +kernel
theorem dX0_offer_27 : decode cX0_offer 27 = .ok (.aload_n 1, 1) := by decide +kernel
theorem dX0_offer_28 : decode cX0_offer 28 = .ok (.aload_n 0, 1) := by decide +kernel
theorem dX0_offer_29 : decode cX0_offer 29 = .ok (.getfield 15, 3) := by decide +kernel
theorem dX0_offer_32 : decode cX0_offer 32 = .ok (.iload_n 2, 1) := by decide +kernel
theorem dX0_offer_33 : decode cX0_offer 33 = .ok (.iaload, 1) := by decide +kernel
theorem dX0_offer_34 : decode cX0_offer 34 = .ok (.invokevirtual 57, 3) := by decide +kernel
theorem dX0_offer_37 : decode cX0_offer 37 = .ok (.ifCond .eq 28, 3) := by decide +kernel
theorem dX0_offer_40 : decode cX0_offer 40 = .ok (.aload_n 1, 1) := by decide +kernel
theorem dX0_offer_41 : decode cX0_offer 41 = .ok (.getfield 61, 3) := by decide +kernel
theorem dX0_offer_44 : decode cX0_offer 44 = .ok (.iload 4, 2) := by decide +kernel
theorem dX0_offer_46 : decode cX0_offer 46 = .ok (.iaload, 1) := by decide +kernel
theorem dX0_offer_47 : decode cX0_offer 47 = .ok (.aload_n 1, 1) := by decide +kernel
theorem dX0_offer_48 : decode cX0_offer 48 = .ok (.getfield 61, 3) := by decide +kernel
theorem dX0_offer_51 : decode cX0_offer 51 = .ok (.aload_n 0, 1) := by decide +kernel
theorem dX0_offer_52 : decode cX0_offer 52 = .ok (.getfield 15, 3) := by decide +kernel
theorem dX0_offer_55 : decode cX0_offer 55 = .ok (.iload_n 2, 1) := by decide +kernel
theorem dX0_offer_56 : decode cX0_offer 56 = .ok (.iaload, 1) := by decide +kernel
theorem dX0_offer_57 : decode cX0_offer 57 = .ok (.iaload, 1) := by decide +kernel
theorem dX0_offer_58 : decode cX0_offer 58 = .ok (.if_icmp .ge 7, 3) := by decide +kernel
theorem dX0_offer_61 : decode cX0_offer 61 = .ok (.iconst 1, 1) := by decide +kernel
theorem dX0_offer_62 : decode cX0_offer 62 = .ok (.goto 4, 3) := by decide +kernel
theorem dX0_offer_65 : decode cX0_offer 65 = .ok (.iconst 0, 1) := by decide +kernel
theorem dX0_offer_66 : decode cX0_offer 66 = .ok (.istore 6, 2) := by decide +kernel
theorem dX0_offer_68 : decode cX0_offer 68 = .ok (.iload 5, 2) := by decide +kernel
theorem dX0_offer_70 : decode cX0_offer 70 = .ok (.ifCond .ne 8, 3) := by decide +kernel
theorem dX0_offer_73 : decode cX0_offer 73 = .ok (.iload 6, 2) := by decide +kernel
theorem dX0_offer_75 : decode cX0_offer 75 = .ok (.ifCond .eq 18, 3) := by decide +kernel
theorem dX0_offer_78 : decode cX0_offer 78 = .ok (.aload_n 0, 1) := by decide +kernel
theorem dX0_offer_79 : decode cX0_offer 79 = .ok (.getfield 9, 3) := by decide +kernel
theorem dX0_offer_82 : decode cX0_offer 82 = .ok (.iload_n 2, 1) := by decide +kernel
theorem dX0_offer_83 : decode cX0_offer 83 = .ok (.iload_n 3, 1) := by decide +kernel
theorem dX0_offer_84 : decode cX0_offer 84 = .ok (.iastore, 1) := by decide +kernel
theorem dX0_offer_85 : decode cX0_offer 85 = .ok (.aload_n 0, 1) := by decide +kernel
theorem dX0_offer_86 : decode cX0_offer 86 = .ok (.getfield 15, 3) := by decide +kernel
theorem dX0_offer_89 : decode cX0_offer 89 = .ok (.iload_n 2, 1) := by decide +kernel
theorem dX0_offer_90 : decode cX0_offer 90 = .ok (.iload 4, 2) := by decide +kernel
theorem dX0_offer_92 : decode cX0_offer 92 = .ok (.iastore, 1) := by decide +kernel
theorem dX0_offer_93 : decode cX0_offer 93 = .ok (.return_, 1) := by decide +kernel
theorem dX0_firstBits_0 : decode cX0_firstBits 0 = .ok (.iconst 0, 1) := by decide +kernel
theorem dX0_firstBits_1 : decode cX0_firstBits 1 = .ok (.istore_n 1, 1) := by decide +kernel
theorem dX0_firstBits_2 : decode cX0_firstBits 2 = .ok (.iconst 1, 1) := by decide +kernel
theorem dX0_firstBits_3 : decode cX0_firstBits 3 = .ok (.istore_n 2, 1) := by decide +kernel
theorem dX0_firstBits_4 : decode cX0_firstBits 4 = .ok (.iload_n 2, 1) := by decide +kernel
theorem dX0_firstBits_5 : decode cX0_firstBits 5 = .ok (.bipush 99, 2) := by decide +kernel
theorem dX0_firstBits_7 : decode cX0_firstBits 7 = .ok (.if_icmp .gt 33, 3) := by decide +kernel
theorem dX0_firstBits_10 : decode cX0_firstBits 10 = .ok (.iload_n 1, 1) := by decide +kernel
theorem dX0_firstBits_11 : decode cX0_firstBits 11 = .ok (.aload_n 0, 1) := by decide +kernel
theorem dX0_firstBits_12 : decode cX0_firstBits 12 = .ok (.getfield 15, 3) := by decide +kernel
theorem dX0_firstBits_15 : decode cX0_firstBits 15 = .ok (.iload_n 2, 1) := by decide +kernel
theorem dX0_firstBits_16 : decode cX0_firstBits 16 = .ok (.iaload, 1) := by decide +kernel
theorem dX0_firstBits_17 : decode cX0_firstBits 17 = .ok (.ifCond .ge 7, 3) := by decide +kernel
theorem dX0_firstBits_20 : decode cX0_firstBits 20 = .ok (.iconst 0, 1) := by decide +kernel
theorem dX0_firstBits_21 : decode cX0_firstBits 21 = .ok (.goto 11, 3) := by decide +kernel
theorem dX0_firstBits_24 : decode cX0_firstBits 24 = .ok (.iconst 1, 1) := by decide +kernel
theorem dX0_firstBits_25 : decode cX0_firstBits 25 = .ok (.aload_n 0, 1) := by decide +kernel
theorem dX0_firstBits_26 : decode cX0_firstBits 26 = .ok (.getfield 15, 3) := by decide +kernel
theorem dX0_firstBits_29 : decode cX0_firstBits 29 = .ok (.iload_n 2, 1) := by decide +kernel
theorem dX0_firstBits_30 : decode cX0_firstBits 30 = .ok (.iaload, 1) := by decide +kernel
theorem dX0_firstBits_31 : decode cX0_firstBits 31 = .ok (.ishl, 1) := by decide +kernel
theorem dX0_firstBits_32 : decode cX0_firstBits 32 = .ok (.ior, 1) := by decide +kernel
theorem dX0_firstBits_33 : decode cX0_firstBits 33 = .ok (.istore_n 1, 1) := by decide +kernel
theorem dX0_firstBits_34 : decode cX0_firstBits 34 = .ok (.iinc 2 1, 3) := by decide +kernel
theorem dX0_firstBits_37 : decode cX0_firstBits 37 = .ok (.goto (-33), 3) := by decide +kernel
theorem dX0_firstBits_40 : decode cX0_firstBits 40 = .ok (.iload_n 1, 1) := by decide +kernel
theorem dX0_firstBits_41 : decode cX0_firstBits 41 = .ok (.ireturn, 1) := by decide +kernel
theorem dX0_widthsOf_0 : decode cX0_widthsOf 0 = .ok (.iconst 0, 1) := by decide +kernel
theorem dX0_widthsOf_1 : decode cX0_widthsOf 1 = .ok (.istore_n 2, 1) := by decide +kernel
theorem dX0_widthsOf_2 : decode cX0_widthsOf 2 = .ok (.iconst 1, 1) := by decide +kernel
theorem dX0_widthsOf_3 : decode cX0_widthsOf 3 = .ok (.istore_n 3, 1) := by decide +kernel
theorem dX0_widthsOf_4 : decode cX0_widthsOf 4 = .ok (.iload_n 3, 1) := by decide +kernel
theorem dX0_widthsOf_5 : decode cX0_widthsOf 5 = .ok (.bipush 99, 2) := by decide +kernel
theorem dX0_widthsOf_7 : decode cX0_widthsOf 7 = .ok (.if_icmp .gt 27, 3) := by decide +kernel
theorem dX0_widthsOf_10 : decode cX0_widthsOf 10 = .ok (.iload_n 2, 1) := by decide +kernel
theorem dX0_widthsOf_11 : decode cX0_widthsOf 11 = .ok (.aload_n 0, 1) := by decide +kernel
theorem dX0_widthsOf_12 : decode cX0_widthsOf 12 = .ok (.getfield 15, 3) := by decide +kernel
theorem dX0_widthsOf_15 : decode cX0_widthsOf 15 = .ok (.iload_n 3, 1) := by decide +kernel
theorem dX0_widthsOf_16 : decode cX0_widthsOf 16 = .ok (.iaload, 1) := by decide +kernel
theorem dX0_widthsOf_17 : decode cX0_widthsOf 17 = .ok (.iload_n 1, 1) := by decide +kernel
theorem dX0_widthsOf_18 : decode cX0_widthsOf 18 = .ok (.if_icmp .ne 7, 3) := by decide +kernel
theorem dX0_widthsOf_21 : decode cX0_widthsOf 21 = .ok (.iconst 1, 1) := by decide +kernel
theorem dX0_widthsOf_22 : decode cX0_widthsOf 22 = .ok (.goto 4, 3) := by decide +kernel
theorem dX0_widthsOf_25 : decode cX0_widthsOf 25 = .ok (.iconst 0, 1) := by decide +kernel
theorem dX0_widthsOf_26 : decode cX0_widthsOf 26 = .ok (.iadd, 1) := by decide +kernel
theorem dX0_widthsOf_27 : decode cX0_widthsOf 27 = .ok (.istore_n 2, 1) := by decide +kernel
theorem dX0_widthsOf_28 : decode cX0_widthsOf 28 = .ok (.iinc 3 1, 3) := by decide +kernel
theorem dX0_widthsOf_31 : decode cX0_widthsOf 31 = .ok (.goto (-27), 3) := by decide +kernel
theorem dX0_widthsOf_34 : decode cX0_widthsOf 34 = .ok (.iload_n 2, 1) := by decide +kernel
theorem dX0_widthsOf_35 : decode cX0_widthsOf 35 = .ok (.ireturn, 1) := by decide +kernel
theorem dX1_init_0 : decode cX1_init 0 = .ok (.aload_n 0, 1) := by decide +kernel
theorem dX1_init_1 : decode cX1_init 1 = .ok (.invokespecial 3, 3) := by decide +kernel
theorem dX1_init_4 : decode cX1_init 4 = .ok (.aload_n 0, 1) := by decide +kernel
theorem dX1_init_5 : decode cX1_init 5 = .ok (.bipush 8, 2) := by decide +kernel
theorem dX1_init_7 : decode cX1_init 7 = .ok (.newarray .int, 2) := by decide +kernel
theorem dX1_init_9 : decode cX1_init 9 = .ok (.putfield 9, 3) := by decide +kernel
theorem dX1_init_12 : decode cX1_init 12 = .ok (.aload_n 0, 1) := by decide +kernel
theorem dX1_init_13 : decode cX1_init 13 = .ok (.bipush 8, 2) := by decide +kernel
theorem dX1_init_15 : decode cX1_init 15 = .ok (.newarray .int, 2) := by decide +kernel
theorem dX1_init_17 : decode cX1_init 17 = .ok (.putfield 15, 3) := by decide +kernel
theorem dX1_init_20 : decode cX1_init 20 = .ok (.aload_n 0, 1) := by decide +kernel
theorem dX1_init_21 : decode cX1_init 21 = .ok (.bipush 8, 2) := by decide +kernel
theorem dX1_init_23 : decode cX1_init 23 = .ok (.newarray .int, 2) := by decide +kernel
theorem dX1_init_25 : decode cX1_init 25 = .ok (.putfield 18, 3) := by decide +kernel
theorem dX1_init_28 : decode cX1_init 28 = .ok (.aload_n 0, 1) := by decide +kernel
theorem dX1_init_29 : decode cX1_init 29 = .ok (.iconst 0, 1) := by decide +kernel
theorem dX1_init_30 : decode cX1_init 30 = .ok (.putfield 21, 3) := by decide +kernel
theorem dX1_init_33 : decode cX1_init 33 = .ok (.return_, 1) := by decide +kernel
theorem dX1_clear_0 : decode cX1_clear 0 = .ok (.aload_n 0, 1) := by decide +kernel
theorem dX1_clear_1 : decode cX1_clear 1 = .ok (.iconst 0, 1) := by decide +kernel
theorem dX1_clear_2 : decode cX1_clear 2 = .ok (.putfield 21, 3) := by decide +kernel
theorem dX1_clear_5 : decode cX1_clear 5 = .ok (.return_, 1) := by decide +kernel
theorem dX1_note_0 : decode cX1_note 0 = .ok (.aload_n 0, 1) := by decide +kernel
theorem dX1_note_1 : decode cX1_note 1 = .ok (.getfield 21, 3) := by decide +kernel
theorem dX1_note_4 : decode cX1_note 4 = .ok (.bipush 8, 2) := by decide +kernel
theorem dX1_note_6 : decode cX1_note 6 = .ok (.if_icmp .lt 7, 3) := by decide +kernel
theorem dX1_note_9 : decode cX1_note 9 = .ok (.aload_n 0, 1) := by decide +kernel
theorem dX1_note_10 : decode cX1_note 10 = .ok (.invokevirtual 25, 3) := by decide +kernel
theorem dX1_note_13 : decode cX1_note 13 = .ok (.aload_n 0, 1) := by decide +kernel
theorem dX1_note_14 : decode cX1_note 14 = .ok (.getfield 9, 3) := by decide +kernel
theorem dX1_note_17 : decode cX1_note 17 = .ok (.aload_n 0, 1) := by decide +kernel
theorem dX1_note_18 : decode cX1_note 18 = .ok (.getfield 21, 3) := by decide +kernel
theorem dX1_note_21 : decode cX1_note 21 = .ok (.iload_n 2, 1) := by decide +kernel
theorem dX1_note_22 : decode cX1_note 22 = .ok (.iastore, 1) := by decide +kernel
theorem dX1_note_23 : decode cX1_note 23 = .ok (.aload_n 0, 1) := by decide +kernel
theorem dX1_note_24 : decode cX1_note 24 = .ok (.getfield 15, 3) := by decide +kernel
theorem dX1_note_27 : decode cX1_note 27 = .ok (.aload_n 0, 1) := by decide +kernel
theorem dX1_note_28 : decode cX1_note 28 = .ok (.getfield 21, 3) := by decide +kernel
theorem dX1_note_31 : decode cX1_note 31 = .ok (.aload_n 1, 1) := by decide +kernel
theorem dX1_note_32 : decode cX1_note 32 = .ok (.getfield 28, 3) := by decide +kernel
theorem dX1_note_35 : decode cX1_note 35 = .ok (.iload_n 2, 1) := by decide +kernel
theorem dX1_note_36 : decode cX1_note 36 = .ok (.iaload, 1) := by decide +kernel
theorem dX1_note_37 : decode cX1_note 37 = .ok (.iastore, 1) := by decide +kernel
theorem dX1_note_38 : decode cX1_note 38 = .ok (.aload_n 0, 1) := by decide +kernel
theorem dX1_note_39 : decode cX1_note 39 = .ok (.getfield 18, 3) := by decide +kernel
theorem dX1_note_42 : decode cX1_note 42 = .ok (.aload_n 0, 1) := by decide +kernel
theorem dX1_note_43 : decode cX1_note 43 = .ok (.getfield 21, 3) := by decide +kernel
theorem dX1_note_46 : decode cX1_note 46 = .ok (.aload_n 1, 1) := by decide +kernel
theorem dX1_note_47 : decode cX1_note 47 = .ok (.getfield 33, 3) := by decide +kernel
theorem dX1_note_50 : decode cX1_note 50 = .ok (.iload_n 2, 1) := by decide +kernel
theorem dX1_note_51 : decode cX1_note 51 = .ok (.iaload, 1) := by decide +kernel
theorem dX1_note_52 : decode cX1_note 52 = .ok (.iastore, 1) := by decide +kernel
theorem dX1_note_53 : decode cX1_note 53 = .ok (.aload_n 0, 1) := by decide +kernel
theorem dX1_note_54 : decode cX1_note 54 = .ok (.dup, 1) := by decide +kernel
theorem dX1_note_55 : decode cX1_note 55 = .ok (.getfield 21, 3) := by decide +kernel
theorem dX1_note_58 : decode cX1_note 58 = .ok (.iconst 1, 1) := by decide +kernel
theorem dX1_note_59 : decode cX1_note 59 = .ok (.iadd, 1) := by decide +kernel
theorem dX1_note_60 : decode cX1_note 60 = .ok (.putfield 21, 3) := by decide +kernel
theorem dX1_note_63 : decode cX1_note 63 = .ok (.return_, 1) := by decide +kernel
theorem dX1_dropOldest_0 : decode cX1_dropOldest 0 = .ok (.aload_n 0, 1) := by decide +kernel
theorem dX1_dropOldest_1 : decode cX1_dropOldest 1 = .ok (.bipush 7, 2) := by decide +kernel
theorem dX1_dropOldest_3 : decode cX1_dropOldest 3 = .ok (.putfield 21, 3) := by decide +kernel
theorem dX1_dropOldest_6 : decode cX1_dropOldest 6 = .ok (.aload_n 0, 1) := by decide +kernel
theorem dX1_dropOldest_7 : decode cX1_dropOldest 7 = .ok (.getfield 9, 3) := by decide +kernel
theorem dX1_dropOldest_10 : decode cX1_dropOldest 10 = .ok (.iconst 1, 1) := by decide +kernel
theorem dX1_dropOldest_11 : decode cX1_dropOldest 11 = .ok (.aload_n 0, 1) := by decide +kernel
theorem dX1_dropOldest_12 : decode cX1_dropOldest 12 = .ok (.getfield 9, 3) := by decide +kernel
theorem dX1_dropOldest_15 : decode cX1_dropOldest 15 = .ok (.iconst 0, 1) := by decide +kernel
theorem dX1_dropOldest_16 : decode cX1_dropOldest 16 = .ok (.aload_n 0, 1) := by decide +kernel
theorem dX1_dropOldest_17 : decode cX1_dropOldest 17 = .ok (.getfield 21, 3) := by decide +kernel
theorem dX1_dropOldest_20 : decode cX1_dropOldest 20 = .ok (.invokestatic 36, 3) := by decide +kernel
theorem dX1_dropOldest_23 : decode cX1_dropOldest 23 = .ok (.aload_n 0, 1) := by decide +kernel
theorem dX1_dropOldest_24 : decode cX1_dropOldest 24 = .ok (.getfield 15, 3) := by decide +kernel
theorem dX1_dropOldest_27 : decode cX1_dropOldest 27 = .ok (.iconst 1, 1) := by decide +kernel
theorem dX1_dropOldest_28 : decode cX1_dropOldest 28 = .ok (.aload_n 0, 1) := by decide +kernel
theorem dX1_dropOldest_29 : decode cX1_dropOldest 29 = .ok (.getfield 15, 3) := by decide +kernel
theorem dX1_dropOldest_32 : decode cX1_dropOldest 32 = .ok (.iconst 0, 1) := by decide +kernel
theorem dX1_dropOldest_33 : decode cX1_dropOldest 33 = .ok (.aload_n 0, 1) := by decide +kernel
theorem dX1_dropOldest_34 : decode cX1_dropOldest 34 = .ok (.getfield 21, 3) := by decide +kernel
theorem dX1_dropOldest_37 : decode cX1_dropOldest 37 = .ok (.invokestatic 36, 3) := by decide +kernel
theorem dX1_dropOldest_40 : decode cX1_dropOldest 40 = .ok (.aload_n 0, 1) := by decide +kernel
theorem dX1_dropOldest_41 : decode cX1_dropOldest 41 = .ok (.getfield 18, 3) := by decide +kernel
theorem dX1_dropOldest_44 : decode cX1_dropOldest 44 = .ok (.iconst 1, 1) := by decide +kernel
theorem dX1_dropOldest_45 : decode cX1_dropOldest 45 = .ok (.aload_n 0, 1) := by decide +kernel
theorem dX1_dropOldest_46 : decode cX1_dropOldest 46 = .ok (.getfield 18, 3) := by decide +kernel
theorem dX1_dropOldest_49 : decode cX1_dropOldest 49 = .ok (.iconst 0, 1) := by decide +kernel
theorem dX1_dropOldest_50 : decode cX1_dropOldest 50 = .ok (.aload_n 0, 1) := by decide +kernel
theorem dX1_dropOldest_51 : decode cX1_dropOldest 51 = .ok (.getfield 21, 3) := by decide +kernel
theorem dX1_dropOldest_54 : decode cX1_dropOldest 54 = .ok (.invokestatic 36, 3) := by decide +kernel
theorem dX1_dropOldest_57 : decode cX1_dropOldest 57 = .ok (.return_, 1) := by decide +kernel
theorem dX1_takeBack_0 : decode cX1_takeBack 0 = .ok (.aload_n 0, 1) := by decide +kernel
theorem dX1_takeBack_1 : decode cX1_takeBack 1 = .ok (.getfield 21, 3) := by decide +kernel
theorem dX1_takeBack_4 : decode cX1_takeBack 4 = .ok (.iconst 1, 1) := by decide +kernel
theorem dX1_takeBack_5 : decode cX1_takeBack 5 = .ok (.if_icmp .lt 21, 3) := by decide +kernel
theorem dX1_takeBack_8 : decode cX1_takeBack 8 = .ok (.aload_n 1, 1) := by decide +kernel
theorem dX1_takeBack_9 : decode cX1_takeBack 9 = .ok (.aload_n 0, 1) := by decide +kernel
theorem dX1_takeBack_10 : decode cX1_takeBack 10 = .ok (.getfield 9, 3) := by decide +kernel
theorem dX1_takeBack_13 : decode cX1_takeBack 13 = .ok (.aload_n 0, 1) := by decide +kernel
theorem dX1_takeBack_14 : decode cX1_takeBack 14 = .ok (.getfield 21, 3) := by decide +kernel
theorem dX1_takeBack_17 : decode cX1_takeBack 17 = .ok (.iconst 1, 1) := by decide +kernel
theorem dX1_takeBack_18 : decode cX1_takeBack 18 = .ok (.isub, 1) := by decide +kernel
theorem dX1_takeBack_19 : decode cX1_takeBack 19 = .ok (.iaload, 1) := by decide +kernel
theorem dX1_takeBack_20 : decode cX1_takeBack 20 = .ok (.invokevirtual 42, 3) := by decide +kernel
theorem dX1_takeBack_23 : decode cX1_takeBack 23 = .ok (.ifCond .ne 5, 3) := by decide +kernel
theorem dX1_takeBack_26 : decode cX1_takeBack 26 = .ok (.iconst 0, 1) := by decide +kernel
theorem dX1_takeBack_27 : decode cX1_takeBack 27 = .ok (.ireturn, 1) := by decide +kernel
theorem dX1_takeBack_28 : decode cX1_takeBack 28 = .ok (.aload_n 0, 1) := by decide +kernel
theorem dX1_takeBack_29 : decode cX1_takeBack 29 = .ok (.dup, 1) := by decide +kernel
theorem dX1_takeBack_30 : decode cX1_takeBack 30 = .ok (.getfield 21, 3) := by decide +kernel
theorem dX1_takeBack_33 : decode cX1_takeBack 33 = .ok (.iconst 1, 1) := by decide +kernel
theorem dX1_takeBack_34 : decode cX1_takeBack 34 = .ok (.isub, 1) := by decide +kernel
theorem dX1_takeBack_35 : decode cX1_takeBack 35 = .ok (.putfield 21, 3) := by decide +kernel
theorem dX1_takeBack_38 : decode cX1_takeBack 38 = .ok (.aload_n 1, 1) := by decide +kernel
theorem dX1_takeBack_39 : decode cX1_takeBack 39 = .ok (.getfield 28, 3) := by decide +kernel
theorem dX1_takeBack_42 : decode cX1_takeBack 42 = .ok (.aload_n 0, 1) := by decide +kernel
theorem dX1_takeBack_43 : decode cX1_takeBack 43 = .ok (.getfield 9, 3) := by decide +kernel
theorem dX1_takeBack_46 : decode cX1_takeBack 46 = .ok (.aload_n 0, 1) := by decide +kernel
theorem dX1_takeBack_47 : decode cX1_takeBack 47 = .ok (.getfield 21, 3) := by decide +kernel
theorem dX1_takeBack_50 : decode cX1_takeBack 50 = .ok (.iaload, 1) := by decide +kernel
theorem dX1_takeBack_51 : decode cX1_takeBack 51 = .ok (.aload_n 0, 1) := by decide +kernel
theorem dX1_takeBack_52 : decode cX1_takeBack 52 = .ok (.getfield 15, 3) := by decide +kernel
theorem dX1_takeBack_55 : decode cX1_takeBack 55 = .ok (.aload_n 0, 1) := by decide +kernel
theorem dX1_takeBack_56 : decode cX1_takeBack 56 = .ok (.getfield 21, 3) := by decide +kernel
theorem dX1_takeBack_59 : decode cX1_takeBack 59 = .ok (.iaload, 1) := by decide +kernel
theorem dX1_takeBack_60 : decode cX1_takeBack 60 = .ok (.iastore, 1) := by decide +kernel
theorem dX1_takeBack_61 : decode cX1_takeBack 61 = .ok (.aload_n 1, 1) := by decide +kernel
theorem dX1_takeBack_62 : decode cX1_takeBack 62 = .ok (.getfield 33, 3) := by decide +kernel
theorem dX1_takeBack_65 : decode cX1_takeBack 65 = .ok (.aload_n 0, 1) := by decide +kernel
theorem dX1_takeBack_66 : decode cX1_takeBack 66 = .ok (.getfield 9, 3) := by decide +kernel
theorem dX1_takeBack_69 : decode cX1_takeBack 69 = .ok (.aload_n 0, 1) := by decide +kernel
theorem dX1_takeBack_70 : decode cX1_takeBack 70 = .ok (.getfield 21, 3) := by decide +kernel
theorem dX1_takeBack_73 : decode cX1_takeBack 73 = .ok (.iaload, 1) := by decide +kernel
theorem dX1_takeBack_74 : decode cX1_takeBack 74 = .ok (.aload_n 0, 1) := by decide +kernel
theorem dX1_takeBack_75 : decode cX1_takeBack 75 = .ok (.getfield 18, 3) := by decide +kernel
theorem dX1_takeBack_78 : decode cX1_takeBack 78 = .ok (.aload_n 0, 1) := by decide +kernel
theorem dX1_takeBack_79 : decode cX1_takeBack 79 = .ok (.getfield 21, 3) := by decide +kernel
theorem dX1_takeBack_82 : decode cX1_takeBack 82 = .ok (.iaload, 1) := by decide +kernel
theorem dX1_takeBack_83 : decode cX1_takeBack 83 = .ok (.iastore, 1) := by decide +kernel
theorem dX1_takeBack_84 : decode cX1_takeBack 84 = .ok (.iconst 1, 1) := by decide +kernel
theorem dX1_takeBack_85 : decode cX1_takeBack 85 = .ok (.ireturn, 1) := by decide +kernel
theorem dX2_init_0 : decode cX2_init 0 = .ok (.aload_n 0, 1) := by decide +kernel
theorem dX2_init_1 : decode cX2_init 1 = .ok (.invokespecial 3, 3) := by decide +kernel
theorem dX2_init_4 : decode cX2_init 4 = .ok (.aload_n 0, 1) := by decide +kernel
theorem dX2_init_5 : decode cX2_init 5 = .ok (.sipush 256, 3) := by decide +kernel
theorem dX2_init_8 : decode cX2_init 8 = .ok (.newarray .int, 2) := by decide +kernel
theorem dX2_init_10 : decode cX2_init 10 = .ok (.putfield 9, 3) := by decide +kernel
theorem dX2_init_13 : decode cX2_init 13 = .ok (.return_, 1) := by decide +kernel
theorem dX2_weigh_0 : decode cX2_weigh 0 = .ok (.iconst 1, 1) := by decide +kernel
theorem dX2_weigh_1 : decode cX2_weigh 1 = .ok (.aload_n 1, 1) := by decide +kernel
theorem dX2_weigh_2 : decode cX2_weigh 2 = .ok (.getfield 15, 3) := by decide +kernel
theorem dX2_weigh_5 : decode cX2_weigh 5 = .ok (.ishl, 1) := by decide +kernel
theorem dX2_weigh_6 : decode cX2_weigh 6 = .ok (.iconst 1, 1) := by decide +kernel
theorem dX2_weigh_7 : decode cX2_weigh 7 = .ok (.isub, 1) := by decide +kernel
theorem dX2_weigh_8 : decode cX2_weigh 8 = .ok (.istore_n 2, 1) := by decide +kernel
theorem dX2_weigh_9 : decode cX2_weigh 9 = .ok (.aload_n 0, 1) := by decide +kernel
theorem dX2_weigh_10 : decode cX2_weigh 10 = .ok (.getfield 9, 3) := by decide +kernel
theorem dX2_weigh_13 : decode cX2_weigh 13 = .ok (.iload_n 2, 1) := by decide +kernel
theorem dX2_weigh_14 : decode cX2_weigh 14 = .ok (.iconst 0, 1) := by decide +kernel
theorem dX2_weigh_15 : decode cX2_weigh 15 = .ok (.iastore, 1) := by decide +kernel
theorem dX2_weigh_16 : decode cX2_weigh 16 = .ok (.iload_n 2, 1) := by decide +kernel
theorem dX2_weigh_17 : decode cX2_weigh 17 = .ok (.iconst 1, 1) := by decide +kernel
theorem dX2_weigh_18 : decode cX2_weigh 18 = .ok (.isub, 1) := by decide +kernel
theorem dX2_weigh_19 : decode cX2_weigh 19 = .ok (.istore_n 3, 1) := by decide +kernel
theorem dX2_weigh_20 : decode cX2_weigh 20 = .ok (.iload_n 3, 1) := by decide +kernel
theorem dX2_weigh_21 : decode cX2_weigh 21 = .ok (.ifCond .lt 83, 3) := by decide +kernel
theorem dX2_weigh_24 : decode cX2_weigh 24 = .ok (.iload_n 3, 1) := by decide +kernel
theorem dX2_weigh_25 : decode cX2_weigh 25 = .ok (.invokestatic 21, 3) := by decide +kernel
theorem dX2_weigh_28 : decode cX2_weigh 28 = .ok (.iconst 1, 1) := by decide +kernel
theorem dX2_weigh_29 : decode cX2_weigh 29 = .ok (.iadd, 1) := by decide +kernel
theorem dX2_weigh_30 : decode cX2_weigh 30 = .ok (.istore 4, 2) := by decide +kernel
theorem dX2_weigh_32 : decode cX2_weigh 32 = .ok (.bipush 64, 2) := by decide +kernel
theorem dX2_weigh_34 : decode cX2_weigh 34 = .ok (.istore 5, 2) := by decide +kernel
theorem dX2_weigh_36 : decode cX2_weigh 36 = .ok (.iconst 0, 1) := by decide +kernel
theorem dX2_weigh_37 : decode cX2_weigh 37 = .ok (.istore 6, 2) := by decide +kernel
theorem dX2_weigh_39 : decode cX2_weigh 39 = .ok (.iload 6, 2) := by decide +kernel
theorem dX2_weigh_41 : decode cX2_weigh 41 = .ok (.aload_n 1, 1) := by decide +kernel
theorem dX2_weigh_42 : decode cX2_weigh 42 = .ok (.getfield 15, 3) := by decide +kernel
theorem dX2_weigh_45 : decode cX2_weigh 45 = .ok (.if_icmp .ge 45, 3) := by decide +kernel
theorem dX2_weigh_48 : decode cX2_weigh 48 = .ok (.iload_n 3, 1) := by decide +kernel
theorem dX2_weigh_49 : decode cX2_weigh 49 = .ok (.iconst 1, 1) := by decide +kernel
theorem dX2_weigh_50 : decode cX2_weigh 50 = .ok (.iload 6, 2) := by decide +kernel
theorem dX2_weigh_52 : decode cX2_weigh 52 = .ok (.ishl, 1) := by decide +kernel
theorem dX2_weigh_53 : decode cX2_weigh 53 = .ok (.iand, 1) := by decide +kernel
theorem dX2_weigh_54 : decode cX2_weigh 54 = .ok (.ifCond .ne 30, 3) := by decide +kernel
theorem dX2_weigh_57 : decode cX2_weigh 57 = .ok (.iload 5, 2) := by decide +kernel
theorem dX2_weigh_59 : decode cX2_weigh 59 = .ok (.aload_n 1, 1) := by decide +kernel
theorem dX2_weigh_60 : decode cX2_weigh 60 = .ok (.iload 6, 2) := by decide +kernel
theorem dX2_weigh_62 : decode cX2_weigh 62 = .ok (.iload 4, 2) := by decide +kernel
theorem dX2_weigh_64 : decode cX2_weigh 64 = .ok (.invokestatic 27, 3) := by decide +kernel
theorem dX2_weigh_67 : decode cX2_weigh 67 = .ok (.aload_n 0, 1) := by decide +kernel
theorem dX2_weigh_68 : decode cX2_weigh 68 = .ok (.getfield 9, 3) := by decide +kernel
theorem dX2_weigh_71 : decode cX2_weigh 71 = .ok (.iload_n 3, 1) := by decide +kernel
theorem dX2_weigh_72 : decode cX2_weigh 72 = .ok (.iconst 1, 1) := by decide +kernel
theorem dX2_weigh_73 : decode cX2_weigh 73 = .ok (.iload 6, 2) := by decide +kernel
theorem dX2_weigh_75 : decode cX2_weigh 75 = .ok (.ishl, 1) := by decide +kernel
theorem dX2_weigh_76 : decode cX2_weigh 76 = .ok (.ior, 1) := by decide +kernel
theorem dX2_weigh_77 : decode cX2_weigh 77 = .ok (.iaload, 1) := by decide +kernel
theorem dX2_weigh_78 : decode cX2_weigh 78 = .ok (.iadd, 1) := by decide +kernel
theorem dX2_weigh_79 : decode cX2_weigh 79 = .ok (.invokestatic 31, 3) := by decide +kernel
theorem dX2_weigh_82 : decode cX2_weigh 82 = .ok (.istore 5, 2) := by decide +kernel
theorem dX2_weigh_84 : decode cX2_weigh 84 = .ok (.iinc 6 1, 3) := by decide +kernel
theorem dX2_weigh_87 : decode cX2_weigh 87 = .ok (.goto (-48), 3) := by decide +kernel
theorem dX2_weigh_90 : decode cX2_weigh 90 = .ok (.aload_n 0, 1) := by decide +kernel
theorem dX2_weigh_91 : decode cX2_weigh 91 = .ok (.getfield 9, 3) := by decide +kernel
theorem dX2_weigh_94 : decode cX2_weigh 94 = .ok (.iload_n 3, 1) := by decide +kernel
theorem dX2_weigh_95 : decode cX2_weigh 95 = .ok (.iload 5, 2) := by decide +kernel
theorem dX2_weigh_97 : decode cX2_weigh 97 = .ok (.iastore, 1) := by decide +kernel
theorem dX2_weigh_98 : decode cX2_weigh 98 = .ok (.iinc 3 (-1), 3) := by decide +kernel
theorem dX2_weigh_101 : decode cX2_weigh 101 = .ok (.goto (-81), 3) := by decide +kernel
theorem dX2_weigh_104 : decode cX2_weigh 104 = .ok (.return_, 1) := by decide +kernel
theorem dX2_holder_0 : decode cX2_holder 0 = .ok (.iconst 0, 1) := by decide +kernel
theorem dX2_holder_1 : decode cX2_holder 1 = .ok (.istore_n 3, 1) := by decide +kernel
theorem dX2_holder_2 : decode cX2_holder 2 = .ok (.bipush (-4), 2) := by decide +kernel
theorem dX2_holder_4 : decode cX2_holder 4 = .ok (.istore 4, 2) := by decide +kernel
theorem dX2_holder_6 : decode cX2_holder 6 = .ok (.iconst 1, 1) := by decide +kernel
theorem dX2_holder_7 : decode cX2_holder 7 = .ok (.istore 5, 2) := by decide +kernel
theorem dX2_holder_9 : decode cX2_holder 9 = .ok (.iload 5, 2) := by decide +kernel
theorem dX2_holder_11 : decode cX2_holder 11 = .ok (.iload_n 2, 1) := by decide +kernel
theorem dX2_holder_12 : decode cX2_holder 12 = .ok (.if_icmp .gt 36, 3) := by decide +kernel
theorem dX2_holder_15 : decode cX2_holder 15 = .ok (.aload_n 0, 1) := by decide +kernel
theorem dX2_holder_16 : decode cX2_holder 16 = .ok (.aload_n 1, 1) := by decide +kernel
theorem dX2_holder_17 : decode cX2_holder 17 = .ok (.iload_n 3, 1) := by decide +kernel
theorem dX2_holder_18 : decode cX2_holder 18 = .ok (.iload 5, 2) := by decide +kernel
theorem dX2_holder_20 : decode cX2_holder 20 = .ok (.invokevirtual 37, 3) := by decide +kernel
theorem dX2_holder_23 : decode cX2_holder 23 = .ok (.istore 4, 2) := by decide +kernel
theorem dX2_holder_25 : decode cX2_holder 25 = .ok (.iload 4, 2) := by decide +kernel
theorem dX2_holder_27 : decode cX2_holder 27 = .ok (.bipush (-4), 2) := by decide +kernel
theorem dX2_holder_29 : decode cX2_holder 29 = .ok (.if_icmp .ne 6, 3) := by decide +kernel
theorem dX2_holder_32 : decode cX2_holder 32 = .ok (.bipush (-4), 2) := by decide +kernel
theorem dX2_holder_34 : decode cX2_holder 34 = .ok (.ireturn, 1) := by decide +kernel
theorem dX2_holder_35 : decode cX2_holder 35 = .ok (.iload_n 3, 1) := by decide +kernel
theorem dX2_holder_36 : decode cX2_holder 36 = .ok (.iconst 1, 1) := by decide +kernel
theorem dX2_holder_37 : decode cX2_holder 37 = .ok (.iload 4, 2) := by decide +kernel
theorem dX2_holder_39 : decode cX2_holder 39 = .ok (.ishl, 1) := by decide +kernel
theorem dX2_holder_40 : decode cX2_holder 40 = .ok (.ior, 1) := by decide +kernel
theorem dX2_holder_41 : decode cX2_holder 41 = .ok (.istore_n 3, 1) := by decide +kernel
theorem dX2_holder_42 : decode cX2_holder 42 = .ok (.iinc 5 1, 3) := by decide +kernel
theorem dX2_holder_45 : decode cX2_holder 45 = .ok (.goto (-36), 3) := by decide +kernel
theorem dX2_holder_48 : decode cX2_holder 48 = .ok (.iload 4, 2) := by decide +kernel
theorem dX2_holder_50 : decode cX2_holder 50 = .ok (.ireturn, 1) := by decide +kernel
theorem dX2_lowestFitting_0 : decode cX2_lowestFitting 0 = .ok (.iconst 0, 1) := by decide +kernel
theorem dX2_lowestFitting_1 : decode cX2_lowestFitting 1 = .ok (.istore 4, 2) := by decide +kernel
theorem dX2_lowestFitting_3 : decode cX2_lowestFitting 3 = .ok (.iload 4, 2) := by decide +kernel
theorem dX2_lowestFitting_5 : decode cX2_lowestFitting 5 = .ok (.aload_n 1, 1) := by decide +kernel
theorem dX2_lowestFitting_6 : decode cX2_lowestFitting 6 = .ok (.getfield 15, 3) := by decide +kernel
theorem dX2_lowestFitting_9 : decode cX2_lowestFitting 9 = .ok (.if_icmp .ge 49, 3) := by decide +kernel
theorem dX2_lowestFitting_12 : decode cX2_lowestFitting 12 = .ok (.iload_n 2, 1) := by decide +kernel
theorem dX2_lowestFitting_13 : decode cX2_lowestFitting 13 = .ok (.iconst 1, 1) := by decide +kernel
theorem dX2_lowestFitting_14 : decode cX2_lowestFitting 14 = .ok (.iload 4, 2) := by decide +kernel
theorem dX2_lowestFitting_16 : decode cX2_lowestFitting 16 = .ok (.ishl, 1) := by decide +kernel
theorem dX2_lowestFitting_17 : decode cX2_lowestFitting 17 = .ok (.iand, 1) := by decide +kernel
theorem dX2_lowestFitting_18 : decode cX2_lowestFitting 18 = .ok (.ifCond .ne 34, 3) := by decide +kernel
theorem dX2_lowestFitting_21 : decode cX2_lowestFitting 21 = .ok (.aload_n 1, 1) := by decide +kernel
theorem dX2_lowestFitting_22 : decode cX2_lowestFitting 22 = .ok (.iload 4, 2) := by decide +kernel
theorem dX2_lowestFitting_24 : decode cX2_lowestFitting 24 = .ok (.iload_n 3, 1) := by decide +kernel
theorem dX2_lowestFitting_25 : decode cX2_lowestFitting 25 = .ok (.invokestatic 27, 3) := by decide +kernel
theorem dX2_lowestFitting_28 : decode cX2_lowestFitting 28 = .ok (.aload_n 0, 1) := by decide +kernel
theorem dX2_lowestFitting_29 : decode cX2_lowestFitting 29 = .ok (.getfield 9, 3) := by decide +kernel
theorem dX2_lowestFitting_32 : decode cX2_lowestFitting 32 = .ok (.iload_n 2, 1) := by decide +kernel
theorem dX2_lowestFitting_33 : decode cX2_lowestFitting 33 = .ok (.iconst 1, 1) := by decide +kernel
theorem dX2_lowestFitting_34 : decode cX2_lowestFitting 34 = .ok (.iload 4, 2) := by decide +kernel
theorem dX2_lowestFitting_36 : decode cX2_lowestFitting 36 = .ok (.ishl, 1) := by decide +kernel
theorem dX2_lowestFitting_37 : decode cX2_lowestFitting 37 = .ok (.ior, 1) := by decide +kernel
theorem dX2_lowestFitting_38 : decode cX2_lowestFitting 38 = .ok (.iaload, 1) := by decide +kernel
theorem dX2_lowestFitting_39 : decode cX2_lowestFitting 39 = .ok (.iadd, 1) := by decide +kernel
theorem dX2_lowestFitting_40 : decode cX2_lowestFitting 40 = .ok (.aload_n 0, 1) := by decide +kernel
theorem dX2_lowestFitting_41 : decode cX2_lowestFitting 41 = .ok (.getfield 9, 3) := by decide +kernel
theorem dX2_lowestFitting_44 : decode cX2_lowestFitting 44 = .ok (.iload_n 2, 1) := by decide +kernel
theorem dX2_lowestFitting_45 : decode cX2_lowestFitting 45 = .ok (.iaload, 1) := by decide +kernel
theorem dX2_lowestFitting_46 : decode cX2_lowestFitting 46 = .ok (.if_icmp .ne 6, 3) := by decide +kernel
theorem dX2_lowestFitting_49 : decode cX2_lowestFitting 49 = .ok (.iload 4, 2) := by decide +kernel
theorem dX2_lowestFitting_51 : decode cX2_lowestFitting 51 = .ok (.ireturn, 1) := by decide +kernel
theorem dX2_lowestFitting_52 : decode cX2_lowestFitting 52 = .ok (.iinc 4 1, 3) := by decide +kernel
theorem dX2_lowestFitting_55 : decode cX2_lowestFitting 55 = .ok (.goto (-52), 3) := by decide +kernel
theorem dX2_lowestFitting_58 : decode cX2_lowestFitting 58 = .ok (.bipush (-4), 2) := by decide +kernel
theorem dX2_lowestFitting_60 : decode cX2_lowestFitting 60 = .ok (.ireturn, 1) := by decide +kernel
theorem dX2_off_0 : decode cX2_off 0 = .ok (.aload_n 0, 1) := by decide +kernel
theorem dX2_off_1 : decode cX2_off 1 = .ok (.getfield 40, 3) := by decide +kernel
theorem dX2_off_4 : decode cX2_off 4 = .ok (.iload_n 1, 1) := by decide +kernel
theorem dX2_off_5 : decode cX2_off 5 = .ok (.iaload, 1) := by decide +kernel
theorem dX2_off_6 : decode cX2_off 6 = .ok (.bipush (-4), 2) := by decide +kernel
theorem dX2_off_8 : decode cX2_off 8 = .ok (.if_icmp .ne 7, 3) := by decide +kernel
theorem dX2_off_11 : decode cX2_off 11 = .ok (.iconst 0, 1) := by decide +kernel
theorem dX2_off_12 : decode cX2_off 12 = .ok (.goto 14, 3) := by decide +kernel
theorem dX2_off_15 : decode cX2_off 15 = .ok (.aload_n 0, 1) := by decide +kernel
theorem dX2_off_16 : decode cX2_off 16 = .ok (.getfield 40, 3) := by decide +kernel
theorem dX2_off_19 : decode cX2_off 19 = .ok (.iload_n 1, 1) := by decide +kernel
theorem dX2_off_20 : decode cX2_off 20 = .ok (.iaload, 1) := by decide +kernel
theorem dX2_off_21 : decode cX2_off 21 = .ok (.iload_n 2, 1) := by decide +kernel
theorem dX2_off_22 : decode cX2_off 22 = .ok (.isub, 1) := by decide +kernel
theorem dX2_off_23 : decode cX2_off 23 = .ok (.invokestatic 43, 3) := by decide +kernel
theorem dX2_off_26 : decode cX2_off 26 = .ok (.ireturn, 1) := by decide +kernel
theorem dX3_init_0 : decode cX3_init 0 = .ok (.aload_n 0, 1) := by decide +kernel
theorem dX3_init_1 : decode cX3_init 1 = .ok (.invokespecial 3, 3) := by decide +kernel
theorem dX3_init_4 : decode cX3_init 4 = .ok (.aload_n 0, 1) := by decide +kernel
theorem dX3_init_5 : decode cX3_init 5 = .ok (.bipush 16, 2) := by decide +kernel
theorem dX3_init_7 : decode cX3_init 7 = .ok (.newarray .int, 2) := by decide +kernel
theorem dX3_init_9 : decode cX3_init 9 = .ok (.putfield 9, 3) := by decide +kernel
theorem dX3_init_12 : decode cX3_init 12 = .ok (.aload_n 0, 1) := by decide +kernel
theorem dX3_init_13 : decode cX3_init 13 = .ok (.bipush 16, 2) := by decide +kernel
theorem dX3_init_15 : decode cX3_init 15 = .ok (.newarray .int, 2) := by decide +kernel
theorem dX3_init_17 : decode cX3_init 17 = .ok (.putfield 15, 3) := by decide +kernel
theorem dX3_init_20 : decode cX3_init 20 = .ok (.aload_n 0, 1) := by decide +kernel
theorem dX3_init_21 : decode cX3_init 21 = .ok (.iconst 0, 1) := by decide +kernel
theorem dX3_init_22 : decode cX3_init 22 = .ok (.putfield 18, 3) := by decide +kernel
theorem dX3_init_25 : decode cX3_init 25 = .ok (.return_, 1) := by decide +kernel
theorem dX3_clear_0 : decode cX3_clear 0 = .ok (.aload_n 0, 1) := by decide +kernel
theorem dX3_clear_1 : decode cX3_clear 1 = .ok (.iconst 0, 1) := by decide +kernel
theorem dX3_clear_2 : decode cX3_clear 2 = .ok (.putfield 18, 3) := by decide +kernel
theorem dX3_clear_5 : decode cX3_clear 5 = .ok (.return_, 1) := by decide +kernel
theorem dX3_push_0 : decode cX3_push 0 = .ok (.aload_n 0, 1) := by decide +kernel
theorem dX3_push_1 : decode cX3_push 1 = .ok (.getfield 18, 3) := by decide +kernel
theorem dX3_push_4 : decode cX3_push 4 = .ok (.iconst 2, 1) := by decide +kernel
theorem dX3_push_5 : decode cX3_push 5 = .ok (.if_icmp .lt 5, 3) := by decide +kernel
theorem dX3_push_8 : decode cX3_push 8 = .ok (.iconst 0, 1) := by decide +kernel
theorem dX3_push_9 : decode cX3_push 9 = .ok (.ireturn, 1) := by decide +kernel
theorem dX3_push_10 : decode cX3_push 10 = .ok (.aload_n 1, 1) := by decide +kernel
theorem dX3_push_11 : decode cX3_push 11 = .ok (.getfield 22, 3) := by decide +kernel
theorem dX3_push_14 : decode cX3_push 14 = .ok (.iconst 0, 1) := by decide +kernel
theorem dX3_push_15 : decode cX3_push 15 = .ok (.aload_n 0, 1) := by decide +kernel
theorem dX3_push_16 : decode cX3_push 16 = .ok (.getfield 9, 3) := by decide +kernel
theorem dX3_push_19 : decode cX3_push 19 = .ok (.aload_n 0, 1) := by decide +kernel
theorem dX3_push_20 : decode cX3_push 20 = .ok (.getfield 18, 3) := by decide +kernel
theorem dX3_push_23 : decode cX3_push 23 = .ok (.bipush 8, 2) := by decide +kernel
theorem dX3_push_25 : decode cX3_push 25 = .ok (.imul, 1) := by decide +kernel
theorem dX3_push_26 : decode cX3_push 26 = .ok (.bipush 8, 2) := by decide +kernel
theorem dX3_push_28 : decode cX3_push 28 = .ok (.invokestatic 25, 3) := by decide +kernel
theorem dX3_push_31 : decode cX3_push 31 = .ok (.aload_n 1, 1) := by decide +kernel
theorem dX3_push_32 : decode cX3_push 32 = .ok (.getfield 31, 3) := by decide +kernel
theorem dX3_push_35 : decode cX3_push 35 = .ok (.iconst 0, 1) := by decide +kernel
theorem dX3_push_36 : decode cX3_push 36 = .ok (.aload_n 0, 1) := by decide +kernel
theorem dX3_push_37 : decode cX3_push 37 = .ok (.getfield 15, 3) := by decide +kernel
theorem dX3_push_40 : decode cX3_push 40 = .ok (.aload_n 0, 1) := by decide +kernel
theorem dX3_push_41 : decode cX3_push 41 = .ok (.getfield 18, 3) := by decide +kernel
theorem dX3_push_44 : decode cX3_push 44 = .ok (.bipush 8, 2) := by decide +kernel
theorem dX3_push_46 : decode cX3_push 46 = .ok (.imul, 1) := by decide +kernel
theorem dX3_push_47 : decode cX3_push 47 = .ok (.bipush 8, 2) := by decide +kernel
theorem dX3_push_49 : decode cX3_push 49 = .ok (.invokestatic 25, 3) := by decide +kernel
theorem dX3_push_52 : decode cX3_push 52 = .ok (.aload_n 0, 1) := by decide +kernel
theorem dX3_push_53 : decode cX3_push 53 = .ok (.dup, 1) := by decide +kernel
theorem dX3_push_54 : decode cX3_push 54 = .ok (.getfield 18, 3) := by decide +kernel
theorem dX3_push_57 : decode cX3_push 57 = .ok (.iconst 1, 1) := by decide +kernel
theorem dX3_push_58 : decode cX3_push 58 = .ok (.iadd, 1) := by decide +kernel
theorem dX3_push_59 : decode cX3_push 59 = .ok (.putfield 18, 3) := by decide +kernel
theorem dX3_push_62 : decode cX3_push 62 = .ok (.iconst 1, 1) := by decide +kernel
theorem dX3_push_63 : decode cX3_push 63 = .ok (.ireturn, 1) := by decide +kernel
theorem dX3_pop_0 : decode cX3_pop 0 = .ok (.aload_n 0, 1) := by decide +kernel
theorem dX3_pop_1 : decode cX3_pop 1 = .ok (.getfield 18, 3) := by decide +kernel
theorem dX3_pop_4 : decode cX3_pop 4 = .ok (.iconst 1, 1) := by decide +kernel
theorem dX3_pop_5 : decode cX3_pop 5 = .ok (.if_icmp .ge 5, 3) := by decide +kernel
theorem dX3_pop_8 : decode cX3_pop 8 = .ok (.iconst 0, 1) := by decide +kernel
theorem dX3_pop_9 : decode cX3_pop 9 = .ok (.ireturn, 1) := by decide +kernel
theorem dX3_pop_10 : decode cX3_pop 10 = .ok (.aload_n 0, 1) := by decide +kernel
theorem dX3_pop_11 : decode cX3_pop 11 = .ok (.dup, 1) := by decide +kernel
theorem dX3_pop_12 : decode cX3_pop 12 = .ok (.getfield 18, 3) := by decide +kernel
theorem dX3_pop_15 : decode cX3_pop 15 = .ok (.iconst 1, 1) := by decide +kernel
theorem dX3_pop_16 : decode cX3_pop 16 = .ok (.isub, 1) := by decide +kernel
theorem dX3_pop_17 : decode cX3_pop 17 = .ok (.putfield 18, 3) := by decide +kernel
theorem dX3_pop_20 : decode cX3_pop 20 = .ok (.aload_n 0, 1) := by decide +kernel
theorem dX3_pop_21 : decode cX3_pop 21 = .ok (.getfield 9, 3) := by decide +kernel
theorem dX3_pop_24 : decode cX3_pop 24 = .ok (.aload_n 0, 1) := by decide +kernel
theorem dX3_pop_25 : decode cX3_pop 25 = .ok (.getfield 18, 3) := by decide +kernel
theorem dX3_pop_28 : decode cX3_pop 28 = .ok (.bipush 8, 2) := by decide +kernel
theorem dX3_pop_30 : decode cX3_pop 30 = .ok (.imul, 1) := by decide +kernel
theorem dX3_pop_31 : decode cX3_pop 31 = .ok (.aload_n 1, 1) := by decide +kernel
theorem dX3_pop_32 : decode cX3_pop 32 = .ok (.getfield 22, 3) := by decide +kernel
theorem dX3_pop_35 : decode cX3_pop 35 = .ok (.iconst 0, 1) := by decide +kernel
theorem dX3_pop_36 : decode cX3_pop 36 = .ok (.bipush 8, 2) := by decide +kernel
theorem dX3_pop_38 : decode cX3_pop 38 = .ok (.invokestatic 25, 3) := by decide +kernel
theorem dX3_pop_41 : decode cX3_pop 41 = .ok (.aload_n 0, 1) := by decide +kernel
theorem dX3_pop_42 : decode cX3_pop 42 = .ok (.getfield 15, 3) := by decide +kernel
theorem dX3_pop_45 : decode cX3_pop 45 = .ok (.aload_n 0, 1) := by decide +kernel
theorem dX3_pop_46 : decode cX3_pop 46 = .ok (.getfield 18, 3) := by decide +kernel
theorem dX3_pop_49 : decode cX3_pop 49 = .ok (.bipush 8, 2) := by decide +kernel
theorem dX3_pop_51 : decode cX3_pop 51 = .ok (.imul, 1) := by decide +kernel
theorem dX3_pop_52 : decode cX3_pop 52 = .ok (.aload_n 1, 1) := by decide +kernel
theorem dX3_pop_53 : decode cX3_pop 53 = .ok (.getfield 31, 3) := by decide +kernel
theorem dX3_pop_56 : decode cX3_pop 56 = .ok (.iconst 0, 1) := by decide +kernel
theorem dX3_pop_57 : decode cX3_pop 57 = .ok (.bipush 8, 2) := by decide +kernel
theorem dX3_pop_59 : decode cX3_pop 59 = .ok (.invokestatic 25, 3) := by decide +kernel
theorem dX3_pop_62 : decode cX3_pop 62 = .ok (.iconst 1, 1) := by decide +kernel
theorem dX3_pop_63 : decode cX3_pop 63 = .ok (.ireturn, 1) := by decide +kernel
theorem dX4_init_0 : decode cX4_init 0 = .ok (.aload_n 0, 1) := by decide +kernel
theorem dX4_init_1 : decode cX4_init 1 = .ok (.invokespecial 3, 3) := by decide +kernel
theorem dX4_init_4 : decode cX4_init 4 = .ok (.aload_n 0, 1) := by decide +kernel
theorem dX4_init_5 : decode cX4_init 5 = .ok (.bipush 8, 2) := by decide +kernel
theorem dX4_init_7 : decode cX4_init 7 = .ok (.newarray .int, 2) := by decide +kernel
theorem dX4_init_9 : decode cX4_init 9 = .ok (.putfield 9, 3) := by decide +kernel
theorem dX4_init_12 : decode cX4_init 12 = .ok (.aload_n 0, 1) := by decide +kernel
theorem dX4_init_13 : decode cX4_init 13 = .ok (.bipush 8, 2) := by decide +kernel
theorem dX4_init_15 : decode cX4_init 15 = .ok (.newarray .int, 2) := by decide +kernel
theorem dX4_init_17 : decode cX4_init 17 = .ok (.putfield 15, 3) := by decide +kernel
theorem dX4_init_20 : decode cX4_init 20 = .ok (.aload_n 0, 1) := by decide +kernel
theorem dX4_init_21 : decode cX4_init 21 = .ok (.bipush 8, 2) := by decide +kernel
theorem dX4_init_23 : decode cX4_init 23 = .ok (.newarray .int, 2) := by decide +kernel
theorem dX4_init_25 : decode cX4_init 25 = .ok (.putfield 18, 3) := by decide +kernel
theorem dX4_init_28 : decode cX4_init 28 = .ok (.aload_n 0, 1) := by decide +kernel
theorem dX4_init_29 : decode cX4_init 29 = .ok (.bipush 8, 2) := by decide +kernel
theorem dX4_init_31 : decode cX4_init 31 = .ok (.newarray .int, 2) := by decide +kernel
theorem dX4_init_33 : decode cX4_init 33 = .ok (.putfield 21, 3) := by decide +kernel
theorem dX4_init_36 : decode cX4_init 36 = .ok (.aload_n 0, 1) := by decide +kernel
theorem dX4_init_37 : decode cX4_init 37 = .ok (.bipush 8, 2) := by decide +kernel
theorem dX4_init_39 : decode cX4_init 39 = .ok (.newarray .int, 2) := by decide +kernel
theorem dX4_init_41 : decode cX4_init 41 = .ok (.putfield 24, 3) := by decide +kernel
theorem dX4_init_44 : decode cX4_init 44 = .ok (.aload_n 0, 1) := by decide +kernel
theorem dX4_init_45 : decode cX4_init 45 = .ok (.sipush 201, 3) := by decide +kernel
theorem dX4_init_48 : decode cX4_init 48 = .ok (.newarray .int, 2) := by decide +kernel
theorem dX4_init_50 : decode cX4_init 50 = .ok (.putfield 27, 3) := by decide +kernel
theorem dX4_init_53 : decode cX4_init 53 = .ok (.aload_n 0, 1) := by decide +kernel
theorem dX4_init_54 : decode cX4_init 54 = .ok (.aload_n 1, 1) := by decide +kernel
theorem dX4_init_55 : decode cX4_init 55 = .ok (.putfield 30, 3) := by decide +kernel
theorem dX4_init_58 : decode cX4_init 58 = .ok (.aload_n 0, 1) := by decide +kernel
theorem dX4_init_59 : decode cX4_init 59 = .ok (.aload_n 1, 1) := by decide +kernel
theorem dX4_init_60 : decode cX4_init 60 = .ok (.getfield 34, 3) := by decide +kernel
theorem dX4_init_63 : decode cX4_init 63 = .ok (.putfield 39, 3) := by decide +kernel
theorem dX4_init_66 : decode cX4_init 66 = .ok (.aload_n 0, 1) := by decide +kernel
theorem dX4_init_67 : decode cX4_init 67 = .ok (.aload_n 1, 1) := by decide +kernel
theorem dX4_init_68 : decode cX4_init 68 = .ok (.getfield 40, 3) := by decide +kernel
theorem dX4_init_71 : decode cX4_init 71 = .ok (.putfield 44, 3) := by decide +kernel
theorem dX4_init_74 : decode cX4_init 74 = .ok (.return_, 1) := by decide +kernel
theorem dX4_prepare_0 : decode cX4_prepare 0 = .ok (.aload_n 0, 1) := by decide +kernel
theorem dX4_prepare_1 : decode cX4_prepare 1 = .ok (.aload_n 1, 1) := by decide +kernel
theorem dX4_prepare_2 : decode cX4_prepare 2 = .ok (.putfield 30, 3) := by decide +kernel
theorem dX4_prepare_5 : decode cX4_prepare 5 = .ok (.aload_n 0, 1) := by decide +kernel
theorem dX4_prepare_6 : decode cX4_prepare 6 = .ok (.aload_n 1, 1) := by decide +kernel
theorem dX4_prepare_7 : decode cX4_prepare 7 = .ok (.getfield 34, 3) := by decide +kernel
theorem dX4_prepare_10 : decode cX4_prepare 10 = .ok (.putfield 39, 3) := by decide +kernel
theorem dX4_prepare_13 : decode cX4_prepare 13 = .ok (.aload_n 0, 1) := by decide +kernel
theorem dX4_prepare_14 : decode cX4_prepare 14 = .ok (.aload_n 1, 1) := by decide +kernel
theorem dX4_prepare_15 : decode cX4_prepare 15 = .ok (.getfield 40, 3) := by decide +kernel
theorem dX4_prepare_18 : decode cX4_prepare 18 = .ok (.putfield 44, 3) := by decide +kernel
theorem dX4_prepare_21 : decode cX4_prepare 21 = .ok (.aload_n 0, 1) := by decide +kernel
theorem dX4_prepare_22 : decode cX4_prepare 22 = .ok (.iconst 0, 1) := by decide +kernel
theorem dX4_prepare_23 : decode cX4_prepare 23 = .ok (.putfield 45, 3) := by decide +kernel
theorem dX4_prepare_26 : decode cX4_prepare 26 = .ok (.aload_n 1, 1) := by decide +kernel
theorem dX4_prepare_27 : decode cX4_prepare 27 = .ok (.getfield 48, 3) := by decide +kernel
theorem dX4_prepare_30 : decode cX4_prepare 30 = .ok (.iconst 0, 1) := by decide +kernel
theorem dX4_prepare_31 : decode cX4_prepare 31 = .ok (.aload_n 0, 1) := by decide +kernel
theorem dX4_prepare_32 : decode cX4_prepare 32 = .ok (.getfield 9, 3) := by decide +kernel
theorem dX4_prepare_35 : decode cX4_prepare 35 = .ok (.iconst 0, 1) := by decide +kernel
theorem dX4_prepare_36 : decode cX4_prepare 36 = .ok (.bipush 8, 2) := by decide +kernel
theorem dX4_prepare_38 : decode cX4_prepare 38 = .ok (.invokestatic 49, 3) := by decide +kernel
theorem dX4_prepare_41 : decode cX4_prepare 41 = .ok (.aload_n 1, 1) := by decide +kernel
theorem dX4_prepare_42 : decode cX4_prepare 42 = .ok (.getfield 55, 3) := by decide +kernel
theorem dX4_prepare_45 : decode cX4_prepare 45 = .ok (.iconst 0, 1) := by decide +kernel
theorem dX4_prepare_46 : decode cX4_prepare 46 = .ok (.aload_n 0, 1) := by decide +kernel
theorem dX4_prepare_47 : decode cX4_prepare 47 = .ok (.getfield 15, 3) := by decide +kernel
theorem dX4_prepare_50 : decode cX4_prepare 50 = .ok (.iconst 0, 1) := by decide +kernel
theorem dX4_prepare_51 : decode cX4_prepare 51 = .ok (.bipush 8, 2) := by decide +kernel
theorem dX4_prepare_53 : decode cX4_prepare 53 = .ok (.invokestatic 49, 3) := by decide +kernel
theorem dX4_prepare_56 : decode cX4_prepare 56 = .ok (.return_, 1) := by decide +kernel
theorem dX4_unseatAll_0 : decode cX4_unseatAll 0 = .ok (.iconst 0, 1) := by decide +kernel
theorem dX4_unseatAll_1 : decode cX4_unseatAll 1 = .ok (.istore_n 1, 1) := by decide +kernel
theorem dX4_unseatAll_2 : decode cX4_unseatAll 2 = .ok (.iload_n 1, 1) := by decide +kernel
theorem dX4_unseatAll_3 : decode cX4_unseatAll 3 = .ok (.bipush 8, 2) := by decide +kernel
theorem dX4_unseatAll_5 : decode cX4_unseatAll 5 = .ok (.if_icmp .ge 17, 3) := by decide +kernel
theorem dX4_unseatAll_8 : decode cX4_unseatAll 8 = .ok (.aload_n 0, 1) := by decide +kernel
theorem dX4_unseatAll_9 : decode cX4_unseatAll 9 = .ok (.getfield 15, 3) := by decide +kernel
theorem dX4_unseatAll_12 : decode cX4_unseatAll 12 = .ok (.iload_n 1, 1) := by decide +kernel
theorem dX4_unseatAll_13 : decode cX4_unseatAll 13 = .ok (.bipush (-4), 2) := by decide +kernel
theorem dX4_unseatAll_15 : decode cX4_unseatAll 15 = .ok (.iastore, 1) := by decide +kernel
theorem dX4_unseatAll_16 : decode cX4_unseatAll 16 = .ok (.iinc 1 1, 3) := by decide +kernel
theorem dX4_unseatAll_19 : decode cX4_unseatAll 19 = .ok (.goto (-17), 3) := by decide +kernel
theorem dX4_unseatAll_22 : decode cX4_unseatAll 22 = .ok (.return_, 1) := by decide +kernel
theorem dX4_drawFlow_0 : decode cX4_drawFlow 0 = .ok (.iconst 1, 1) := by decide +kernel
theorem dX4_drawFlow_1 : decode cX4_drawFlow 1 = .ok (.istore_n 2, 1) := by decide +kernel
theorem dX4_drawFlow_2 : decode cX4_drawFlow 2 = .ok (.iload_n 2, 1) := by decide +kernel
theorem dX4_drawFlow_3 : decode cX4_drawFlow 3 = .ok (.sipush 200, 3) := by decide +kernel
theorem dX4_drawFlow_6 : decode cX4_drawFlow 6 = .ok (.if_icmp .gt 43, 3) := by decide +kernel
theorem dX4_drawFlow_9 : decode cX4_drawFlow 9 = .ok (.ldc2_w 56, 3) := by decide +kernel
theorem dX4_drawFlow_12 : decode cX4_drawFlow 12 = .ok (.iload_n 1, 1) := by decide +kernel
theorem dX4_drawFlow_13 : decode cX4_drawFlow 13 = .ok (.i2l, 1) := by decide +kernel
theorem dX4_drawFlow_14 : decode cX4_drawFlow 14 = .ok (.lmul, 1) := by decide +kernel
theorem dX4_drawFlow_15 : decode cX4_drawFlow 15 = .ok (.ldc2_w 58, 3) := by decide +kernel
theorem dX4_drawFlow_18 : decode cX4_drawFlow 18 = .ok (.iload_n 2, 1) := by decide +kernel
theorem dX4_drawFlow_19 : decode cX4_drawFlow 19 = .ok (.i2l, 1) := by decide +kernel
theorem dX4_drawFlow_20 : decode cX4_drawFlow 20 = .ok (.lmul, 1) := by decide +kernel
theorem dX4_drawFlow_21 : decode cX4_drawFlow 21 = .ok (.ladd, 1) := by decide +kernel
theorem dX4_drawFlow_22 : decode cX4_drawFlow 22 = .ok (.lconst 1, 1) := by decide +kernel
theorem dX4_drawFlow_23 : decode cX4_drawFlow 23 = .ok (.ladd, 1) := by decide +kernel
theorem dX4_drawFlow_24 : decode cX4_drawFlow 24 = .ok (.lstore_n 3, 1) := by decide +kernel
theorem dX4_drawFlow_25 : decode cX4_drawFlow 25 = .ok (.aload_n 0, 1) := by decide +kernel
theorem dX4_drawFlow_26 : decode cX4_drawFlow 26 = .ok (.getfield 27, 3) := by decide +kernel
theorem dX4_drawFlow_29 : decode cX4_drawFlow 29 = .ok (.iload_n 2, 1) := by decide +kernel
theorem dX4_drawFlow_30 : decode cX4_drawFlow 30 = .ok (.lload_n 3, 1) := by decide +kernel
theorem dX4_drawFlow_31 : decode cX4_drawFlow 31 = .ok (.lload_n 3, 1) := by decide +kernel
theorem dX4_drawFlow_32 : decode cX4_drawFlow 32 = .ok (.lmul, 1) := by decide +kernel
theorem dX4_drawFlow_33 : decode cX4_drawFlow 33 = .ok (.ldc2_w 60, 3) := by decide +kernel
theorem dX4_drawFlow_36 : decode cX4_drawFlow 36 = .ok (.lrem, 1) := by decide +kernel
theorem dX4_drawFlow_37 : decode cX4_drawFlow 37 = .ok (.ldc2_w 62, 3) := by decide +kernel
theorem dX4_drawFlow_40 : decode cX4_drawFlow 40 = .ok (.lrem, 1) := by decide +kernel
theorem dX4_drawFlow_41 : decode cX4_drawFlow 41 = .ok (.l2i, 1) := by decide +kernel
theorem dX4_drawFlow_42 : decode cX4_drawFlow 42 = .ok (.iastore, 1) := by decide +kernel
theorem dX4_drawFlow_43 : decode cX4_drawFlow 43 = .ok (.iinc 2 1, 3) := by decide +kernel
theorem dX4_drawFlow_46 : decode cX4_drawFlow 46 = .ok (.goto (-44), 3) := by decide +kernel
theorem dX4_drawFlow_49 : decode cX4_drawFlow 49 = .ok (.aload_n 0, 1) := by decide +kernel
theorem dX4_drawFlow_50 : decode cX4_drawFlow 50 = .ok (.aload_n 0, 1) := by decide +kernel
theorem dX4_drawFlow_51 : decode cX4_drawFlow 51 = .ok (.getfield 27, 3) := by decide +kernel
theorem dX4_drawFlow_54 : decode cX4_drawFlow 54 = .ok (.putfield 39, 3) := by decide +kernel
theorem dX4_drawFlow_57 : decode cX4_drawFlow 57 = .ok (.return_, 1) := by decide +kernel
theorem dX4_run_0 : decode cX4_run 0 = .ok (.iconst 0, 1) := by decide +kernel
theorem dX4_run_1 : decode cX4_run 1 = .ok (.istore_n 1, 1) := by decide +kernel
theorem dX4_run_2 : decode cX4_run 2 = .ok (.iload_n 1, 1) := by decide +kernel
theorem dX4_run_3 : decode cX4_run 3 = .ok (.aload_n 0, 1) := by decide +kernel
theorem dX4_run_4 : decode cX4_run 4 = .ok (.getfield 30, 3) := by decide +kernel
theorem dX4_run_7 : decode cX4_run 7 = .ok (.getfield 64, 3) := by decide +kernel
theorem dX4_run_10 : decode cX4_run 10 = .ok (.if_icmp .ge 27, 3) := by decide +kernel
theorem dX4_run_13 : decode cX4_run 13 = .ok (.aload_n 0, 1) := by decide +kernel
theorem dX4_run_14 : decode cX4_run 14 = .ok (.iload_n 1, 1) := by decide +kernel
theorem dX4_run_15 : decode cX4_run 15 = .ok (.invokevirtual 67, 3) := by decide +kernel
theorem dX4_run_18 : decode cX4_run 18 = .ok (.aload_n 0, 1) := by decide +kernel
theorem dX4_run_19 : decode cX4_run 19 = .ok (.getfield 18, 3) := by decide +kernel
theorem dX4_run_22 : decode cX4_run 22 = .ok (.iload_n 1, 1) := by decide +kernel
theorem dX4_run_23 : decode cX4_run 23 = .ok (.aload_n 0, 1) := by decide +kernel
theorem dX4_run_24 : decode cX4_run 24 = .ok (.sipush 200, 3) := by decide +kernel
theorem dX4_run_27 : decode cX4_run 27 = .ok (.invokevirtual 71, 3) := by decide +kernel
theorem dX4_run_30 : decode cX4_run 30 = .ok (.iastore, 1) := by decide +kernel
theorem dX4_run_31 : decode cX4_run 31 = .ok (.iinc 1 1, 3) := by decide +kernel
theorem dX4_run_34 : decode cX4_run 34 = .ok (.goto (-32), 3) := by decide +kernel
theorem dX4_run_37 : decode cX4_run 37 = .ok (.iconst 0, 1) := by decide +kernel
theorem dX4_run_38 : decode cX4_run 38 = .ok (.istore_n 1, 1) := by decide +kernel
theorem dX4_run_39 : decode cX4_run 39 = .ok (.iload_n 1, 1) := by decide +kernel
theorem dX4_run_40 : decode cX4_run 40 = .ok (.aload_n 0, 1) := by decide +kernel
theorem dX4_run_41 : decode cX4_run 41 = .ok (.getfield 30, 3) := by decide +kernel
theorem dX4_run_44 : decode cX4_run 44 = .ok (.getfield 64, 3) := by decide +kernel
theorem dX4_run_47 : decode cX4_run 47 = .ok (.if_icmp .ge 68, 3) := by decide +kernel
theorem dX4_run_50 : decode cX4_run 50 = .ok (.iconst 0, 1) := by decide +kernel
theorem dX4_run_51 : decode cX4_run 51 = .ok (.istore_n 2, 1) := by decide +kernel
theorem dX4_run_52 : decode cX4_run 52 = .ok (.iconst 0, 1) := by decide +kernel
theorem dX4_run_53 : decode cX4_run 53 = .ok (.istore_n 3, 1) := by decide +kernel
theorem dX4_run_54 : decode cX4_run 54 = .ok (.iload_n 3, 1) := by decide +kernel
theorem dX4_run_55 : decode cX4_run 55 = .ok (.aload_n 0, 1) := by decide +kernel
theorem dX4_run_56 : decode cX4_run 56 = .ok (.getfield 30, 3) := by decide +kernel
theorem dX4_run_59 : decode cX4_run 59 = .ok (.getfield 64, 3) := by decide +kernel
theorem dX4_run_62 : decode cX4_run 62 = .ok (.if_icmp .ge 31, 3) := by decide +kernel
theorem dX4_run_65 : decode cX4_run 65 = .ok (.iload_n 2, 1) := by decide +kernel
theorem dX4_run_66 : decode cX4_run 66 = .ok (.iload_n 3, 1) := by decide +kernel
theorem dX4_run_67 : decode cX4_run 67 = .ok (.iload_n 1, 1) := by decide +kernel
theorem dX4_run_68 : decode cX4_run 68 = .ok (.if_icmp .eq 16, 3) := by decide +kernel
theorem dX4_run_71 : decode cX4_run 71 = .ok (.aload_n 0, 1) := by decide +kernel
theorem dX4_run_72 : decode cX4_run 72 = .ok (.iload_n 3, 1) := by decide +kernel
theorem dX4_run_73 : decode cX4_run 73 = .ok (.iload_n 1, 1) := by decide +kernel
theorem dX4_run_74 : decode cX4_run 74 = .ok (.invokevirtual 75, 3) := by decide +kernel
theorem dX4_run_77 : decode cX4_run 77 = .ok (.ifCond .eq 7, 3) := by decide +kernel
theorem dX4_run_80 : decode cX4_run 80 = .ok (.iconst 1, 1) := by decide +kernel
theorem dX4_run_81 : decode cX4_run 81 = .ok (.goto 4, 3) := by decide +kernel
theorem dX4_run_84 : decode cX4_run 84 = .ok (.iconst 0, 1) := by decide +kernel
theorem dX4_run_85 : decode cX4_run 85 = .ok (.iadd, 1) := by decide +kernel
theorem dX4_run_86 : decode cX4_run 86 = .ok (.istore_n 2, 1) := by decide +kernel
theorem dX4_run_87 : decode cX4_run 87 = .ok (.iinc 3 1, 3) := by decide +kernel
theorem dX4_run_90 : decode cX4_run 90 = .ok (.goto (-36), 3) := by decide +kernel
theorem dX4_run_93 : decode cX4_run 93 = .ok (.aload_n 0, 1) := by decide +kernel
theorem dX4_run_94 : decode cX4_run 94 = .ok (.getfield 21, 3) := by decide +kernel
theorem dX4_run_97 : decode cX4_run 97 = .ok (.iload_n 1, 1) := by decide +kernel
theorem dX4_run_98 : decode cX4_run 98 = .ok (.iload_n 2, 1) := by decide +kernel
theorem dX4_run_99 : decode cX4_run 99 = .ok (.iconst 1, 1) := by decide +kernel
theorem dX4_run_100 : decode cX4_run 100 = .ok (.iadd, 1) := by decide +kernel
theorem dX4_run_101 : decode cX4_run 101 = .ok (.iastore, 1) := by decide +kernel
theorem dX4_run_102 : decode cX4_run 102 = .ok (.aload_n 0, 1) := by decide +kernel
theorem dX4_run_103 : decode cX4_run 103 = .ok (.getfield 24, 3) := by decide +kernel
theorem dX4_run_106 : decode cX4_run 106 = .ok (.iload_n 2, 1) := by decide +kernel
theorem dX4_run_107 : decode cX4_run 107 = .ok (.iload_n 1, 1) := by decide +kernel
theorem dX4_run_108 : decode cX4_run 108 = .ok (.iastore, 1) := by decide +kernel
theorem dX4_run_109 : decode cX4_run 109 = .ok (.iinc 1 1, 3) := by decide +kernel
theorem dX4_run_112 : decode cX4_run 112 = .ok (.goto (-73), 3) := by decide +kernel
theorem dX4_run_115 : decode cX4_run 115 = .ok (.return_, 1) := by decide +kernel
theorem dX4_mount_0 : decode cX4_mount 0 = .ok (.aload_n 0, 1) := by decide +kernel
theorem dX4_mount_1 : decode cX4_mount 1 = .ok (.getfield 30, 3) := by decide +kernel
theorem dX4_mount_4 : decode cX4_mount 4 = .ok (.aload_n 0, 1) := by decide +kernel
theorem dX4_mount_5 : decode cX4_mount 5 = .ok (.getfield 15, 3) := by decide +kernel
theorem dX4_mount_8 : decode cX4_mount 8 = .ok (.iload_n 1, 1) := by decide +kernel
theorem dX4_mount_9 : decode cX4_mount 9 = .ok (.iaload, 1) := by decide +kernel
theorem dX4_mount_10 : decode cX4_mount 10 = .ok (.invokevirtual 79, 3) := by decide +kernel
theorem dX4_mount_13 : decode cX4_mount 13 = .ok (.ifCond .eq 12, 3) := by decide +kernel
theorem dX4_mount_16 : decode cX4_mount 16 = .ok (.aload_n 0, 1) := by decide +kernel
theorem dX4_mount_17 : decode cX4_mount 17 = .ok (.getfield 15, 3) := by decide +kernel
theorem dX4_mount_20 : decode cX4_mount 20 = .ok (.iload_n 1, 1) := by decide +kernel
theorem dX4_mount_21 : decode cX4_mount 21 = .ok (.iaload, 1) := by decide +kernel
theorem dX4_mount_22 : decode cX4_mount 22 = .ok (.goto 4, 3) := by decide +kernel
theorem dX4_mount_25 : decode cX4_mount 25 = .ok (.iload_n 1, 1) := by decide +kernel
theorem dX4_mount_26 : decode cX4_mount 26 = .ok (.istore_n 2, 1) := by decide +kernel
theorem dX4_mount_27 : decode cX4_mount 27 = .ok (.aload_n 0, 1) := by decide +kernel
theorem dX4_mount_28 : decode cX4_mount 28 = .ok (.getfield 30, 3) := by decide +kernel
theorem dX4_mount_31 : decode cX4_mount 31 = .ok (.getfield 83, 3) := by decide +kernel
theorem dX4_mount_34 : decode cX4_mount 34 = .ok (.iload_n 2, 1) := by decide +kernel
theorem dX4_mount_35 : decode cX4_mount 35 = .ok (.iaload, 1) := by decide +kernel
theorem dX4_mount_36 : decode cX4_mount 36 = .ok (.bipush (-4), 2) := by decide +kernel
theorem dX4_mount_38 : decode cX4_mount 38 = .ok (.if_icmp .ne 11, 3) := by decide +kernel
theorem dX4_mount_41 : decode cX4_mount 41 = .ok (.aload_n 0, 1) := by decide +kernel
theorem dX4_mount_42 : decode cX4_mount 42 = .ok (.iload_n 2, 1) := by decide +kernel
theorem dX4_mount_43 : decode cX4_mount 43 = .ok (.invokevirtual 86, 3) := by decide +kernel
theorem dX4_mount_46 : decode cX4_mount 46 = .ok (.goto 16, 3) := by decide +kernel
theorem dX4_mount_49 : decode cX4_mount 49 = .ok (.aload_n 0, 1) := by decide +kernel
theorem dX4_mount_50 : decode cX4_mount 50 = .ok (.aload_n 0, 1) := by decide +kernel
theorem dX4_mount_51 : decode cX4_mount 51 = .ok (.getfield 30, 3) := by decide +kernel
theorem dX4_mount_54 : decode cX4_mount 54 = .ok (.getfield 83, 3) := by decide +kernel
theorem dX4_mount_57 : decode cX4_mount 57 = .ok (.iload_n 2, 1) := by decide +kernel
theorem dX4_mount_58 : decode cX4_mount 58 = .ok (.iaload, 1) := by decide +kernel
theorem dX4_mount_59 : decode cX4_mount 59 = .ok (.invokevirtual 89, 3) := by decide +kernel
theorem dX4_mount_62 : decode cX4_mount 62 = .ok (.aload_n 0, 1) := by decide +kernel
theorem dX4_mount_63 : decode cX4_mount 63 = .ok (.aload_n 0, 1) := by decide +kernel
theorem dX4_mount_64 : decode cX4_mount 64 = .ok (.invokevirtual 92, 3) := by decide +kernel
theorem dX4_mount_67 : decode cX4_mount 67 = .ok (.putfield 96, 3) := by decide +kernel
theorem dX4_mount_70 : decode cX4_mount 70 = .ok (.return_, 1) := by decide +kernel
theorem dX4_mountBeast_0 : decode cX4_mountBeast 0 = .ok (.iconst 0, 1) := by decide +kernel
theorem dX4_mountBeast_1 : decode cX4_mountBeast 1 = .ok (.istore_n 2, 1) := by decide +kernel
theorem dX4_mountBeast_2 : decode cX4_mountBeast 2 = .ok (.iconst 0, 1) := by decide +kernel
theorem dX4_mountBeast_3 : decode cX4_mountBeast 3 = .ok (.istore_n 3, 1) := by decide +kernel
theorem dX4_mountBeast_4 : decode cX4_mountBeast 4 = .ok (.iload_n 3, 1) := by decide +kernel
theorem dX4_mountBeast_5 : decode cX4_mountBeast 5 = .ok (.aload_n 0, 1) := by decide +kernel
theorem dX4_mountBeast_6 : decode cX4_mountBeast 6 = .ok (.getfield 30, 3) := by decide +kernel
theorem dX4_mountBeast_9 : decode cX4_mountBeast 9 = .ok (.getfield 64, 3) := by decide +kernel
theorem dX4_mountBeast_12 : decode cX4_mountBeast 12 = .ok (.if_icmp .ge 35, 3) := by decide +kernel
theorem dX4_mountBeast_15 : decode cX4_mountBeast 15 = .ok (.iload_n 2, 1) := by decide +kernel
theorem dX4_mountBeast_16 : decode cX4_mountBeast 16 = .ok (.aload_n 0, 1) := by decide +kernel
theorem dX4_mountBeast_17 : decode cX4_mountBeast 17 = .ok (.getfield 15, 3) := by decide +kernel
theorem dX4_mountBeast_20 : decode cX4_mountBeast 20 = .ok (.iload_n 3, 1) := by decide +kernel
theorem dX4_mountBeast_21 : decode cX4_mountBeast 21 = .ok (.iaload, 1) := by decide +kernel
theorem dX4_mountBeast_22 : decode cX4_mountBeast 22 = .ok (.iload_n 1, 1) := by decide +kernel
theorem dX4_mountBeast_23 : decode cX4_mountBeast 23 = .ok (.if_icmp .ne 15, 3) := by decide +kernel
theorem dX4_mountBeast_26 : decode cX4_mountBeast 26 = .ok (.aload_n 0, 1) := by decide +kernel
theorem dX4_mountBeast_27 : decode cX4_mountBeast 27 = .ok (.getfield 30, 3) := by decide +kernel
theorem dX4_mountBeast_30 : decode cX4_mountBeast 30 = .ok (.getfield 99, 3) := by decide +kernel
theorem dX4_mountBeast_33 : decode cX4_mountBeast 33 = .ok (.iload_n 3, 1) := by decide +kernel
theorem dX4_mountBeast_34 : decode cX4_mountBeast 34 = .ok (.iaload, 1) := by decide +kernel
theorem dX4_mountBeast_35 : decode cX4_mountBeast 35 = .ok (.goto 4, 3) := by decide +kernel
theorem dX4_mountBeast_38 : decode cX4_mountBeast 38 = .ok (.iconst 0, 1) := by decide +kernel
theorem dX4_mountBeast_39 : decode cX4_mountBeast 39 = .ok (.iadd, 1) := by decide +kernel
theorem dX4_mountBeast_40 : decode cX4_mountBeast 40 = .ok (.istore_n 2, 1) := by decide +kernel
theorem dX4_mountBeast_41 : decode cX4_mountBeast 41 = .ok (.iinc 3 1, 3) := by decide +kernel
theorem dX4_mountBeast_44 : decode cX4_mountBeast 44 = .ok (.goto (-40), 3) := by decide +kernel
theorem dX4_mountBeast_47 : decode cX4_mountBeast 47 = .ok (.aload_n 0, 1) := by decide +kernel
theorem dX4_mountBeast_48 : decode cX4_mountBeast 48 = .ok (.aload_n 0, 1) := by decide +kernel
theorem dX4_mountBeast_49 : decode cX4_mountBeast 49 = .ok (.getfield 30, 3) := by decide +kernel
theorem dX4_mountBeast_52 : decode cX4_mountBeast 52 = .ok (.getfield 102, 3) := by decide +kernel
theorem dX4_mountBeast_55 : decode cX4_mountBeast 55 = .ok (.iload_n 1, 1) := by decide +kernel
theorem dX4_mountBeast_56 : decode cX4_mountBeast 56 = .ok (.iaload, 1) := by decide +kernel
theorem dX4_mountBeast_57 : decode cX4_mountBeast 57 = .ok (.iload_n 2, 1) := by decide +kernel
theorem dX4_mountBeast_58 : decode cX4_mountBeast 58 = .ok (.iconst 3, 1) := by decide +kernel
theorem dX4_mountBeast_59 : decode cX4_mountBeast 59 = .ok (.idiv, 1) := by decide +kernel
theorem dX4_mountBeast_60 : decode cX4_mountBeast 60 = .ok (.isub, 1) := by decide +kernel
theorem dX4_mountBeast_61 : decode cX4_mountBeast 61 = .ok (.putfield 105, 3) := by decide +kernel
theorem dX4_mountBeast_64 : decode cX4_mountBeast 64 = .ok (.aload_n 0, 1) := by decide +kernel
theorem dX4_mountBeast_65 : decode cX4_mountBeast 65 = .ok (.aload_n 0, 1) := by decide +kernel
theorem dX4_mountBeast_66 : decode cX4_mountBeast 66 = .ok (.getfield 30, 3) := by decide +kernel
theorem dX4_mountBeast_69 : decode cX4_mountBeast 69 = .ok (.getfield 108, 3) := by decide +kernel
theorem dX4_mountBeast_72 : decode cX4_mountBeast 72 = .ok (.iload_n 1, 1) := by decide +kernel
theorem dX4_mountBeast_73 : decode cX4_mountBeast 73 = .ok (.iaload, 1) := by decide +kernel
theorem dX4_mountBeast_74 : decode cX4_mountBeast 74 = .ok (.putfield 111, 3) := by decide +kernel
theorem dX4_mountBeast_77 : decode cX4_mountBeast 77 = .ok (.aload_n 0, 1) := by decide +kernel
theorem dX4_mountBeast_78 : decode cX4_mountBeast 78 = .ok (.aload_n 0, 1) := by decide +kernel
theorem dX4_mountBeast_79 : decode cX4_mountBeast 79 = .ok (.getfield 111, 3) := by decide +kernel
theorem dX4_mountBeast_82 : decode cX4_mountBeast 82 = .ok (.iconst 3, 1) := by decide +kernel
theorem dX4_mountBeast_83 : decode cX4_mountBeast 83 = .ok (.if_icmp .ne 14, 3) := by decide +kernel
theorem dX4_mountBeast_86 : decode cX4_mountBeast 86 = .ok (.aload_n 0, 1) := by decide +kernel
theorem dX4_mountBeast_87 : decode cX4_mountBeast 87 = .ok (.getfield 9, 3) := by decide +kernel
theorem dX4_mountBeast_90 : decode cX4_mountBeast 90 = .ok (.iload_n 1, 1) := by decide +kernel
theorem dX4_mountBeast_91 : decode cX4_mountBeast 91 = .ok (.iaload, 1) := by decide +kernel
theorem dX4_mountBeast_92 : decode cX4_mountBeast 92 = .ok (.iconst 3, 1) := by decide +kernel
theorem dX4_mountBeast_93 : decode cX4_mountBeast 93 = .ok (.iadd, 1) := by decide +kernel
theorem dX4_mountBeast_94 : decode cX4_mountBeast 94 = .ok (.goto 9, 3) := by decide +kernel
theorem dX4_mountBeast_97 : decode cX4_mountBeast 97 = .ok (.aload_n 0, 1) := by decide +kernel
theorem dX4_mountBeast_98 : decode cX4_mountBeast 98 = .ok (.getfield 9, 3) := by decide +kernel
theorem dX4_mountBeast_101 : decode cX4_mountBeast 101 = .ok (.iload_n 1, 1) := by decide +kernel
theorem dX4_mountBeast_102 : decode cX4_mountBeast 102 = .ok (.iaload, 1) := by decide +kernel
theorem dX4_mountBeast_103 : decode cX4_mountBeast 103 = .ok (.putfield 114, 3) := by decide +kernel
theorem dX4_mountBeast_106 : decode cX4_mountBeast 106 = .ok (.return_, 1) := by decide +kernel
theorem dX4_mountRaft_0 : decode cX4_mountRaft 0 = .ok (.iconst 0, 1) := by decide +kernel
theorem dX4_mountRaft_1 : decode cX4_mountRaft 1 = .ok (.istore_n 2, 1) := by decide +kernel
theorem dX4_mountRaft_2 : decode cX4_mountRaft 2 = .ok (.aload_n 0, 1) := by decide +kernel
theorem dX4_mountRaft_3 : decode cX4_mountRaft 3 = .ok (.iconst 0, 1) := by decide +kernel
theorem dX4_mountRaft_4 : decode cX4_mountRaft 4 = .ok (.putfield 114, 3) := by decide +kernel
theorem dX4_mountRaft_7 : decode cX4_mountRaft 7 = .ok (.iconst 0, 1) := by decide +kernel
theorem dX4_mountRaft_8 : decode cX4_mountRaft 8 = .ok (.istore_n 3, 1) := by decide +kernel
theorem dX4_mountRaft_9 : decode cX4_mountRaft 9 = .ok (.iload_n 3, 1) := by decide +kernel
theorem dX4_mountRaft_10 : decode cX4_mountRaft 10 = .ok (.aload_n 0, 1) := by decide +kernel
theorem dX4_mountRaft_11 : decode cX4_mountRaft 11 = .ok (.getfield 30, 3) := by decide +kernel
theorem dX4_mountRaft_14 : decode cX4_mountRaft 14 = .ok (.getfield 64, 3) := by decide +kernel
theorem dX4_mountRaft_17 : decode cX4_mountRaft 17 = .ok (.if_icmp .ge 51, 3) := by decide +kernel
theorem dX4_mountRaft_20 : decode cX4_mountRaft 20 = .ok (.aload_n 0, 1) := by decide +kernel
theorem dX4_mountRaft_21 : decode cX4_mountRaft 21 = .ok (.getfield 30, 3) := by decide +kernel
theorem dX4_mountRaft_24 : decode cX4_mountRaft 24 = .ok (.getfield 83, 3) := by decide +kernel
theorem dX4_mountRaft_27 : decode cX4_mountRaft 27 = .ok (.iload_n 3, 1) := by decide +kernel
theorem dX4_mountRaft_28 : decode cX4_mountRaft 28 = .ok (.iaload, 1) := by decide +kernel
theorem dX4_mountRaft_29 : decode cX4_mountRaft 29 = .ok (.iload_n 1, 1) := by decide +kernel
theorem dX4_mountRaft_30 : decode cX4_mountRaft 30 = .ok (.if_icmp .ne 32, 3) := by decide +kernel
theorem dX4_mountRaft_33 : decode cX4_mountRaft 33 = .ok (.iload_n 2, 1) := by decide +kernel
theorem dX4_mountRaft_34 : decode cX4_mountRaft 34 = .ok (.aload_n 0, 1) := by decide +kernel
theorem dX4_mountRaft_35 : decode cX4_mountRaft 35 = .ok (.getfield 30, 3) := by decide +kernel
theorem dX4_mountRaft_38 : decode cX4_mountRaft 38 = .ok (.getfield 102, 3) := by decide +kernel
theorem dX4_mountRaft_41 : decode cX4_mountRaft 41 = .ok (.iload_n 3, 1) := by decide +kernel
theorem dX4_mountRaft_42 : decode cX4_mountRaft 42 = .ok (.iaload, 1) := by decide +kernel
theorem dX4_mountRaft_43 : decode cX4_mountRaft 43 = .ok (.iadd, 1) := by decide +kernel
theorem dX4_mountRaft_44 : decode cX4_mountRaft 44 = .ok (.istore_n 2, 1) := by decide +kernel
theorem dX4_mountRaft_45 : decode cX4_mountRaft 45 = .ok (.aload_n 0, 1) := by decide +kernel
theorem dX4_mountRaft_46 : decode cX4_mountRaft 46 = .ok (.aload_n 0, 1) := by decide +kernel
theorem dX4_mountRaft_47 : decode cX4_mountRaft 47 = .ok (.getfield 114, 3) := by decide +kernel
theorem dX4_mountRaft_50 : decode cX4_mountRaft 50 = .ok (.aload_n 0, 1) := by decide +kernel
theorem dX4_mountRaft_51 : decode cX4_mountRaft 51 = .ok (.getfield 9, 3) := by decide +kernel
theorem dX4_mountRaft_54 : decode cX4_mountRaft 54 = .ok (.iload_n 3, 1) := by decide +kernel
theorem dX4_mountRaft_55 : decode cX4_mountRaft 55 = .ok (.iaload, 1) := by decide +kernel
theorem dX4_mountRaft_56 : decode cX4_mountRaft 56 = .ok (.invokestatic 117, 3) := by decide +kernel
theorem dX4_mountRaft_59 : decode cX4_mountRaft 59 = .ok (.putfield 114, 3) := by decide +kernel
theorem dX4_mountRaft_62 : decode cX4_mountRaft 62 = .ok (.iinc 3 1, 3) := by decide +kernel
theorem dX4_mountRaft_65 : decode cX4_mountRaft 65 = .ok (.goto (-56), 3) := by decide +kernel
theorem dX4_mountRaft_68 : decode cX4_mountRaft 68 = .ok (.aload_n 0, 1) := by decide +kernel
theorem dX4_mountRaft_69 : decode cX4_mountRaft 69 = .ok (.iload_n 2, 1) := by decide +kernel
theorem dX4_mountRaft_70 : decode cX4_mountRaft 70 = .ok (.iconst 3, 1) := by decide +kernel
theorem dX4_mountRaft_71 : decode cX4_mountRaft 71 = .ok (.idiv, 1) := by decide +kernel
theorem dX4_mountRaft_72 : decode cX4_mountRaft 72 = .ok (.putfield 105, 3) := by decide +kernel
theorem dX4_mountRaft_75 : decode cX4_mountRaft 75 = .ok (.aload_n 0, 1) := by decide +kernel
theorem dX4_mountRaft_76 : decode cX4_mountRaft 76 = .ok (.iconst 4, 1) := by decide +kernel
theorem dX4_mountRaft_77 : decode cX4_mountRaft 77 = .ok (.putfield 111, 3) := by decide +kernel
theorem dX4_mountRaft_80 : decode cX4_mountRaft 80 = .ok (.return_, 1) := by decide +kernel
theorem dX4_earliestHelp_0 : decode cX4_earliestHelp 0 = .ok (.sipush 201, 3) := by decide +kernel
theorem dX4_earliestHelp_3 : decode cX4_earliestHelp 3 = .ok (.istore_n 1, 1) := by decide +kernel
theorem dX4_earliestHelp_4 : decode cX4_earliestHelp 4 = .ok (.iconst 0, 1) := by decide +kernel
theorem dX4_earliestHelp_5 : decode cX4_earliestHelp 5 = .ok (.istore_n 2, 1) := by decide +kernel
theorem dX4_earliestHelp_6 : decode cX4_earliestHelp 6 = .ok (.iload_n 2, 1) := by decide +kernel
theorem dX4_earliestHelp_7 : decode cX4_earliestHelp 7 = .ok (.aload_n 0, 1) := by decide +kernel
theorem dX4_earliestHelp_8 : decode cX4_earliestHelp 8 = .ok (.getfield 30, 3) := by decide +kernel
theorem dX4_earliestHelp_11 : decode cX4_earliestHelp 11 = .ok (.getfield 64, 3) := by decide +kernel
theorem dX4_earliestHelp_14 : decode cX4_earliestHelp 14 = .ok (.if_icmp .ge 33, 3) := by decide +kernel
theorem dX4_earliestHelp_17 : decode cX4_earliestHelp 17 = .ok (.aload_n 0, 1) := by decide +kernel
theorem dX4_earliestHelp_18 : decode cX4_earliestHelp 18 = .ok (.getfield 30, 3) := by decide +kernel
theorem dX4_earliestHelp_21 : decode cX4_earliestHelp 21 = .ok (.getfield 108, 3) := by decide +kernel
theorem dX4_earliestHelp_24 : decode cX4_earliestHelp 24 = .ok (.iload_n 2, 1) := by decide +kernel
theorem dX4_earliestHelp_25 : decode cX4_earliestHelp 25 = .ok (.iaload, 1) := by decide +kernel
theorem dX4_earliestHelp_26 : decode cX4_earliestHelp 26 = .ok (.iconst 2, 1) := by decide +kernel
theorem dX4_earliestHelp_27 : decode cX4_earliestHelp 27 = .ok (.if_icmp .ne 14, 3) := by decide +kernel
theorem dX4_earliestHelp_30 : decode cX4_earliestHelp 30 = .ok (.iload_n 1, 1) := by decide +kernel
theorem dX4_earliestHelp_31 : decode cX4_earliestHelp 31 = .ok (.aload_n 0, 1) := by decide +kernel
theorem dX4_earliestHelp_32 : decode cX4_earliestHelp 32 = .ok (.getfield 9, 3) := by decide +kernel
theorem dX4_earliestHelp_35 : decode cX4_earliestHelp 35 = .ok (.iload_n 2, 1) := by decide +kernel
theorem dX4_earliestHelp_36 : decode cX4_earliestHelp 36 = .ok (.iaload, 1) := by decide +kernel
theorem dX4_earliestHelp_37 : decode cX4_earliestHelp 37 = .ok (.invokestatic 123, 3) := by decide +kernel
theorem dX4_earliestHelp_40 : decode cX4_earliestHelp 40 = .ok (.istore_n 1, 1) := by decide +kernel
theorem dX4_earliestHelp_41 : decode cX4_earliestHelp 41 = .ok (.iinc 2 1, 3) := by decide +kernel
theorem dX4_earliestHelp_44 : decode cX4_earliestHelp 44 = .ok (.goto (-38), 3) := by decide +kernel
theorem dX4_earliestHelp_47 : decode cX4_earliestHelp 47 = .ok (.iload_n 1, 1) := by decide +kernel
theorem dX4_earliestHelp_48 : decode cX4_earliestHelp 48 = .ok (.ireturn, 1) := by decide +kernel
theorem dX4_moveUntil_0 : decode cX4_moveUntil 0 = .ok (.aload_n 0, 1) := by decide +kernel
theorem dX4_moveUntil_1 : decode cX4_moveUntil 1 = .ok (.iconst 0, 1) := by decide +kernel
theorem dX4_moveUntil_2 : decode cX4_moveUntil 2 = .ok (.putfield 126, 3) := by decide +kernel
theorem dX4_moveUntil_5 : decode cX4_moveUntil 5 = .ok (.aload_n 0, 1) := by decide +kernel
theorem dX4_moveUntil_6 : decode cX4_moveUntil 6 = .ok (.getfield 114, 3) := by decide +kernel
theorem dX4_moveUntil_9 : decode cX4_moveUntil 9 = .ok (.iconst 1, 1) := by decide +kernel
theorem dX4_moveUntil_10 : decode cX4_moveUntil 10 = .ok (.iadd, 1) := by decide +kernel
theorem dX4_moveUntil_11 : decode cX4_moveUntil 11 = .ok (.istore_n 2, 1) := by decide +kernel
theorem dX4_moveUntil_12 : decode cX4_moveUntil 12 = .ok (.iload_n 2, 1) := by decide +kernel
theorem dX4_moveUntil_13 : decode cX4_moveUntil 13 = .ok (.iload_n 1, 1) := by decide +kernel
theorem dX4_moveUntil_14 : decode cX4_moveUntil 14 = .ok (.if_icmp .gt 36, 3) := by decide +kernel
theorem dX4_moveUntil_17 : decode cX4_moveUntil 17 = .ok (.aload_n 0, 1) := by decide +kernel
theorem dX4_moveUntil_18 : decode cX4_moveUntil 18 = .ok (.dup, 1) := by decide +kernel
theorem dX4_moveUntil_19 : decode cX4_moveUntil 19 = .ok (.getfield 126, 3) := by decide +kernel
theorem dX4_moveUntil_22 : decode cX4_moveUntil 22 = .ok (.aload_n 0, 1) := by decide +kernel
theorem dX4_moveUntil_23 : decode cX4_moveUntil 23 = .ok (.iload_n 2, 1) := by decide +kernel
theorem dX4_moveUntil_24 : decode cX4_moveUntil 24 = .ok (.invokevirtual 129, 3) := by decide +kernel
theorem dX4_moveUntil_27 : decode cX4_moveUntil 27 = .ok (.iadd, 1) := by decide +kernel
theorem dX4_moveUntil_28 : decode cX4_moveUntil 28 = .ok (.putfield 126, 3) := by decide +kernel
theorem dX4_moveUntil_31 : decode cX4_moveUntil 31 = .ok (.aload_n 0, 1) := by decide +kernel
theorem dX4_moveUntil_32 : decode cX4_moveUntil 32 = .ok (.getfield 126, 3) := by decide +kernel
theorem dX4_moveUntil_35 : decode cX4_moveUntil 35 = .ok (.aload_n 0, 1) := by decide +kernel
theorem dX4_moveUntil_36 : decode cX4_moveUntil 36 = .ok (.getfield 44, 3) := by decide +kernel
theorem dX4_moveUntil_39 : decode cX4_moveUntil 39 = .ok (.if_icmp .lt 5, 3) := by decide +kernel
theorem dX4_moveUntil_42 : decode cX4_moveUntil 42 = .ok (.iload_n 2, 1) := by decide +kernel
theorem dX4_moveUntil_43 : decode cX4_moveUntil 43 = .ok (.ireturn, 1) := by decide +kernel
theorem dX4_moveUntil_44 : decode cX4_moveUntil 44 = .ok (.iinc 2 1, 3) := by decide +kernel
theorem dX4_moveUntil_47 : decode cX4_moveUntil 47 = .ok (.goto (-35), 3) := by decide +kernel
theorem dX4_moveUntil_50 : decode cX4_moveUntil 50 = .ok (.sipush 201, 3) := by decide +kernel
theorem dX4_moveUntil_53 : decode cX4_moveUntil 53 = .ok (.ireturn, 1) := by decide +kernel
theorem dX4_yardsIn_0 : decode cX4_yardsIn 0 = .ok (.iload_n 1, 1) := by decide +kernel
theorem dX4_yardsIn_1 : decode cX4_yardsIn 1 = .ok (.iconst 5, 1) := by decide +kernel
theorem dX4_yardsIn_2 : decode cX4_yardsIn 2 = .ok (.if_icmp .gt 21, 3) := by decide +kernel
theorem dX4_yardsIn_5 : decode cX4_yardsIn 5 = .ok (.aload_n 0, 1) := by decide +kernel
theorem dX4_yardsIn_6 : decode cX4_yardsIn 6 = .ok (.getfield 45, 3) := by decide +kernel
theorem dX4_yardsIn_9 : decode cX4_yardsIn 9 = .ok (.iload_n 1, 1) := by decide +kernel
theorem dX4_yardsIn_10 : decode cX4_yardsIn 10 = .ok (.iconst 1, 1) := by decide +kernel
theorem dX4_yardsIn_11 : decode cX4_yardsIn 11 = .ok (.isub, 1) := by decide +kernel
theorem dX4_yardsIn_12 : decode cX4_yardsIn 12 = .ok (.ishr, 1) := by decide +kernel
theorem dX4_yardsIn_13 : decode cX4_yardsIn 13 = .ok (.iconst 1, 1) := by decide +kernel
theorem dX4_yardsIn_14 : decode cX4_yardsIn 14 = .ok (.iand, 1) := by decide +kernel
theorem dX4_yardsIn_15 : decode cX4_yardsIn 15 = .ok (.iconst 1, 1) := by decide +kernel
theorem dX4_yardsIn_16 : decode cX4_yardsIn 16 = .ok (.if_icmp .ne 7, 3) := by decide +kernel
theorem dX4_yardsIn_19 : decode cX4_yardsIn 19 = .ok (.iconst 1, 1) := by decide +kernel
theorem dX4_yardsIn_20 : decode cX4_yardsIn 20 = .ok (.goto 4, 3) := by decide +kernel
theorem dX4_yardsIn_23 : decode cX4_yardsIn 23 = .ok (.iconst 0, 1) := by decide +kernel
theorem dX4_yardsIn_24 : decode cX4_yardsIn 24 = .ok (.istore_n 2, 1) := by decide +kernel
theorem dX4_yardsIn_25 : decode cX4_yardsIn 25 = .ok (.iload_n 2, 1) := by decide +kernel
theorem dX4_yardsIn_26 : decode cX4_yardsIn 26 = .ok (.ifCond .ne 17, 3) := by decide +kernel
theorem dX4_yardsIn_29 : decode cX4_yardsIn 29 = .ok (.aload_n 0, 1) := by decide +kernel
theorem dX4_yardsIn_30 : decode cX4_yardsIn 30 = .ok (.getfield 111, 3) := by decide +kernel
theorem dX4_yardsIn_33 : decode cX4_yardsIn 33 = .ok (.iconst 2, 1) := by decide +kernel
theorem dX4_yardsIn_34 : decode cX4_yardsIn 34 = .ok (.if_icmp .ne 11, 3) := by decide +kernel
theorem dX4_yardsIn_37 : decode cX4_yardsIn 37 = .ok (.iload_n 1, 1) := by decide +kernel
theorem dX4_yardsIn_38 : decode cX4_yardsIn 38 = .ok (.iconst 5, 1) := by decide +kernel
theorem dX4_yardsIn_39 : decode cX4_yardsIn 39 = .ok (.irem, 1) := by decide +kernel
theorem dX4_yardsIn_40 : decode cX4_yardsIn 40 = .ok (.ifCond .ne 5, 3) := by decide +kernel
theorem dX4_yardsIn_43 : decode cX4_yardsIn 43 = .ok (.iconst 0, 1) := by decide +kernel
theorem dX4_yardsIn_44 : decode cX4_yardsIn 44 = .ok (.ireturn, 1) := by decide +kernel
theorem dX4_yardsIn_45 : decode cX4_yardsIn 45 = .ok (.iconst 1, 1) := by decide +kernel
theorem dX4_yardsIn_46 : decode cX4_yardsIn 46 = .ok (.aload_n 0, 1) := by decide +kernel
theorem dX4_yardsIn_47 : decode cX4_yardsIn 47 = .ok (.getfield 105, 3) := by decide +kernel
theorem dX4_yardsIn_50 : decode cX4_yardsIn 50 = .ok (.aload_n 0, 1) := by decide +kernel
theorem dX4_yardsIn_51 : decode cX4_yardsIn 51 = .ok (.iload_n 1, 1) := by decide +kernel
theorem dX4_yardsIn_52 : decode cX4_yardsIn 52 = .ok (.invokevirtual 132, 3) := by decide +kernel
theorem dX4_yardsIn_55 : decode cX4_yardsIn 55 = .ok (.isub, 1) := by decide +kernel
theorem dX4_yardsIn_56 : decode cX4_yardsIn 56 = .ok (.invokestatic 117, 3) := by decide +kernel
theorem dX4_yardsIn_59 : decode cX4_yardsIn 59 = .ok (.ireturn, 1) := by decide +kernel
theorem dX4_takenIn_0 : decode cX4_takenIn 0 = .ok (.iload_n 1, 1) := by decide +kernel
theorem dX4_takenIn_1 : decode cX4_takenIn 1 = .ok (.iconst 1, 1) := by decide +kernel
theorem dX4_takenIn_2 : decode cX4_takenIn 2 = .ok (.sipush 200, 3) := by decide +kernel
theorem dX4_takenIn_5 : decode cX4_takenIn 5 = .ok (.invokestatic 135, 3) := by decide +kernel
theorem dX4_takenIn_8 : decode cX4_takenIn 8 = .ok (.ifCond .ne 5, 3) := by decide +kernel
theorem dX4_takenIn_11 : decode cX4_takenIn 11 = .ok (.iconst 0, 1) := by decide +kernel
theorem dX4_takenIn_12 : decode cX4_takenIn 12 = .ok (.ireturn, 1) := by decide +kernel
theorem dX4_takenIn_13 : decode cX4_takenIn 13 = .ok (.aload_n 0, 1) := by decide +kernel
theorem dX4_takenIn_14 : decode cX4_takenIn 14 = .ok (.getfield 111, 3) := by decide +kernel
theorem dX4_takenIn_17 : decode cX4_takenIn 17 = .ok (.iconst 4, 1) := by decide +kernel
theorem dX4_takenIn_18 : decode cX4_takenIn 18 = .ok (.if_icmp .eq 11, 3) := by decide +kernel
theorem dX4_takenIn_21 : decode cX4_takenIn 21 = .ok (.aload_n 0, 1) := by decide +kernel
theorem dX4_takenIn_22 : decode cX4_takenIn 22 = .ok (.getfield 111, 3) := by decide +kernel
theorem dX4_takenIn_25 : decode cX4_takenIn 25 = .ok (.iconst 2, 1) := by decide +kernel
theorem dX4_takenIn_26 : decode cX4_takenIn 26 = .ok (.if_icmp .ne 10, 3) := by decide +kernel
theorem dX4_takenIn_29 : decode cX4_takenIn 29 = .ok (.aload_n 0, 1) := by decide +kernel
theorem dX4_takenIn_30 : decode cX4_takenIn 30 = .ok (.getfield 39, 3) := by decide +kernel
theorem dX4_takenIn_33 : decode cX4_takenIn 33 = .ok (.iload_n 1, 1) := by decide +kernel
theorem dX4_takenIn_34 : decode cX4_takenIn 34 = .ok (.iaload, 1) := by decide +kernel
theorem dX4_takenIn_35 : decode cX4_takenIn 35 = .ok (.ireturn, 1) := by decide +kernel
theorem dX4_takenIn_36 : decode cX4_takenIn 36 = .ok (.iload_n 1, 1) := by decide +kernel
theorem dX4_takenIn_37 : decode cX4_takenIn 37 = .ok (.iconst 5, 1) := by decide +kernel
theorem dX4_takenIn_38 : decode cX4_takenIn 38 = .ok (.if_icmp .le 20, 3) := by decide +kernel
theorem dX4_takenIn_41 : decode cX4_takenIn 41 = .ok (.iload_n 1, 1) := by decide +kernel
theorem dX4_takenIn_42 : decode cX4_takenIn 42 = .ok (.iconst 5, 1) := by decide +kernel
theorem dX4_takenIn_43 : decode cX4_takenIn 43 = .ok (.irem, 1) := by decide +kernel
theorem dX4_takenIn_44 : decode cX4_takenIn 44 = .ok (.iconst 1, 1) := by decide +kernel
theorem dX4_takenIn_45 : decode cX4_takenIn 45 = .ok (.if_icmp .ne 13, 3) := by decide +kernel
theorem dX4_takenIn_48 : decode cX4_takenIn 48 = .ok (.aload_n 0, 1) := by decide +kernel
theorem dX4_takenIn_49 : decode cX4_takenIn 49 = .ok (.getfield 96, 3) := by decide +kernel
theorem dX4_takenIn_52 : decode cX4_takenIn 52 = .ok (.iload_n 1, 1) := by decide +kernel
theorem dX4_takenIn_53 : decode cX4_takenIn 53 = .ok (.if_icmp .ge 5, 3) := by decide +kernel
theorem dX4_takenIn_56 : decode cX4_takenIn 56 = .ok (.iconst 0, 1) := by decide +kernel
theorem dX4_takenIn_57 : decode cX4_takenIn 57 = .ok (.ireturn, 1) := by decide +kernel
theorem dX4_takenIn_58 : decode cX4_takenIn 58 = .ok (.aload_n 0, 1) := by decide +kernel
theorem dX4_takenIn_59 : decode cX4_takenIn 59 = .ok (.getfield 111, 3) := by decide +kernel
theorem dX4_takenIn_62 : decode cX4_takenIn 62 = .ok (.iconst 1, 1) := by decide +kernel
theorem dX4_takenIn_63 : decode cX4_takenIn 63 = .ok (.if_icmp .ne 18, 3) := by decide +kernel
theorem dX4_takenIn_66 : decode cX4_takenIn 66 = .ok (.iconst 0, 1) := by decide +kernel
theorem dX4_takenIn_67 : decode cX4_takenIn 67 = .ok (.aload_n 0, 1) := by decide +kernel
theorem dX4_takenIn_68 : decode cX4_takenIn 68 = .ok (.getfield 39, 3) := by decide +kernel
theorem dX4_takenIn_71 : decode cX4_takenIn 71 = .ok (.iload_n 1, 1) := by decide +kernel
theorem dX4_takenIn_72 : decode cX4_takenIn 72 = .ok (.iaload, 1) := by decide +kernel
theorem dX4_takenIn_73 : decode cX4_takenIn 73 = .ok (.iconst 1, 1) := by decide +kernel
theorem dX4_takenIn_74 : decode cX4_takenIn 74 = .ok (.isub, 1) := by decide +kernel
theorem dX4_takenIn_75 : decode cX4_takenIn 75 = .ok (.invokestatic 117, 3) := by decide +kernel
theorem dX4_takenIn_78 : decode cX4_takenIn 78 = .ok (.goto 9, 3) := by decide +kernel
theorem dX4_takenIn_81 : decode cX4_takenIn 81 = .ok (.aload_n 0, 1) := by decide +kernel
theorem dX4_takenIn_82 : decode cX4_takenIn 82 = .ok (.getfield 39, 3) := by decide +kernel
theorem dX4_takenIn_85 : decode cX4_takenIn 85 = .ok (.iload_n 1, 1) := by decide +kernel
theorem dX4_takenIn_86 : decode cX4_takenIn 86 = .ok (.iaload, 1) := by decide +kernel
theorem dX4_takenIn_87 : decode cX4_takenIn 87 = .ok (.ireturn, 1) := by decide +kernel
theorem dX4_isAhead_0 : decode cX4_isAhead 0 = .ok (.aload_n 0, 1) := by decide +kernel
theorem dX4_isAhead_1 : decode cX4_isAhead 1 = .ok (.iload_n 1, 1) := by decide +kernel
theorem dX4_isAhead_2 : decode cX4_isAhead 2 = .ok (.invokevirtual 139, 3) := by decide +kernel
theorem dX4_isAhead_5 : decode cX4_isAhead 5 = .ok (.istore_n 3, 1) := by decide +kernel
theorem dX4_isAhead_6 : decode cX4_isAhead 6 = .ok (.aload_n 0, 1) := by decide +kernel
theorem dX4_isAhead_7 : decode cX4_isAhead 7 = .ok (.iload_n 2, 1) := by decide +kernel
theorem dX4_isAhead_8 : decode cX4_isAhead 8 = .ok (.invokevirtual 139, 3) := by decide +kernel
theorem dX4_isAhead_11 : decode cX4_isAhead 11 = .ok (.istore 4, 2) := by decide +kernel
theorem dX4_isAhead_13 : decode cX4_isAhead 13 = .ok (.iload_n 3, 1) := by decide +kernel
theorem dX4_isAhead_14 : decode cX4_isAhead 14 = .ok (.iload 4, 2) := by decide +kernel
theorem dX4_isAhead_16 : decode cX4_isAhead 16 = .ok (.if_icmp .ne 41, 3) := by decide +kernel
theorem dX4_isAhead_19 : decode cX4_isAhead 19 = .ok (.iload_n 2, 1) := by decide +kernel
theorem dX4_isAhead_20 : decode cX4_isAhead 20 = .ok (.iload 4, 2) := by decide +kernel
theorem dX4_isAhead_22 : decode cX4_isAhead 22 = .ok (.if_icmp .eq 29, 3) := by decide +kernel
theorem dX4_isAhead_25 : decode cX4_isAhead 25 = .ok (.iload_n 1, 1) := by decide +kernel
theorem dX4_isAhead_26 : decode cX4_isAhead 26 = .ok (.iload_n 3, 1) := by decide +kernel
theorem dX4_isAhead_27 : decode cX4_isAhead 27 = .ok (.if_icmp .eq 28, 3) := by decide +kernel
theorem dX4_isAhead_30 : decode cX4_isAhead 30 = .ok (.aload_n 0, 1) := by decide +kernel
theorem dX4_isAhead_31 : decode cX4_isAhead 31 = .ok (.getfield 30, 3) := by decide +kernel
theorem dX4_isAhead_34 : decode cX4_isAhead 34 = .ok (.getfield 142, 3) := by decide +kernel
theorem dX4_isAhead_37 : decode cX4_isAhead 37 = .ok (.iload_n 1, 1) := by decide +kernel
theorem dX4_isAhead_38 : decode cX4_isAhead 38 = .ok (.iaload, 1) := by decide +kernel
theorem dX4_isAhead_39 : decode cX4_isAhead 39 = .ok (.aload_n 0, 1) := by decide +kernel
theorem dX4_isAhead_40 : decode cX4_isAhead 40 = .ok (.getfield 30, 3) := by decide +kernel
theorem dX4_isAhead_43 : decode cX4_isAhead 43 = .ok (.getfield 142, 3) := by decide +kernel
theorem dX4_isAhead_46 : decode cX4_isAhead 46 = .ok (.iload_n 2, 1) := by decide +kernel
theorem dX4_isAhead_47 : decode cX4_isAhead 47 = .ok (.iaload, 1) := by decide +kernel
theorem dX4_isAhead_48 : decode cX4_isAhead 48 = .ok (.if_icmp .ge 7, 3) := by decide +kernel
theorem dX4_isAhead_51 : decode cX4_isAhead 51 = .ok (.iconst 1, 1) := by decide +kernel
theorem dX4_isAhead_52 : decode cX4_isAhead 52 = .ok (.goto 4, 3) := by decide +kernel
theorem dX4_isAhead_55 : decode cX4_isAhead 55 = .ok (.iconst 0, 1) := by decide +kernel
theorem dX4_isAhead_56 : decode cX4_isAhead 56 = .ok (.ireturn, 1) := by decide +kernel
theorem dX4_isAhead_57 : decode cX4_isAhead 57 = .ok (.aload_n 0, 1) := by decide +kernel
theorem dX4_isAhead_58 : decode cX4_isAhead 58 = .ok (.getfield 18, 3) := by decide +kernel
theorem dX4_isAhead_61 : decode cX4_isAhead 61 = .ok (.iload_n 3, 1) := by decide +kernel
theorem dX4_isAhead_62 : decode cX4_isAhead 62 = .ok (.iaload, 1) := by decide +kernel
theorem dX4_isAhead_63 : decode cX4_isAhead 63 = .ok (.aload_n 0, 1) := by decide +kernel
theorem dX4_isAhead_64 : decode cX4_isAhead 64 = .ok (.getfield 18, 3) := by decide +kernel
theorem dX4_isAhead_67 : decode cX4_isAhead 67 = .ok (.iload 4, 2) := by decide +kernel
theorem dX4_isAhead_69 : decode cX4_isAhead 69 = .ok (.iaload, 1) := by decide +kernel
theorem dX4_isAhead_70 : decode cX4_isAhead 70 = .ok (.if_icmp .eq 25, 3) := by decide +kernel
theorem dX4_isAhead_73 : decode cX4_isAhead 73 = .ok (.aload_n 0, 1) := by decide +kernel
theorem dX4_isAhead_74 : decode cX4_isAhead 74 = .ok (.getfield 18, 3) := by decide +kernel
theorem dX4_isAhead_77 : decode cX4_isAhead 77 = .ok (.iload_n 3, 1) := by decide +kernel
theorem dX4_isAhead_78 : decode cX4_isAhead 78 = .ok (.iaload, 1) := by decide +kernel
theorem dX4_isAhead_79 : decode cX4_isAhead 79 = .ok (.aload_n 0, 1) := by decide +kernel
theorem dX4_isAhead_80 : decode cX4_isAhead 80 = .ok (.getfield 18, 3) := by decide +kernel
theorem dX4_isAhead_83 : decode cX4_isAhead 83 = .ok (.iload 4, 2) := by decide +kernel
theorem dX4_isAhead_85 : decode cX4_isAhead 85 = .ok (.iaload, 1) := by decide +kernel
theorem dX4_isAhead_86 : decode cX4_isAhead 86 = .ok (.if_icmp .ge 7, 3) := by decide +kernel
theorem dX4_isAhead_89 : decode cX4_isAhead 89 = .ok (.iconst 1, 1) := by decide +kernel
theorem dX4_isAhead_90 : decode cX4_isAhead 90 = .ok (.goto 4, 3) := by decide +kernel
theorem dX4_isAhead_93 : decode cX4_isAhead 93 = .ok (.iconst 0, 1) := by decide +kernel
theorem dX4_isAhead_94 : decode cX4_isAhead 94 = .ok (.ireturn, 1) := by decide +kernel
theorem dX4_isAhead_95 : decode cX4_isAhead 95 = .ok (.aload_n 0, 1) := by decide +kernel
theorem dX4_isAhead_96 : decode cX4_isAhead 96 = .ok (.getfield 30, 3) := by decide +kernel
theorem dX4_isAhead_99 : decode cX4_isAhead 99 = .ok (.getfield 142, 3) := by decide +kernel
theorem dX4_isAhead_102 : decode cX4_isAhead 102 = .ok (.iload_n 3, 1) := by decide +kernel
theorem dX4_isAhead_103 : decode cX4_isAhead 103 = .ok (.iaload, 1) := by decide +kernel
theorem dX4_isAhead_104 : decode cX4_isAhead 104 = .ok (.aload_n 0, 1) := by decide +kernel
theorem dX4_isAhead_105 : decode cX4_isAhead 105 = .ok (.getfield 30, 3) := by decide +kernel
theorem dX4_isAhead_108 : decode cX4_isAhead 108 = .ok (.getfield 142, 3) := by decide +kernel
theorem dX4_isAhead_111 : decode cX4_isAhead 111 = .ok (.iload 4, 2) := by decide +kernel
theorem dX4_isAhead_113 : decode cX4_isAhead 113 = .ok (.iaload, 1) := by decide +kernel
theorem dX4_isAhead_114 : decode cX4_isAhead 114 = .ok (.if_icmp .ge 7, 3) := by decide +kernel
theorem dX4_isAhead_117 : decode cX4_isAhead 117 = .ok (.iconst 1, 1) := by decide +kernel
theorem dX4_isAhead_118 : decode cX4_isAhead 118 = .ok (.goto 4, 3) := by decide +kernel
theorem dX4_isAhead_121 : decode cX4_isAhead 121 = .ok (.iconst 0, 1) := by decide +kernel
theorem dX4_isAhead_122 : decode cX4_isAhead 122 = .ok (.ireturn, 1) := by decide +kernel
theorem dX4_leader_0 : decode cX4_leader 0 = .ok (.aload_n 0, 1) := by decide +kernel
theorem dX4_leader_1 : decode cX4_leader 1 = .ok (.getfield 30, 3) := by decide +kernel
theorem dX4_leader_4 : decode cX4_leader 4 = .ok (.aload_n 0, 1) := by decide +kernel
theorem dX4_leader_5 : decode cX4_leader 5 = .ok (.getfield 15, 3) := by decide +kernel
theorem dX4_leader_8 : decode cX4_leader 8 = .ok (.iload_n 1, 1) := by decide +kernel
theorem dX4_leader_9 : decode cX4_leader 9 = .ok (.iaload, 1) := by decide +kernel
theorem dX4_leader_10 : decode cX4_leader 10 = .ok (.invokevirtual 79, 3) := by decide +kernel
theorem dX4_leader_13 : decode cX4_leader 13 = .ok (.ifCond .eq 19, 3) := by decide +kernel
theorem dX4_leader_16 : decode cX4_leader 16 = .ok (.aload_n 0, 1) := by decide +kernel
theorem dX4_leader_17 : decode cX4_leader 17 = .ok (.getfield 18, 3) := by decide +kernel
theorem dX4_leader_20 : decode cX4_leader 20 = .ok (.iload_n 1, 1) := by decide +kernel
theorem dX4_leader_21 : decode cX4_leader 21 = .ok (.iaload, 1) := by decide +kernel
theorem dX4_leader_22 : decode cX4_leader 22 = .ok (.sipush 201, 3) := by decide +kernel
theorem dX4_leader_25 : decode cX4_leader 25 = .ok (.if_icmp .eq 7, 3) := by decide +kernel
theorem dX4_leader_28 : decode cX4_leader 28 = .ok (.iconst 1, 1) := by decide +kernel
theorem dX4_leader_29 : decode cX4_leader 29 = .ok (.goto 4, 3) := by decide +kernel
theorem dX4_leader_32 : decode cX4_leader 32 = .ok (.iconst 0, 1) := by decide +kernel
theorem dX4_leader_33 : decode cX4_leader 33 = .ok (.istore_n 2, 1) := by decide +kernel
theorem dX4_leader_34 : decode cX4_leader 34 = .ok (.iload_n 2, 1) := by decide +kernel
theorem dX4_leader_35 : decode cX4_leader 35 = .ok (.ifCond .eq 12, 3) := by decide +kernel
theorem dX4_leader_38 : decode cX4_leader 38 = .ok (.aload_n 0, 1) := by decide +kernel
theorem dX4_leader_39 : decode cX4_leader 39 = .ok (.getfield 15, 3) := by decide +kernel
theorem dX4_leader_42 : decode cX4_leader 42 = .ok (.iload_n 1, 1) := by decide +kernel
theorem dX4_leader_43 : decode cX4_leader 43 = .ok (.iaload, 1) := by decide +kernel
theorem dX4_leader_44 : decode cX4_leader 44 = .ok (.goto 4, 3) := by decide +kernel
theorem dX4_leader_47 : decode cX4_leader 47 = .ok (.iload_n 1, 1) := by decide +kernel
theorem dX4_leader_48 : decode cX4_leader 48 = .ok (.ireturn, 1) := by decide +kernel
theorem dX4_firstRiderOrSelf_0 : decode cX4_firstRiderOrSelf 0 = .ok (.iload_n 1, 1) := by decide +kernel
theorem dX4_firstRiderOrSelf_1 : decode cX4_firstRiderOrSelf 1 = .ok (.istore_n 2, 1) := by decide +kernel
theorem dX4_firstRiderOrSelf_2 : decode cX4_firstRiderOrSelf 2 = .ok (.iconst 0, 1) := by decide +kernel
theorem dX4_firstRiderOrSelf_3 : decode cX4_firstRiderOrSelf 3 = .ok (.istore_n 3, 1) := by decide +kernel
theorem dX4_firstRiderOrSelf_4 : decode cX4_firstRiderOrSelf 4 = .ok (.iload_n 3, 1) := by decide +kernel
theorem dX4_firstRiderOrSelf_5 : decode cX4_firstRiderOrSelf 5 = .ok (.aload_n 0, 1) := by decide +kernel
theorem dX4_firstRiderOrSelf_6 : decode cX4_firstRiderOrSelf 6 = .ok (.getfield 30, 3) := by decide +kernel
theorem dX4_firstRiderOrSelf_9 : decode cX4_firstRiderOrSelf 9 = .ok (.getfield 64, 3) := by decide +kernel
theorem dX4_firstRiderOrSelf_12 : decode cX4_firstRiderOrSelf 12 = .ok (.if_icmp .ge 47, 3) := by decide +kernel
theorem dX4_firstRiderOrSelf_15 : decode cX4_firstRiderOrSelf 15 = .ok (.aload_n 0, 1) := by decide +kernel
theorem dX4_firstRiderOrSelf_16 : decode cX4_firstRiderOrSelf 16 = .ok (.getfield 15, 3) := by decide +kernel
theorem dX4_firstRiderOrSelf_19 : decode cX4_firstRiderOrSelf 19 = .ok (.iload_n 3, 1) := by decide +kernel
theorem dX4_firstRiderOrSelf_20 : decode cX4_firstRiderOrSelf 20 = .ok (.iaload, 1) := by decide +kernel
theorem dX4_firstRiderOrSelf_21 : decode cX4_firstRiderOrSelf 21 = .ok (.iload_n 1, 1) := by decide +kernel
theorem dX4_firstRiderOrSelf_22 : decode cX4_firstRiderOrSelf 22 = .ok (.if_icmp .ne 31, 3) := by decide +kernel
theorem dX4_firstRiderOrSelf_25 : decode cX4_firstRiderOrSelf 25 = .ok (.iload_n 2, 1) := by decide +kernel
theorem dX4_firstRiderOrSelf_26 : decode cX4_firstRiderOrSelf 26 = .ok (.iload_n 1, 1) := by decide +kernel
theorem dX4_firstRiderOrSelf_27 : decode cX4_firstRiderOrSelf 27 = .ok (.if_icmp .eq 24, 3) := by decide +kernel
theorem dX4_firstRiderOrSelf_30 : decode cX4_firstRiderOrSelf 30 = .ok (.aload_n 0, 1) := by decide +kernel
theorem dX4_firstRiderOrSelf_31 : decode cX4_firstRiderOrSelf 31 = .ok (.getfield 30, 3) := by decide +kernel
theorem dX4_firstRiderOrSelf_34 : decode cX4_firstRiderOrSelf 34 = .ok (.getfield 142, 3) := by decide +kernel
theorem dX4_firstRiderOrSelf_37 : decode cX4_firstRiderOrSelf 37 = .ok (.iload_n 3, 1) := by decide +kernel
theorem dX4_firstRiderOrSelf_38 : decode cX4_firstRiderOrSelf 38 = .ok (.iaload, 1) := by decide +kernel
theorem dX4_firstRiderOrSelf_39 : decode cX4_firstRiderOrSelf 39 = .ok (.aload_n 0, 1) := by decide +kernel
theorem dX4_firstRiderOrSelf_40 : decode cX4_firstRiderOrSelf 40 = .ok (.getfield 30, 3) := by decide +kernel
theorem dX4_firstRiderOrSelf_43 : decode cX4_firstRiderOrSelf 43 = .ok (.getfield 142, 3) := by decide +kernel
theorem dX4_firstRiderOrSelf_46 : decode cX4_firstRiderOrSelf 46 = .ok (.iload_n 2, 1) := by decide +kernel
theorem dX4_firstRiderOrSelf_47 : decode cX4_firstRiderOrSelf 47 = .ok (.iaload, 1) := by decide +kernel
theorem dX4_firstRiderOrSelf_48 : decode cX4_firstRiderOrSelf 48 = .ok (.if_icmp .ge 5, 3) := by decide +kernel
theorem dX4_firstRiderOrSelf_51 : decode cX4_firstRiderOrSelf 51 = .ok (.iload_n 3, 1) := by decide +kernel
theorem dX4_firstRiderOrSelf_52 : decode cX4_firstRiderOrSelf 52 = .ok (.istore_n 2, 1) := by decide +kernel
theorem dX4_firstRiderOrSelf_53 : decode cX4_firstRiderOrSelf 53 = .ok (.iinc 3 1, 3) := by decide +kernel
theorem dX4_firstRiderOrSelf_56 : decode cX4_firstRiderOrSelf 56 = .ok (.goto (-52), 3) := by decide +kernel
theorem dX4_firstRiderOrSelf_59 : decode cX4_firstRiderOrSelf 59 = .ok (.iload_n 2, 1) := by decide +kernel
theorem dX4_firstRiderOrSelf_60 : decode cX4_firstRiderOrSelf 60 = .ok (.ireturn, 1) := by decide +kernel
theorem dX4_lastLanding_0 : decode cX4_lastLanding 0 = .ok (.iconst 0, 1) := by decide +kernel
theorem dX4_lastLanding_1 : decode cX4_lastLanding 1 = .ok (.istore_n 1, 1) := by decide +kernel
theorem dX4_lastLanding_2 : decode cX4_lastLanding 2 = .ok (.iconst 0, 1) := by decide +kernel
theorem dX4_lastLanding_3 : decode cX4_lastLanding 3 = .ok (.istore_n 2, 1) := by decide +kernel
theorem dX4_lastLanding_4 : decode cX4_lastLanding 4 = .ok (.iload_n 2, 1) := by decide +kernel
theorem dX4_lastLanding_5 : decode cX4_lastLanding 5 = .ok (.aload_n 0, 1) := by decide +kernel
theorem dX4_lastLanding_6 : decode cX4_lastLanding 6 = .ok (.getfield 30, 3) := by decide +kernel
theorem dX4_lastLanding_9 : decode cX4_lastLanding 9 = .ok (.getfield 64, 3) := by decide +kernel
theorem dX4_lastLanding_12 : decode cX4_lastLanding 12 = .ok (.if_icmp .ge 32, 3) := by decide +kernel
theorem dX4_lastLanding_15 : decode cX4_lastLanding 15 = .ok (.aload_n 0, 1) := by decide +kernel
theorem dX4_lastLanding_16 : decode cX4_lastLanding 16 = .ok (.getfield 18, 3) := by decide +kernel
theorem dX4_lastLanding_19 : decode cX4_lastLanding 19 = .ok (.iload_n 2, 1) := by decide +kernel
theorem dX4_lastLanding_20 : decode cX4_lastLanding 20 = .ok (.iaload, 1) := by decide +kernel
theorem dX4_lastLanding_21 : decode cX4_lastLanding 21 = .ok (.sipush 201, 3) := by decide +kernel
theorem dX4_lastLanding_24 : decode cX4_lastLanding 24 = .ok (.if_icmp .eq 14, 3) := by decide +kernel
theorem dX4_lastLanding_27 : decode cX4_lastLanding 27 = .ok (.iload_n 1, 1) := by decide +kernel
theorem dX4_lastLanding_28 : decode cX4_lastLanding 28 = .ok (.aload_n 0, 1) := by decide +kernel
theorem dX4_lastLanding_29 : decode cX4_lastLanding 29 = .ok (.getfield 18, 3) := by decide +kernel
theorem dX4_lastLanding_32 : decode cX4_lastLanding 32 = .ok (.iload_n 2, 1) := by decide +kernel
theorem dX4_lastLanding_33 : decode cX4_lastLanding 33 = .ok (.iaload, 1) := by decide +kernel
theorem dX4_lastLanding_34 : decode cX4_lastLanding 34 = .ok (.invokestatic 117, 3) := by decide +kernel
theorem dX4_lastLanding_37 : decode cX4_lastLanding 37 = .ok (.istore_n 1, 1) := by decide +kernel
theorem dX4_lastLanding_38 : decode cX4_lastLanding 38 = .ok (.iinc 2 1, 3) := by decide +kernel
theorem dX4_lastLanding_41 : decode cX4_lastLanding 41 = .ok (.goto (-37), 3) := by decide +kernel
theorem dX4_lastLanding_44 : decode cX4_lastLanding 44 = .ok (.iload_n 1, 1) := by decide +kernel
theorem dX4_lastLanding_45 : decode cX4_lastLanding 45 = .ok (.ireturn, 1) := by decide +kernel
theorem dX5_init_0 : decode cX5_init 0 = .ok (.aload_n 0, 1) := by decide +kernel
theorem dX5_init_1 : decode cX5_init 1 = .ok (.invokespecial 3, 3) := by decide +kernel
theorem dX5_init_4 : decode cX5_init 4 = .ok (.aload_n 0, 1) := by decide +kernel
theorem dX5_init_5 : decode cX5_init 5 = .ok (.iconst 4, 1) := by decide +kernel
theorem dX5_init_6 : decode cX5_init 6 = .ok (.newarray .int, 2) := by decide +kernel
theorem dX5_init_8 : decode cX5_init 8 = .ok (.putfield 9, 3) := by decide +kernel
theorem dX5_init_11 : decode cX5_init 11 = .ok (.aload_n 0, 1) := by decide +kernel
theorem dX5_init_12 : decode cX5_init 12 = .ok (.iconst 0, 1) := by decide +kernel
theorem dX5_init_13 : decode cX5_init 13 = .ok (.putfield 15, 3) := by decide +kernel
theorem dX5_init_16 : decode cX5_init 16 = .ok (.return_, 1) := by decide +kernel
theorem dX5_readText_0 : decode cX5_readText 0 = .ok (.aload_n 3, 1) := by decide +kernel
theorem dX5_readText_1 : decode cX5_readText 1 = .ok (.invokevirtual 19, 3) := by decide +kernel
theorem dX5_readText_4 : decode cX5_readText 4 = .ok (.iconst 0, 1) := by decide +kernel
theorem dX5_readText_5 : decode cX5_readText 5 = .ok (.istore 4, 2) := by decide +kernel
theorem dX5_readText_7 : decode cX5_readText 7 = .ok (.iconst 0, 1) := by decide +kernel
theorem dX5_readText_8 : decode cX5_readText 8 = .ok (.istore 5, 2) := by decide +kernel
theorem dX5_readText_10 : decode cX5_readText 10 = .ok (.iload 5, 2) := by decide +kernel
theorem dX5_readText_12 : decode cX5_readText 12 = .ok (.sipush 200, 3) := by decide +kernel
theorem dX5_readText_15 : decode cX5_readText 15 = .ok (.if_icmp .ge 47, 3) := by decide +kernel
theorem dX5_readText_18 : decode cX5_readText 18 = .ok (.iload 4, 2) := by decide +kernel
theorem dX5_readText_20 : decode cX5_readText 20 = .ok (.iload_n 2, 1) := by decide +kernel
theorem dX5_readText_21 : decode cX5_readText 21 = .ok (.if_icmp .ge 41, 3) := by decide +kernel
theorem dX5_readText_24 : decode cX5_readText 24 = .ok (.aload_n 0, 1) := by decide +kernel
theorem dX5_readText_25 : decode cX5_readText 25 = .ok (.aload_n 1, 1) := by decide +kernel
theorem dX5_readText_26 : decode cX5_readText 26 = .ok (.iload_n 2, 1) := by decide +kernel
theorem dX5_readText_27 : decode cX5_readText 27 = .ok (.iload 4, 2) := by decide +kernel
theorem dX5_readText_29 : decode cX5_readText 29 = .ok (.invokevirtual 24, 3) := by decide +kernel
theorem dX5_readText_32 : decode cX5_readText 32 = .ok (.ifCond .eq 15, 3) := by decide +kernel
theorem dX5_readText_35 : decode cX5_readText 35 = .ok (.aload_n 0, 1) := by decide +kernel
theorem dX5_readText_36 : decode cX5_readText 36 = .ok (.aload_n 1, 1) := by decide +kernel
theorem dX5_readText_37 : decode cX5_readText 37 = .ok (.iload 4, 2) := by decide +kernel
theorem dX5_readText_39 : decode cX5_readText 39 = .ok (.caload, 1) := by decide +kernel
theorem dX5_readText_40 : decode cX5_readText 40 = .ok (.aload_n 3, 1) := by decide +kernel
theorem dX5_readText_41 : decode cX5_readText 41 = .ok (.invokevirtual 28, 3) := by decide +kernel
theorem dX5_readText_44 : decode cX5_readText 44 = .ok (.ifCond .ne 6, 3) := by decide +kernel
theorem dX5_readText_47 : decode cX5_readText 47 = .ok (.iload 4, 2) := by decide +kernel
theorem dX5_readText_49 : decode cX5_readText 49 = .ok (.ireturn, 1) := by decide +kernel
theorem dX5_readText_50 : decode cX5_readText 50 = .ok (.aload_n 0, 1) := by decide +kernel
theorem dX5_readText_51 : decode cX5_readText 51 = .ok (.getfield 15, 3) := by decide +kernel
theorem dX5_readText_54 : decode cX5_readText 54 = .ok (.istore 4, 2) := by decide +kernel
theorem dX5_readText_56 : decode cX5_readText 56 = .ok (.iinc 5 1, 3) := by decide +kernel
theorem dX5_readText_59 : decode cX5_readText 59 = .ok (.goto (-49), 3) := by decide +kernel
theorem dX5_readText_62 : decode cX5_readText 62 = .ok (.bipush (-4), 2) := by decide +kernel
theorem dX5_readText_64 : decode cX5_readText 64 = .ok (.ireturn, 1) := by decide +kernel
theorem dX5_readItem_0 : decode cX5_readItem 0 = .ok (.aload_n 1, 1) := by decide +kernel
theorem dX5_readItem_1 : decode cX5_readItem 1 = .ok (.iload_n 3, 1) := by decide +kernel
theorem dX5_readItem_2 : decode cX5_readItem 2 = .ok (.caload, 1) := by decide +kernel
theorem dX5_readItem_3 : decode cX5_readItem 3 = .ok (.invokestatic 32, 3) := by decide +kernel
theorem dX5_readItem_6 : decode cX5_readItem 6 = .ok (.istore 4, 2) := by decide +kernel
theorem dX5_readItem_8 : decode cX5_readItem 8 = .ok (.aload_n 0, 1) := by decide +kernel
theorem dX5_readItem_9 : decode cX5_readItem 9 = .ok (.iload_n 3, 1) := by decide +kernel
theorem dX5_readItem_10 : decode cX5_readItem 10 = .ok (.iconst 1, 1) := by decide +kernel
theorem dX5_readItem_11 : decode cX5_readItem 11 = .ok (.iadd, 1) := by decide +kernel
theorem dX5_readItem_12 : decode cX5_readItem 12 = .ok (.putfield 15, 3) := by decide +kernel
theorem dX5_readItem_15 : decode cX5_readItem 15 = .ok (.iconst 0, 1) := by decide +kernel
theorem dX5_readItem_16 : decode cX5_readItem 16 = .ok (.istore 5, 2) := by decide +kernel
theorem dX5_readItem_18 : decode cX5_readItem 18 = .ok (.iload 5, 2) := by decide +kernel
theorem dX5_readItem_20 : decode cX5_readItem 20 = .ok (.iload 4, 2) := by decide +kernel
theorem dX5_readItem_22 : decode cX5_readItem 22 = .ok (.if_icmp .ge 71, 3) := by decide +kernel
theorem dX5_readItem_25 : decode cX5_readItem 25 = .ok (.aload_n 0, 1) := by decide +kernel
theorem dX5_readItem_26 : decode cX5_readItem 26 = .ok (.aload_n 1, 1) := by decide +kernel
theorem dX5_readItem_27 : decode cX5_readItem 27 = .ok (.iload_n 2, 1) := by decide +kernel
theorem dX5_readItem_28 : decode cX5_readItem 28 = .ok (.iload 5, 2) := by decide +kernel
theorem dX5_readItem_30 : decode cX5_readItem 30 = .ok (.invokevirtual 36, 3) := by decide +kernel
theorem dX5_readItem_33 : decode cX5_readItem 33 = .ok (.ifCond .ne 5, 3) := by decide +kernel
theorem dX5_readItem_36 : decode cX5_readItem 36 = .ok (.iconst 0, 1) := by decide +kernel
theorem dX5_readItem_37 : decode cX5_readItem 37 = .ok (.ireturn, 1) := by decide +kernel
theorem dX5_readItem_38 : decode cX5_readItem 38 = .ok (.iload 5, 2) := by decide +kernel
theorem dX5_readItem_40 : decode cX5_readItem 40 = .ok (.iload 4, 2) := by decide +kernel
theorem dX5_readItem_42 : decode cX5_readItem 42 = .ok (.iconst 1, 1) := by decide +kernel
theorem dX5_readItem_43 : decode cX5_readItem 43 = .ok (.isub, 1) := by decide +kernel
theorem dX5_readItem_44 : decode cX5_readItem 44 = .ok (.if_icmp .ne 8, 3) := by decide +kernel
theorem dX5_readItem_47 : decode cX5_readItem 47 = .ok (.bipush 59, 2) := by decide +kernel
theorem dX5_readItem_49 : decode cX5_readItem 49 = .ok (.goto 5, 3) := by decide +kernel
theorem dX5_readItem_52 : decode cX5_readItem 52 = .ok (.bipush 44, 2) := by decide +kernel
theorem dX5_readItem_54 : decode cX5_readItem 54 = .ok (.istore 6, 2) := by decide +kernel
theorem dX5_readItem_56 : decode cX5_readItem 56 = .ok (.aload_n 0, 1) := by decide +kernel
theorem dX5_readItem_57 : decode cX5_readItem 57 = .ok (.getfield 15, 3) := by decide +kernel
theorem dX5_readItem_60 : decode cX5_readItem 60 = .ok (.iload_n 2, 1) := by decide +kernel
theorem dX5_readItem_61 : decode cX5_readItem 61 = .ok (.if_icmp .ge 14, 3) := by decide +kernel
theorem dX5_readItem_64 : decode cX5_readItem 64 = .ok (.aload_n 1, 1) := by decide +kernel
theorem dX5_readItem_65 : decode cX5_readItem 65 = .ok (.aload_n 0, 1) := by decide +kernel
theorem dX5_readItem_66 : decode cX5_readItem 66 = .ok (.getfield 15, 3) := by decide +kernel
theorem dX5_readItem_69 : decode cX5_readItem 69 = .ok (.caload, 1) := by decide +kernel
theorem dX5_readItem_70 : decode cX5_readItem 70 = .ok (.iload 6, 2) := by decide +kernel
theorem dX5_readItem_72 : decode cX5_readItem 72 = .ok (.if_icmp .eq 5, 3) := by decide +kernel
theorem dX5_readItem_75 : decode cX5_readItem 75 = .ok (.iconst 0, 1) := by decide +kernel
theorem dX5_readItem_76 : decode cX5_readItem 76 = .ok (.ireturn, 1) := by decide +kernel
theorem dX5_readItem_77 : decode cX5_readItem 77 = .ok (.aload_n 0, 1) := by decide +kernel
theorem dX5_readItem_78 : decode cX5_readItem 78 = .ok (.dup, 1) := by decide +kernel
theorem dX5_readItem_79 : decode cX5_readItem 79 = .ok (.getfield 15, 3) := by decide +kernel
theorem dX5_readItem_82 : decode cX5_readItem 82 = .ok (.iconst 1, 1) := by decide +kernel
theorem dX5_readItem_83 : decode cX5_readItem 83 = .ok (.iadd, 1) := by decide +kernel
theorem dX5_readItem_84 : decode cX5_readItem 84 = .ok (.putfield 15, 3) := by decide +kernel
theorem dX5_readItem_87 : decode cX5_readItem 87 = .ok (.iinc 5 1, 3) := by decide +kernel
theorem dX5_readItem_90 : decode cX5_readItem 90 = .ok (.goto (-72), 3) := by decide +kernel
theorem dX5_readItem_93 : decode cX5_readItem 93 = .ok (.iload 4, 2) := by decide +kernel
theorem dX5_readItem_95 : decode cX5_readItem 95 = .ok (.ifCond .le 7, 3) := by decide +kernel
theorem dX5_readItem_98 : decode cX5_readItem 98 = .ok (.iconst 1, 1) := by decide +kernel
theorem dX5_readItem_99 : decode cX5_readItem 99 = .ok (.goto 4, 3) := by decide +kernel
theorem dX5_readItem_102 : decode cX5_readItem 102 = .ok (.iconst 0, 1) := by decide +kernel
theorem dX5_readItem_103 : decode cX5_readItem 103 = .ok (.ireturn, 1) := by decide +kernel
theorem dX5_readNumber_0 : decode cX5_readNumber 0 = .ok (.iconst 0, 1) := by decide +kernel
theorem dX5_readNumber_1 : decode cX5_readNumber 1 = .ok (.istore 4, 2) := by decide +kernel
theorem dX5_readNumber_3 : decode cX5_readNumber 3 = .ok (.iconst 0, 1) := by decide +kernel
theorem dX5_readNumber_4 : decode cX5_readNumber 4 = .ok (.istore 5, 2) := by decide +kernel
theorem dX5_readNumber_6 : decode cX5_readNumber 6 = .ok (.iload 5, 2) := by decide +kernel
theorem dX5_readNumber_8 : decode cX5_readNumber 8 = .ok (.iconst 2, 1) := by decide +kernel
theorem dX5_readNumber_9 : decode cX5_readNumber 9 = .ok (.if_icmp .ge 60, 3) := by decide +kernel
theorem dX5_readNumber_12 : decode cX5_readNumber 12 = .ok (.aload_n 0, 1) := by decide +kernel
theorem dX5_readNumber_13 : decode cX5_readNumber 13 = .ok (.getfield 15, 3) := by decide +kernel
theorem dX5_readNumber_16 : decode cX5_readNumber 16 = .ok (.iload_n 2, 1) := by decide +kernel
theorem dX5_readNumber_17 : decode cX5_readNumber 17 = .ok (.if_icmp .ge 52, 3) := by decide +kernel
theorem dX5_readNumber_20 : decode cX5_readNumber 20 = .ok (.aload_n 1, 1) := by decide +kernel
theorem dX5_readNumber_21 : decode cX5_readNumber 21 = .ok (.aload_n 0, 1) := by decide +kernel
theorem dX5_readNumber_22 : decode cX5_readNumber 22 = .ok (.getfield 15, 3) := by decide +kernel
theorem dX5_readNumber_25 : decode cX5_readNumber 25 = .ok (.caload, 1) := by decide +kernel
theorem dX5_readNumber_26 : decode cX5_readNumber 26 = .ok (.bipush 48, 2) := by decide +kernel
theorem dX5_readNumber_28 : decode cX5_readNumber 28 = .ok (.bipush 57, 2) := by decide +kernel
theorem dX5_readNumber_30 : decode cX5_readNumber 30 = .ok (.invokestatic 39, 3) := by decide +kernel
theorem dX5_readNumber_33 : decode cX5_readNumber 33 = .ok (.ifCond .eq 36, 3) := by decide +kernel
theorem dX5_readNumber_36 : decode cX5_readNumber 36 = .ok (.bipush 10, 2) := by decide +kernel
theorem dX5_readNumber_38 : decode cX5_readNumber 38 = .ok (.iload 4, 2) := by decide +kernel
theorem dX5_readNumber_40 : decode cX5_readNumber 40 = .ok (.imul, 1) := by decide +kernel
theorem dX5_readNumber_41 : decode cX5_readNumber 41 = .ok (.aload_n 1, 1) := by decide +kernel
theorem dX5_readNumber_42 : decode cX5_readNumber 42 = .ok (.aload_n 0, 1) := by decide +kernel
theorem dX5_readNumber_43 : decode cX5_readNumber 43 = .ok (.getfield 15, 3) := by decide +kernel
theorem dX5_readNumber_46 : decode cX5_readNumber 46 = .ok (.caload, 1) := by decide +kernel
theorem dX5_readNumber_47 : decode cX5_readNumber 47 = .ok (.iadd, 1) := by decide +kernel
theorem dX5_readNumber_48 : decode cX5_readNumber 48 = .ok (.bipush 48, 2) := by decide +kernel
theorem dX5_readNumber_50 : decode cX5_readNumber 50 = .ok (.isub, 1) := by decide +kernel
theorem dX5_readNumber_51 : decode cX5_readNumber 51 = .ok (.istore 4, 2) := by decide +kernel
theorem dX5_readNumber_53 : decode cX5_readNumber 53 = .ok (.iinc 5 1, 3) := by decide +kernel
theorem dX5_readNumber_56 : decode cX5_readNumber 56 = .ok (.aload_n 0, 1) := by decide +kernel
theorem dX5_readNumber_57 : decode cX5_readNumber 57 = .ok (.dup, 1) := by decide +kernel
theorem dX5_readNumber_58 : decode cX5_readNumber 58 = .ok (.getfield 15, 3) := by decide +kernel
theorem dX5_readNumber_61 : decode cX5_readNumber 61 = .ok (.iconst 1, 1) := by decide +kernel
theorem dX5_readNumber_62 : decode cX5_readNumber 62 = .ok (.iadd, 1) := by decide +kernel
theorem dX5_readNumber_63 : decode cX5_readNumber 63 = .ok (.putfield 15, 3) := by decide +kernel
theorem dX5_readNumber_66 : decode cX5_readNumber 66 = .ok (.goto (-60), 3) := by decide +kernel
theorem dX5_readNumber_69 : decode cX5_readNumber 69 = .ok (.aload_n 0, 1) := by decide +kernel
theorem dX5_readNumber_70 : decode cX5_readNumber 70 = .ok (.getfield 9, 3) := by decide +kernel
theorem dX5_readNumber_73 : decode cX5_readNumber 73 = .ok (.iload_n 3, 1) := by decide +kernel
theorem dX5_readNumber_74 : decode cX5_readNumber 74 = .ok (.iload 4, 2) := by decide +kernel
theorem dX5_readNumber_76 : decode cX5_readNumber 76 = .ok (.iastore, 1) := by decide +kernel
theorem dX5_readNumber_77 : decode cX5_readNumber 77 = .ok (.iload 5, 2) := by decide +kernel
theorem dX5_readNumber_79 : decode cX5_readNumber 79 = .ok (.ifCond .le 7, 3) := by decide +kernel
theorem dX5_readNumber_82 : decode cX5_readNumber 82 = .ok (.iconst 1, 1) := by decide +kernel
theorem dX5_readNumber_83 : decode cX5_readNumber 83 = .ok (.goto 4, 3) := by decide +kernel
theorem dX5_readNumber_86 : decode cX5_readNumber 86 = .ok (.iconst 0, 1) := by decide +kernel
theorem dX5_readNumber_87 : decode cX5_readNumber 87 = .ok (.ireturn, 1) := by decide +kernel
theorem dX5_numbersBehind_0 : decode cX5_numbersBehind 0 = .ok (.iload_n 0, 1) := by decide +kernel
theorem dX5_numbersBehind_1 : decode cX5_numbersBehind 1 = .ok (.tableswitch 123 97 121 #[117, 115, 119, 123, 123, 123, 123, 123, 123, 123, 123, 123, 123, 123, 123, 123, 123, 119, 121, 123, 123, 119, 121, 123, 119], 115) := by decide +kernel
theorem dX5_numbersBehind_116 : decode cX5_numbersBehind 116 = .ok (.iconst 4, 1) := by decide +kernel
theorem dX5_numbersBehind_117 : decode cX5_numbersBehind 117 = .ok (.ireturn, 1) := by decide +kernel
theorem dX5_numbersBehind_118 : decode cX5_numbersBehind 118 = .ok (.iconst 3, 1) := by decide +kernel
theorem dX5_numbersBehind_119 : decode cX5_numbersBehind 119 = .ok (.ireturn, 1) := by decide +kernel
theorem dX5_numbersBehind_120 : decode cX5_numbersBehind 120 = .ok (.iconst 2, 1) := by decide +kernel
theorem dX5_numbersBehind_121 : decode cX5_numbersBehind 121 = .ok (.ireturn, 1) := by decide +kernel
theorem dX5_numbersBehind_122 : decode cX5_numbersBehind 122 = .ok (.iconst 1, 1) := by decide +kernel
theorem dX5_numbersBehind_123 : decode cX5_numbersBehind 123 = .ok (.ireturn, 1) := by decide +kernel
theorem dX5_numbersBehind_124 : decode cX5_numbersBehind 124 = .ok (.iconst 0, 1) := by decide +kernel
theorem dX5_numbersBehind_125 : decode cX5_numbersBehind 125 = .ok (.ireturn, 1) := by decide +kernel
theorem dX5_tell_0 : decode cX5_tell 0 = .ok (.iload_n 1, 1) := by decide +kernel
theorem dX5_tell_1 : decode cX5_tell 1 = .ok (.tableswitch 257 97 121 #[189, 115, 155, 257, 257, 257, 257, 257, 257, 257, 257, 257, 257, 257, 257, 257, 257, 172, 212, 257, 257, 223, 144, 257, 240], 115) := by decide +kernel
theorem dX5_tell_116 : decode cX5_tell 116 = .ok (.aload_n 2, 1) := by decide +kernel
theorem dX5_tell_117 : decode cX5_tell 117 = .ok (.aload_n 0, 1) := by decide +kernel
theorem dX5_tell_118 : decode cX5_tell 118 = .ok (.getfield 9, 3) := by decide +kernel
theorem dX5_tell_121 : decode cX5_tell 121 = .ok (.iconst 0, 1) := by decide +kernel
theorem dX5_tell_122 : decode cX5_tell 122 = .ok (.iaload, 1) := by decide +kernel
theorem dX5_tell_123 : decode cX5_tell 123 = .ok (.aload_n 0, 1) := by decide +kernel
theorem dX5_tell_124 : decode cX5_tell 124 = .ok (.getfield 9, 3) := by decide +kernel
theorem dX5_tell_127 : decode cX5_tell 127 = .ok (.iconst 1, 1) := by decide +kernel
theorem dX5_tell_128 : decode cX5_tell 128 = .ok (.iaload, 1) := by decide +kernel
theorem dX5_tell_129 : decode cX5_tell 129 = .ok (.aload_n 0, 1) := by decide +kernel
theorem dX5_tell_130 : decode cX5_tell 130 = .ok (.getfield 9, 3) := by decide +kernel
theorem dX5_tell_133 : decode cX5_tell 133 = .ok (.iconst 2, 1) := by decide +kernel
theorem dX5_tell_134 : decode cX5_tell 134 = .ok (.iaload, 1) := by decide +kernel
theorem dX5_tell_135 : decode cX5_tell 135 = .ok (.aload_n 0, 1) := by decide +kernel
theorem dX5_tell_136 : decode cX5_tell 136 = .ok (.getfield 9, 3) := by decide +kernel
theorem dX5_tell_139 : decode cX5_tell 139 = .ok (.iconst 3, 1) := by decide +kernel
theorem dX5_tell_140 : decode cX5_tell 140 = .ok (.iaload, 1) := by decide +kernel
theorem dX5_tell_141 : decode cX5_tell 141 = .ok (.invokevirtual 43, 3) := by decide +kernel
theorem dX5_tell_144 : decode cX5_tell 144 = .ok (.ireturn, 1) := by decide +kernel
theorem dX5_tell_145 : decode cX5_tell 145 = .ok (.aload_n 2, 1) := by decide +kernel
theorem dX5_tell_146 : decode cX5_tell 146 = .ok (.aload_n 0, 1) := by decide +kernel
theorem dX5_tell_147 : decode cX5_tell 147 = .ok (.getfield 9, 3) := by decide +kernel
theorem dX5_tell_150 : decode cX5_tell 150 = .ok (.iconst 0, 1) := by decide +kernel
theorem dX5_tell_151 : decode cX5_tell 151 = .ok (.iaload, 1) := by decide +kernel
theorem dX5_tell_152 : decode cX5_tell 152 = .ok (.invokevirtual 47, 3) := by decide +kernel
theorem dX5_tell_155 : decode cX5_tell 155 = .ok (.ireturn, 1) := by decide +kernel
theorem dX5_tell_156 : decode cX5_tell 156 = .ok (.aload_n 2, 1) := by decide +kernel
theorem dX5_tell_157 : decode cX5_tell 157 = .ok (.aload_n 0, 1) := by decide +kernel
theorem dX5_tell_158 : decode cX5_tell 158 = .ok (.getfield 9, 3) := by decide +kernel
theorem dX5_tell_161 : decode cX5_tell 161 = .ok (.iconst 0, 1) := by decide +kernel
theorem dX5_tell_162 : decode cX5_tell 162 = .ok (.iaload, 1) := by decide +kernel
theorem dX5_tell_163 : decode cX5_tell 163 = .ok (.aload_n 0, 1) := by decide +kernel
theorem dX5_tell_164 : decode cX5_tell 164 = .ok (.getfield 9, 3) := by decide +kernel
theorem dX5_tell_167 : decode cX5_tell 167 = .ok (.iconst 1, 1) := by decide +kernel
theorem dX5_tell_168 : decode cX5_tell 168 = .ok (.iaload, 1) := by decide +kernel
theorem dX5_tell_169 : decode cX5_tell 169 = .ok (.invokevirtual 51, 3) := by decide +kernel
theorem dX5_tell_172 : decode cX5_tell 172 = .ok (.ireturn, 1) := by decide +kernel
theorem dX5_tell_173 : decode cX5_tell 173 = .ok (.aload_n 2, 1) := by decide +kernel
theorem dX5_tell_174 : decode cX5_tell 174 = .ok (.aload_n 0, 1) := by decide +kernel
theorem dX5_tell_175 : decode cX5_tell 175 = .ok (.getfield 9, 3) := by decide +kernel
theorem dX5_tell_178 : decode cX5_tell 178 = .ok (.iconst 0, 1) := by decide +kernel
theorem dX5_tell_179 : decode cX5_tell 179 = .ok (.iaload, 1) := by decide +kernel
theorem dX5_tell_180 : decode cX5_tell 180 = .ok (.aload_n 0, 1) := by decide +kernel
theorem dX5_tell_181 : decode cX5_tell 181 = .ok (.getfield 9, 3) := by decide +kernel
theorem dX5_tell_184 : decode cX5_tell 184 = .ok (.iconst 1, 1) := by decide +kernel
theorem dX5_tell_185 : decode cX5_tell 185 = .ok (.iaload, 1) := by decide +kernel
theorem dX5_tell_186 : decode cX5_tell 186 = .ok (.invokevirtual 55, 3) := by decide +kernel
theorem dX5_tell_189 : decode cX5_tell 189 = .ok (.ireturn, 1) := by decide +kernel
theorem dX5_tell_190 : decode cX5_tell 190 = .ok (.aload_n 2, 1) := by decide +kernel
theorem dX5_tell_191 : decode cX5_tell 191 = .ok (.aload_n 0, 1) := by decide +kernel
theorem dX5_tell_192 : decode cX5_tell 192 = .ok (.getfield 9, 3) := by decide +kernel
theorem dX5_tell_195 : decode cX5_tell 195 = .ok (.iconst 0, 1) := by decide +kernel
theorem dX5_tell_196 : decode cX5_tell 196 = .ok (.iaload, 1) := by decide +kernel
theorem dX5_tell_197 : decode cX5_tell 197 = .ok (.aload_n 0, 1) := by decide +kernel
theorem dX5_tell_198 : decode cX5_tell 198 = .ok (.getfield 9, 3) := by decide +kernel
theorem dX5_tell_201 : decode cX5_tell 201 = .ok (.iconst 1, 1) := by decide +kernel
theorem dX5_tell_202 : decode cX5_tell 202 = .ok (.iaload, 1) := by decide +kernel
theorem dX5_tell_203 : decode cX5_tell 203 = .ok (.aload_n 0, 1) := by decide +kernel
theorem dX5_tell_204 : decode cX5_tell 204 = .ok (.getfield 9, 3) := by decide +kernel
theorem dX5_tell_207 : decode cX5_tell 207 = .ok (.iconst 2, 1) := by decide +kernel
theorem dX5_tell_208 : decode cX5_tell 208 = .ok (.iaload, 1) := by decide +kernel
theorem dX5_tell_209 : decode cX5_tell 209 = .ok (.invokevirtual 58, 3) := by decide +kernel
theorem dX5_tell_212 : decode cX5_tell 212 = .ok (.ireturn, 1) := by decide +kernel
theorem dX5_tell_213 : decode cX5_tell 213 = .ok (.aload_n 2, 1) := by decide +kernel
theorem dX5_tell_214 : decode cX5_tell 214 = .ok (.aload_n 0, 1) := by decide +kernel
theorem dX5_tell_215 : decode cX5_tell 215 = .ok (.getfield 9, 3) := by decide +kernel
theorem dX5_tell_218 : decode cX5_tell 218 = .ok (.iconst 0, 1) := by decide +kernel
theorem dX5_tell_219 : decode cX5_tell 219 = .ok (.iaload, 1) := by decide +kernel
theorem dX5_tell_220 : decode cX5_tell 220 = .ok (.invokevirtual 61, 3) := by decide +kernel
theorem dX5_tell_223 : decode cX5_tell 223 = .ok (.ireturn, 1) := by decide +kernel
theorem dX5_tell_224 : decode cX5_tell 224 = .ok (.aload_n 2, 1) := by decide +kernel
theorem dX5_tell_225 : decode cX5_tell 225 = .ok (.aload_n 0, 1) := by decide +kernel
theorem dX5_tell_226 : decode cX5_tell 226 = .ok (.getfield 9, 3) := by decide +kernel
theorem dX5_tell_229 : decode cX5_tell 229 = .ok (.iconst 0, 1) := by decide +kernel
theorem dX5_tell_230 : decode cX5_tell 230 = .ok (.iaload, 1) := by decide +kernel
theorem dX5_tell_231 : decode cX5_tell 231 = .ok (.aload_n 0, 1) := by decide +kernel
theorem dX5_tell_232 : decode cX5_tell 232 = .ok (.getfield 9, 3) := by decide +kernel
theorem dX5_tell_235 : decode cX5_tell 235 = .ok (.iconst 1, 1) := by decide +kernel
theorem dX5_tell_236 : decode cX5_tell 236 = .ok (.iaload, 1) := by decide +kernel
theorem dX5_tell_237 : decode cX5_tell 237 = .ok (.invokevirtual 64, 3) := by decide +kernel
theorem dX5_tell_240 : decode cX5_tell 240 = .ok (.ireturn, 1) := by decide +kernel
theorem dX5_tell_241 : decode cX5_tell 241 = .ok (.aload_n 2, 1) := by decide +kernel
theorem dX5_tell_242 : decode cX5_tell 242 = .ok (.aload_n 0, 1) := by decide +kernel
theorem dX5_tell_243 : decode cX5_tell 243 = .ok (.getfield 9, 3) := by decide +kernel
theorem dX5_tell_246 : decode cX5_tell 246 = .ok (.iconst 0, 1) := by decide +kernel
theorem dX5_tell_247 : decode cX5_tell 247 = .ok (.iaload, 1) := by decide +kernel
theorem dX5_tell_248 : decode cX5_tell 248 = .ok (.aload_n 0, 1) := by decide +kernel
theorem dX5_tell_249 : decode cX5_tell 249 = .ok (.getfield 9, 3) := by decide +kernel
theorem dX5_tell_252 : decode cX5_tell 252 = .ok (.iconst 1, 1) := by decide +kernel
theorem dX5_tell_253 : decode cX5_tell 253 = .ok (.iaload, 1) := by decide +kernel
theorem dX5_tell_254 : decode cX5_tell 254 = .ok (.invokevirtual 67, 3) := by decide +kernel
theorem dX5_tell_257 : decode cX5_tell 257 = .ok (.ireturn, 1) := by decide +kernel
theorem dX5_tell_258 : decode cX5_tell 258 = .ok (.iconst 0, 1) := by decide +kernel
theorem dX5_tell_259 : decode cX5_tell 259 = .ok (.ireturn, 1) := by decide +kernel
theorem dX6_init_0 : decode cX6_init 0 = .ok (.aload_n 0, 1) := by decide +kernel
theorem dX6_init_1 : decode cX6_init 1 = .ok (.invokespecial 3, 3) := by decide +kernel
theorem dX6_init_4 : decode cX6_init 4 = .ok (.aload_n 0, 1) := by decide +kernel
theorem dX6_init_5 : decode cX6_init 5 = .ok (.bipush 8, 2) := by decide +kernel
theorem dX6_init_7 : decode cX6_init 7 = .ok (.newarray .int, 2) := by decide +kernel
theorem dX6_init_9 : decode cX6_init 9 = .ok (.putfield 9, 3) := by decide +kernel
theorem dX6_init_12 : decode cX6_init 12 = .ok (.aload_n 0, 1) := by decide +kernel
theorem dX6_init_13 : decode cX6_init 13 = .ok (.bipush 8, 2) := by decide +kernel
theorem dX6_init_15 : decode cX6_init 15 = .ok (.newarray .int, 2) := by decide +kernel
theorem dX6_init_17 : decode cX6_init 17 = .ok (.putfield 15, 3) := by decide +kernel
theorem dX6_init_20 : decode cX6_init 20 = .ok (.aload_n 0, 1) := by decide +kernel
theorem dX6_init_21 : decode cX6_init 21 = .ok (.bipush 8, 2) := by decide +kernel
theorem dX6_init_23 : decode cX6_init 23 = .ok (.newarray .int, 2) := by decide +kernel
theorem dX6_init_25 : decode cX6_init 25 = .ok (.putfield 18, 3) := by decide +kernel
theorem dX6_init_28 : decode cX6_init 28 = .ok (.aload_n 0, 1) := by decide +kernel
theorem dX6_init_29 : decode cX6_init 29 = .ok (.bipush 8, 2) := by decide +kernel
theorem dX6_init_31 : decode cX6_init 31 = .ok (.newarray .int, 2) := by decide +kernel
theorem dX6_init_33 : decode cX6_init 33 = .ok (.putfield 21, 3) := by decide +kernel
theorem dX6_init_36 : decode cX6_init 36 = .ok (.aload_n 0, 1) := by decide +kernel
theorem dX6_init_37 : decode cX6_init 37 = .ok (.bipush 8, 2) := by decide +kernel
theorem dX6_init_39 : decode cX6_init 39 = .ok (.newarray .int, 2) := by decide +kernel
theorem dX6_init_41 : decode cX6_init 41 = .ok (.putfield 24, 3) := by decide +kernel
theorem dX6_init_44 : decode cX6_init 44 = .ok (.aload_n 0, 1) := by decide +kernel
theorem dX6_init_45 : decode cX6_init 45 = .ok (.bipush 8, 2) := by decide +kernel
theorem dX6_init_47 : decode cX6_init 47 = .ok (.newarray .int, 2) := by decide +kernel
theorem dX6_init_49 : decode cX6_init 49 = .ok (.putfield 27, 3) := by decide +kernel
theorem dX6_init_52 : decode cX6_init 52 = .ok (.aload_n 0, 1) := by decide +kernel
theorem dX6_init_53 : decode cX6_init 53 = .ok (.bipush 8, 2) := by decide +kernel
theorem dX6_init_55 : decode cX6_init 55 = .ok (.newarray .int, 2) := by decide +kernel
theorem dX6_init_57 : decode cX6_init 57 = .ok (.putfield 30, 3) := by decide +kernel
theorem dX6_init_60 : decode cX6_init 60 = .ok (.aload_n 0, 1) := by decide +kernel
theorem dX6_init_61 : decode cX6_init 61 = .ok (.bipush 8, 2) := by decide +kernel
theorem dX6_init_63 : decode cX6_init 63 = .ok (.newarray .int, 2) := by decide +kernel
theorem dX6_init_65 : decode cX6_init 65 = .ok (.putfield 33, 3) := by decide +kernel
theorem dX6_init_68 : decode cX6_init 68 = .ok (.aload_n 0, 1) := by decide +kernel
theorem dX6_init_69 : decode cX6_init 69 = .ok (.bipush 8, 2) := by decide +kernel
theorem dX6_init_71 : decode cX6_init 71 = .ok (.newarray .int, 2) := by decide +kernel
theorem dX6_init_73 : decode cX6_init 73 = .ok (.putfield 36, 3) := by decide +kernel
theorem dX6_init_76 : decode cX6_init 76 = .ok (.aload_n 0, 1) := by decide +kernel
theorem dX6_init_77 : decode cX6_init 77 = .ok (.iconst 4, 1) := by decide +kernel
theorem dX6_init_78 : decode cX6_init 78 = .ok (.newarray .int, 2) := by decide +kernel
theorem dX6_init_80 : decode cX6_init 80 = .ok (.putfield 39, 3) := by decide +kernel
theorem dX6_init_83 : decode cX6_init 83 = .ok (.aload_n 0, 1) := by decide +kernel
theorem dX6_init_84 : decode cX6_init 84 = .ok (.iconst 4, 1) := by decide +kernel
theorem dX6_init_85 : decode cX6_init 85 = .ok (.newarray .int, 2) := by decide +kernel
theorem dX6_init_87 : decode cX6_init 87 = .ok (.putfield 42, 3) := by decide +kernel
theorem dX6_init_90 : decode cX6_init 90 = .ok (.aload_n 0, 1) := by decide +kernel
theorem dX6_init_91 : decode cX6_init 91 = .ok (.sipush 201, 3) := by decide +kernel
theorem dX6_init_94 : decode cX6_init 94 = .ok (.newarray .int, 2) := by decide +kernel
theorem dX6_init_96 : decode cX6_init 96 = .ok (.putfield 45, 3) := by decide +kernel
theorem dX6_init_99 : decode cX6_init 99 = .ok (.aload_n 0, 1) := by decide +kernel
theorem dX6_init_100 : decode cX6_init 100 = .ok (.iconst 0, 1) := by decide +kernel
theorem dX6_init_101 : decode cX6_init 101 = .ok (.putfield 48, 3) := by decide +kernel
theorem dX6_init_104 : decode cX6_init 104 = .ok (.aload_n 0, 1) := by decide +kernel
theorem dX6_init_105 : decode cX6_init 105 = .ok (.bipush 30, 2) := by decide +kernel
theorem dX6_init_107 : decode cX6_init 107 = .ok (.putfield 52, 3) := by decide +kernel
theorem dX6_init_110 : decode cX6_init 110 = .ok (.aload_n 0, 1) := by decide +kernel
theorem dX6_init_111 : decode cX6_init 111 = .ok (.iconst 0, 1) := by decide +kernel
theorem dX6_init_112 : decode cX6_init 112 = .ok (.putfield 55, 3) := by decide +kernel
theorem dX6_init_115 : decode cX6_init 115 = .ok (.aload_n 0, 1) := by decide +kernel
theorem dX6_init_116 : decode cX6_init 116 = .ok (.iconst 0, 1) := by decide +kernel
theorem dX6_init_117 : decode cX6_init 117 = .ok (.putfield 58, 3) := by decide +kernel
theorem dX6_init_120 : decode cX6_init 120 = .ok (.aload_n 0, 1) := by decide +kernel
theorem dX6_init_121 : decode cX6_init 121 = .ok (.iconst 0, 1) := by decide +kernel
theorem dX6_init_122 : decode cX6_init 122 = .ok (.putfield 61, 3) := by decide +kernel
theorem dX6_init_125 : decode cX6_init 125 = .ok (.aload_n 0, 1) := by decide +kernel
theorem dX6_init_126 : decode cX6_init 126 = .ok (.iconst 0, 1) := by decide +kernel
theorem dX6_init_127 : decode cX6_init 127 = .ok (.putfield 64, 3) := by decide +kernel
theorem dX6_init_130 : decode cX6_init 130 = .ok (.return_, 1) := by decide +kernel
theorem dX6_clear_0 : decode cX6_clear 0 = .ok (.aload_n 0, 1) := by decide +kernel
theorem dX6_clear_1 : decode cX6_clear 1 = .ok (.iconst 0, 1) := by decide +kernel
theorem dX6_clear_2 : decode cX6_clear 2 = .ok (.putfield 48, 3) := by decide +kernel
theorem dX6_clear_5 : decode cX6_clear 5 = .ok (.aload_n 0, 1) := by decide +kernel
theorem dX6_clear_6 : decode cX6_clear 6 = .ok (.bipush 30, 2) := by decide +kernel
theorem dX6_clear_8 : decode cX6_clear 8 = .ok (.putfield 52, 3) := by decide +kernel
theorem dX6_clear_11 : decode cX6_clear 11 = .ok (.aload_n 0, 1) := by decide +kernel
theorem dX6_clear_12 : decode cX6_clear 12 = .ok (.iconst 0, 1) := by decide +kernel
theorem dX6_clear_13 : decode cX6_clear 13 = .ok (.putfield 55, 3) := by decide +kernel
theorem dX6_clear_16 : decode cX6_clear 16 = .ok (.aload_n 0, 1) := by decide +kernel
theorem dX6_clear_17 : decode cX6_clear 17 = .ok (.iconst 0, 1) := by decide +kernel
theorem dX6_clear_18 : decode cX6_clear 18 = .ok (.putfield 58, 3) := by decide +kernel
theorem dX6_clear_21 : decode cX6_clear 21 = .ok (.aload_n 0, 1) := by decide +kernel
theorem dX6_clear_22 : decode cX6_clear 22 = .ok (.iconst 0, 1) := by decide +kernel
theorem dX6_clear_23 : decode cX6_clear 23 = .ok (.putfield 61, 3) := by decide +kernel
theorem dX6_clear_26 : decode cX6_clear 26 = .ok (.aload_n 0, 1) := by decide +kernel
theorem dX6_clear_27 : decode cX6_clear 27 = .ok (.iconst 0, 1) := by decide +kernel
theorem dX6_clear_28 : decode cX6_clear 28 = .ok (.putfield 64, 3) := by decide +kernel
theorem dX6_clear_31 : decode cX6_clear 31 = .ok (.return_, 1) := by decide +kernel
theorem dX6_has_0 : decode cX6_has 0 = .ok (.iload_n 1, 1) := by decide +kernel
theorem dX6_has_1 : decode cX6_has 1 = .ok (.ifCond .lt 15, 3) := by decide +kernel
theorem dX6_has_4 : decode cX6_has 4 = .ok (.iload_n 1, 1) := by decide +kernel
theorem dX6_has_5 : decode cX6_has 5 = .ok (.aload_n 0, 1) := by decide +kernel
theorem dX6_has_6 : decode cX6_has 6 = .ok (.getfield 48, 3) := by decide +kernel
theorem dX6_has_9 : decode cX6_has 9 = .ok (.if_icmp .ge 7, 3) := by decide +kernel
theorem dX6_has_12 : decode cX6_has 12 = .ok (.iconst 1, 1) := by decide +kernel
theorem dX6_has_13 : decode cX6_has 13 = .ok (.goto 4, 3) := by decide +kernel
theorem dX6_has_16 : decode cX6_has 16 = .ok (.iconst 0, 1) := by decide +kernel
theorem dX6_has_17 : decode cX6_has 17 = .ok (.ireturn, 1) := by decide +kernel
theorem dX6_addBeast_0 : decode cX6_addBeast 0 = .ok (.aload_n 0, 1) := by decide +kernel
theorem dX6_addBeast_1 : decode cX6_addBeast 1 = .ok (.getfield 48, 3) := by decide +kernel
theorem dX6_addBeast_4 : decode cX6_addBeast 4 = .ok (.bipush 8, 2) := by decide +kernel
theorem dX6_addBeast_6 : decode cX6_addBeast 6 = .ok (.if_icmp .ge 43, 3) := by decide +kernel
theorem dX6_addBeast_9 : decode cX6_addBeast 9 = .ok (.iload_n 1, 1) := by decide +kernel
theorem dX6_addBeast_10 : decode cX6_addBeast 10 = .ok (.iconst 1, 1) := by decide +kernel
theorem dX6_addBeast_11 : decode cX6_addBeast 11 = .ok (.bipush 9, 2) := by decide +kernel
theorem dX6_addBeast_13 : decode cX6_addBeast 13 = .ok (.invokestatic 68, 3) := by decide +kernel
theorem dX6_addBeast_16 : decode cX6_addBeast 16 = .ok (.ifCond .eq 33, 3) := by decide +kernel
theorem dX6_addBeast_19 : decode cX6_addBeast 19 = .ok (.iload_n 2, 1) := by decide +kernel
theorem dX6_addBeast_20 : decode cX6_addBeast 20 = .ok (.iconst 1, 1) := by decide +kernel
theorem dX6_addBeast_21 : decode cX6_addBeast 21 = .ok (.bipush 9, 2) := by decide +kernel
theorem dX6_addBeast_23 : decode cX6_addBeast 23 = .ok (.invokestatic 68, 3) := by decide +kernel
theorem dX6_addBeast_26 : decode cX6_addBeast 26 = .ok (.ifCond .eq 23, 3) := by decide +kernel
theorem dX6_addBeast_29 : decode cX6_addBeast 29 = .ok (.iload_n 3, 1) := by decide +kernel
theorem dX6_addBeast_30 : decode cX6_addBeast 30 = .ok (.iconst 0, 1) := by decide +kernel
theorem dX6_addBeast_31 : decode cX6_addBeast 31 = .ok (.iconst 3, 1) := by decide +kernel
theorem dX6_addBeast_32 : decode cX6_addBeast 32 = .ok (.invokestatic 68, 3) := by decide +kernel
theorem dX6_addBeast_35 : decode cX6_addBeast 35 = .ok (.ifCond .eq 14, 3) := by decide +kernel
theorem dX6_addBeast_38 : decode cX6_addBeast 38 = .ok (.iload 4, 2) := by decide +kernel
theorem dX6_addBeast_40 : decode cX6_addBeast 40 = .ok (.iconst 0, 1) := by decide +kernel
theorem dX6_addBeast_41 : decode cX6_addBeast 41 = .ok (.bipush 30, 2) := by decide +kernel
theorem dX6_addBeast_43 : decode cX6_addBeast 43 = .ok (.invokestatic 68, 3) := by decide +kernel
theorem dX6_addBeast_46 : decode cX6_addBeast 46 = .ok (.ifCond .ne 5, 3) := by decide +kernel
theorem dX6_addBeast_49 : decode cX6_addBeast 49 = .ok (.iconst 0, 1) := by decide +kernel
theorem dX6_addBeast_50 : decode cX6_addBeast 50 = .ok (.ireturn, 1) := by decide +kernel
theorem dX6_addBeast_51 : decode cX6_addBeast 51 = .ok (.aload_n 0, 1) := by decide +kernel
theorem dX6_addBeast_52 : decode cX6_addBeast 52 = .ok (.getfield 9, 3) := by decide +kernel
theorem dX6_addBeast_55 : decode cX6_addBeast 55 = .ok (.aload_n 0, 1) := by decide +kernel
theorem dX6_addBeast_56 : decode cX6_addBeast 56 = .ok (.getfield 48, 3) := by decide +kernel
theorem dX6_addBeast_59 : decode cX6_addBeast 59 = .ok (.iload_n 1, 1) := by decide +kernel
theorem dX6_addBeast_60 : decode cX6_addBeast 60 = .ok (.iastore, 1) := by decide +kernel
theorem dX6_addBeast_61 : decode cX6_addBeast 61 = .ok (.aload_n 0, 1) := by decide +kernel
theorem dX6_addBeast_62 : decode cX6_addBeast 62 = .ok (.getfield 15, 3) := by decide +kernel
theorem dX6_addBeast_65 : decode cX6_addBeast 65 = .ok (.aload_n 0, 1) := by decide +kernel
theorem dX6_addBeast_66 : decode cX6_addBeast 66 = .ok (.getfield 48, 3) := by decide +kernel
theorem dX6_addBeast_69 : decode cX6_addBeast 69 = .ok (.iload_n 2, 1) := by decide +kernel
theorem dX6_addBeast_70 : decode cX6_addBeast 70 = .ok (.iastore, 1) := by decide +kernel
theorem dX6_addBeast_71 : decode cX6_addBeast 71 = .ok (.aload_n 0, 1) := by decide +kernel
theorem dX6_addBeast_72 : decode cX6_addBeast 72 = .ok (.getfield 18, 3) := by decide +kernel
theorem dX6_addBeast_75 : decode cX6_addBeast 75 = .ok (.aload_n 0, 1) := by decide +kernel
theorem dX6_addBeast_76 : decode cX6_addBeast 76 = .ok (.getfield 48, 3) := by decide +kernel
theorem dX6_addBeast_79 : decode cX6_addBeast 79 = .ok (.iload_n 3, 1) := by decide +kernel
theorem dX6_addBeast_80 : decode cX6_addBeast 80 = .ok (.iastore, 1) := by decide +kernel
theorem dX6_addBeast_81 : decode cX6_addBeast 81 = .ok (.aload_n 0, 1) := by decide +kernel
theorem dX6_addBeast_82 : decode cX6_addBeast 82 = .ok (.getfield 21, 3) := by decide +kernel
theorem dX6_addBeast_85 : decode cX6_addBeast 85 = .ok (.aload_n 0, 1) := by decide +kernel
theorem dX6_addBeast_86 : decode cX6_addBeast 86 = .ok (.getfield 48, 3) := by decide +kernel
theorem dX6_addBeast_89 : decode cX6_addBeast 89 = .ok (.iload 4, 2) := by decide +kernel
theorem dX6_addBeast_91 : decode cX6_addBeast 91 = .ok (.iastore, 1) := by decide +kernel
theorem dX6_addBeast_92 : decode cX6_addBeast 92 = .ok (.aload_n 0, 1) := by decide +kernel
theorem dX6_addBeast_93 : decode cX6_addBeast 93 = .ok (.getfield 24, 3) := by decide +kernel
theorem dX6_addBeast_96 : decode cX6_addBeast 96 = .ok (.aload_n 0, 1) := by decide +kernel
theorem dX6_addBeast_97 : decode cX6_addBeast 97 = .ok (.getfield 48, 3) := by decide +kernel
theorem dX6_addBeast_100 : decode cX6_addBeast 100 = .ok (.bipush (-4), 2) := by decide +kernel
theorem dX6_addBeast_102 : decode cX6_addBeast 102 = .ok (.iastore, 1) := by decide +kernel
theorem dX6_addBeast_103 : decode cX6_addBeast 103 = .ok (.aload_n 0, 1) := by decide +kernel
theorem dX6_addBeast_104 : decode cX6_addBeast 104 = .ok (.getfield 27, 3) := by decide +kernel
theorem dX6_addBeast_107 : decode cX6_addBeast 107 = .ok (.aload_n 0, 1) := by decide +kernel
theorem dX6_addBeast_108 : decode cX6_addBeast 108 = .ok (.getfield 48, 3) := by decide +kernel
theorem dX6_addBeast_111 : decode cX6_addBeast 111 = .ok (.bipush (-4), 2) := by decide +kernel
theorem dX6_addBeast_113 : decode cX6_addBeast 113 = .ok (.iastore, 1) := by decide +kernel
theorem dX6_addBeast_114 : decode cX6_addBeast 114 = .ok (.aload_n 0, 1) := by decide +kernel
theorem dX6_addBeast_115 : decode cX6_addBeast 115 = .ok (.getfield 30, 3) := by decide +kernel
theorem dX6_addBeast_118 : decode cX6_addBeast 118 = .ok (.aload_n 0, 1) := by decide +kernel
theorem dX6_addBeast_119 : decode cX6_addBeast 119 = .ok (.getfield 48, 3) := by decide +kernel
theorem dX6_addBeast_122 : decode cX6_addBeast 122 = .ok (.bipush (-4), 2) := by decide +kernel
theorem dX6_addBeast_124 : decode cX6_addBeast 124 = .ok (.iastore, 1) := by decide +kernel
theorem dX6_addBeast_125 : decode cX6_addBeast 125 = .ok (.aload_n 0, 1) := by decide +kernel
theorem dX6_addBeast_126 : decode cX6_addBeast 126 = .ok (.getfield 33, 3) := by decide +kernel
theorem dX6_addBeast_129 : decode cX6_addBeast 129 = .ok (.aload_n 0, 1) := by decide +kernel
theorem dX6_addBeast_130 : decode cX6_addBeast 130 = .ok (.getfield 48, 3) := by decide +kernel
theorem dX6_addBeast_133 : decode cX6_addBeast 133 = .ok (.bipush (-4), 2) := by decide +kernel
theorem dX6_addBeast_135 : decode cX6_addBeast 135 = .ok (.iastore, 1) := by decide +kernel
theorem dX6_addBeast_136 : decode cX6_addBeast 136 = .ok (.aload_n 0, 1) := by decide +kernel
theorem dX6_addBeast_137 : decode cX6_addBeast 137 = .ok (.getfield 36, 3) := by decide +kernel
theorem dX6_addBeast_140 : decode cX6_addBeast 140 = .ok (.aload_n 0, 1) := by decide +kernel
theorem dX6_addBeast_141 : decode cX6_addBeast 141 = .ok (.getfield 48, 3) := by decide +kernel
theorem dX6_addBeast_144 : decode cX6_addBeast 144 = .ok (.iconst 0, 1) := by decide +kernel
theorem dX6_addBeast_145 : decode cX6_addBeast 145 = .ok (.iastore, 1) := by decide +kernel
theorem dX6_addBeast_146 : decode cX6_addBeast 146 = .ok (.aload_n 0, 1) := by decide +kernel
theorem dX6_addBeast_147 : decode cX6_addBeast 147 = .ok (.dup, 1) := by decide +kernel
theorem dX6_addBeast_148 : decode cX6_addBeast 148 = .ok (.getfield 48, 3) := by decide +kernel
theorem dX6_addBeast_151 : decode cX6_addBeast 151 = .ok (.iconst 1, 1) := by decide +kernel
theorem dX6_addBeast_152 : decode cX6_addBeast 152 = .ok (.iadd, 1) := by decide +kernel
theorem dX6_addBeast_153 : decode cX6_addBeast 153 = .ok (.putfield 48, 3) := by decide +kernel
theorem dX6_addBeast_156 : decode cX6_addBeast 156 = .ok (.iconst 1, 1) := by decide +kernel
theorem dX6_addBeast_157 : decode cX6_addBeast 157 = .ok (.ireturn, 1) := by decide +kernel
theorem dX6_setWidth_0 : decode cX6_setWidth 0 = .ok (.iload_n 1, 1) := by decide +kernel
theorem dX6_setWidth_1 : decode cX6_setWidth 1 = .ok (.iconst 1, 1) := by decide +kernel
theorem dX6_setWidth_2 : decode cX6_setWidth 2 = .ok (.bipush 99, 2) := by decide +kernel
theorem dX6_setWidth_4 : decode cX6_setWidth 4 = .ok (.invokestatic 68, 3) := by decide +kernel
theorem dX6_setWidth_7 : decode cX6_setWidth 7 = .ok (.ifCond .ne 5, 3) := by decide +kernel
theorem dX6_setWidth_10 : decode cX6_setWidth 10 = .ok (.iconst 0, 1) := by decide +kernel
theorem dX6_setWidth_11 : decode cX6_setWidth 11 = .ok (.ireturn, 1) := by decide +kernel
theorem dX6_setWidth_12 : decode cX6_setWidth 12 = .ok (.aload_n 0, 1) := by decide +kernel
theorem dX6_setWidth_13 : decode cX6_setWidth 13 = .ok (.iload_n 1, 1) := by decide +kernel
theorem dX6_setWidth_14 : decode cX6_setWidth 14 = .ok (.putfield 52, 3) := by decide +kernel
theorem dX6_setWidth_17 : decode cX6_setWidth 17 = .ok (.iconst 1, 1) := by decide +kernel
theorem dX6_setWidth_18 : decode cX6_setWidth 18 = .ok (.ireturn, 1) := by decide +kernel
theorem dX6_addCurrent_0 : decode cX6_addCurrent 0 = .ok (.aload_n 0, 1) := by decide +kernel
theorem dX6_addCurrent_1 : decode cX6_addCurrent 1 = .ok (.getfield 55, 3) := by decide +kernel
theorem dX6_addCurrent_4 : decode cX6_addCurrent 4 = .ok (.iconst 4, 1) := by decide +kernel
theorem dX6_addCurrent_5 : decode cX6_addCurrent 5 = .ok (.if_icmp .ge 22, 3) := by decide +kernel
theorem dX6_addCurrent_8 : decode cX6_addCurrent 8 = .ok (.iload_n 1, 1) := by decide +kernel
theorem dX6_addCurrent_9 : decode cX6_addCurrent 9 = .ok (.iconst 0, 1) := by decide +kernel
theorem dX6_addCurrent_10 : decode cX6_addCurrent 10 = .ok (.bipush 99, 2) := by decide +kernel
theorem dX6_addCurrent_12 : decode cX6_addCurrent 12 = .ok (.invokestatic 68, 3) := by decide +kernel
theorem dX6_addCurrent_15 : decode cX6_addCurrent 15 = .ok (.ifCond .eq 12, 3) := by decide +kernel
theorem dX6_addCurrent_18 : decode cX6_addCurrent 18 = .ok (.iload_n 2, 1) := by decide +kernel
theorem dX6_addCurrent_19 : decode cX6_addCurrent 19 = .ok (.iconst 0, 1) := by decide +kernel
theorem dX6_addCurrent_20 : decode cX6_addCurrent 20 = .ok (.iconst 5, 1) := by decide +kernel
theorem dX6_addCurrent_21 : decode cX6_addCurrent 21 = .ok (.invokestatic 68, 3) := by decide +kernel
theorem dX6_addCurrent_24 : decode cX6_addCurrent 24 = .ok (.ifCond .ne 5, 3) := by decide +kernel
theorem dX6_addCurrent_27 : decode cX6_addCurrent 27 = .ok (.iconst 0, 1) := by decide +kernel
theorem dX6_addCurrent_28 : decode cX6_addCurrent 28 = .ok (.ireturn, 1) := by decide +kernel
theorem dX6_addCurrent_29 : decode cX6_addCurrent 29 = .ok (.aload_n 0, 1) := by decide +kernel
theorem dX6_addCurrent_30 : decode cX6_addCurrent 30 = .ok (.getfield 39, 3) := by decide +kernel
theorem dX6_addCurrent_33 : decode cX6_addCurrent 33 = .ok (.aload_n 0, 1) := by decide +kernel
theorem dX6_addCurrent_34 : decode cX6_addCurrent 34 = .ok (.getfield 55, 3) := by decide +kernel
theorem dX6_addCurrent_37 : decode cX6_addCurrent 37 = .ok (.iload_n 1, 1) := by decide +kernel
theorem dX6_addCurrent_38 : decode cX6_addCurrent 38 = .ok (.iastore, 1) := by decide +kernel
theorem dX6_addCurrent_39 : decode cX6_addCurrent 39 = .ok (.aload_n 0, 1) := by decide +kernel
theorem dX6_addCurrent_40 : decode cX6_addCurrent 40 = .ok (.getfield 42, 3) := by decide +kernel
theorem dX6_addCurrent_43 : decode cX6_addCurrent 43 = .ok (.aload_n 0, 1) := by decide +kernel
theorem dX6_addCurrent_44 : decode cX6_addCurrent 44 = .ok (.getfield 55, 3) := by decide +kernel
theorem dX6_addCurrent_47 : decode cX6_addCurrent 47 = .ok (.iload_n 2, 1) := by decide +kernel
theorem dX6_addCurrent_48 : decode cX6_addCurrent 48 = .ok (.iastore, 1) := by decide +kernel
theorem dX6_addCurrent_49 : decode cX6_addCurrent 49 = .ok (.aload_n 0, 1) := by decide +kernel
theorem dX6_addCurrent_50 : decode cX6_addCurrent 50 = .ok (.dup, 1) := by decide +kernel
theorem dX6_addCurrent_51 : decode cX6_addCurrent 51 = .ok (.getfield 55, 3) := by decide +kernel
theorem dX6_addCurrent_54 : decode cX6_addCurrent 54 = .ok (.iconst 1, 1) := by decide +kernel
theorem dX6_addCurrent_55 : decode cX6_addCurrent 55 = .ok (.iadd, 1) := by decide +kernel
theorem dX6_addCurrent_56 : decode cX6_addCurrent 56 = .ok (.putfield 55, 3) := by decide +kernel
theorem dX6_addCurrent_59 : decode cX6_addCurrent 59 = .ok (.iconst 1, 1) := by decide +kernel
theorem dX6_addCurrent_60 : decode cX6_addCurrent 60 = .ok (.ireturn, 1) := by decide +kernel
theorem dX6_setCarrier_0 : decode cX6_setCarrier 0 = .ok (.aload_n 0, 1) := by decide +kernel
theorem dX6_setCarrier_1 : decode cX6_setCarrier 1 = .ok (.iload_n 1, 1) := by decide +kernel
theorem dX6_setCarrier_2 : decode cX6_setCarrier 2 = .ok (.invokevirtual 72, 3) := by decide +kernel
theorem dX6_setCarrier_5 : decode cX6_setCarrier 5 = .ok (.ifCond .eq 16, 3) := by decide +kernel
theorem dX6_setCarrier_8 : decode cX6_setCarrier 8 = .ok (.aload_n 0, 1) := by decide +kernel
theorem dX6_setCarrier_9 : decode cX6_setCarrier 9 = .ok (.iload_n 2, 1) := by decide +kernel
theorem dX6_setCarrier_10 : decode cX6_setCarrier 10 = .ok (.invokevirtual 72, 3) := by decide +kernel
theorem dX6_setCarrier_13 : decode cX6_setCarrier 13 = .ok (.ifCond .eq 8, 3) := by decide +kernel
theorem dX6_setCarrier_16 : decode cX6_setCarrier 16 = .ok (.iload_n 1, 1) := by decide +kernel
theorem dX6_setCarrier_17 : decode cX6_setCarrier 17 = .ok (.iload_n 2, 1) := by decide +kernel
theorem dX6_setCarrier_18 : decode cX6_setCarrier 18 = .ok (.if_icmp .ne 5, 3) := by decide +kernel
theorem dX6_setCarrier_21 : decode cX6_setCarrier 21 = .ok (.iconst 0, 1) := by decide +kernel
theorem dX6_setCarrier_22 : decode cX6_setCarrier 22 = .ok (.ireturn, 1) := by decide +kernel
theorem dX6_setCarrier_23 : decode cX6_setCarrier 23 = .ok (.aload_n 0, 1) := by decide +kernel
theorem dX6_setCarrier_24 : decode cX6_setCarrier 24 = .ok (.getfield 24, 3) := by decide +kernel
theorem dX6_setCarrier_27 : decode cX6_setCarrier 27 = .ok (.iload_n 1, 1) := by decide +kernel
theorem dX6_setCarrier_28 : decode cX6_setCarrier 28 = .ok (.iload_n 2, 1) := by decide +kernel
theorem dX6_setCarrier_29 : decode cX6_setCarrier 29 = .ok (.iastore, 1) := by decide +kernel
theorem dX6_setCarrier_30 : decode cX6_setCarrier 30 = .ok (.iconst 1, 1) := by decide +kernel
theorem dX6_setCarrier_31 : decode cX6_setCarrier 31 = .ok (.ireturn, 1) := by decide +kernel
theorem dX6_addRaft_0 : decode cX6_addRaft 0 = .ok (.aload_n 0, 1) := by decide +kernel
theorem dX6_addRaft_1 : decode cX6_addRaft 1 = .ok (.getfield 58, 3) := by decide +kernel
theorem dX6_addRaft_4 : decode cX6_addRaft 4 = .ok (.iconst 2, 1) := by decide +kernel
theorem dX6_addRaft_5 : decode cX6_addRaft 5 = .ok (.if_icmp .ge 42, 3) := by decide +kernel
theorem dX6_addRaft_8 : decode cX6_addRaft 8 = .ok (.aload_n 0, 1) := by decide +kernel
theorem dX6_addRaft_9 : decode cX6_addRaft 9 = .ok (.iload_n 1, 1) := by decide +kernel
theorem dX6_addRaft_10 : decode cX6_addRaft 10 = .ok (.invokevirtual 72, 3) := by decide +kernel
theorem dX6_addRaft_13 : decode cX6_addRaft 13 = .ok (.ifCond .eq 34, 3) := by decide +kernel
theorem dX6_addRaft_16 : decode cX6_addRaft 16 = .ok (.aload_n 0, 1) := by decide +kernel
theorem dX6_addRaft_17 : decode cX6_addRaft 17 = .ok (.iload_n 2, 1) := by decide +kernel
theorem dX6_addRaft_18 : decode cX6_addRaft 18 = .ok (.invokevirtual 72, 3) := by decide +kernel
theorem dX6_addRaft_21 : decode cX6_addRaft 21 = .ok (.ifCond .eq 26, 3) := by decide +kernel
theorem dX6_addRaft_24 : decode cX6_addRaft 24 = .ok (.aload_n 0, 1) := by decide +kernel
theorem dX6_addRaft_25 : decode cX6_addRaft 25 = .ok (.iload_n 3, 1) := by decide +kernel
theorem dX6_addRaft_26 : decode cX6_addRaft 26 = .ok (.invokevirtual 72, 3) := by decide +kernel
theorem dX6_addRaft_29 : decode cX6_addRaft 29 = .ok (.ifCond .eq 18, 3) := by decide +kernel
theorem dX6_addRaft_32 : decode cX6_addRaft 32 = .ok (.iload_n 1, 1) := by decide +kernel
theorem dX6_addRaft_33 : decode cX6_addRaft 33 = .ok (.iload_n 2, 1) := by decide +kernel
theorem dX6_addRaft_34 : decode cX6_addRaft 34 = .ok (.if_icmp .eq 13, 3) := by decide +kernel
theorem dX6_addRaft_37 : decode cX6_addRaft 37 = .ok (.iload_n 1, 1) := by decide +kernel
theorem dX6_addRaft_38 : decode cX6_addRaft 38 = .ok (.iload_n 3, 1) := by decide +kernel
theorem dX6_addRaft_39 : decode cX6_addRaft 39 = .ok (.if_icmp .eq 8, 3) := by decide +kernel
theorem dX6_addRaft_42 : decode cX6_addRaft 42 = .ok (.iload_n 2, 1) := by decide +kernel
theorem dX6_addRaft_43 : decode cX6_addRaft 43 = .ok (.iload_n 3, 1) := by decide +kernel
theorem dX6_addRaft_44 : decode cX6_addRaft 44 = .ok (.if_icmp .ne 5, 3) := by decide +kernel
theorem dX6_addRaft_47 : decode cX6_addRaft 47 = .ok (.iconst 0, 1) := by decide +kernel
theorem dX6_addRaft_48 : decode cX6_addRaft 48 = .ok (.ireturn, 1) := by decide +kernel
theorem dX6_addRaft_49 : decode cX6_addRaft 49 = .ok (.aload_n 0, 1) := by decide +kernel
theorem dX6_addRaft_50 : decode cX6_addRaft 50 = .ok (.iload_n 1, 1) := by decide +kernel
theorem dX6_addRaft_51 : decode cX6_addRaft 51 = .ok (.invokevirtual 76, 3) := by decide +kernel
theorem dX6_addRaft_54 : decode cX6_addRaft 54 = .ok (.aload_n 0, 1) := by decide +kernel
theorem dX6_addRaft_55 : decode cX6_addRaft 55 = .ok (.iload_n 2, 1) := by decide +kernel
theorem dX6_addRaft_56 : decode cX6_addRaft 56 = .ok (.invokevirtual 76, 3) := by decide +kernel
theorem dX6_addRaft_59 : decode cX6_addRaft 59 = .ok (.aload_n 0, 1) := by decide +kernel
theorem dX6_addRaft_60 : decode cX6_addRaft 60 = .ok (.iload_n 3, 1) := by decide +kernel
theorem dX6_addRaft_61 : decode cX6_addRaft 61 = .ok (.invokevirtual 76, 3) := by decide +kernel
theorem dX6_addRaft_64 : decode cX6_addRaft 64 = .ok (.aload_n 0, 1) := by decide +kernel
theorem dX6_addRaft_65 : decode cX6_addRaft 65 = .ok (.dup, 1) := by decide +kernel
theorem dX6_addRaft_66 : decode cX6_addRaft 66 = .ok (.getfield 58, 3) := by decide +kernel
theorem dX6_addRaft_69 : decode cX6_addRaft 69 = .ok (.iconst 1, 1) := by decide +kernel
theorem dX6_addRaft_70 : decode cX6_addRaft 70 = .ok (.iadd, 1) := by decide +kernel
theorem dX6_addRaft_71 : decode cX6_addRaft 71 = .ok (.putfield 58, 3) := by decide +kernel
theorem dX6_addRaft_74 : decode cX6_addRaft 74 = .ok (.iconst 1, 1) := by decide +kernel
theorem dX6_addRaft_75 : decode cX6_addRaft 75 = .ok (.ireturn, 1) := by decide +kernel
theorem dX6_putOnRaft_0 : decode cX6_putOnRaft 0 = .ok (.aload_n 0, 1) := by decide +kernel
theorem dX6_putOnRaft_1 : decode cX6_putOnRaft 1 = .ok (.getfield 27, 3) := by decide +kernel
theorem dX6_putOnRaft_4 : decode cX6_putOnRaft 4 = .ok (.iload_n 1, 1) := by decide +kernel
theorem dX6_putOnRaft_5 : decode cX6_putOnRaft 5 = .ok (.iaload, 1) := by decide +kernel
theorem dX6_putOnRaft_6 : decode cX6_putOnRaft 6 = .ok (.bipush (-4), 2) := by decide +kernel
theorem dX6_putOnRaft_8 : decode cX6_putOnRaft 8 = .ok (.if_icmp .eq 8, 3) := by decide +kernel
theorem dX6_putOnRaft_11 : decode cX6_putOnRaft 11 = .ok (.aload_n 0, 1) := by decide +kernel
theorem dX6_putOnRaft_12 : decode cX6_putOnRaft 12 = .ok (.iconst 1, 1) := by decide +kernel
theorem dX6_putOnRaft_13 : decode cX6_putOnRaft 13 = .ok (.putfield 64, 3) := by decide +kernel
theorem dX6_putOnRaft_16 : decode cX6_putOnRaft 16 = .ok (.aload_n 0, 1) := by decide +kernel
theorem dX6_putOnRaft_17 : decode cX6_putOnRaft 17 = .ok (.getfield 27, 3) := by decide +kernel
theorem dX6_putOnRaft_20 : decode cX6_putOnRaft 20 = .ok (.iload_n 1, 1) := by decide +kernel
theorem dX6_putOnRaft_21 : decode cX6_putOnRaft 21 = .ok (.aload_n 0, 1) := by decide +kernel
theorem dX6_putOnRaft_22 : decode cX6_putOnRaft 22 = .ok (.getfield 58, 3) := by decide +kernel
theorem dX6_putOnRaft_25 : decode cX6_putOnRaft 25 = .ok (.iastore, 1) := by decide +kernel
theorem dX6_putOnRaft_26 : decode cX6_putOnRaft 26 = .ok (.return_, 1) := by decide +kernel
theorem dX6_addVoice_0 : decode cX6_addVoice 0 = .ok (.aload_n 0, 1) := by decide +kernel
theorem dX6_addVoice_1 : decode cX6_addVoice 1 = .ok (.iload_n 1, 1) := by decide +kernel
theorem dX6_addVoice_2 : decode cX6_addVoice 2 = .ok (.invokevirtual 72, 3) := by decide +kernel
theorem dX6_addVoice_5 : decode cX6_addVoice 5 = .ok (.ifCond .ne 5, 3) := by decide +kernel
theorem dX6_addVoice_8 : decode cX6_addVoice 8 = .ok (.iconst 0, 1) := by decide +kernel
theorem dX6_addVoice_9 : decode cX6_addVoice 9 = .ok (.ireturn, 1) := by decide +kernel
theorem dX6_addVoice_10 : decode cX6_addVoice 10 = .ok (.aload_n 0, 1) := by decide +kernel
theorem dX6_addVoice_11 : decode cX6_addVoice 11 = .ok (.getfield 30, 3) := by decide +kernel
theorem dX6_addVoice_14 : decode cX6_addVoice 14 = .ok (.iload_n 1, 1) := by decide +kernel
theorem dX6_addVoice_15 : decode cX6_addVoice 15 = .ok (.iaload, 1) := by decide +kernel
theorem dX6_addVoice_16 : decode cX6_addVoice 16 = .ok (.bipush (-4), 2) := by decide +kernel
theorem dX6_addVoice_18 : decode cX6_addVoice 18 = .ok (.if_icmp .ne 23, 3) := by decide +kernel
theorem dX6_addVoice_21 : decode cX6_addVoice 21 = .ok (.aload_n 0, 1) := by decide +kernel
theorem dX6_addVoice_22 : decode cX6_addVoice 22 = .ok (.getfield 30, 3) := by decide +kernel
theorem dX6_addVoice_25 : decode cX6_addVoice 25 = .ok (.iload_n 1, 1) := by decide +kernel
theorem dX6_addVoice_26 : decode cX6_addVoice 26 = .ok (.aload_n 0, 1) := by decide +kernel
theorem dX6_addVoice_27 : decode cX6_addVoice 27 = .ok (.getfield 61, 3) := by decide +kernel
theorem dX6_addVoice_30 : decode cX6_addVoice 30 = .ok (.iastore, 1) := by decide +kernel
theorem dX6_addVoice_31 : decode cX6_addVoice 31 = .ok (.aload_n 0, 1) := by decide +kernel
theorem dX6_addVoice_32 : decode cX6_addVoice 32 = .ok (.dup, 1) := by decide +kernel
theorem dX6_addVoice_33 : decode cX6_addVoice 33 = .ok (.getfield 61, 3) := by decide +kernel
theorem dX6_addVoice_36 : decode cX6_addVoice 36 = .ok (.iconst 1, 1) := by decide +kernel
theorem dX6_addVoice_37 : decode cX6_addVoice 37 = .ok (.iadd, 1) := by decide +kernel
theorem dX6_addVoice_38 : decode cX6_addVoice 38 = .ok (.putfield 61, 3) := by decide +kernel
theorem dX6_addVoice_41 : decode cX6_addVoice 41 = .ok (.iconst 1, 1) := by decide +kernel
theorem dX6_addVoice_42 : decode cX6_addVoice 42 = .ok (.ireturn, 1) := by decide +kernel
theorem dX6_setWant_0 : decode cX6_setWant 0 = .ok (.aload_n 0, 1) := by decide +kernel
theorem dX6_setWant_1 : decode cX6_setWant 1 = .ok (.iload_n 1, 1) := by decide +kernel
theorem dX6_setWant_2 : decode cX6_setWant 2 = .ok (.invokevirtual 72, 3) := by decide +kernel
theorem dX6_setWant_5 : decode cX6_setWant 5 = .ok (.ifCond .eq 13, 3) := by decide +kernel
theorem dX6_setWant_8 : decode cX6_setWant 8 = .ok (.iload_n 2, 1) := by decide +kernel
theorem dX6_setWant_9 : decode cX6_setWant 9 = .ok (.iconst 1, 1) := by decide +kernel
theorem dX6_setWant_10 : decode cX6_setWant 10 = .ok (.bipush 8, 2) := by decide +kernel
theorem dX6_setWant_12 : decode cX6_setWant 12 = .ok (.invokestatic 68, 3) := by decide +kernel
theorem dX6_setWant_15 : decode cX6_setWant 15 = .ok (.ifCond .ne 5, 3) := by decide +kernel
theorem dX6_setWant_18 : decode cX6_setWant 18 = .ok (.iconst 0, 1) := by decide +kernel
theorem dX6_setWant_19 : decode cX6_setWant 19 = .ok (.ireturn, 1) := by decide +kernel
theorem dX6_setWant_20 : decode cX6_setWant 20 = .ok (.aload_n 0, 1) := by decide +kernel
theorem dX6_setWant_21 : decode cX6_setWant 21 = .ok (.getfield 33, 3) := by decide +kernel
theorem dX6_setWant_24 : decode cX6_setWant 24 = .ok (.iload_n 1, 1) := by decide +kernel
theorem dX6_setWant_25 : decode cX6_setWant 25 = .ok (.iload_n 2, 1) := by decide +kernel
theorem dX6_setWant_26 : decode cX6_setWant 26 = .ok (.iastore, 1) := by decide +kernel
theorem dX6_setWant_27 : decode cX6_setWant 27 = .ok (.iconst 1, 1) := by decide +kernel
theorem dX6_setWant_28 : decode cX6_setWant 28 = .ok (.ireturn, 1) := by decide +kernel
theorem dX6_setHarvest_0 : decode cX6_setHarvest 0 = .ok (.aload_n 0, 1) := by decide +kernel
theorem dX6_setHarvest_1 : decode cX6_setHarvest 1 = .ok (.iload_n 1, 1) := by decide +kernel
theorem dX6_setHarvest_2 : decode cX6_setHarvest 2 = .ok (.invokevirtual 72, 3) := by decide +kernel
theorem dX6_setHarvest_5 : decode cX6_setHarvest 5 = .ok (.ifCond .eq 13, 3) := by decide +kernel
theorem dX6_setHarvest_8 : decode cX6_setHarvest 8 = .ok (.iload_n 2, 1) := by decide +kernel
theorem dX6_setHarvest_9 : decode cX6_setHarvest 9 = .ok (.iconst 0, 1) := by decide +kernel
theorem dX6_setHarvest_10 : decode cX6_setHarvest 10 = .ok (.bipush 99, 2) := by decide +kernel
theorem dX6_setHarvest_12 : decode cX6_setHarvest 12 = .ok (.invokestatic 68, 3) := by decide +kernel
theorem dX6_setHarvest_15 : decode cX6_setHarvest 15 = .ok (.ifCond .ne 5, 3) := by decide +kernel
theorem dX6_setHarvest_18 : decode cX6_setHarvest 18 = .ok (.iconst 0, 1) := by decide +kernel
theorem dX6_setHarvest_19 : decode cX6_setHarvest 19 = .ok (.ireturn, 1) := by decide +kernel
theorem dX6_setHarvest_20 : decode cX6_setHarvest 20 = .ok (.aload_n 0, 1) := by decide +kernel
theorem dX6_setHarvest_21 : decode cX6_setHarvest 21 = .ok (.getfield 36, 3) := by decide +kernel
theorem dX6_setHarvest_24 : decode cX6_setHarvest 24 = .ok (.iload_n 1, 1) := by decide +kernel
theorem dX6_setHarvest_25 : decode cX6_setHarvest 25 = .ok (.iload_n 2, 1) := by decide +kernel
theorem dX6_setHarvest_26 : decode cX6_setHarvest 26 = .ok (.iastore, 1) := by decide +kernel
theorem dX6_setHarvest_27 : decode cX6_setHarvest 27 = .ok (.iconst 1, 1) := by decide +kernel
theorem dX6_setHarvest_28 : decode cX6_setHarvest 28 = .ok (.ireturn, 1) := by decide +kernel
theorem dX6_canBeLaid_0 : decode cX6_canBeLaid 0 = .ok (.aload_n 0, 1) := by decide +kernel
theorem dX6_canBeLaid_1 : decode cX6_canBeLaid 1 = .ok (.getfield 48, 3) := by decide +kernel
theorem dX6_canBeLaid_4 : decode cX6_canBeLaid 4 = .ok (.iconst 1, 1) := by decide +kernel
theorem dX6_canBeLaid_5 : decode cX6_canBeLaid 5 = .ok (.if_icmp .lt 10, 3) := by decide +kernel
theorem dX6_canBeLaid_8 : decode cX6_canBeLaid 8 = .ok (.aload_n 0, 1) := by decide +kernel
theorem dX6_canBeLaid_9 : decode cX6_canBeLaid 9 = .ok (.getfield 64, 3) := by decide +kernel
theorem dX6_canBeLaid_12 : decode cX6_canBeLaid 12 = .ok (.ifCond .eq 5, 3) := by decide +kernel
theorem dX6_canBeLaid_15 : decode cX6_canBeLaid 15 = .ok (.iconst 0, 1) := by decide +kernel
theorem dX6_canBeLaid_16 : decode cX6_canBeLaid 16 = .ok (.ireturn, 1) := by decide +kernel
theorem dX6_canBeLaid_17 : decode cX6_canBeLaid 17 = .ok (.iconst 0, 1) := by decide +kernel
theorem dX6_canBeLaid_18 : decode cX6_canBeLaid 18 = .ok (.istore_n 1, 1) := by decide +kernel
theorem dX6_canBeLaid_19 : decode cX6_canBeLaid 19 = .ok (.iload_n 1, 1) := by decide +kernel
theorem dX6_canBeLaid_20 : decode cX6_canBeLaid 20 = .ok (.aload_n 0, 1) := by decide +kernel
theorem dX6_canBeLaid_21 : decode cX6_canBeLaid 21 = .ok (.getfield 48, 3) := by decide +kernel
theorem dX6_canBeLaid_24 : decode cX6_canBeLaid 24 = .ok (.if_icmp .ge 54, 3) := by decide +kernel
theorem dX6_canBeLaid_27 : decode cX6_canBeLaid 27 = .ok (.aload_n 0, 1) := by decide +kernel
theorem dX6_canBeLaid_28 : decode cX6_canBeLaid 28 = .ok (.getfield 24, 3) := by decide +kernel
theorem dX6_canBeLaid_31 : decode cX6_canBeLaid 31 = .ok (.iload_n 1, 1) := by decide +kernel
theorem dX6_canBeLaid_32 : decode cX6_canBeLaid 32 = .ok (.iaload, 1) := by decide +kernel
theorem dX6_canBeLaid_33 : decode cX6_canBeLaid 33 = .ok (.istore_n 2, 1) := by decide +kernel
theorem dX6_canBeLaid_34 : decode cX6_canBeLaid 34 = .ok (.iload_n 2, 1) := by decide +kernel
theorem dX6_canBeLaid_35 : decode cX6_canBeLaid 35 = .ok (.bipush (-4), 2) := by decide +kernel
theorem dX6_canBeLaid_37 : decode cX6_canBeLaid 37 = .ok (.if_icmp .eq 35, 3) := by decide +kernel
theorem dX6_canBeLaid_40 : decode cX6_canBeLaid 40 = .ok (.aload_n 0, 1) := by decide +kernel
theorem dX6_canBeLaid_41 : decode cX6_canBeLaid 41 = .ok (.getfield 27, 3) := by decide +kernel
theorem dX6_canBeLaid_44 : decode cX6_canBeLaid 44 = .ok (.iload_n 1, 1) := by decide +kernel
theorem dX6_canBeLaid_45 : decode cX6_canBeLaid 45 = .ok (.iaload, 1) := by decide +kernel
theorem dX6_canBeLaid_46 : decode cX6_canBeLaid 46 = .ok (.bipush (-4), 2) := by decide +kernel
theorem dX6_canBeLaid_48 : decode cX6_canBeLaid 48 = .ok (.if_icmp .ne 22, 3) := by decide +kernel
theorem dX6_canBeLaid_51 : decode cX6_canBeLaid 51 = .ok (.aload_n 0, 1) := by decide +kernel
theorem dX6_canBeLaid_52 : decode cX6_canBeLaid 52 = .ok (.iload_n 2, 1) := by decide +kernel
theorem dX6_canBeLaid_53 : decode cX6_canBeLaid 53 = .ok (.invokevirtual 72, 3) := by decide +kernel
theorem dX6_canBeLaid_56 : decode cX6_canBeLaid 56 = .ok (.ifCond .eq 14, 3) := by decide +kernel
theorem dX6_canBeLaid_59 : decode cX6_canBeLaid 59 = .ok (.aload_n 0, 1) := by decide +kernel
theorem dX6_canBeLaid_60 : decode cX6_canBeLaid 60 = .ok (.getfield 24, 3) := by decide +kernel
theorem dX6_canBeLaid_63 : decode cX6_canBeLaid 63 = .ok (.iload_n 2, 1) := by decide +kernel
theorem dX6_canBeLaid_64 : decode cX6_canBeLaid 64 = .ok (.iaload, 1) := by decide +kernel
theorem dX6_canBeLaid_65 : decode cX6_canBeLaid 65 = .ok (.bipush (-4), 2) := by decide +kernel
theorem dX6_canBeLaid_67 : decode cX6_canBeLaid 67 = .ok (.if_icmp .eq 5, 3) := by decide +kernel
theorem dX6_canBeLaid_70 : decode cX6_canBeLaid 70 = .ok (.iconst 0, 1) := by decide +kernel
theorem dX6_canBeLaid_71 : decode cX6_canBeLaid 71 = .ok (.ireturn, 1) := by decide +kernel
theorem dX6_canBeLaid_72 : decode cX6_canBeLaid 72 = .ok (.iinc 1 1, 3) := by decide +kernel
theorem dX6_canBeLaid_75 : decode cX6_canBeLaid 75 = .ok (.goto (-56), 3) := by decide +kernel
theorem dX6_canBeLaid_78 : decode cX6_canBeLaid 78 = .ok (.iconst 1, 1) := by decide +kernel
theorem dX6_canBeLaid_79 : decode cX6_canBeLaid 79 = .ok (.ireturn, 1) := by decide +kernel
theorem dX6_settle_0 : decode cX6_settle 0 = .ok (.iconst 0, 1) := by decide +kernel
theorem dX6_settle_1 : decode cX6_settle 1 = .ok (.istore_n 1, 1) := by decide +kernel
theorem dX6_settle_2 : decode cX6_settle 2 = .ok (.iload_n 1, 1) := by decide +kernel
theorem dX6_settle_3 : decode cX6_settle 3 = .ok (.aload_n 0, 1) := by decide +kernel
theorem dX6_settle_4 : decode cX6_settle 4 = .ok (.getfield 48, 3) := by decide +kernel
theorem dX6_settle_7 : decode cX6_settle 7 = .ok (.if_icmp .ge 15, 3) := by decide +kernel
theorem dX6_settle_10 : decode cX6_settle 10 = .ok (.aload_n 0, 1) := by decide +kernel
theorem dX6_settle_11 : decode cX6_settle 11 = .ok (.iload_n 1, 1) := by decide +kernel
theorem dX6_settle_12 : decode cX6_settle 12 = .ok (.invokevirtual 80, 3) := by decide +kernel
theorem dX6_settle_15 : decode cX6_settle 15 = .ok (.pop, 1) := by decide +kernel
theorem dX6_settle_16 : decode cX6_settle 16 = .ok (.iinc 1 1, 3) := by decide +kernel
theorem dX6_settle_19 : decode cX6_settle 19 = .ok (.goto (-17), 3) := by decide +kernel
theorem dX6_settle_22 : decode cX6_settle 22 = .ok (.iconst 0, 1) := by decide +kernel
theorem dX6_settle_23 : decode cX6_settle 23 = .ok (.istore_n 1, 1) := by decide +kernel
theorem dX6_settle_24 : decode cX6_settle 24 = .ok (.iload_n 1, 1) := by decide +kernel
theorem dX6_settle_25 : decode cX6_settle 25 = .ok (.sipush 200, 3) := by decide +kernel
theorem dX6_settle_28 : decode cX6_settle 28 = .ok (.if_icmp .gt 20, 3) := by decide +kernel
theorem dX6_settle_31 : decode cX6_settle 31 = .ok (.aload_n 0, 1) := by decide +kernel
theorem dX6_settle_32 : decode cX6_settle 32 = .ok (.getfield 45, 3) := by decide +kernel
theorem dX6_settle_35 : decode cX6_settle 35 = .ok (.iload_n 1, 1) := by decide +kernel
theorem dX6_settle_36 : decode cX6_settle 36 = .ok (.aload_n 0, 1) := by decide +kernel
theorem dX6_settle_37 : decode cX6_settle 37 = .ok (.iload_n 1, 1) := by decide +kernel
theorem dX6_settle_38 : decode cX6_settle 38 = .ok (.invokevirtual 83, 3) := by decide +kernel
theorem dX6_settle_41 : decode cX6_settle 41 = .ok (.iastore, 1) := by decide +kernel
theorem dX6_settle_42 : decode cX6_settle 42 = .ok (.iinc 1 1, 3) := by decide +kernel
theorem dX6_settle_45 : decode cX6_settle 45 = .ok (.goto (-21), 3) := by decide +kernel
theorem dX6_settle_48 : decode cX6_settle 48 = .ok (.return_, 1) := by decide +kernel
theorem dX6_takenFrom_0 : decode cX6_takenFrom 0 = .ok (.iconst (-1), 1) := by decide +kernel
theorem dX6_takenFrom_1 : decode cX6_takenFrom 1 = .ok (.istore_n 2, 1) := by decide +kernel
theorem dX6_takenFrom_2 : decode cX6_takenFrom 2 = .ok (.iconst 0, 1) := by decide +kernel
theorem dX6_takenFrom_3 : decode cX6_takenFrom 3 = .ok (.istore_n 3, 1) := by decide +kernel
theorem dX6_takenFrom_4 : decode cX6_takenFrom 4 = .ok (.iconst 0, 1) := by decide +kernel
theorem dX6_takenFrom_5 : decode cX6_takenFrom 5 = .ok (.istore 4, 2) := by decide +kernel
theorem dX6_takenFrom_7 : decode cX6_takenFrom 7 = .ok (.iload 4, 2) := by decide +kernel
theorem dX6_takenFrom_9 : decode cX6_takenFrom 9 = .ok (.aload_n 0, 1) := by decide +kernel
theorem dX6_takenFrom_10 : decode cX6_takenFrom 10 = .ok (.getfield 55, 3) := by decide +kernel
theorem dX6_takenFrom_13 : decode cX6_takenFrom 13 = .ok (.if_icmp .ge 47, 3) := by decide +kernel
theorem dX6_takenFrom_16 : decode cX6_takenFrom 16 = .ok (.aload_n 0, 1) := by decide +kernel
theorem dX6_takenFrom_17 : decode cX6_takenFrom 17 = .ok (.getfield 39, 3) := by decide +kernel
theorem dX6_takenFrom_20 : decode cX6_takenFrom 20 = .ok (.iload 4, 2) := by decide +kernel
theorem dX6_takenFrom_22 : decode cX6_takenFrom 22 = .ok (.iaload, 1) := by decide +kernel
theorem dX6_takenFrom_23 : decode cX6_takenFrom 23 = .ok (.iload_n 1, 1) := by decide +kernel
theorem dX6_takenFrom_24 : decode cX6_takenFrom 24 = .ok (.if_icmp .gt 30, 3) := by decide +kernel
theorem dX6_takenFrom_27 : decode cX6_takenFrom 27 = .ok (.aload_n 0, 1) := by decide +kernel
theorem dX6_takenFrom_28 : decode cX6_takenFrom 28 = .ok (.getfield 39, 3) := by decide +kernel
theorem dX6_takenFrom_31 : decode cX6_takenFrom 31 = .ok (.iload 4, 2) := by decide +kernel
theorem dX6_takenFrom_33 : decode cX6_takenFrom 33 = .ok (.iaload, 1) := by decide +kernel
theorem dX6_takenFrom_34 : decode cX6_takenFrom 34 = .ok (.iload_n 2, 1) := by decide +kernel
theorem dX6_takenFrom_35 : decode cX6_takenFrom 35 = .ok (.if_icmp .lt 19, 3) := by decide +kernel
theorem dX6_takenFrom_38 : decode cX6_takenFrom 38 = .ok (.aload_n 0, 1) := by decide +kernel
theorem dX6_takenFrom_39 : decode cX6_takenFrom 39 = .ok (.getfield 39, 3) := by decide +kernel
theorem dX6_takenFrom_42 : decode cX6_takenFrom 42 = .ok (.iload 4, 2) := by decide +kernel
theorem dX6_takenFrom_44 : decode cX6_takenFrom 44 = .ok (.iaload, 1) := by decide +kernel
theorem dX6_takenFrom_45 : decode cX6_takenFrom 45 = .ok (.istore_n 2, 1) := by decide +kernel
theorem dX6_takenFrom_46 : decode cX6_takenFrom 46 = .ok (.aload_n 0, 1) := by decide +kernel
theorem dX6_takenFrom_47 : decode cX6_takenFrom 47 = .ok (.getfield 42, 3) := by decide +kernel
theorem dX6_takenFrom_50 : decode cX6_takenFrom 50 = .ok (.iload 4, 2) := by decide +kernel
theorem dX6_takenFrom_52 : decode cX6_takenFrom 52 = .ok (.iaload, 1) := by decide +kernel
theorem dX6_takenFrom_53 : decode cX6_takenFrom 53 = .ok (.istore_n 3, 1) := by decide +kernel
theorem dX6_takenFrom_54 : decode cX6_takenFrom 54 = .ok (.iinc 4 1, 3) := by decide +kernel
theorem dX6_takenFrom_57 : decode cX6_takenFrom 57 = .ok (.goto (-50), 3) := by decide +kernel
theorem dX6_takenFrom_60 : decode cX6_takenFrom 60 = .ok (.iload_n 3, 1) := by decide +kernel
theorem dX6_takenFrom_61 : decode cX6_takenFrom 61 = .ok (.ireturn, 1) := by decide +kernel
theorem dX6_isRidden_0 : decode cX6_isRidden 0 = .ok (.iconst 0, 1) := by decide +kernel
theorem dX6_isRidden_1 : decode cX6_isRidden 1 = .ok (.istore_n 2, 1) := by decide +kernel
theorem dX6_isRidden_2 : decode cX6_isRidden 2 = .ok (.iload_n 2, 1) := by decide +kernel
theorem dX6_isRidden_3 : decode cX6_isRidden 3 = .ok (.aload_n 0, 1) := by decide +kernel
theorem dX6_isRidden_4 : decode cX6_isRidden 4 = .ok (.getfield 48, 3) := by decide +kernel
theorem dX6_isRidden_7 : decode cX6_isRidden 7 = .ok (.if_icmp .ge 21, 3) := by decide +kernel
theorem dX6_isRidden_10 : decode cX6_isRidden 10 = .ok (.aload_n 0, 1) := by decide +kernel
theorem dX6_isRidden_11 : decode cX6_isRidden 11 = .ok (.getfield 24, 3) := by decide +kernel
theorem dX6_isRidden_14 : decode cX6_isRidden 14 = .ok (.iload_n 2, 1) := by decide +kernel
theorem dX6_isRidden_15 : decode cX6_isRidden 15 = .ok (.iaload, 1) := by decide +kernel
theorem dX6_isRidden_16 : decode cX6_isRidden 16 = .ok (.iload_n 1, 1) := by decide +kernel
theorem dX6_isRidden_17 : decode cX6_isRidden 17 = .ok (.if_icmp .ne 5, 3) := by decide +kernel
theorem dX6_isRidden_20 : decode cX6_isRidden 20 = .ok (.iconst 1, 1) := by decide +kernel
theorem dX6_isRidden_21 : decode cX6_isRidden 21 = .ok (.ireturn, 1) := by decide +kernel
theorem dX6_isRidden_22 : decode cX6_isRidden 22 = .ok (.iinc 2 1, 3) := by decide +kernel
theorem dX6_isRidden_25 : decode cX6_isRidden 25 = .ok (.goto (-23), 3) := by decide +kernel
theorem dX6_isRidden_28 : decode cX6_isRidden 28 = .ok (.iconst 0, 1) := by decide +kernel
theorem dX6_isRidden_29 : decode cX6_isRidden 29 = .ok (.ireturn, 1) := by decide +kernel
theorem dX6_riders_0 : decode cX6_riders 0 = .ok (.iconst 0, 1) := by decide +kernel
theorem dX6_riders_1 : decode cX6_riders 1 = .ok (.istore_n 1, 1) := by decide +kernel
theorem dX6_riders_2 : decode cX6_riders 2 = .ok (.iconst 0, 1) := by decide +kernel
theorem dX6_riders_3 : decode cX6_riders 3 = .ok (.istore_n 2, 1) := by decide +kernel
theorem dX6_riders_4 : decode cX6_riders 4 = .ok (.iload_n 2, 1) := by decide +kernel
theorem dX6_riders_5 : decode cX6_riders 5 = .ok (.aload_n 0, 1) := by decide +kernel
theorem dX6_riders_6 : decode cX6_riders 6 = .ok (.getfield 48, 3) := by decide +kernel
theorem dX6_riders_9 : decode cX6_riders 9 = .ok (.if_icmp .ge 28, 3) := by decide +kernel
theorem dX6_riders_12 : decode cX6_riders 12 = .ok (.iload_n 1, 1) := by decide +kernel
theorem dX6_riders_13 : decode cX6_riders 13 = .ok (.aload_n 0, 1) := by decide +kernel
theorem dX6_riders_14 : decode cX6_riders 14 = .ok (.getfield 24, 3) := by decide +kernel
theorem dX6_riders_17 : decode cX6_riders 17 = .ok (.iload_n 2, 1) := by decide +kernel
theorem dX6_riders_18 : decode cX6_riders 18 = .ok (.iaload, 1) := by decide +kernel
theorem dX6_riders_19 : decode cX6_riders 19 = .ok (.bipush (-4), 2) := by decide +kernel
theorem dX6_riders_21 : decode cX6_riders 21 = .ok (.if_icmp .ne 7, 3) := by decide +kernel
theorem dX6_riders_24 : decode cX6_riders 24 = .ok (.iconst 0, 1) := by decide +kernel
theorem dX6_riders_25 : decode cX6_riders 25 = .ok (.goto 4, 3) := by decide +kernel
theorem dX6_riders_28 : decode cX6_riders 28 = .ok (.iconst 1, 1) := by decide +kernel
theorem dX6_riders_29 : decode cX6_riders 29 = .ok (.iadd, 1) := by decide +kernel
theorem dX6_riders_30 : decode cX6_riders 30 = .ok (.istore_n 1, 1) := by decide +kernel
theorem dX6_riders_31 : decode cX6_riders 31 = .ok (.iinc 2 1, 3) := by decide +kernel
theorem dX6_riders_34 : decode cX6_riders 34 = .ok (.goto (-30), 3) := by decide +kernel
theorem dX6_riders_37 : decode cX6_riders 37 = .ok (.iload_n 1, 1) := by decide +kernel
theorem dX6_riders_38 : decode cX6_riders 38 = .ok (.ireturn, 1) := by decide +kernel
theorem dX7_init_0 : decode cX7_init 0 = .ok (.aload_n 0, 1) := by decide +kernel
theorem dX7_init_1 : decode cX7_init 1 = .ok (.invokespecial 3, 3) := by decide +kernel
theorem dX7_init_4 : decode cX7_init 4 = .ok (.aload_n 0, 1) := by decide +kernel
theorem dX7_init_5 : decode cX7_init 5 = .ok (.bipush 6, 2) := by decide +kernel
theorem dX7_init_7 : decode cX7_init 7 = .ok (.newarray .int, 2) := by decide +kernel
theorem dX7_init_9 : decode cX7_init 9 = .ok (.putfield 9, 3) := by decide +kernel
theorem dX7_init_12 : decode cX7_init 12 = .ok (.aload_n 0, 1) := by decide +kernel
theorem dX7_init_13 : decode cX7_init 13 = .ok (.bipush 6, 2) := by decide +kernel
theorem dX7_init_15 : decode cX7_init 15 = .ok (.newarray .int, 2) := by decide +kernel
theorem dX7_init_17 : decode cX7_init 17 = .ok (.putfield 15, 3) := by decide +kernel
theorem dX7_init_20 : decode cX7_init 20 = .ok (.aload_n 0, 1) := by decide +kernel
theorem dX7_init_21 : decode cX7_init 21 = .ok (.iconst 0, 1) := by decide +kernel
theorem dX7_init_22 : decode cX7_init 22 = .ok (.putfield 18, 3) := by decide +kernel
theorem dX7_init_25 : decode cX7_init 25 = .ok (.return_, 1) := by decide +kernel
theorem dX7_clear_0 : decode cX7_clear 0 = .ok (.aload_n 0, 1) := by decide +kernel
theorem dX7_clear_1 : decode cX7_clear 1 = .ok (.iconst 0, 1) := by decide +kernel
theorem dX7_clear_2 : decode cX7_clear 2 = .ok (.putfield 18, 3) := by decide +kernel
theorem dX7_clear_5 : decode cX7_clear 5 = .ok (.return_, 1) := by decide +kernel
theorem dX7_add_0 : decode cX7_add 0 = .ok (.aload_n 0, 1) := by decide +kernel
theorem dX7_add_1 : decode cX7_add 1 = .ok (.getfield 18, 3) := by decide +kernel
theorem dX7_add_4 : decode cX7_add 4 = .ok (.bipush 6, 2) := by decide +kernel
theorem dX7_add_6 : decode cX7_add 6 = .ok (.if_icmp .lt 5, 3) := by decide +kernel
theorem dX7_add_9 : decode cX7_add 9 = .ok (.iconst 0, 1) := by decide +kernel
theorem dX7_add_10 : decode cX7_add 10 = .ok (.ireturn, 1) := by decide +kernel
theorem dX7_add_11 : decode cX7_add 11 = .ok (.aload_n 0, 1) := by decide +kernel
theorem dX7_add_12 : decode cX7_add 12 = .ok (.getfield 9, 3) := by decide +kernel
theorem dX7_add_15 : decode cX7_add 15 = .ok (.aload_n 0, 1) := by decide +kernel
theorem dX7_add_16 : decode cX7_add 16 = .ok (.getfield 18, 3) := by decide +kernel
theorem dX7_add_19 : decode cX7_add 19 = .ok (.iload_n 1, 1) := by decide +kernel
theorem dX7_add_20 : decode cX7_add 20 = .ok (.iastore, 1) := by decide +kernel
theorem dX7_add_21 : decode cX7_add 21 = .ok (.aload_n 0, 1) := by decide +kernel
theorem dX7_add_22 : decode cX7_add 22 = .ok (.getfield 15, 3) := by decide +kernel
theorem dX7_add_25 : decode cX7_add 25 = .ok (.aload_n 0, 1) := by decide +kernel
theorem dX7_add_26 : decode cX7_add 26 = .ok (.getfield 18, 3) := by decide +kernel
theorem dX7_add_29 : decode cX7_add 29 = .ok (.iload_n 2, 1) := by decide +kernel
theorem dX7_add_30 : decode cX7_add 30 = .ok (.iastore, 1) := by decide +kernel
theorem dX7_add_31 : decode cX7_add 31 = .ok (.aload_n 0, 1) := by decide +kernel
theorem dX7_add_32 : decode cX7_add 32 = .ok (.dup, 1) := by decide +kernel
theorem dX7_add_33 : decode cX7_add 33 = .ok (.getfield 18, 3) := by decide +kernel
theorem dX7_add_36 : decode cX7_add 36 = .ok (.iconst 1, 1) := by decide +kernel
theorem dX7_add_37 : decode cX7_add 37 = .ok (.iadd, 1) := by decide +kernel
theorem dX7_add_38 : decode cX7_add 38 = .ok (.putfield 18, 3) := by decide +kernel
theorem dX7_add_41 : decode cX7_add 41 = .ok (.iconst 1, 1) := by decide +kernel
theorem dX7_add_42 : decode cX7_add 42 = .ok (.ireturn, 1) := by decide +kernel
theorem dX7_agreeWith_0 : decode cX7_agreeWith 0 = .ok (.iconst 0, 1) := by decide +kernel
theorem dX7_agreeWith_1 : decode cX7_agreeWith 1 = .ok (.istore_n 2, 1) := by decide +kernel
theorem dX7_agreeWith_2 : decode cX7_agreeWith 2 = .ok (.iload_n 2, 1) := by decide +kernel
theorem dX7_agreeWith_3 : decode cX7_agreeWith 3 = .ok (.aload_n 0, 1) := by decide +kernel
theorem dX7_agreeWith_4 : decode cX7_agreeWith 4 = .ok (.getfield 18, 3) := by decide +kernel
theorem dX7_agreeWith_7 : decode cX7_agreeWith 7 = .ok (.if_icmp .ge 31, 3) := by decide +kernel
theorem dX7_agreeWith_10 : decode cX7_agreeWith 10 = .ok (.aload_n 1, 1) := by decide +kernel
theorem dX7_agreeWith_11 : decode cX7_agreeWith 11 = .ok (.getfield 22, 3) := by decide +kernel
theorem dX7_agreeWith_14 : decode cX7_agreeWith 14 = .ok (.aload_n 0, 1) := by decide +kernel
theorem dX7_agreeWith_15 : decode cX7_agreeWith 15 = .ok (.getfield 9, 3) := by decide +kernel
theorem dX7_agreeWith_18 : decode cX7_agreeWith 18 = .ok (.iload_n 2, 1) := by decide +kernel
theorem dX7_agreeWith_19 : decode cX7_agreeWith 19 = .ok (.iaload, 1) := by decide +kernel
theorem dX7_agreeWith_20 : decode cX7_agreeWith 20 = .ok (.iaload, 1) := by decide +kernel
theorem dX7_agreeWith_21 : decode cX7_agreeWith 21 = .ok (.aload_n 0, 1) := by decide +kernel
theorem dX7_agreeWith_22 : decode cX7_agreeWith 22 = .ok (.getfield 15, 3) := by decide +kernel
theorem dX7_agreeWith_25 : decode cX7_agreeWith 25 = .ok (.iload_n 2, 1) := by decide +kernel
theorem dX7_agreeWith_26 : decode cX7_agreeWith 26 = .ok (.iaload, 1) := by decide +kernel
theorem dX7_agreeWith_27 : decode cX7_agreeWith 27 = .ok (.if_icmp .eq 5, 3) := by decide +kernel
theorem dX7_agreeWith_30 : decode cX7_agreeWith 30 = .ok (.iconst 0, 1) := by decide +kernel
theorem dX7_agreeWith_31 : decode cX7_agreeWith 31 = .ok (.ireturn, 1) := by decide +kernel
theorem dX7_agreeWith_32 : decode cX7_agreeWith 32 = .ok (.iinc 2 1, 3) := by decide +kernel
theorem dX7_agreeWith_35 : decode cX7_agreeWith 35 = .ok (.goto (-33), 3) := by decide +kernel
theorem dX7_agreeWith_38 : decode cX7_agreeWith 38 = .ok (.iconst 1, 1) := by decide +kernel
theorem dX7_agreeWith_39 : decode cX7_agreeWith 39 = .ok (.ireturn, 1) := by decide +kernel
theorem dX8_init_0 : decode cX8_init 0 = .ok (.aload_n 0, 1) := by decide +kernel
theorem dX8_init_1 : decode cX8_init 1 = .ok (.invokespecial 3, 3) := by decide +kernel
theorem dX8_init_4 : decode cX8_init 4 = .ok (.aload_n 0, 1) := by decide +kernel
theorem dX8_init_5 : decode cX8_init 5 = .ok (.sipush 200, 3) := by decide +kernel
theorem dX8_init_8 : decode cX8_init 8 = .ok (.newarray .char, 2) := by decide +kernel
theorem dX8_init_10 : decode cX8_init 10 = .ok (.putfield 9, 3) := by decide +kernel
theorem dX8_init_13 : decode cX8_init 13 = .ok (.aload_n 0, 1) := by decide +kernel
theorem dX8_init_14 : decode cX8_init 14 = .ok (.iconst 0, 1) := by decide +kernel
theorem dX8_init_15 : decode cX8_init 15 = .ok (.putfield 13, 3) := by decide +kernel
theorem dX8_init_18 : decode cX8_init 18 = .ok (.aload_n 0, 1) := by decide +kernel
theorem dX8_init_19 : decode cX8_init 19 = .ok (.new 17, 3) := by decide +kernel
theorem dX8_init_22 : decode cX8_init 22 = .ok (.dup, 1) := by decide +kernel
theorem dX8_init_23 : decode cX8_init 23 = .ok (.invokespecial 19, 3) := by decide +kernel
theorem dX8_init_26 : decode cX8_init 26 = .ok (.putfield 20, 3) := by decide +kernel
theorem dX8_init_29 : decode cX8_init 29 = .ok (.aload_n 0, 1) := by decide +kernel
theorem dX8_init_30 : decode cX8_init 30 = .ok (.invokestatic 24, 3) := by decide +kernel
theorem dX8_init_33 : decode cX8_init 33 = .ok (.putfield 28, 3) := by decide +kernel
theorem dX8_init_36 : decode cX8_init 36 = .ok (.aload_n 0, 1) := by decide +kernel
theorem dX8_init_37 : decode cX8_init 37 = .ok (.new 32, 3) := by decide +kernel
theorem dX8_init_40 : decode cX8_init 40 = .ok (.dup, 1) := by decide +kernel
theorem dX8_init_41 : decode cX8_init 41 = .ok (.invokespecial 34, 3) := by decide +kernel
theorem dX8_init_44 : decode cX8_init 44 = .ok (.putfield 35, 3) := by decide +kernel
theorem dX8_init_47 : decode cX8_init 47 = .ok (.aload_n 0, 1) := by decide +kernel
theorem dX8_init_48 : decode cX8_init 48 = .ok (.new 38, 3) := by decide +kernel
theorem dX8_init_51 : decode cX8_init 51 = .ok (.dup, 1) := by decide +kernel
theorem dX8_init_52 : decode cX8_init 52 = .ok (.aload_n 0, 1) := by decide +kernel
theorem dX8_init_53 : decode cX8_init 53 = .ok (.getfield 28, 3) := by decide +kernel
theorem dX8_init_56 : decode cX8_init 56 = .ok (.invokespecial 40, 3) := by decide +kernel
theorem dX8_init_59 : decode cX8_init 59 = .ok (.putfield 43, 3) := by decide +kernel
theorem dX8_init_62 : decode cX8_init 62 = .ok (.aload_n 0, 1) := by decide +kernel
theorem dX8_init_63 : decode cX8_init 63 = .ok (.new 47, 3) := by decide +kernel
theorem dX8_init_66 : decode cX8_init 66 = .ok (.dup, 1) := by decide +kernel
theorem dX8_init_67 : decode cX8_init 67 = .ok (.invokespecial 49, 3) := by decide +kernel
theorem dX8_init_70 : decode cX8_init 70 = .ok (.putfield 50, 3) := by decide +kernel
theorem dX8_init_73 : decode cX8_init 73 = .ok (.aload_n 0, 1) := by decide +kernel
theorem dX8_init_74 : decode cX8_init 74 = .ok (.new 54, 3) := by decide +kernel
theorem dX8_init_77 : decode cX8_init 77 = .ok (.dup, 1) := by decide +kernel
theorem dX8_init_78 : decode cX8_init 78 = .ok (.invokespecial 56, 3) := by decide +kernel
theorem dX8_init_81 : decode cX8_init 81 = .ok (.putfield 57, 3) := by decide +kernel
theorem dX8_init_84 : decode cX8_init 84 = .ok (.aload_n 0, 1) := by decide +kernel
theorem dX8_init_85 : decode cX8_init 85 = .ok (.new 61, 3) := by decide +kernel
theorem dX8_init_88 : decode cX8_init 88 = .ok (.dup, 1) := by decide +kernel
theorem dX8_init_89 : decode cX8_init 89 = .ok (.invokespecial 63, 3) := by decide +kernel
theorem dX8_init_92 : decode cX8_init 92 = .ok (.putfield 64, 3) := by decide +kernel
theorem dX8_init_95 : decode cX8_init 95 = .ok (.aload_n 0, 1) := by decide +kernel
theorem dX8_init_96 : decode cX8_init 96 = .ok (.new 68, 3) := by decide +kernel
theorem dX8_init_99 : decode cX8_init 99 = .ok (.dup, 1) := by decide +kernel
theorem dX8_init_100 : decode cX8_init 100 = .ok (.invokespecial 70, 3) := by decide +kernel
theorem dX8_init_103 : decode cX8_init 103 = .ok (.putfield 71, 3) := by decide +kernel
theorem dX8_init_106 : decode cX8_init 106 = .ok (.aload_n 0, 1) := by decide +kernel
theorem dX8_init_107 : decode cX8_init 107 = .ok (.new 75, 3) := by decide +kernel
theorem dX8_init_110 : decode cX8_init 110 = .ok (.dup, 1) := by decide +kernel
theorem dX8_init_111 : decode cX8_init 111 = .ok (.invokespecial 77, 3) := by decide +kernel
theorem dX8_init_114 : decode cX8_init 114 = .ok (.putfield 78, 3) := by decide +kernel
theorem dX8_init_117 : decode cX8_init 117 = .ok (.return_, 1) := by decide +kernel
theorem dX8_write_0 : decode cX8_write 0 = .ok (.iload_n 1, 1) := by decide +kernel
theorem dX8_write_1 : decode cX8_write 1 = .ok (.bipush 32, 2) := by decide +kernel
theorem dX8_write_3 : decode cX8_write 3 = .ok (.bipush 126, 2) := by decide +kernel
theorem dX8_write_5 : decode cX8_write 5 = .ok (.invokestatic 82, 3) := by decide +kernel
theorem dX8_write_8 : decode cX8_write 8 = .ok (.ifCond .ne 5, 3) := by decide +kernel
theorem dX8_write_11 : decode cX8_write 11 = .ok (.iconst (-1), 1) := by decide +kernel
theorem dX8_write_12 : decode cX8_write 12 = .ok (.ireturn, 1) := by decide +kernel
theorem dX8_write_13 : decode cX8_write 13 = .ok (.aload_n 0, 1) := by decide +kernel
theorem dX8_write_14 : decode cX8_write 14 = .ok (.getfield 13, 3) := by decide +kernel
theorem dX8_write_17 : decode cX8_write 17 = .ok (.ifCond .lt 13, 3) := by decide +kernel
theorem dX8_write_20 : decode cX8_write 20 = .ok (.aload_n 0, 1) := by decide +kernel
theorem dX8_write_21 : decode cX8_write 21 = .ok (.getfield 13, 3) := by decide +kernel
theorem dX8_write_24 : decode cX8_write 24 = .ok (.sipush 200, 3) := by decide +kernel
theorem dX8_write_27 : decode cX8_write 27 = .ok (.if_icmp .lt 6, 3) := by decide +kernel
theorem dX8_write_30 : decode cX8_write 30 = .ok (.bipush (-3), 2) := by decide +kernel
theorem dX8_write_32 : decode cX8_write 32 = .ok (.ireturn, 1) := by decide +kernel
theorem dX8_write_33 : decode cX8_write 33 = .ok (.aload_n 0, 1) := by decide +kernel
theorem dX8_write_34 : decode cX8_write 34 = .ok (.getfield 9, 3) := by decide +kernel
theorem dX8_write_37 : decode cX8_write 37 = .ok (.aload_n 0, 1) := by decide +kernel
theorem dX8_write_38 : decode cX8_write 38 = .ok (.getfield 13, 3) := by decide +kernel
theorem dX8_write_41 : decode cX8_write 41 = .ok (.iload_n 1, 1) := by decide +kernel
theorem dX8_write_42 : decode cX8_write 42 = .ok (.i2c, 1) := by decide +kernel
theorem dX8_write_43 : decode cX8_write 43 = .ok (.castore, 1) := by decide +kernel
theorem dX8_write_44 : decode cX8_write 44 = .ok (.aload_n 0, 1) := by decide +kernel
theorem dX8_write_45 : decode cX8_write 45 = .ok (.dup, 1) := by decide +kernel
theorem dX8_write_46 : decode cX8_write 46 = .ok (.getfield 13, 3) := by decide +kernel
theorem dX8_write_49 : decode cX8_write 49 = .ok (.iconst 1, 1) := by decide +kernel
theorem dX8_write_50 : decode cX8_write 50 = .ok (.iadd, 1) := by decide +kernel
theorem dX8_write_51 : decode cX8_write 51 = .ok (.putfield 13, 3) := by decide +kernel
theorem dX8_write_54 : decode cX8_write 54 = .ok (.aload_n 0, 1) := by decide +kernel
theorem dX8_write_55 : decode cX8_write 55 = .ok (.getfield 13, 3) := by decide +kernel
theorem dX8_write_58 : decode cX8_write 58 = .ok (.ireturn, 1) := by decide +kernel
theorem dX8_wipe_0 : decode cX8_wipe 0 = .ok (.aload_n 0, 1) := by decide +kernel
theorem dX8_wipe_1 : decode cX8_wipe 1 = .ok (.getfield 13, 3) := by decide +kernel
theorem dX8_wipe_4 : decode cX8_wipe 4 = .ok (.istore_n 1, 1) := by decide +kernel
theorem dX8_wipe_5 : decode cX8_wipe 5 = .ok (.aload_n 0, 1) := by decide +kernel
theorem dX8_wipe_6 : decode cX8_wipe 6 = .ok (.iconst 0, 1) := by decide +kernel
theorem dX8_wipe_7 : decode cX8_wipe 7 = .ok (.putfield 13, 3) := by decide +kernel
theorem dX8_wipe_10 : decode cX8_wipe 10 = .ok (.iload_n 1, 1) := by decide +kernel
theorem dX8_wipe_11 : decode cX8_wipe 11 = .ok (.ireturn, 1) := by decide +kernel
theorem dX8_fault_0 : decode cX8_fault 0 = .ok (.aload_n 0, 1) := by decide +kernel
theorem dX8_fault_1 : decode cX8_fault 1 = .ok (.getfield 20, 3) := by decide +kernel
theorem dX8_fault_4 : decode cX8_fault 4 = .ok (.aload_n 0, 1) := by decide +kernel
theorem dX8_fault_5 : decode cX8_fault 5 = .ok (.getfield 9, 3) := by decide +kernel
theorem dX8_fault_8 : decode cX8_fault 8 = .ok (.aload_n 0, 1) := by decide +kernel
theorem dX8_fault_9 : decode cX8_fault 9 = .ok (.getfield 13, 3) := by decide +kernel
theorem dX8_fault_12 : decode cX8_fault 12 = .ok (.aload_n 0, 1) := by decide +kernel
theorem dX8_fault_13 : decode cX8_fault 13 = .ok (.getfield 35, 3) := by decide +kernel
theorem dX8_fault_16 : decode cX8_fault 16 = .ok (.invokevirtual 86, 3) := by decide +kernel
theorem dX8_fault_19 : decode cX8_fault 19 = .ok (.ireturn, 1) := by decide +kernel
theorem dX8_lay_0 : decode cX8_lay 0 = .ok (.aload_n 0, 1) := by decide +kernel
theorem dX8_lay_1 : decode cX8_lay 1 = .ok (.getfield 20, 3) := by decide +kernel
theorem dX8_lay_4 : decode cX8_lay 4 = .ok (.aload_n 0, 1) := by decide +kernel
theorem dX8_lay_5 : decode cX8_lay 5 = .ok (.getfield 9, 3) := by decide +kernel
theorem dX8_lay_8 : decode cX8_lay 8 = .ok (.aload_n 0, 1) := by decide +kernel
theorem dX8_lay_9 : decode cX8_lay 9 = .ok (.getfield 13, 3) := by decide +kernel
theorem dX8_lay_12 : decode cX8_lay 12 = .ok (.aload_n 0, 1) := by decide +kernel
theorem dX8_lay_13 : decode cX8_lay 13 = .ok (.getfield 35, 3) := by decide +kernel
theorem dX8_lay_16 : decode cX8_lay 16 = .ok (.invokevirtual 86, 3) := by decide +kernel
theorem dX8_lay_19 : decode cX8_lay 19 = .ok (.bipush (-4), 2) := by decide +kernel
theorem dX8_lay_21 : decode cX8_lay 21 = .ok (.if_icmp .ne 13, 3) := by decide +kernel
theorem dX8_lay_24 : decode cX8_lay 24 = .ok (.aload_n 0, 1) := by decide +kernel
theorem dX8_lay_25 : decode cX8_lay 25 = .ok (.getfield 35, 3) := by decide +kernel
theorem dX8_lay_28 : decode cX8_lay 28 = .ok (.invokevirtual 90, 3) := by decide +kernel
theorem dX8_lay_31 : decode cX8_lay 31 = .ok (.ifCond .ne 6, 3) := by decide +kernel
theorem dX8_lay_34 : decode cX8_lay 34 = .ok (.bipush (-2), 2) := by decide +kernel
theorem dX8_lay_36 : decode cX8_lay 36 = .ok (.ireturn, 1) := by decide +kernel
theorem dX8_lay_37 : decode cX8_lay 37 = .ok (.aload_n 0, 1) := by decide +kernel
theorem dX8_lay_38 : decode cX8_lay 38 = .ok (.getfield 35, 3) := by decide +kernel
theorem dX8_lay_41 : decode cX8_lay 41 = .ok (.invokevirtual 94, 3) := by decide +kernel
theorem dX8_lay_44 : decode cX8_lay 44 = .ok (.aload_n 0, 1) := by decide +kernel
theorem dX8_lay_45 : decode cX8_lay 45 = .ok (.getfield 28, 3) := by decide +kernel
theorem dX8_lay_48 : decode cX8_lay 48 = .ok (.astore_n 1, 1) := by decide +kernel
theorem dX8_lay_49 : decode cX8_lay 49 = .ok (.aload_n 0, 1) := by decide +kernel
theorem dX8_lay_50 : decode cX8_lay 50 = .ok (.aload_n 0, 1) := by decide +kernel
theorem dX8_lay_51 : decode cX8_lay 51 = .ok (.getfield 35, 3) := by decide +kernel
theorem dX8_lay_54 : decode cX8_lay 54 = .ok (.putfield 28, 3) := by decide +kernel
theorem dX8_lay_57 : decode cX8_lay 57 = .ok (.aload_n 0, 1) := by decide +kernel
theorem dX8_lay_58 : decode cX8_lay 58 = .ok (.aload_n 1, 1) := by decide +kernel
theorem dX8_lay_59 : decode cX8_lay 59 = .ok (.putfield 35, 3) := by decide +kernel
theorem dX8_lay_62 : decode cX8_lay 62 = .ok (.aload_n 0, 1) := by decide +kernel
theorem dX8_lay_63 : decode cX8_lay 63 = .ok (.getfield 50, 3) := by decide +kernel
theorem dX8_lay_66 : decode cX8_lay 66 = .ok (.invokevirtual 97, 3) := by decide +kernel
theorem dX8_lay_69 : decode cX8_lay 69 = .ok (.aload_n 0, 1) := by decide +kernel
theorem dX8_lay_70 : decode cX8_lay 70 = .ok (.getfield 57, 3) := by decide +kernel
theorem dX8_lay_73 : decode cX8_lay 73 = .ok (.invokevirtual 100, 3) := by decide +kernel
theorem dX8_lay_76 : decode cX8_lay 76 = .ok (.aload_n 0, 1) := by decide +kernel
theorem dX8_lay_77 : decode cX8_lay 77 = .ok (.getfield 64, 3) := by decide +kernel
theorem dX8_lay_80 : decode cX8_lay 80 = .ok (.invokevirtual 101, 3) := by decide +kernel
theorem dX8_lay_83 : decode cX8_lay 83 = .ok (.aload_n 0, 1) := by decide +kernel
theorem dX8_lay_84 : decode cX8_lay 84 = .ok (.getfield 28, 3) := by decide +kernel
theorem dX8_lay_87 : decode cX8_lay 87 = .ok (.getfield 102, 3) := by decide +kernel
theorem dX8_lay_90 : decode cX8_lay 90 = .ok (.ireturn, 1) := by decide +kernel
theorem dX8_beast_0 : decode cX8_beast 0 = .ok (.aload_n 0, 1) := by decide +kernel
theorem dX8_beast_1 : decode cX8_beast 1 = .ok (.getfield 28, 3) := by decide +kernel
theorem dX8_beast_4 : decode cX8_beast 4 = .ok (.iload_n 1, 1) := by decide +kernel
theorem dX8_beast_5 : decode cX8_beast 5 = .ok (.invokevirtual 105, 3) := by decide +kernel
theorem dX8_beast_8 : decode cX8_beast 8 = .ok (.ifCond .ne 5, 3) := by decide +kernel
theorem dX8_beast_11 : decode cX8_beast 11 = .ok (.iconst (-1), 1) := by decide +kernel
theorem dX8_beast_12 : decode cX8_beast 12 = .ok (.ireturn, 1) := by decide +kernel
theorem dX8_beast_13 : decode cX8_beast 13 = .ok (.iload_n 2, 1) := by decide +kernel
theorem dX8_beast_14 : decode cX8_beast 14 = .ok (.tableswitch 112 0 6 #[42, 52, 62, 72, 82, 92, 102], 42) := by decide +kernel
theorem dX8_beast_56 : decode cX8_beast 56 = .ok (.aload_n 0, 1) := by decide +kernel
theorem dX8_beast_57 : decode cX8_beast 57 = .ok (.getfield 28, 3) := by decide +kernel
theorem dX8_beast_60 : decode cX8_beast 60 = .ok (.getfield 109, 3) := by decide +kernel
theorem dX8_beast_63 : decode cX8_beast 63 = .ok (.iload_n 1, 1) := by decide +kernel
theorem dX8_beast_64 : decode cX8_beast 64 = .ok (.iaload, 1) := by decide +kernel
theorem dX8_beast_65 : decode cX8_beast 65 = .ok (.ireturn, 1) := by decide +kernel
theorem dX8_beast_66 : decode cX8_beast 66 = .ok (.aload_n 0, 1) := by decide +kernel
theorem dX8_beast_67 : decode cX8_beast 67 = .ok (.getfield 28, 3) := by decide +kernel
theorem dX8_beast_70 : decode cX8_beast 70 = .ok (.getfield 113, 3) := by decide +kernel
theorem dX8_beast_73 : decode cX8_beast 73 = .ok (.iload_n 1, 1) := by decide +kernel
theorem dX8_beast_74 : decode cX8_beast 74 = .ok (.iaload, 1) := by decide +kernel
theorem dX8_beast_75 : decode cX8_beast 75 = .ok (.ireturn, 1) := by decide +kernel
theorem dX8_beast_76 : decode cX8_beast 76 = .ok (.aload_n 0, 1) := by decide +kernel
theorem dX8_beast_77 : decode cX8_beast 77 = .ok (.getfield 28, 3) := by decide +kernel
theorem dX8_beast_80 : decode cX8_beast 80 = .ok (.getfield 116, 3) := by decide +kernel
theorem dX8_beast_83 : decode cX8_beast 83 = .ok (.iload_n 1, 1) := by decide +kernel
theorem dX8_beast_84 : decode cX8_beast 84 = .ok (.iaload, 1) := by decide +kernel
theorem dX8_beast_85 : decode cX8_beast 85 = .ok (.ireturn, 1) := by decide +kernel
theorem dX8_beast_86 : decode cX8_beast 86 = .ok (.aload_n 0, 1) := by decide +kernel
theorem dX8_beast_87 : decode cX8_beast 87 = .ok (.getfield 28, 3) := by decide +kernel
theorem dX8_beast_90 : decode cX8_beast 90 = .ok (.getfield 119, 3) := by decide +kernel
theorem dX8_beast_93 : decode cX8_beast 93 = .ok (.iload_n 1, 1) := by decide +kernel
theorem dX8_beast_94 : decode cX8_beast 94 = .ok (.iaload, 1) := by decide +kernel
theorem dX8_beast_95 : decode cX8_beast 95 = .ok (.ireturn, 1) := by decide +kernel
theorem dX8_beast_96 : decode cX8_beast 96 = .ok (.aload_n 0, 1) := by decide +kernel
theorem dX8_beast_97 : decode cX8_beast 97 = .ok (.getfield 28, 3) := by decide +kernel
theorem dX8_beast_100 : decode cX8_beast 100 = .ok (.getfield 122, 3) := by decide +kernel
theorem dX8_beast_103 : decode cX8_beast 103 = .ok (.iload_n 1, 1) := by decide +kernel
theorem dX8_beast_104 : decode cX8_beast 104 = .ok (.iaload, 1) := by decide +kernel
theorem dX8_beast_105 : decode cX8_beast 105 = .ok (.ireturn, 1) := by decide +kernel
theorem dX8_beast_106 : decode cX8_beast 106 = .ok (.aload_n 0, 1) := by decide +kernel
theorem dX8_beast_107 : decode cX8_beast 107 = .ok (.getfield 28, 3) := by decide +kernel
theorem dX8_beast_110 : decode cX8_beast 110 = .ok (.getfield 125, 3) := by decide +kernel
theorem dX8_beast_113 : decode cX8_beast 113 = .ok (.iload_n 1, 1) := by decide +kernel
theorem dX8_beast_114 : decode cX8_beast 114 = .ok (.iaload, 1) := by decide +kernel
theorem dX8_beast_115 : decode cX8_beast 115 = .ok (.ireturn, 1) := by decide +kernel
theorem dX8_beast_116 : decode cX8_beast 116 = .ok (.aload_n 0, 1) := by decide +kernel
theorem dX8_beast_117 : decode cX8_beast 117 = .ok (.getfield 28, 3) := by decide +kernel
theorem dX8_beast_120 : decode cX8_beast 120 = .ok (.getfield 128, 3) := by decide +kernel
theorem dX8_beast_123 : decode cX8_beast 123 = .ok (.iload_n 1, 1) := by decide +kernel
theorem dX8_beast_124 : decode cX8_beast 124 = .ok (.iaload, 1) := by decide +kernel
theorem dX8_beast_125 : decode cX8_beast 125 = .ok (.ireturn, 1) := by decide +kernel
theorem dX8_beast_126 : decode cX8_beast 126 = .ok (.iconst (-1), 1) := by decide +kernel
theorem dX8_beast_127 : decode cX8_beast 127 = .ok (.ireturn, 1) := by decide +kernel
theorem dX8_current_0 : decode cX8_current 0 = .ok (.iload_n 1, 1) := by decide +kernel
theorem dX8_current_1 : decode cX8_current 1 = .ok (.iconst 1, 1) := by decide +kernel
theorem dX8_current_2 : decode cX8_current 2 = .ok (.sipush 200, 3) := by decide +kernel
theorem dX8_current_5 : decode cX8_current 5 = .ok (.invokestatic 82, 3) := by decide +kernel
theorem dX8_current_8 : decode cX8_current 8 = .ok (.ifCond .eq 15, 3) := by decide +kernel
theorem dX8_current_11 : decode cX8_current 11 = .ok (.aload_n 0, 1) := by decide +kernel
theorem dX8_current_12 : decode cX8_current 12 = .ok (.getfield 28, 3) := by decide +kernel
theorem dX8_current_15 : decode cX8_current 15 = .ok (.getfield 131, 3) := by decide +kernel
theorem dX8_current_18 : decode cX8_current 18 = .ok (.iload_n 1, 1) := by decide +kernel
theorem dX8_current_19 : decode cX8_current 19 = .ok (.iaload, 1) := by decide +kernel
theorem dX8_current_20 : decode cX8_current 20 = .ok (.goto 4, 3) := by decide +kernel
theorem dX8_current_23 : decode cX8_current 23 = .ok (.iconst (-1), 1) := by decide +kernel
theorem dX8_current_24 : decode cX8_current 24 = .ok (.ireturn, 1) := by decide +kernel
theorem dX8_where_0 : decode cX8_where 0 = .ok (.aload_n 0, 1) := by decide +kernel
theorem dX8_where_1 : decode cX8_where 1 = .ok (.getfield 28, 3) := by decide +kernel
theorem dX8_where_4 : decode cX8_where 4 = .ok (.iload_n 1, 1) := by decide +kernel
theorem dX8_where_5 : decode cX8_where 5 = .ok (.invokevirtual 105, 3) := by decide +kernel
theorem dX8_where_8 : decode cX8_where 8 = .ok (.ifCond .eq 14, 3) := by decide +kernel
theorem dX8_where_11 : decode cX8_where 11 = .ok (.iload_n 2, 1) := by decide +kernel
theorem dX8_where_12 : decode cX8_where 12 = .ok (.iconst 0, 1) := by decide +kernel
theorem dX8_where_13 : decode cX8_where 13 = .ok (.sipush 200, 3) := by decide +kernel
theorem dX8_where_16 : decode cX8_where 16 = .ok (.invokestatic 82, 3) := by decide +kernel
theorem dX8_where_19 : decode cX8_where 19 = .ok (.ifCond .ne 5, 3) := by decide +kernel
theorem dX8_where_22 : decode cX8_where 22 = .ok (.iconst (-1), 1) := by decide +kernel
theorem dX8_where_23 : decode cX8_where 23 = .ok (.ireturn, 1) := by decide +kernel
theorem dX8_where_24 : decode cX8_where 24 = .ok (.aload_n 0, 1) := by decide +kernel
theorem dX8_where_25 : decode cX8_where 25 = .ok (.getfield 43, 3) := by decide +kernel
theorem dX8_where_28 : decode cX8_where 28 = .ok (.aload_n 0, 1) := by decide +kernel
theorem dX8_where_29 : decode cX8_where 29 = .ok (.getfield 28, 3) := by decide +kernel
theorem dX8_where_32 : decode cX8_where 32 = .ok (.invokevirtual 134, 3) := by decide +kernel
theorem dX8_where_35 : decode cX8_where 35 = .ok (.aload_n 0, 1) := by decide +kernel
theorem dX8_where_36 : decode cX8_where 36 = .ok (.getfield 43, 3) := by decide +kernel
theorem dX8_where_39 : decode cX8_where 39 = .ok (.iload_n 1, 1) := by decide +kernel
theorem dX8_where_40 : decode cX8_where 40 = .ok (.invokevirtual 137, 3) := by decide +kernel
theorem dX8_where_43 : decode cX8_where 43 = .ok (.aload_n 0, 1) := by decide +kernel
theorem dX8_where_44 : decode cX8_where 44 = .ok (.getfield 43, 3) := by decide +kernel
theorem dX8_where_47 : decode cX8_where 47 = .ok (.iload_n 2, 1) := by decide +kernel
theorem dX8_where_48 : decode cX8_where 48 = .ok (.invokevirtual 141, 3) := by decide +kernel
theorem dX8_where_51 : decode cX8_where 51 = .ok (.pop, 1) := by decide +kernel
theorem dX8_where_52 : decode cX8_where 52 = .ok (.aload_n 0, 1) := by decide +kernel
theorem dX8_where_53 : decode cX8_where 53 = .ok (.getfield 43, 3) := by decide +kernel
theorem dX8_where_56 : decode cX8_where 56 = .ok (.getfield 145, 3) := by decide +kernel
theorem dX8_where_59 : decode cX8_where 59 = .ok (.aload_n 0, 1) := by decide +kernel
theorem dX8_where_60 : decode cX8_where 60 = .ok (.getfield 28, 3) := by decide +kernel
theorem dX8_where_63 : decode cX8_where 63 = .ok (.getfield 148, 3) := by decide +kernel
theorem dX8_where_66 : decode cX8_where 66 = .ok (.invokestatic 151, 3) := by decide +kernel
theorem dX8_where_69 : decode cX8_where 69 = .ok (.ireturn, 1) := by decide +kernel
theorem dX8_lands_0 : decode cX8_lands 0 = .ok (.aload_n 0, 1) := by decide +kernel
theorem dX8_lands_1 : decode cX8_lands 1 = .ok (.getfield 28, 3) := by decide +kernel
theorem dX8_lands_4 : decode cX8_lands 4 = .ok (.iload_n 1, 1) := by decide +kernel
theorem dX8_lands_5 : decode cX8_lands 5 = .ok (.invokevirtual 105, 3) := by decide +kernel
theorem dX8_lands_8 : decode cX8_lands 8 = .ok (.ifCond .ne 5, 3) := by decide +kernel
theorem dX8_lands_11 : decode cX8_lands 11 = .ok (.iconst (-1), 1) := by decide +kernel
theorem dX8_lands_12 : decode cX8_lands 12 = .ok (.ireturn, 1) := by decide +kernel
theorem dX8_lands_13 : decode cX8_lands 13 = .ok (.aload_n 0, 1) := by decide +kernel
theorem dX8_lands_14 : decode cX8_lands 14 = .ok (.getfield 43, 3) := by decide +kernel
theorem dX8_lands_17 : decode cX8_lands 17 = .ok (.aload_n 0, 1) := by decide +kernel
theorem dX8_lands_18 : decode cX8_lands 18 = .ok (.getfield 28, 3) := by decide +kernel
theorem dX8_lands_21 : decode cX8_lands 21 = .ok (.invokevirtual 134, 3) := by decide +kernel
theorem dX8_lands_24 : decode cX8_lands 24 = .ok (.aload_n 0, 1) := by decide +kernel
theorem dX8_lands_25 : decode cX8_lands 25 = .ok (.getfield 43, 3) := by decide +kernel
theorem dX8_lands_28 : decode cX8_lands 28 = .ok (.iload_n 1, 1) := by decide +kernel
theorem dX8_lands_29 : decode cX8_lands 29 = .ok (.invokevirtual 137, 3) := by decide +kernel
theorem dX8_lands_32 : decode cX8_lands 32 = .ok (.aload_n 0, 1) := by decide +kernel
theorem dX8_lands_33 : decode cX8_lands 33 = .ok (.getfield 43, 3) := by decide +kernel
theorem dX8_lands_36 : decode cX8_lands 36 = .ok (.sipush 200, 3) := by decide +kernel
theorem dX8_lands_39 : decode cX8_lands 39 = .ok (.invokevirtual 141, 3) := by decide +kernel
theorem dX8_lands_42 : decode cX8_lands 42 = .ok (.istore_n 2, 1) := by decide +kernel
theorem dX8_lands_43 : decode cX8_lands 43 = .ok (.iload_n 2, 1) := by decide +kernel
theorem dX8_lands_44 : decode cX8_lands 44 = .ok (.sipush 201, 3) := by decide +kernel
theorem dX8_lands_47 : decode cX8_lands 47 = .ok (.if_icmp .ne 8, 3) := by decide +kernel
theorem dX8_lands_50 : decode cX8_lands 50 = .ok (.bipush (-4), 2) := by decide +kernel
theorem dX8_lands_52 : decode cX8_lands 52 = .ok (.goto 4, 3) := by decide +kernel
theorem dX8_lands_55 : decode cX8_lands 55 = .ok (.iload_n 2, 1) := by decide +kernel
theorem dX8_lands_56 : decode cX8_lands 56 = .ok (.ireturn, 1) := by decide +kernel
theorem dX8_rank_0 : decode cX8_rank 0 = .ok (.aload_n 0, 1) := by decide +kernel
theorem dX8_rank_1 : decode cX8_rank 1 = .ok (.getfield 28, 3) := by decide +kernel
theorem dX8_rank_4 : decode cX8_rank 4 = .ok (.iload_n 1, 1) := by decide +kernel
theorem dX8_rank_5 : decode cX8_rank 5 = .ok (.invokevirtual 105, 3) := by decide +kernel
theorem dX8_rank_8 : decode cX8_rank 8 = .ok (.ifCond .ne 5, 3) := by decide +kernel
theorem dX8_rank_11 : decode cX8_rank 11 = .ok (.iconst (-1), 1) := by decide +kernel
theorem dX8_rank_12 : decode cX8_rank 12 = .ok (.ireturn, 1) := by decide +kernel
theorem dX8_rank_13 : decode cX8_rank 13 = .ok (.aload_n 0, 1) := by decide +kernel
theorem dX8_rank_14 : decode cX8_rank 14 = .ok (.invokevirtual 157, 3) := by decide +kernel
theorem dX8_rank_17 : decode cX8_rank 17 = .ok (.aload_n 0, 1) := by decide +kernel
theorem dX8_rank_18 : decode cX8_rank 18 = .ok (.getfield 43, 3) := by decide +kernel
theorem dX8_rank_21 : decode cX8_rank 21 = .ok (.getfield 160, 3) := by decide +kernel
theorem dX8_rank_24 : decode cX8_rank 24 = .ok (.iload_n 1, 1) := by decide +kernel
theorem dX8_rank_25 : decode cX8_rank 25 = .ok (.iaload, 1) := by decide +kernel
theorem dX8_rank_26 : decode cX8_rank 26 = .ok (.ireturn, 1) := by decide +kernel
theorem dX8_who_0 : decode cX8_who 0 = .ok (.iload_n 1, 1) := by decide +kernel
theorem dX8_who_1 : decode cX8_who 1 = .ok (.iconst 1, 1) := by decide +kernel
theorem dX8_who_2 : decode cX8_who 2 = .ok (.aload_n 0, 1) := by decide +kernel
theorem dX8_who_3 : decode cX8_who 3 = .ok (.getfield 28, 3) := by decide +kernel
theorem dX8_who_6 : decode cX8_who 6 = .ok (.getfield 102, 3) := by decide +kernel
theorem dX8_who_9 : decode cX8_who 9 = .ok (.invokestatic 82, 3) := by decide +kernel
theorem dX8_who_12 : decode cX8_who 12 = .ok (.ifCond .ne 5, 3) := by decide +kernel
theorem dX8_who_15 : decode cX8_who 15 = .ok (.iconst (-1), 1) := by decide +kernel
theorem dX8_who_16 : decode cX8_who 16 = .ok (.ireturn, 1) := by decide +kernel
theorem dX8_who_17 : decode cX8_who 17 = .ok (.aload_n 0, 1) := by decide +kernel
theorem dX8_who_18 : decode cX8_who 18 = .ok (.invokevirtual 157, 3) := by decide +kernel
theorem dX8_who_21 : decode cX8_who 21 = .ok (.aload_n 0, 1) := by decide +kernel
theorem dX8_who_22 : decode cX8_who 22 = .ok (.getfield 43, 3) := by decide +kernel
theorem dX8_who_25 : decode cX8_who 25 = .ok (.getfield 163, 3) := by decide +kernel
theorem dX8_who_28 : decode cX8_who 28 = .ok (.iload_n 1, 1) := by decide +kernel
theorem dX8_who_29 : decode cX8_who 29 = .ok (.iconst 1, 1) := by decide +kernel
theorem dX8_who_30 : decode cX8_who 30 = .ok (.isub, 1) := by decide +kernel
theorem dX8_who_31 : decode cX8_who 31 = .ok (.iaload, 1) := by decide +kernel
theorem dX8_who_32 : decode cX8_who 32 = .ok (.ireturn, 1) := by decide +kernel
theorem dX8_start_0 : decode cX8_start 0 = .ok (.aload_n 0, 1) := by decide +kernel
theorem dX8_start_1 : decode cX8_start 1 = .ok (.getfield 28, 3) := by decide +kernel
theorem dX8_start_4 : decode cX8_start 4 = .ok (.iload_n 1, 1) := by decide +kernel
theorem dX8_start_5 : decode cX8_start 5 = .ok (.invokevirtual 105, 3) := by decide +kernel
theorem dX8_start_8 : decode cX8_start 8 = .ok (.ifCond .eq 13, 3) := by decide +kernel
theorem dX8_start_11 : decode cX8_start 11 = .ok (.iload_n 2, 1) := by decide +kernel
theorem dX8_start_12 : decode cX8_start 12 = .ok (.iconst 0, 1) := by decide +kernel
theorem dX8_start_13 : decode cX8_start 13 = .ok (.bipush 30, 2) := by decide +kernel
theorem dX8_start_15 : decode cX8_start 15 = .ok (.invokestatic 82, 3) := by decide +kernel
theorem dX8_start_18 : decode cX8_start 18 = .ok (.ifCond .ne 5, 3) := by decide +kernel
theorem dX8_start_21 : decode cX8_start 21 = .ok (.iconst (-1), 1) := by decide +kernel
theorem dX8_start_22 : decode cX8_start 22 = .ok (.ireturn, 1) := by decide +kernel
theorem dX8_start_23 : decode cX8_start 23 = .ok (.aload_n 0, 1) := by decide +kernel
theorem dX8_start_24 : decode cX8_start 24 = .ok (.getfield 28, 3) := by decide +kernel
theorem dX8_start_27 : decode cX8_start 27 = .ok (.getfield 119, 3) := by decide +kernel
theorem dX8_start_30 : decode cX8_start 30 = .ok (.iload_n 1, 1) := by decide +kernel
theorem dX8_start_31 : decode cX8_start 31 = .ok (.iaload, 1) := by decide +kernel
theorem dX8_start_32 : decode cX8_start 32 = .ok (.istore_n 3, 1) := by decide +kernel
theorem dX8_start_33 : decode cX8_start 33 = .ok (.aload_n 0, 1) := by decide +kernel
theorem dX8_start_34 : decode cX8_start 34 = .ok (.getfield 50, 3) := by decide +kernel
theorem dX8_start_37 : decode cX8_start 37 = .ok (.aload_n 0, 1) := by decide +kernel
theorem dX8_start_38 : decode cX8_start 38 = .ok (.getfield 28, 3) := by decide +kernel
theorem dX8_start_41 : decode cX8_start 41 = .ok (.iload_n 1, 1) := by decide +kernel
theorem dX8_start_42 : decode cX8_start 42 = .ok (.invokevirtual 166, 3) := by decide +kernel
theorem dX8_start_45 : decode cX8_start 45 = .ok (.aload_n 0, 1) := by decide +kernel
theorem dX8_start_46 : decode cX8_start 46 = .ok (.getfield 28, 3) := by decide +kernel
theorem dX8_start_49 : decode cX8_start 49 = .ok (.getfield 119, 3) := by decide +kernel
theorem dX8_start_52 : decode cX8_start 52 = .ok (.iload_n 1, 1) := by decide +kernel
theorem dX8_start_53 : decode cX8_start 53 = .ok (.iload_n 2, 1) := by decide +kernel
theorem dX8_start_54 : decode cX8_start 54 = .ok (.iastore, 1) := by decide +kernel
theorem dX8_start_55 : decode cX8_start 55 = .ok (.iload_n 3, 1) := by decide +kernel
theorem dX8_start_56 : decode cX8_start 56 = .ok (.ireturn, 1) := by decide +kernel
theorem dX8_ride_0 : decode cX8_ride 0 = .ok (.aload_n 0, 1) := by decide +kernel
theorem dX8_ride_1 : decode cX8_ride 1 = .ok (.getfield 28, 3) := by decide +kernel
theorem dX8_ride_4 : decode cX8_ride 4 = .ok (.iload_n 1, 1) := by decide +kernel
theorem dX8_ride_5 : decode cX8_ride 5 = .ok (.invokevirtual 105, 3) := by decide +kernel
theorem dX8_ride_8 : decode cX8_ride 8 = .ok (.ifCond .eq 19, 3) := by decide +kernel
theorem dX8_ride_11 : decode cX8_ride 11 = .ok (.aload_n 0, 1) := by decide +kernel
theorem dX8_ride_12 : decode cX8_ride 12 = .ok (.getfield 28, 3) := by decide +kernel
theorem dX8_ride_15 : decode cX8_ride 15 = .ok (.iload_n 2, 1) := by decide +kernel
theorem dX8_ride_16 : decode cX8_ride 16 = .ok (.invokevirtual 105, 3) := by decide +kernel
theorem dX8_ride_19 : decode cX8_ride 19 = .ok (.ifCond .eq 8, 3) := by decide +kernel
theorem dX8_ride_22 : decode cX8_ride 22 = .ok (.iload_n 1, 1) := by decide +kernel
theorem dX8_ride_23 : decode cX8_ride 23 = .ok (.iload_n 2, 1) := by decide +kernel
theorem dX8_ride_24 : decode cX8_ride 24 = .ok (.if_icmp .ne 5, 3) := by decide +kernel
theorem dX8_ride_27 : decode cX8_ride 27 = .ok (.iconst (-1), 1) := by decide +kernel
theorem dX8_ride_28 : decode cX8_ride 28 = .ok (.ireturn, 1) := by decide +kernel
theorem dX8_ride_29 : decode cX8_ride 29 = .ok (.aload_n 0, 1) := by decide +kernel
theorem dX8_ride_30 : decode cX8_ride 30 = .ok (.getfield 28, 3) := by decide +kernel
theorem dX8_ride_33 : decode cX8_ride 33 = .ok (.getfield 125, 3) := by decide +kernel
theorem dX8_ride_36 : decode cX8_ride 36 = .ok (.iload_n 1, 1) := by decide +kernel
theorem dX8_ride_37 : decode cX8_ride 37 = .ok (.iaload, 1) := by decide +kernel
theorem dX8_ride_38 : decode cX8_ride 38 = .ok (.bipush (-4), 2) := by decide +kernel
theorem dX8_ride_40 : decode cX8_ride 40 = .ok (.if_icmp .ne 28, 3) := by decide +kernel
theorem dX8_ride_43 : decode cX8_ride 43 = .ok (.aload_n 0, 1) := by decide +kernel
theorem dX8_ride_44 : decode cX8_ride 44 = .ok (.getfield 28, 3) := by decide +kernel
theorem dX8_ride_47 : decode cX8_ride 47 = .ok (.iload_n 1, 1) := by decide +kernel
theorem dX8_ride_48 : decode cX8_ride 48 = .ok (.invokevirtual 170, 3) := by decide +kernel
theorem dX8_ride_51 : decode cX8_ride 51 = .ok (.ifCond .ne 17, 3) := by decide +kernel
theorem dX8_ride_54 : decode cX8_ride 54 = .ok (.aload_n 0, 1) := by decide +kernel
theorem dX8_ride_55 : decode cX8_ride 55 = .ok (.getfield 28, 3) := by decide +kernel
theorem dX8_ride_58 : decode cX8_ride 58 = .ok (.getfield 122, 3) := by decide +kernel
theorem dX8_ride_61 : decode cX8_ride 61 = .ok (.iload_n 2, 1) := by decide +kernel
theorem dX8_ride_62 : decode cX8_ride 62 = .ok (.iaload, 1) := by decide +kernel
theorem dX8_ride_63 : decode cX8_ride 63 = .ok (.bipush (-4), 2) := by decide +kernel
theorem dX8_ride_65 : decode cX8_ride 65 = .ok (.if_icmp .eq 6, 3) := by decide +kernel
theorem dX8_ride_68 : decode cX8_ride 68 = .ok (.bipush (-2), 2) := by decide +kernel
theorem dX8_ride_70 : decode cX8_ride 70 = .ok (.ireturn, 1) := by decide +kernel
theorem dX8_ride_71 : decode cX8_ride 71 = .ok (.aload_n 0, 1) := by decide +kernel
theorem dX8_ride_72 : decode cX8_ride 72 = .ok (.iload_n 1, 1) := by decide +kernel
theorem dX8_ride_73 : decode cX8_ride 73 = .ok (.iload_n 2, 1) := by decide +kernel
theorem dX8_ride_74 : decode cX8_ride 74 = .ok (.invokevirtual 173, 3) := by decide +kernel
theorem dX8_ride_77 : decode cX8_ride 77 = .ok (.ireturn, 1) := by decide +kernel
theorem dX8_leave_0 : decode cX8_leave 0 = .ok (.aload_n 0, 1) := by decide +kernel
theorem dX8_leave_1 : decode cX8_leave 1 = .ok (.getfield 28, 3) := by decide +kernel
theorem dX8_leave_4 : decode cX8_leave 4 = .ok (.iload_n 1, 1) := by decide +kernel
theorem dX8_leave_5 : decode cX8_leave 5 = .ok (.invokevirtual 105, 3) := by decide +kernel
theorem dX8_leave_8 : decode cX8_leave 8 = .ok (.ifCond .ne 5, 3) := by decide +kernel
theorem dX8_leave_11 : decode cX8_leave 11 = .ok (.iconst (-1), 1) := by decide +kernel
theorem dX8_leave_12 : decode cX8_leave 12 = .ok (.ireturn, 1) := by decide +kernel
theorem dX8_leave_13 : decode cX8_leave 13 = .ok (.aload_n 0, 1) := by decide +kernel
theorem dX8_leave_14 : decode cX8_leave 14 = .ok (.getfield 28, 3) := by decide +kernel
theorem dX8_leave_17 : decode cX8_leave 17 = .ok (.getfield 122, 3) := by decide +kernel
theorem dX8_leave_20 : decode cX8_leave 20 = .ok (.iload_n 1, 1) := by decide +kernel
theorem dX8_leave_21 : decode cX8_leave 21 = .ok (.iaload, 1) := by decide +kernel
theorem dX8_leave_22 : decode cX8_leave 22 = .ok (.bipush (-4), 2) := by decide +kernel
theorem dX8_leave_24 : decode cX8_leave 24 = .ok (.if_icmp .ne 6, 3) := by decide +kernel
theorem dX8_leave_27 : decode cX8_leave 27 = .ok (.bipush (-2), 2) := by decide +kernel
theorem dX8_leave_29 : decode cX8_leave 29 = .ok (.ireturn, 1) := by decide +kernel
theorem dX8_leave_30 : decode cX8_leave 30 = .ok (.aload_n 0, 1) := by decide +kernel
theorem dX8_leave_31 : decode cX8_leave 31 = .ok (.iload_n 1, 1) := by decide +kernel
theorem dX8_leave_32 : decode cX8_leave 32 = .ok (.bipush (-4), 2) := by decide +kernel
theorem dX8_leave_34 : decode cX8_leave 34 = .ok (.invokevirtual 173, 3) := by decide +kernel
theorem dX8_leave_37 : decode cX8_leave 37 = .ok (.ireturn, 1) := by decide +kernel
theorem dX8_undo_0 : decode cX8_undo 0 = .ok (.aload_n 0, 1) := by decide +kernel
theorem dX8_undo_1 : decode cX8_undo 1 = .ok (.getfield 50, 3) := by decide +kernel
theorem dX8_undo_4 : decode cX8_undo 4 = .ok (.aload_n 0, 1) := by decide +kernel
theorem dX8_undo_5 : decode cX8_undo 5 = .ok (.getfield 28, 3) := by decide +kernel
theorem dX8_undo_8 : decode cX8_undo 8 = .ok (.invokevirtual 176, 3) := by decide +kernel
theorem dX8_undo_11 : decode cX8_undo 11 = .ok (.ifCond .eq 13, 3) := by decide +kernel
theorem dX8_undo_14 : decode cX8_undo 14 = .ok (.aload_n 0, 1) := by decide +kernel
theorem dX8_undo_15 : decode cX8_undo 15 = .ok (.getfield 50, 3) := by decide +kernel
theorem dX8_undo_18 : decode cX8_undo 18 = .ok (.getfield 180, 3) := by decide +kernel
theorem dX8_undo_21 : decode cX8_undo 21 = .ok (.goto 5, 3) := by decide +kernel
theorem dX8_undo_24 : decode cX8_undo 24 = .ok (.bipush (-2), 2) := by decide +kernel
theorem dX8_undo_26 : decode cX8_undo 26 = .ok (.ireturn, 1) := by decide +kernel
theorem dX8_late_0 : decode cX8_late 0 = .ok (.aload_n 0, 1) := by decide +kernel
theorem dX8_late_1 : decode cX8_late 1 = .ok (.getfield 28, 3) := by decide +kernel
theorem dX8_late_4 : decode cX8_late 4 = .ok (.iload_n 1, 1) := by decide +kernel
theorem dX8_late_5 : decode cX8_late 5 = .ok (.invokevirtual 105, 3) := by decide +kernel
theorem dX8_late_8 : decode cX8_late 8 = .ok (.ifCond .ne 5, 3) := by decide +kernel
theorem dX8_late_11 : decode cX8_late 11 = .ok (.iconst (-1), 1) := by decide +kernel
theorem dX8_late_12 : decode cX8_late 12 = .ok (.ireturn, 1) := by decide +kernel
theorem dX8_late_13 : decode cX8_late 13 = .ok (.aload_n 0, 1) := by decide +kernel
theorem dX8_late_14 : decode cX8_late 14 = .ok (.invokevirtual 157, 3) := by decide +kernel
theorem dX8_late_17 : decode cX8_late 17 = .ok (.aload_n 0, 1) := by decide +kernel
theorem dX8_late_18 : decode cX8_late 18 = .ok (.getfield 43, 3) := by decide +kernel
theorem dX8_late_21 : decode cX8_late 21 = .ok (.getfield 160, 3) := by decide +kernel
theorem dX8_late_24 : decode cX8_late 24 = .ok (.iload_n 1, 1) := by decide +kernel
theorem dX8_late_25 : decode cX8_late 25 = .ok (.iaload, 1) := by decide +kernel
theorem dX8_late_26 : decode cX8_late 26 = .ok (.istore_n 2, 1) := by decide +kernel
theorem dX8_late_27 : decode cX8_late 27 = .ok (.bipush 30, 2) := by decide +kernel
theorem dX8_late_29 : decode cX8_late 29 = .ok (.istore_n 3, 1) := by decide +kernel
theorem dX8_late_30 : decode cX8_late 30 = .ok (.iload_n 3, 1) := by decide +kernel
theorem dX8_late_31 : decode cX8_late 31 = .ok (.aload_n 0, 1) := by decide +kernel
theorem dX8_late_32 : decode cX8_late 32 = .ok (.getfield 28, 3) := by decide +kernel
theorem dX8_late_35 : decode cX8_late 35 = .ok (.getfield 119, 3) := by decide +kernel
theorem dX8_late_38 : decode cX8_late 38 = .ok (.iload_n 1, 1) := by decide +kernel
theorem dX8_late_39 : decode cX8_late 39 = .ok (.iaload, 1) := by decide +kernel
theorem dX8_late_40 : decode cX8_late 40 = .ok (.if_icmp .le 41, 3) := by decide +kernel
theorem dX8_late_43 : decode cX8_late 43 = .ok (.aload_n 0, 1) := by decide +kernel
theorem dX8_late_44 : decode cX8_late 44 = .ok (.getfield 43, 3) := by decide +kernel
theorem dX8_late_47 : decode cX8_late 47 = .ok (.getfield 183, 3) := by decide +kernel
theorem dX8_late_50 : decode cX8_late 50 = .ok (.iload_n 1, 1) := by decide +kernel
theorem dX8_late_51 : decode cX8_late 51 = .ok (.iload_n 3, 1) := by decide +kernel
theorem dX8_late_52 : decode cX8_late 52 = .ok (.iastore, 1) := by decide +kernel
theorem dX8_late_53 : decode cX8_late 53 = .ok (.aload_n 0, 1) := by decide +kernel
theorem dX8_late_54 : decode cX8_late 54 = .ok (.getfield 43, 3) := by decide +kernel
theorem dX8_late_57 : decode cX8_late 57 = .ok (.invokevirtual 184, 3) := by decide +kernel
theorem dX8_late_60 : decode cX8_late 60 = .ok (.aload_n 0, 1) := by decide +kernel
theorem dX8_late_61 : decode cX8_late 61 = .ok (.getfield 43, 3) := by decide +kernel
theorem dX8_late_64 : decode cX8_late 64 = .ok (.getfield 160, 3) := by decide +kernel
theorem dX8_late_67 : decode cX8_late 67 = .ok (.iload_n 1, 1) := by decide +kernel
theorem dX8_late_68 : decode cX8_late 68 = .ok (.iaload, 1) := by decide +kernel
theorem dX8_late_69 : decode cX8_late 69 = .ok (.iload_n 2, 1) := by decide +kernel
theorem dX8_late_70 : decode cX8_late 70 = .ok (.if_icmp .gt 5, 3) := by decide +kernel
theorem dX8_late_73 : decode cX8_late 73 = .ok (.iload_n 3, 1) := by decide +kernel
theorem dX8_late_74 : decode cX8_late 74 = .ok (.ireturn, 1) := by decide +kernel
theorem dX8_late_75 : decode cX8_late 75 = .ok (.iinc 3 (-1), 3) := by decide +kernel
theorem dX8_late_78 : decode cX8_late 78 = .ok (.goto (-48), 3) := by decide +kernel
theorem dX8_late_81 : decode cX8_late 81 = .ok (.aload_n 0, 1) := by decide +kernel
theorem dX8_late_82 : decode cX8_late 82 = .ok (.getfield 28, 3) := by decide +kernel
theorem dX8_late_85 : decode cX8_late 85 = .ok (.getfield 119, 3) := by decide +kernel
theorem dX8_late_88 : decode cX8_late 88 = .ok (.iload_n 1, 1) := by decide +kernel
theorem dX8_late_89 : decode cX8_late 89 = .ok (.iaload, 1) := by decide +kernel
theorem dX8_late_90 : decode cX8_late 90 = .ok (.ireturn, 1) := by decide +kernel
theorem dX8_back_0 : decode cX8_back 0 = .ok (.aload_n 0, 1) := by decide +kernel
theorem dX8_back_1 : decode cX8_back 1 = .ok (.getfield 28, 3) := by decide +kernel
theorem dX8_back_4 : decode cX8_back 4 = .ok (.iload_n 1, 1) := by decide +kernel
theorem dX8_back_5 : decode cX8_back 5 = .ok (.invokevirtual 105, 3) := by decide +kernel
theorem dX8_back_8 : decode cX8_back 8 = .ok (.ifCond .eq 12, 3) := by decide +kernel
theorem dX8_back_11 : decode cX8_back 11 = .ok (.iload_n 2, 1) := by decide +kernel
theorem dX8_back_12 : decode cX8_back 12 = .ok (.iconst 0, 1) := by decide +kernel
theorem dX8_back_13 : decode cX8_back 13 = .ok (.iconst 1, 1) := by decide +kernel
theorem dX8_back_14 : decode cX8_back 14 = .ok (.invokestatic 82, 3) := by decide +kernel
theorem dX8_back_17 : decode cX8_back 17 = .ok (.ifCond .ne 5, 3) := by decide +kernel
theorem dX8_back_20 : decode cX8_back 20 = .ok (.iconst (-1), 1) := by decide +kernel
theorem dX8_back_21 : decode cX8_back 21 = .ok (.ireturn, 1) := by decide +kernel
theorem dX8_back_22 : decode cX8_back 22 = .ok (.aload_n 0, 1) := by decide +kernel
theorem dX8_back_23 : decode cX8_back 23 = .ok (.getfield 28, 3) := by decide +kernel
theorem dX8_back_26 : decode cX8_back 26 = .ok (.iload_n 1, 1) := by decide +kernel
theorem dX8_back_27 : decode cX8_back 27 = .ok (.invokevirtual 170, 3) := by decide +kernel
theorem dX8_back_30 : decode cX8_back 30 = .ok (.ifCond .ne 17, 3) := by decide +kernel
theorem dX8_back_33 : decode cX8_back 33 = .ok (.aload_n 0, 1) := by decide +kernel
theorem dX8_back_34 : decode cX8_back 34 = .ok (.getfield 28, 3) := by decide +kernel
theorem dX8_back_37 : decode cX8_back 37 = .ok (.getfield 125, 3) := by decide +kernel
theorem dX8_back_40 : decode cX8_back 40 = .ok (.iload_n 1, 1) := by decide +kernel
theorem dX8_back_41 : decode cX8_back 41 = .ok (.iaload, 1) := by decide +kernel
theorem dX8_back_42 : decode cX8_back 42 = .ok (.bipush (-4), 2) := by decide +kernel
theorem dX8_back_44 : decode cX8_back 44 = .ok (.if_icmp .eq 6, 3) := by decide +kernel
theorem dX8_back_47 : decode cX8_back 47 = .ok (.bipush (-2), 2) := by decide +kernel
theorem dX8_back_49 : decode cX8_back 49 = .ok (.ireturn, 1) := by decide +kernel
theorem dX8_back_50 : decode cX8_back 50 = .ok (.aload_n 0, 1) := by decide +kernel
theorem dX8_back_51 : decode cX8_back 51 = .ok (.getfield 43, 3) := by decide +kernel
theorem dX8_back_54 : decode cX8_back 54 = .ok (.aload_n 0, 1) := by decide +kernel
theorem dX8_back_55 : decode cX8_back 55 = .ok (.getfield 28, 3) := by decide +kernel
theorem dX8_back_58 : decode cX8_back 58 = .ok (.invokevirtual 134, 3) := by decide +kernel
theorem dX8_back_61 : decode cX8_back 61 = .ok (.bipush (-4), 2) := by decide +kernel
theorem dX8_back_63 : decode cX8_back 63 = .ok (.istore_n 3, 1) := by decide +kernel
theorem dX8_back_64 : decode cX8_back 64 = .ok (.aload_n 0, 1) := by decide +kernel
theorem dX8_back_65 : decode cX8_back 65 = .ok (.iload_n 1, 1) := by decide +kernel
theorem dX8_back_66 : decode cX8_back 66 = .ok (.bipush (-4), 2) := by decide +kernel
theorem dX8_back_68 : decode cX8_back 68 = .ok (.invokevirtual 187, 3) := by decide +kernel
theorem dX8_back_71 : decode cX8_back 71 = .ok (.istore 4, 2) := by decide +kernel
theorem dX8_back_73 : decode cX8_back 73 = .ok (.iconst 0, 1) := by decide +kernel
theorem dX8_back_74 : decode cX8_back 74 = .ok (.istore 5, 2) := by decide +kernel
theorem dX8_back_76 : decode cX8_back 76 = .ok (.iload 5, 2) := by decide +kernel
theorem dX8_back_78 : decode cX8_back 78 = .ok (.aload_n 0, 1) := by decide +kernel
theorem dX8_back_79 : decode cX8_back 79 = .ok (.getfield 28, 3) := by decide +kernel
theorem dX8_back_82 : decode cX8_back 82 = .ok (.getfield 102, 3) := by decide +kernel
theorem dX8_back_85 : decode cX8_back 85 = .ok (.if_icmp .ge 53, 3) := by decide +kernel
theorem dX8_back_88 : decode cX8_back 88 = .ok (.iload 5, 2) := by decide +kernel
theorem dX8_back_90 : decode cX8_back 90 = .ok (.iload_n 1, 1) := by decide +kernel
theorem dX8_back_91 : decode cX8_back 91 = .ok (.if_icmp .eq 41, 3) := by decide +kernel
theorem dX8_back_94 : decode cX8_back 94 = .ok (.aload_n 0, 1) := by decide +kernel
theorem dX8_back_95 : decode cX8_back 95 = .ok (.getfield 28, 3) := by decide +kernel
theorem dX8_back_98 : decode cX8_back 98 = .ok (.getfield 122, 3) := by decide +kernel
theorem dX8_back_101 : decode cX8_back 101 = .ok (.iload 5, 2) := by decide +kernel
theorem dX8_back_103 : decode cX8_back 103 = .ok (.iaload, 1) := by decide +kernel
theorem dX8_back_104 : decode cX8_back 104 = .ok (.bipush (-4), 2) := by decide +kernel
theorem dX8_back_106 : decode cX8_back 106 = .ok (.if_icmp .ne 26, 3) := by decide +kernel
theorem dX8_back_109 : decode cX8_back 109 = .ok (.aload_n 0, 1) := by decide +kernel
theorem dX8_back_110 : decode cX8_back 110 = .ok (.iload_n 1, 1) := by decide +kernel
theorem dX8_back_111 : decode cX8_back 111 = .ok (.iload 5, 2) := by decide +kernel
theorem dX8_back_113 : decode cX8_back 113 = .ok (.invokevirtual 187, 3) := by decide +kernel
theorem dX8_back_116 : decode cX8_back 116 = .ok (.istore 6, 2) := by decide +kernel
theorem dX8_back_118 : decode cX8_back 118 = .ok (.iload 6, 2) := by decide +kernel
theorem dX8_back_120 : decode cX8_back 120 = .ok (.iload 4, 2) := by decide +kernel
theorem dX8_back_122 : decode cX8_back 122 = .ok (.if_icmp .ge 10, 3) := by decide +kernel
theorem dX8_back_125 : decode cX8_back 125 = .ok (.iload 5, 2) := by decide +kernel
theorem dX8_back_127 : decode cX8_back 127 = .ok (.istore_n 3, 1) := by decide +kernel
theorem dX8_back_128 : decode cX8_back 128 = .ok (.iload 6, 2) := by decide +kernel
theorem dX8_back_130 : decode cX8_back 130 = .ok (.istore 4, 2) := by decide +kernel
theorem dX8_back_132 : decode cX8_back 132 = .ok (.iinc 5 1, 3) := by decide +kernel
theorem dX8_back_135 : decode cX8_back 135 = .ok (.goto (-59), 3) := by decide +kernel
theorem dX8_back_138 : decode cX8_back 138 = .ok (.iload_n 2, 1) := by decide +kernel
theorem dX8_back_139 : decode cX8_back 139 = .ok (.ifCond .ne 7, 3) := by decide +kernel
theorem dX8_back_142 : decode cX8_back 142 = .ok (.iload_n 3, 1) := by decide +kernel
theorem dX8_back_143 : decode cX8_back 143 = .ok (.goto 5, 3) := by decide +kernel
theorem dX8_back_146 : decode cX8_back 146 = .ok (.iload 4, 2) := by decide +kernel
theorem dX8_back_148 : decode cX8_back 148 = .ok (.ireturn, 1) := by decide +kernel
theorem dX8_twos_0 : decode cX8_twos 0 = .ok (.iconst 0, 1) := by decide +kernel
theorem dX8_twos_1 : decode cX8_twos 1 = .ok (.istore_n 1, 1) := by decide +kernel
theorem dX8_twos_2 : decode cX8_twos 2 = .ok (.bipush 9, 2) := by decide +kernel
theorem dX8_twos_4 : decode cX8_twos 4 = .ok (.istore_n 2, 1) := by decide +kernel
theorem dX8_twos_5 : decode cX8_twos 5 = .ok (.iload_n 2, 1) := by decide +kernel
theorem dX8_twos_6 : decode cX8_twos 6 = .ok (.iconst 1, 1) := by decide +kernel
theorem dX8_twos_7 : decode cX8_twos 7 = .ok (.if_icmp .lt 25, 3) := by decide +kernel
theorem dX8_twos_10 : decode cX8_twos 10 = .ok (.iload_n 1, 1) := by decide +kernel
theorem dX8_twos_11 : decode cX8_twos 11 = .ok (.aload_n 0, 1) := by decide +kernel
theorem dX8_twos_12 : decode cX8_twos 12 = .ok (.iload_n 2, 1) := by decide +kernel
theorem dX8_twos_13 : decode cX8_twos 13 = .ok (.invokevirtual 190, 3) := by decide +kernel
theorem dX8_twos_16 : decode cX8_twos 16 = .ok (.iadd, 1) := by decide +kernel
theorem dX8_twos_17 : decode cX8_twos 17 = .ok (.aload_n 0, 1) := by decide +kernel
theorem dX8_twos_18 : decode cX8_twos 18 = .ok (.iload_n 2, 1) := by decide +kernel
theorem dX8_twos_19 : decode cX8_twos 19 = .ok (.invokevirtual 193, 3) := by decide +kernel
theorem dX8_twos_22 : decode cX8_twos 22 = .ok (.invokestatic 151, 3) := by decide +kernel
theorem dX8_twos_25 : decode cX8_twos 25 = .ok (.istore_n 1, 1) := by decide +kernel
theorem dX8_twos_26 : decode cX8_twos 26 = .ok (.iinc 2 (-1), 3) := by decide +kernel
theorem dX8_twos_29 : decode cX8_twos 29 = .ok (.goto (-24), 3) := by decide +kernel
theorem dX8_twos_32 : decode cX8_twos 32 = .ok (.iload_n 1, 1) := by decide +kernel
theorem dX8_twos_33 : decode cX8_twos 33 = .ok (.ireturn, 1) := by decide +kernel
theorem dX8_bridge_0 : decode cX8_bridge 0 = .ok (.iload_n 1, 1) := by decide +kernel
theorem dX8_bridge_1 : decode cX8_bridge 1 = .ok (.iconst (-1), 1) := by decide +kernel
theorem dX8_bridge_2 : decode cX8_bridge 2 = .ok (.if_icmp .eq 16, 3) := by decide +kernel
theorem dX8_bridge_5 : decode cX8_bridge 5 = .ok (.aload_n 0, 1) := by decide +kernel
theorem dX8_bridge_6 : decode cX8_bridge 6 = .ok (.getfield 28, 3) := by decide +kernel
theorem dX8_bridge_9 : decode cX8_bridge 9 = .ok (.iload_n 1, 1) := by decide +kernel
theorem dX8_bridge_10 : decode cX8_bridge 10 = .ok (.invokevirtual 105, 3) := by decide +kernel
theorem dX8_bridge_13 : decode cX8_bridge 13 = .ok (.ifCond .ne 5, 3) := by decide +kernel
theorem dX8_bridge_16 : decode cX8_bridge 16 = .ok (.iconst (-1), 1) := by decide +kernel
theorem dX8_bridge_17 : decode cX8_bridge 17 = .ok (.ireturn, 1) := by decide +kernel
theorem dX8_bridge_18 : decode cX8_bridge 18 = .ok (.aload_n 0, 1) := by decide +kernel
theorem dX8_bridge_19 : decode cX8_bridge 19 = .ok (.getfield 43, 3) := by decide +kernel
theorem dX8_bridge_22 : decode cX8_bridge 22 = .ok (.aload_n 0, 1) := by decide +kernel
theorem dX8_bridge_23 : decode cX8_bridge 23 = .ok (.getfield 28, 3) := by decide +kernel
theorem dX8_bridge_26 : decode cX8_bridge 26 = .ok (.invokevirtual 134, 3) := by decide +kernel
theorem dX8_bridge_29 : decode cX8_bridge 29 = .ok (.aload_n 0, 1) := by decide +kernel
theorem dX8_bridge_30 : decode cX8_bridge 30 = .ok (.getfield 71, 3) := by decide +kernel
theorem dX8_bridge_33 : decode cX8_bridge 33 = .ok (.aload_n 0, 1) := by decide +kernel
theorem dX8_bridge_34 : decode cX8_bridge 34 = .ok (.getfield 43, 3) := by decide +kernel
theorem dX8_bridge_37 : decode cX8_bridge 37 = .ok (.aload_n 0, 1) := by decide +kernel
theorem dX8_bridge_38 : decode cX8_bridge 38 = .ok (.getfield 28, 3) := by decide +kernel
theorem dX8_bridge_41 : decode cX8_bridge 41 = .ok (.invokevirtual 196, 3) := by decide +kernel
theorem dX8_bridge_44 : decode cX8_bridge 44 = .ok (.iload_n 1, 1) := by decide +kernel
theorem dX8_bridge_45 : decode cX8_bridge 45 = .ok (.iconst (-1), 1) := by decide +kernel
theorem dX8_bridge_46 : decode cX8_bridge 46 = .ok (.if_icmp .ne 13, 3) := by decide +kernel
theorem dX8_bridge_49 : decode cX8_bridge 49 = .ok (.aload_n 0, 1) := by decide +kernel
theorem dX8_bridge_50 : decode cX8_bridge 50 = .ok (.getfield 71, 3) := by decide +kernel
theorem dX8_bridge_53 : decode cX8_bridge 53 = .ok (.invokevirtual 200, 3) := by decide +kernel
theorem dX8_bridge_56 : decode cX8_bridge 56 = .ok (.goto 11, 3) := by decide +kernel
theorem dX8_bridge_59 : decode cX8_bridge 59 = .ok (.aload_n 0, 1) := by decide +kernel
theorem dX8_bridge_60 : decode cX8_bridge 60 = .ok (.getfield 71, 3) := by decide +kernel
theorem dX8_bridge_63 : decode cX8_bridge 63 = .ok (.iload_n 1, 1) := by decide +kernel
theorem dX8_bridge_64 : decode cX8_bridge 64 = .ok (.invokevirtual 204, 3) := by decide +kernel
theorem dX8_bridge_67 : decode cX8_bridge 67 = .ok (.ireturn, 1) := by decide +kernel
theorem dX8_calm_0 : decode cX8_calm 0 = .ok (.iload_n 1, 1) := by decide +kernel
theorem dX8_calm_1 : decode cX8_calm 1 = .ok (.iconst 0, 1) := by decide +kernel
theorem dX8_calm_2 : decode cX8_calm 2 = .ok (.iconst 1, 1) := by decide +kernel
theorem dX8_calm_3 : decode cX8_calm 3 = .ok (.invokestatic 82, 3) := by decide +kernel
theorem dX8_calm_6 : decode cX8_calm 6 = .ok (.ifCond .ne 5, 3) := by decide +kernel
theorem dX8_calm_9 : decode cX8_calm 9 = .ok (.iconst (-1), 1) := by decide +kernel
theorem dX8_calm_10 : decode cX8_calm 10 = .ok (.ireturn, 1) := by decide +kernel
theorem dX8_calm_11 : decode cX8_calm 11 = .ok (.aload_n 0, 1) := by decide +kernel
theorem dX8_calm_12 : decode cX8_calm 12 = .ok (.invokevirtual 157, 3) := by decide +kernel
theorem dX8_calm_15 : decode cX8_calm 15 = .ok (.iconst 0, 1) := by decide +kernel
theorem dX8_calm_16 : decode cX8_calm 16 = .ok (.istore_n 2, 1) := by decide +kernel
theorem dX8_calm_17 : decode cX8_calm 17 = .ok (.bipush (-4), 2) := by decide +kernel
theorem dX8_calm_19 : decode cX8_calm 19 = .ok (.istore_n 3, 1) := by decide +kernel
theorem dX8_calm_20 : decode cX8_calm 20 = .ok (.iconst 0, 1) := by decide +kernel
theorem dX8_calm_21 : decode cX8_calm 21 = .ok (.istore 4, 2) := by decide +kernel
theorem dX8_calm_23 : decode cX8_calm 23 = .ok (.iload 4, 2) := by decide +kernel
theorem dX8_calm_25 : decode cX8_calm 25 = .ok (.aload_n 0, 1) := by decide +kernel
theorem dX8_calm_26 : decode cX8_calm 26 = .ok (.getfield 28, 3) := by decide +kernel
theorem dX8_calm_29 : decode cX8_calm 29 = .ok (.getfield 102, 3) := by decide +kernel
theorem dX8_calm_32 : decode cX8_calm 32 = .ok (.if_icmp .ge 73, 3) := by decide +kernel
theorem dX8_calm_35 : decode cX8_calm 35 = .ok (.iload 4, 2) := by decide +kernel
theorem dX8_calm_37 : decode cX8_calm 37 = .ok (.iconst 1, 1) := by decide +kernel
theorem dX8_calm_38 : decode cX8_calm 38 = .ok (.iadd, 1) := by decide +kernel
theorem dX8_calm_39 : decode cX8_calm 39 = .ok (.istore 5, 2) := by decide +kernel
theorem dX8_calm_41 : decode cX8_calm 41 = .ok (.iload 5, 2) := by decide +kernel
theorem dX8_calm_43 : decode cX8_calm 43 = .ok (.aload_n 0, 1) := by decide +kernel
theorem dX8_calm_44 : decode cX8_calm 44 = .ok (.getfield 28, 3) := by decide +kernel
theorem dX8_calm_47 : decode cX8_calm 47 = .ok (.getfield 102, 3) := by decide +kernel
theorem dX8_calm_50 : decode cX8_calm 50 = .ok (.if_icmp .ge 49, 3) := by decide +kernel
theorem dX8_calm_53 : decode cX8_calm 53 = .ok (.aload_n 0, 1) := by decide +kernel
theorem dX8_calm_54 : decode cX8_calm 54 = .ok (.iload 4, 2) := by decide +kernel
theorem dX8_calm_56 : decode cX8_calm 56 = .ok (.iload 5, 2) := by decide +kernel
theorem dX8_calm_58 : decode cX8_calm 58 = .ok (.invokevirtual 207, 3) := by decide +kernel
theorem dX8_calm_61 : decode cX8_calm 61 = .ok (.ifCond .eq 32, 3) := by decide +kernel
theorem dX8_calm_64 : decode cX8_calm 64 = .ok (.aload_n 0, 1) := by decide +kernel
theorem dX8_calm_65 : decode cX8_calm 65 = .ok (.iload 5, 2) := by decide +kernel
theorem dX8_calm_67 : decode cX8_calm 67 = .ok (.iload 4, 2) := by decide +kernel
theorem dX8_calm_69 : decode cX8_calm 69 = .ok (.invokevirtual 207, 3) := by decide +kernel
theorem dX8_calm_72 : decode cX8_calm 72 = .ok (.ifCond .eq 21, 3) := by decide +kernel
theorem dX8_calm_75 : decode cX8_calm 75 = .ok (.iinc 2 1, 3) := by decide +kernel
theorem dX8_calm_78 : decode cX8_calm 78 = .ok (.iload_n 3, 1) := by decide +kernel
theorem dX8_calm_79 : decode cX8_calm 79 = .ok (.bipush (-4), 2) := by decide +kernel
theorem dX8_calm_81 : decode cX8_calm 81 = .ok (.if_icmp .ne 12, 3) := by decide +kernel
theorem dX8_calm_84 : decode cX8_calm 84 = .ok (.bipush 8, 2) := by decide +kernel
theorem dX8_calm_86 : decode cX8_calm 86 = .ok (.iload 4, 2) := by decide +kernel
theorem dX8_calm_88 : decode cX8_calm 88 = .ok (.imul, 1) := by decide +kernel
theorem dX8_calm_89 : decode cX8_calm 89 = .ok (.iload 5, 2) := by decide +kernel
theorem dX8_calm_91 : decode cX8_calm 91 = .ok (.iadd, 1) := by decide +kernel
theorem dX8_calm_92 : decode cX8_calm 92 = .ok (.istore_n 3, 1) := by decide +kernel
theorem dX8_calm_93 : decode cX8_calm 93 = .ok (.iinc 5 1, 3) := by decide +kernel
theorem dX8_calm_96 : decode cX8_calm 96 = .ok (.goto (-55), 3) := by decide +kernel
theorem dX8_calm_99 : decode cX8_calm 99 = .ok (.iinc 4 1, 3) := by decide +kernel
theorem dX8_calm_102 : decode cX8_calm 102 = .ok (.goto (-79), 3) := by decide +kernel
theorem dX8_calm_105 : decode cX8_calm 105 = .ok (.iload_n 1, 1) := by decide +kernel
theorem dX8_calm_106 : decode cX8_calm 106 = .ok (.ifCond .ne 7, 3) := by decide +kernel
theorem dX8_calm_109 : decode cX8_calm 109 = .ok (.iload_n 2, 1) := by decide +kernel
theorem dX8_calm_110 : decode cX8_calm 110 = .ok (.goto 4, 3) := by decide +kernel
theorem dX8_calm_113 : decode cX8_calm 113 = .ok (.iload_n 3, 1) := by decide +kernel
theorem dX8_calm_114 : decode cX8_calm 114 = .ok (.ireturn, 1) := by decide +kernel
theorem dX8_order_0 : decode cX8_order 0 = .ok (.iload_n 1, 1) := by decide +kernel
theorem dX8_order_1 : decode cX8_order 1 = .ok (.iconst 0, 1) := by decide +kernel
theorem dX8_order_2 : decode cX8_order 2 = .ok (.aload_n 0, 1) := by decide +kernel
theorem dX8_order_3 : decode cX8_order 3 = .ok (.getfield 28, 3) := by decide +kernel
theorem dX8_order_6 : decode cX8_order 6 = .ok (.getfield 102, 3) := by decide +kernel
theorem dX8_order_9 : decode cX8_order 9 = .ok (.invokestatic 82, 3) := by decide +kernel
theorem dX8_order_12 : decode cX8_order 12 = .ok (.ifCond .ne 5, 3) := by decide +kernel
theorem dX8_order_15 : decode cX8_order 15 = .ok (.iconst (-1), 1) := by decide +kernel
theorem dX8_order_16 : decode cX8_order 16 = .ok (.ireturn, 1) := by decide +kernel
theorem dX8_order_17 : decode cX8_order 17 = .ok (.aload_n 0, 1) := by decide +kernel
theorem dX8_order_18 : decode cX8_order 18 = .ok (.getfield 78, 3) := by decide +kernel
theorem dX8_order_21 : decode cX8_order 21 = .ok (.aload_n 0, 1) := by decide +kernel
theorem dX8_order_22 : decode cX8_order 22 = .ok (.getfield 28, 3) := by decide +kernel
theorem dX8_order_25 : decode cX8_order 25 = .ok (.invokevirtual 211, 3) := by decide +kernel
theorem dX8_order_28 : decode cX8_order 28 = .ok (.iload_n 1, 1) := by decide +kernel
theorem dX8_order_29 : decode cX8_order 29 = .ok (.ifCond .ne 15, 3) := by decide +kernel
theorem dX8_order_32 : decode cX8_order 32 = .ok (.aload_n 0, 1) := by decide +kernel
theorem dX8_order_33 : decode cX8_order 33 = .ok (.getfield 78, 3) := by decide +kernel
theorem dX8_order_36 : decode cX8_order 36 = .ok (.getfield 214, 3) := by decide +kernel
theorem dX8_order_39 : decode cX8_order 39 = .ok (.iconst 0, 1) := by decide +kernel
theorem dX8_order_40 : decode cX8_order 40 = .ok (.iaload, 1) := by decide +kernel
theorem dX8_order_41 : decode cX8_order 41 = .ok (.goto 15, 3) := by decide +kernel
theorem dX8_order_44 : decode cX8_order 44 = .ok (.aload_n 0, 1) := by decide +kernel
theorem dX8_order_45 : decode cX8_order 45 = .ok (.getfield 78, 3) := by decide +kernel
theorem dX8_order_48 : decode cX8_order 48 = .ok (.aload_n 0, 1) := by decide +kernel
theorem dX8_order_49 : decode cX8_order 49 = .ok (.getfield 28, 3) := by decide +kernel
theorem dX8_order_52 : decode cX8_order 52 = .ok (.iload_n 1, 1) := by decide +kernel
theorem dX8_order_53 : decode cX8_order 53 = .ok (.invokevirtual 217, 3) := by decide +kernel
theorem dX8_order_56 : decode cX8_order 56 = .ok (.ireturn, 1) := by decide +kernel
theorem dX8_harvest_0 : decode cX8_harvest 0 = .ok (.iload_n 1, 1) := by decide +kernel
theorem dX8_harvest_1 : decode cX8_harvest 1 = .ok (.iconst 1, 1) := by decide +kernel
theorem dX8_harvest_2 : decode cX8_harvest 2 = .ok (.bipush 99, 2) := by decide +kernel
theorem dX8_harvest_4 : decode cX8_harvest 4 = .ok (.invokestatic 82, 3) := by decide +kernel
theorem dX8_harvest_7 : decode cX8_harvest 7 = .ok (.ifCond .eq 14, 3) := by decide +kernel
theorem dX8_harvest_10 : decode cX8_harvest 10 = .ok (.aload_n 0, 1) := by decide +kernel
theorem dX8_harvest_11 : decode cX8_harvest 11 = .ok (.getfield 28, 3) := by decide +kernel
theorem dX8_harvest_14 : decode cX8_harvest 14 = .ok (.getfield 102, 3) := by decide +kernel
theorem dX8_harvest_17 : decode cX8_harvest 17 = .ok (.iconst 1, 1) := by decide +kernel
theorem dX8_harvest_18 : decode cX8_harvest 18 = .ok (.if_icmp .ge 5, 3) := by decide +kernel
theorem dX8_harvest_21 : decode cX8_harvest 21 = .ok (.iconst (-1), 1) := by decide +kernel
theorem dX8_harvest_22 : decode cX8_harvest 22 = .ok (.ireturn, 1) := by decide +kernel
theorem dX8_harvest_23 : decode cX8_harvest 23 = .ok (.aload_n 0, 1) := by decide +kernel
theorem dX8_harvest_24 : decode cX8_harvest 24 = .ok (.invokevirtual 157, 3) := by decide +kernel
theorem dX8_harvest_27 : decode cX8_harvest 27 = .ok (.iconst 0, 1) := by decide +kernel
theorem dX8_harvest_28 : decode cX8_harvest 28 = .ok (.istore_n 2, 1) := by decide +kernel
theorem dX8_harvest_29 : decode cX8_harvest 29 = .ok (.iconst 0, 1) := by decide +kernel
theorem dX8_harvest_30 : decode cX8_harvest 30 = .ok (.istore_n 3, 1) := by decide +kernel
theorem dX8_harvest_31 : decode cX8_harvest 31 = .ok (.iload_n 3, 1) := by decide +kernel
theorem dX8_harvest_32 : decode cX8_harvest 32 = .ok (.iload_n 1, 1) := by decide +kernel
theorem dX8_harvest_33 : decode cX8_harvest 33 = .ok (.if_icmp .ge 37, 3) := by decide +kernel
theorem dX8_harvest_36 : decode cX8_harvest 36 = .ok (.iload_n 2, 1) := by decide +kernel
theorem dX8_harvest_37 : decode cX8_harvest 37 = .ok (.aload_n 0, 1) := by decide +kernel
theorem dX8_harvest_38 : decode cX8_harvest 38 = .ok (.getfield 28, 3) := by decide +kernel
theorem dX8_harvest_41 : decode cX8_harvest 41 = .ok (.getfield 221, 3) := by decide +kernel
theorem dX8_harvest_44 : decode cX8_harvest 44 = .ok (.aload_n 0, 1) := by decide +kernel
theorem dX8_harvest_45 : decode cX8_harvest 45 = .ok (.getfield 43, 3) := by decide +kernel
theorem dX8_harvest_48 : decode cX8_harvest 48 = .ok (.getfield 163, 3) := by decide +kernel
theorem dX8_harvest_51 : decode cX8_harvest 51 = .ok (.iload_n 3, 1) := by decide +kernel
theorem dX8_harvest_52 : decode cX8_harvest 52 = .ok (.aload_n 0, 1) := by decide +kernel
theorem dX8_harvest_53 : decode cX8_harvest 53 = .ok (.getfield 28, 3) := by decide +kernel
theorem dX8_harvest_56 : decode cX8_harvest 56 = .ok (.getfield 102, 3) := by decide +kernel
theorem dX8_harvest_59 : decode cX8_harvest 59 = .ok (.irem, 1) := by decide +kernel
theorem dX8_harvest_60 : decode cX8_harvest 60 = .ok (.iaload, 1) := by decide +kernel
theorem dX8_harvest_61 : decode cX8_harvest 61 = .ok (.iaload, 1) := by decide +kernel
theorem dX8_harvest_62 : decode cX8_harvest 62 = .ok (.iadd, 1) := by decide +kernel
theorem dX8_harvest_63 : decode cX8_harvest 63 = .ok (.istore_n 2, 1) := by decide +kernel
theorem dX8_harvest_64 : decode cX8_harvest 64 = .ok (.iinc 3 1, 3) := by decide +kernel
theorem dX8_harvest_67 : decode cX8_harvest 67 = .ok (.goto (-36), 3) := by decide +kernel
theorem dX8_harvest_70 : decode cX8_harvest 70 = .ok (.iload_n 2, 1) := by decide +kernel
theorem dX8_harvest_71 : decode cX8_harvest 71 = .ok (.ireturn, 1) := by decide +kernel
theorem dX8_odds_0 : decode cX8_odds 0 = .ok (.aload_n 0, 1) := by decide +kernel
theorem dX8_odds_1 : decode cX8_odds 1 = .ok (.getfield 28, 3) := by decide +kernel
theorem dX8_odds_4 : decode cX8_odds 4 = .ok (.iload_n 1, 1) := by decide +kernel
theorem dX8_odds_5 : decode cX8_odds 5 = .ok (.invokevirtual 105, 3) := by decide +kernel
theorem dX8_odds_8 : decode cX8_odds 8 = .ok (.ifCond .eq 32, 3) := by decide +kernel
theorem dX8_odds_11 : decode cX8_odds 11 = .ok (.iload_n 2, 1) := by decide +kernel
theorem dX8_odds_12 : decode cX8_odds 12 = .ok (.iconst 0, 1) := by decide +kernel
theorem dX8_odds_13 : decode cX8_odds 13 = .ok (.iconst 5, 1) := by decide +kernel
theorem dX8_odds_14 : decode cX8_odds 14 = .ok (.invokestatic 82, 3) := by decide +kernel
theorem dX8_odds_17 : decode cX8_odds 17 = .ok (.ifCond .eq 23, 3) := by decide +kernel
theorem dX8_odds_20 : decode cX8_odds 20 = .ok (.iload_n 3, 1) := by decide +kernel
theorem dX8_odds_21 : decode cX8_odds 21 = .ok (.iconst 0, 1) := by decide +kernel
theorem dX8_odds_22 : decode cX8_odds 22 = .ok (.bipush 10, 2) := by decide +kernel
theorem dX8_odds_24 : decode cX8_odds 24 = .ok (.invokestatic 82, 3) := by decide +kernel
theorem dX8_odds_27 : decode cX8_odds 27 = .ok (.ifCond .eq 13, 3) := by decide +kernel
theorem dX8_odds_30 : decode cX8_odds 30 = .ok (.iload 4, 2) := by decide +kernel
theorem dX8_odds_32 : decode cX8_odds 32 = .ok (.iconst 0, 1) := by decide +kernel
theorem dX8_odds_33 : decode cX8_odds 33 = .ok (.iconst 1, 1) := by decide +kernel
theorem dX8_odds_34 : decode cX8_odds 34 = .ok (.invokestatic 82, 3) := by decide +kernel
theorem dX8_odds_37 : decode cX8_odds 37 = .ok (.ifCond .ne 5, 3) := by decide +kernel
theorem dX8_odds_40 : decode cX8_odds 40 = .ok (.iconst (-1), 1) := by decide +kernel
theorem dX8_odds_41 : decode cX8_odds 41 = .ok (.ireturn, 1) := by decide +kernel
theorem dX8_odds_42 : decode cX8_odds 42 = .ok (.iconst 1, 1) := by decide +kernel
theorem dX8_odds_43 : decode cX8_odds 43 = .ok (.istore 5, 2) := by decide +kernel
theorem dX8_odds_45 : decode cX8_odds 45 = .ok (.iconst 0, 1) := by decide +kernel
theorem dX8_odds_46 : decode cX8_odds 46 = .ok (.istore 6, 2) := by decide +kernel
theorem dX8_odds_48 : decode cX8_odds 48 = .ok (.iload 6, 2) := by decide +kernel
theorem dX8_odds_50 : decode cX8_odds 50 = .ok (.iload_n 2, 1) := by decide +kernel
theorem dX8_odds_51 : decode cX8_odds 51 = .ok (.if_icmp .ge 16, 3) := by decide +kernel
theorem dX8_odds_54 : decode cX8_odds 54 = .ok (.iload 5, 2) := by decide +kernel
theorem dX8_odds_56 : decode cX8_odds 56 = .ok (.bipush 10, 2) := by decide +kernel
theorem dX8_odds_58 : decode cX8_odds 58 = .ok (.imul, 1) := by decide +kernel
theorem dX8_odds_59 : decode cX8_odds 59 = .ok (.istore 5, 2) := by decide +kernel
theorem dX8_odds_61 : decode cX8_odds 61 = .ok (.iinc 6 1, 3) := by decide +kernel
theorem dX8_odds_64 : decode cX8_odds 64 = .ok (.goto (-16), 3) := by decide +kernel
theorem dX8_odds_67 : decode cX8_odds 67 = .ok (.aload_n 0, 1) := by decide +kernel
theorem dX8_odds_68 : decode cX8_odds 68 = .ok (.iload_n 1, 1) := by decide +kernel
theorem dX8_odds_69 : decode cX8_odds 69 = .ok (.iload_n 2, 1) := by decide +kernel
theorem dX8_odds_70 : decode cX8_odds 70 = .ok (.iload_n 3, 1) := by decide +kernel
theorem dX8_odds_71 : decode cX8_odds 71 = .ok (.invokevirtual 224, 3) := by decide +kernel
theorem dX8_odds_74 : decode cX8_odds 74 = .ok (.istore 6, 2) := by decide +kernel
theorem dX8_odds_76 : decode cX8_odds 76 = .ok (.iload 6, 2) := by decide +kernel
theorem dX8_odds_78 : decode cX8_odds 78 = .ok (.iload 5, 2) := by decide +kernel
theorem dX8_odds_80 : decode cX8_odds 80 = .ok (.invokestatic 228, 3) := by decide +kernel
theorem dX8_odds_83 : decode cX8_odds 83 = .ok (.istore 7, 2) := by decide +kernel
theorem dX8_odds_85 : decode cX8_odds 85 = .ok (.iload 7, 2) := by decide +kernel
theorem dX8_odds_87 : decode cX8_odds 87 = .ok (.iconst 1, 1) := by decide +kernel
theorem dX8_odds_88 : decode cX8_odds 88 = .ok (.if_icmp .ge 5, 3) := by decide +kernel
theorem dX8_odds_91 : decode cX8_odds 91 = .ok (.iconst (-1), 1) := by decide +kernel
theorem dX8_odds_92 : decode cX8_odds 92 = .ok (.ireturn, 1) := by decide +kernel
theorem dX8_odds_93 : decode cX8_odds 93 = .ok (.iload 4, 2) := by decide +kernel
theorem dX8_odds_95 : decode cX8_odds 95 = .ok (.ifCond .ne 8, 3) := by decide +kernel
theorem dX8_odds_98 : decode cX8_odds 98 = .ok (.iload 6, 2) := by decide +kernel
theorem dX8_odds_100 : decode cX8_odds 100 = .ok (.goto 5, 3) := by decide +kernel
theorem dX8_odds_103 : decode cX8_odds 103 = .ok (.iload 5, 2) := by decide +kernel
theorem dX8_odds_105 : decode cX8_odds 105 = .ok (.iload 7, 2) := by decide +kernel
theorem dX8_odds_107 : decode cX8_odds 107 = .ok (.idiv, 1) := by decide +kernel
theorem dX8_odds_108 : decode cX8_odds 108 = .ok (.ireturn, 1) := by decide +kernel
theorem dX8_seen_0 : decode cX8_seen 0 = .ok (.aload_n 0, 1) := by decide +kernel
theorem dX8_seen_1 : decode cX8_seen 1 = .ok (.getfield 28, 3) := by decide +kernel
theorem dX8_seen_4 : decode cX8_seen 4 = .ok (.iload_n 1, 1) := by decide +kernel
theorem dX8_seen_5 : decode cX8_seen 5 = .ok (.invokevirtual 105, 3) := by decide +kernel
theorem dX8_seen_8 : decode cX8_seen 8 = .ok (.ifCond .eq 18, 3) := by decide +kernel
theorem dX8_seen_11 : decode cX8_seen 11 = .ok (.iload_n 2, 1) := by decide +kernel
theorem dX8_seen_12 : decode cX8_seen 12 = .ok (.iconst 1, 1) := by decide +kernel
theorem dX8_seen_13 : decode cX8_seen 13 = .ok (.aload_n 0, 1) := by decide +kernel
theorem dX8_seen_14 : decode cX8_seen 14 = .ok (.getfield 28, 3) := by decide +kernel
theorem dX8_seen_17 : decode cX8_seen 17 = .ok (.getfield 102, 3) := by decide +kernel
theorem dX8_seen_20 : decode cX8_seen 20 = .ok (.invokestatic 82, 3) := by decide +kernel
theorem dX8_seen_23 : decode cX8_seen 23 = .ok (.ifCond .ne 5, 3) := by decide +kernel
theorem dX8_seen_26 : decode cX8_seen 26 = .ok (.iconst (-1), 1) := by decide +kernel
theorem dX8_seen_27 : decode cX8_seen 27 = .ok (.ireturn, 1) := by decide +kernel
theorem dX8_seen_28 : decode cX8_seen 28 = .ok (.aload_n 0, 1) := by decide +kernel
theorem dX8_seen_29 : decode cX8_seen 29 = .ok (.getfield 64, 3) := by decide +kernel
theorem dX8_seen_32 : decode cX8_seen 32 = .ok (.iload_n 1, 1) := by decide +kernel
theorem dX8_seen_33 : decode cX8_seen 33 = .ok (.iload_n 2, 1) := by decide +kernel
theorem dX8_seen_34 : decode cX8_seen 34 = .ok (.invokevirtual 231, 3) := by decide +kernel
theorem dX8_seen_37 : decode cX8_seen 37 = .ok (.ifCond .eq 13, 3) := by decide +kernel
theorem dX8_seen_40 : decode cX8_seen 40 = .ok (.aload_n 0, 1) := by decide +kernel
theorem dX8_seen_41 : decode cX8_seen 41 = .ok (.getfield 64, 3) := by decide +kernel
theorem dX8_seen_44 : decode cX8_seen 44 = .ok (.getfield 234, 3) := by decide +kernel
theorem dX8_seen_47 : decode cX8_seen 47 = .ok (.goto 5, 3) := by decide +kernel
theorem dX8_seen_50 : decode cX8_seen 50 = .ok (.bipush (-3), 2) := by decide +kernel
theorem dX8_seen_52 : decode cX8_seen 52 = .ok (.ireturn, 1) := by decide +kernel
theorem dX8_forget_0 : decode cX8_forget 0 = .ok (.aload_n 0, 1) := by decide +kernel
theorem dX8_forget_1 : decode cX8_forget 1 = .ok (.getfield 64, 3) := by decide +kernel
theorem dX8_forget_4 : decode cX8_forget 4 = .ok (.getfield 234, 3) := by decide +kernel
theorem dX8_forget_7 : decode cX8_forget 7 = .ok (.istore_n 1, 1) := by decide +kernel
theorem dX8_forget_8 : decode cX8_forget 8 = .ok (.aload_n 0, 1) := by decide +kernel
theorem dX8_forget_9 : decode cX8_forget 9 = .ok (.getfield 64, 3) := by decide +kernel
theorem dX8_forget_12 : decode cX8_forget 12 = .ok (.invokevirtual 101, 3) := by decide +kernel
theorem dX8_forget_15 : decode cX8_forget 15 = .ok (.iload_n 1, 1) := by decide +kernel
theorem dX8_forget_16 : decode cX8_forget 16 = .ok (.ireturn, 1) := by decide +kernel
theorem dX8_rides_0 : decode cX8_rides 0 = .ok (.iload_n 1, 1) := by decide +kernel
theorem dX8_rides_1 : decode cX8_rides 1 = .ok (.iconst 0, 1) := by decide +kernel
theorem dX8_rides_2 : decode cX8_rides 2 = .ok (.iconst 1, 1) := by decide +kernel
theorem dX8_rides_3 : decode cX8_rides 3 = .ok (.invokestatic 82, 3) := by decide +kernel
theorem dX8_rides_6 : decode cX8_rides 6 = .ok (.ifCond .ne 5, 3) := by decide +kernel
theorem dX8_rides_9 : decode cX8_rides 9 = .ok (.iconst (-1), 1) := by decide +kernel
theorem dX8_rides_10 : decode cX8_rides 10 = .ok (.ireturn, 1) := by decide +kernel
theorem dX8_rides_11 : decode cX8_rides 11 = .ok (.aload_n 0, 1) := by decide +kernel
theorem dX8_rides_12 : decode cX8_rides 12 = .ok (.getfield 43, 3) := by decide +kernel
theorem dX8_rides_15 : decode cX8_rides 15 = .ok (.aload_n 0, 1) := by decide +kernel
theorem dX8_rides_16 : decode cX8_rides 16 = .ok (.getfield 28, 3) := by decide +kernel
theorem dX8_rides_19 : decode cX8_rides 19 = .ok (.invokevirtual 134, 3) := by decide +kernel
theorem dX8_rides_22 : decode cX8_rides 22 = .ok (.aload_n 0, 1) := by decide +kernel
theorem dX8_rides_23 : decode cX8_rides 23 = .ok (.getfield 43, 3) := by decide +kernel
theorem dX8_rides_26 : decode cX8_rides 26 = .ok (.invokevirtual 235, 3) := by decide +kernel
theorem dX8_rides_29 : decode cX8_rides 29 = .ok (.iconst 0, 1) := by decide +kernel
theorem dX8_rides_30 : decode cX8_rides 30 = .ok (.istore_n 2, 1) := by decide +kernel
theorem dX8_rides_31 : decode cX8_rides 31 = .ok (.bipush (-4), 2) := by decide +kernel
theorem dX8_rides_33 : decode cX8_rides 33 = .ok (.istore_n 3, 1) := by decide +kernel
theorem dX8_rides_34 : decode cX8_rides 34 = .ok (.iconst 0, 1) := by decide +kernel
theorem dX8_rides_35 : decode cX8_rides 35 = .ok (.istore 4, 2) := by decide +kernel
theorem dX8_rides_37 : decode cX8_rides 37 = .ok (.iload 4, 2) := by decide +kernel
theorem dX8_rides_39 : decode cX8_rides 39 = .ok (.aload_n 0, 1) := by decide +kernel
theorem dX8_rides_40 : decode cX8_rides 40 = .ok (.getfield 28, 3) := by decide +kernel
theorem dX8_rides_43 : decode cX8_rides 43 = .ok (.getfield 102, 3) := by decide +kernel
theorem dX8_rides_46 : decode cX8_rides 46 = .ok (.if_icmp .ge 81, 3) := by decide +kernel
theorem dX8_rides_49 : decode cX8_rides 49 = .ok (.iconst 0, 1) := by decide +kernel
theorem dX8_rides_50 : decode cX8_rides 50 = .ok (.istore 5, 2) := by decide +kernel
theorem dX8_rides_52 : decode cX8_rides 52 = .ok (.iload 5, 2) := by decide +kernel
theorem dX8_rides_54 : decode cX8_rides 54 = .ok (.aload_n 0, 1) := by decide +kernel
theorem dX8_rides_55 : decode cX8_rides 55 = .ok (.getfield 28, 3) := by decide +kernel
theorem dX8_rides_58 : decode cX8_rides 58 = .ok (.getfield 102, 3) := by decide +kernel
theorem dX8_rides_61 : decode cX8_rides 61 = .ok (.if_icmp .ge 60, 3) := by decide +kernel
theorem dX8_rides_64 : decode cX8_rides 64 = .ok (.iload 4, 2) := by decide +kernel
theorem dX8_rides_66 : decode cX8_rides 66 = .ok (.iload 5, 2) := by decide +kernel
theorem dX8_rides_68 : decode cX8_rides 68 = .ok (.if_icmp .eq 47, 3) := by decide +kernel
theorem dX8_rides_71 : decode cX8_rides 71 = .ok (.aload_n 0, 1) := by decide +kernel
theorem dX8_rides_72 : decode cX8_rides 72 = .ok (.getfield 28, 3) := by decide +kernel
theorem dX8_rides_75 : decode cX8_rides 75 = .ok (.getfield 125, 3) := by decide +kernel
theorem dX8_rides_78 : decode cX8_rides 78 = .ok (.iload 4, 2) := by decide +kernel
theorem dX8_rides_80 : decode cX8_rides 80 = .ok (.iaload, 1) := by decide +kernel
theorem dX8_rides_81 : decode cX8_rides 81 = .ok (.bipush (-4), 2) := by decide +kernel
theorem dX8_rides_83 : decode cX8_rides 83 = .ok (.if_icmp .ne 32, 3) := by decide +kernel
theorem dX8_rides_86 : decode cX8_rides 86 = .ok (.aload_n 0, 1) := by decide +kernel
theorem dX8_rides_87 : decode cX8_rides 87 = .ok (.iload 4, 2) := by decide +kernel
theorem dX8_rides_89 : decode cX8_rides 89 = .ok (.iload 5, 2) := by decide +kernel
theorem dX8_rides_91 : decode cX8_rides 91 = .ok (.invokevirtual 238, 3) := by decide +kernel
theorem dX8_rides_94 : decode cX8_rides 94 = .ok (.ifCond .eq 21, 3) := by decide +kernel
theorem dX8_rides_97 : decode cX8_rides 97 = .ok (.iinc 2 1, 3) := by decide +kernel
theorem dX8_rides_100 : decode cX8_rides 100 = .ok (.iload_n 3, 1) := by decide +kernel
theorem dX8_rides_101 : decode cX8_rides 101 = .ok (.bipush (-4), 2) := by decide +kernel
theorem dX8_rides_103 : decode cX8_rides 103 = .ok (.if_icmp .ne 12, 3) := by decide +kernel
theorem dX8_rides_106 : decode cX8_rides 106 = .ok (.bipush 8, 2) := by decide +kernel
theorem dX8_rides_108 : decode cX8_rides 108 = .ok (.iload 4, 2) := by decide +kernel
theorem dX8_rides_110 : decode cX8_rides 110 = .ok (.imul, 1) := by decide +kernel
theorem dX8_rides_111 : decode cX8_rides 111 = .ok (.iload 5, 2) := by decide +kernel
theorem dX8_rides_113 : decode cX8_rides 113 = .ok (.iadd, 1) := by decide +kernel
theorem dX8_rides_114 : decode cX8_rides 114 = .ok (.istore_n 3, 1) := by decide +kernel
theorem dX8_rides_115 : decode cX8_rides 115 = .ok (.iinc 5 1, 3) := by decide +kernel
theorem dX8_rides_118 : decode cX8_rides 118 = .ok (.goto (-66), 3) := by decide +kernel
theorem dX8_rides_121 : decode cX8_rides 121 = .ok (.iinc 4 1, 3) := by decide +kernel
theorem dX8_rides_124 : decode cX8_rides 124 = .ok (.goto (-87), 3) := by decide +kernel
theorem dX8_rides_127 : decode cX8_rides 127 = .ok (.aload_n 0, 1) := by decide +kernel
theorem dX8_rides_128 : decode cX8_rides 128 = .ok (.getfield 43, 3) := by decide +kernel
theorem dX8_rides_131 : decode cX8_rides 131 = .ok (.invokevirtual 184, 3) := by decide +kernel
theorem dX8_rides_134 : decode cX8_rides 134 = .ok (.aload_n 0, 1) := by decide +kernel
theorem dX8_rides_135 : decode cX8_rides 135 = .ok (.getfield 64, 3) := by decide +kernel
theorem dX8_rides_138 : decode cX8_rides 138 = .ok (.aload_n 0, 1) := by decide +kernel
theorem dX8_rides_139 : decode cX8_rides 139 = .ok (.getfield 43, 3) := by decide +kernel
theorem dX8_rides_142 : decode cX8_rides 142 = .ok (.invokevirtual 241, 3) := by decide +kernel
theorem dX8_rides_145 : decode cX8_rides 145 = .ok (.ifCond .eq 15, 3) := by decide +kernel
theorem dX8_rides_148 : decode cX8_rides 148 = .ok (.iinc 2 1, 3) := by decide +kernel
theorem dX8_rides_151 : decode cX8_rides 151 = .ok (.iload_n 3, 1) := by decide +kernel
theorem dX8_rides_152 : decode cX8_rides 152 = .ok (.bipush (-4), 2) := by decide +kernel
theorem dX8_rides_154 : decode cX8_rides 154 = .ok (.if_icmp .ne 6, 3) := by decide +kernel
theorem dX8_rides_157 : decode cX8_rides 157 = .ok (.bipush 64, 2) := by decide +kernel
theorem dX8_rides_159 : decode cX8_rides 159 = .ok (.istore_n 3, 1) := by decide +kernel
theorem dX8_rides_160 : decode cX8_rides 160 = .ok (.iload_n 1, 1) := by decide +kernel
theorem dX8_rides_161 : decode cX8_rides 161 = .ok (.ifCond .ne 7, 3) := by decide +kernel
theorem dX8_rides_164 : decode cX8_rides 164 = .ok (.iload_n 2, 1) := by decide +kernel
theorem dX8_rides_165 : decode cX8_rides 165 = .ok (.goto 4, 3) := by decide +kernel
theorem dX8_rides_168 : decode cX8_rides 168 = .ok (.iload_n 3, 1) := by decide +kernel
theorem dX8_rides_169 : decode cX8_rides 169 = .ok (.ireturn, 1) := by decide +kernel
theorem dX8_river_0 : decode cX8_river 0 = .ok (.iload_n 1, 1) := by decide +kernel
theorem dX8_river_1 : decode cX8_river 1 = .ok (.iconst 0, 1) := by decide +kernel
theorem dX8_river_2 : decode cX8_river 2 = .ok (.sipush 9999, 3) := by decide +kernel
theorem dX8_river_5 : decode cX8_river 5 = .ok (.invokestatic 82, 3) := by decide +kernel
theorem dX8_river_8 : decode cX8_river 8 = .ok (.ifCond .eq 12, 3) := by decide +kernel
theorem dX8_river_11 : decode cX8_river 11 = .ok (.iload_n 2, 1) := by decide +kernel
theorem dX8_river_12 : decode cX8_river 12 = .ok (.iconst 0, 1) := by decide +kernel
theorem dX8_river_13 : decode cX8_river 13 = .ok (.iconst 1, 1) := by decide +kernel
theorem dX8_river_14 : decode cX8_river 14 = .ok (.invokestatic 82, 3) := by decide +kernel
theorem dX8_river_17 : decode cX8_river 17 = .ok (.ifCond .ne 5, 3) := by decide +kernel
theorem dX8_river_20 : decode cX8_river 20 = .ok (.iconst (-1), 1) := by decide +kernel
theorem dX8_river_21 : decode cX8_river 21 = .ok (.ireturn, 1) := by decide +kernel
theorem dX8_river_22 : decode cX8_river 22 = .ok (.aload_n 0, 1) := by decide +kernel
theorem dX8_river_23 : decode cX8_river 23 = .ok (.getfield 43, 3) := by decide +kernel
theorem dX8_river_26 : decode cX8_river 26 = .ok (.aload_n 0, 1) := by decide +kernel
theorem dX8_river_27 : decode cX8_river 27 = .ok (.getfield 28, 3) := by decide +kernel
theorem dX8_river_30 : decode cX8_river 30 = .ok (.invokevirtual 134, 3) := by decide +kernel
theorem dX8_river_33 : decode cX8_river 33 = .ok (.aload_n 0, 1) := by decide +kernel
theorem dX8_river_34 : decode cX8_river 34 = .ok (.getfield 43, 3) := by decide +kernel
theorem dX8_river_37 : decode cX8_river 37 = .ok (.iload_n 1, 1) := by decide +kernel
theorem dX8_river_38 : decode cX8_river 38 = .ok (.invokevirtual 245, 3) := by decide +kernel
theorem dX8_river_41 : decode cX8_river 41 = .ok (.aload_n 0, 1) := by decide +kernel
theorem dX8_river_42 : decode cX8_river 42 = .ok (.getfield 43, 3) := by decide +kernel
theorem dX8_river_45 : decode cX8_river 45 = .ok (.invokevirtual 184, 3) := by decide +kernel
theorem dX8_river_48 : decode cX8_river 48 = .ok (.iload_n 2, 1) := by decide +kernel
theorem dX8_river_49 : decode cX8_river 49 = .ok (.ifCond .ne 15, 3) := by decide +kernel
theorem dX8_river_52 : decode cX8_river 52 = .ok (.aload_n 0, 1) := by decide +kernel
theorem dX8_river_53 : decode cX8_river 53 = .ok (.getfield 43, 3) := by decide +kernel
theorem dX8_river_56 : decode cX8_river 56 = .ok (.getfield 163, 3) := by decide +kernel
theorem dX8_river_59 : decode cX8_river 59 = .ok (.iconst 0, 1) := by decide +kernel
theorem dX8_river_60 : decode cX8_river 60 = .ok (.iaload, 1) := by decide +kernel
theorem dX8_river_61 : decode cX8_river 61 = .ok (.goto 10, 3) := by decide +kernel
theorem dX8_river_64 : decode cX8_river 64 = .ok (.aload_n 0, 1) := by decide +kernel
theorem dX8_river_65 : decode cX8_river 65 = .ok (.getfield 43, 3) := by decide +kernel
theorem dX8_river_68 : decode cX8_river 68 = .ok (.invokevirtual 248, 3) := by decide +kernel
theorem dX8_river_71 : decode cX8_river 71 = .ok (.ireturn, 1) := by decide +kernel
theorem dX8_keep_0 : decode cX8_keep 0 = .ok (.aload_n 0, 1) := by decide +kernel
theorem dX8_keep_1 : decode cX8_keep 1 = .ok (.getfield 57, 3) := by decide +kernel
theorem dX8_keep_4 : decode cX8_keep 4 = .ok (.aload_n 0, 1) := by decide +kernel
theorem dX8_keep_5 : decode cX8_keep 5 = .ok (.getfield 28, 3) := by decide +kernel
theorem dX8_keep_8 : decode cX8_keep 8 = .ok (.invokevirtual 251, 3) := by decide +kernel
theorem dX8_keep_11 : decode cX8_keep 11 = .ok (.ifCond .eq 13, 3) := by decide +kernel
theorem dX8_keep_14 : decode cX8_keep 14 = .ok (.aload_n 0, 1) := by decide +kernel
theorem dX8_keep_15 : decode cX8_keep 15 = .ok (.getfield 57, 3) := by decide +kernel
theorem dX8_keep_18 : decode cX8_keep 18 = .ok (.getfield 254, 3) := by decide +kernel
theorem dX8_keep_21 : decode cX8_keep 21 = .ok (.goto 5, 3) := by decide +kernel
theorem dX8_keep_24 : decode cX8_keep 24 = .ok (.bipush (-3), 2) := by decide +kernel
theorem dX8_keep_26 : decode cX8_keep 26 = .ok (.ireturn, 1) := by decide +kernel
theorem dX8_restore_0 : decode cX8_restore 0 = .ok (.aload_n 0, 1) := by decide +kernel
theorem dX8_restore_1 : decode cX8_restore 1 = .ok (.getfield 57, 3) := by decide +kernel
theorem dX8_restore_4 : decode cX8_restore 4 = .ok (.aload_n 0, 1) := by decide +kernel
theorem dX8_restore_5 : decode cX8_restore 5 = .ok (.getfield 28, 3) := by decide +kernel
theorem dX8_restore_8 : decode cX8_restore 8 = .ok (.invokevirtual 255, 3) := by decide +kernel
theorem dX8_restore_11 : decode cX8_restore 11 = .ok (.ifCond .ne 6, 3) := by decide +kernel
theorem dX8_restore_14 : decode cX8_restore 14 = .ok (.bipush (-2), 2) := by decide +kernel
theorem dX8_restore_16 : decode cX8_restore 16 = .ok (.ireturn, 1) := by decide +kernel
theorem dX8_restore_17 : decode cX8_restore 17 = .ok (.aload_n 0, 1) := by decide +kernel
theorem dX8_restore_18 : decode cX8_restore 18 = .ok (.getfield 50, 3) := by decide +kernel
theorem dX8_restore_21 : decode cX8_restore 21 = .ok (.invokevirtual 97, 3) := by decide +kernel
theorem dX8_restore_24 : decode cX8_restore 24 = .ok (.aload_n 0, 1) := by decide +kernel
theorem dX8_restore_25 : decode cX8_restore 25 = .ok (.getfield 57, 3) := by decide +kernel
theorem dX8_restore_28 : decode cX8_restore 28 = .ok (.getfield 254, 3) := by decide +kernel
theorem dX8_restore_31 : decode cX8_restore 31 = .ok (.ireturn, 1) := by decide +kernel
theorem dX8_count_0 : decode cX8_count 0 = .ok (.iload_n 1, 1) := by decide +kernel
theorem dX8_count_1 : decode cX8_count 1 = .ok (.tableswitch 120 0 8 #[51, 59, 67, 75, 83, 91, 99, 107, 115], 51) := by decide +kernel
theorem dX8_count_52 : decode cX8_count 52 = .ok (.aload_n 0, 1) := by decide +kernel
theorem dX8_count_53 : decode cX8_count 53 = .ok (.getfield 28, 3) := by decide +kernel
theorem dX8_count_56 : decode cX8_count 56 = .ok (.getfield 102, 3) := by decide +kernel
theorem dX8_count_59 : decode cX8_count 59 = .ok (.ireturn, 1) := by decide +kernel
theorem dX8_count_60 : decode cX8_count 60 = .ok (.aload_n 0, 1) := by decide +kernel
theorem dX8_count_61 : decode cX8_count 61 = .ok (.getfield 28, 3) := by decide +kernel
theorem dX8_count_64 : decode cX8_count 64 = .ok (.getfield 148, 3) := by decide +kernel
theorem dX8_count_67 : decode cX8_count 67 = .ok (.ireturn, 1) := by decide +kernel
theorem dX8_count_68 : decode cX8_count 68 = .ok (.aload_n 0, 1) := by decide +kernel
theorem dX8_count_69 : decode cX8_count 69 = .ok (.getfield 28, 3) := by decide +kernel
theorem dX8_count_72 : decode cX8_count 72 = .ok (.getfield 258, 3) := by decide +kernel
theorem dX8_count_75 : decode cX8_count 75 = .ok (.ireturn, 1) := by decide +kernel
theorem dX8_count_76 : decode cX8_count 76 = .ok (.aload_n 0, 1) := by decide +kernel
theorem dX8_count_77 : decode cX8_count 77 = .ok (.getfield 28, 3) := by decide +kernel
theorem dX8_count_80 : decode cX8_count 80 = .ok (.getfield 261, 3) := by decide +kernel
theorem dX8_count_83 : decode cX8_count 83 = .ok (.ireturn, 1) := by decide +kernel
theorem dX8_count_84 : decode cX8_count 84 = .ok (.aload_n 0, 1) := by decide +kernel
theorem dX8_count_85 : decode cX8_count 85 = .ok (.getfield 28, 3) := by decide +kernel
theorem dX8_count_88 : decode cX8_count 88 = .ok (.invokevirtual 264, 3) := by decide +kernel
theorem dX8_count_91 : decode cX8_count 91 = .ok (.ireturn, 1) := by decide +kernel
theorem dX8_count_92 : decode cX8_count 92 = .ok (.aload_n 0, 1) := by decide +kernel
theorem dX8_count_93 : decode cX8_count 93 = .ok (.getfield 64, 3) := by decide +kernel
theorem dX8_count_96 : decode cX8_count 96 = .ok (.getfield 234, 3) := by decide +kernel
theorem dX8_count_99 : decode cX8_count 99 = .ok (.ireturn, 1) := by decide +kernel
theorem dX8_count_100 : decode cX8_count 100 = .ok (.aload_n 0, 1) := by decide +kernel
theorem dX8_count_101 : decode cX8_count 101 = .ok (.getfield 50, 3) := by decide +kernel
theorem dX8_count_104 : decode cX8_count 104 = .ok (.getfield 180, 3) := by decide +kernel
theorem dX8_count_107 : decode cX8_count 107 = .ok (.ireturn, 1) := by decide +kernel
theorem dX8_count_108 : decode cX8_count 108 = .ok (.aload_n 0, 1) := by decide +kernel
theorem dX8_count_109 : decode cX8_count 109 = .ok (.getfield 57, 3) := by decide +kernel
theorem dX8_count_112 : decode cX8_count 112 = .ok (.getfield 254, 3) := by decide +kernel
theorem dX8_count_115 : decode cX8_count 115 = .ok (.ireturn, 1) := by decide +kernel
theorem dX8_count_116 : decode cX8_count 116 = .ok (.aload_n 0, 1) := by decide +kernel
theorem dX8_count_117 : decode cX8_count 117 = .ok (.getfield 13, 3) := by decide +kernel
theorem dX8_count_120 : decode cX8_count 120 = .ok (.ireturn, 1) := by decide +kernel
theorem dX8_count_121 : decode cX8_count 121 = .ok (.iconst (-1), 1) := by decide +kernel
theorem dX8_count_122 : decode cX8_count 122 = .ok (.ireturn, 1) := by decide +kernel
theorem dX8_firstRiver_0 : decode cX8_firstRiver 0 = .ok (.new 32, 3) := by decide +kernel
theorem dX8_firstRiver_3 : decode cX8_firstRiver 3 = .ok (.dup, 1) := by decide +kernel
theorem dX8_firstRiver_4 : decode cX8_firstRiver 4 = .ok (.invokespecial 34, 3) := by decide +kernel
theorem dX8_firstRiver_7 : decode cX8_firstRiver 7 = .ok (.astore_n 0, 1) := by decide +kernel
theorem dX8_firstRiver_8 : decode cX8_firstRiver 8 = .ok (.ldc_w 267, 3) := by decide +kernel
theorem dX8_firstRiver_11 : decode cX8_firstRiver 11 = .ok (.invokevirtual 269, 3) := by decide +kernel
theorem dX8_firstRiver_14 : decode cX8_firstRiver 14 = .ok (.astore_n 1, 1) := by decide +kernel
theorem dX8_firstRiver_15 : decode cX8_firstRiver 15 = .ok (.new 17, 3) := by decide +kernel
theorem dX8_firstRiver_18 : decode cX8_firstRiver 18 = .ok (.dup, 1) := by decide +kernel
theorem dX8_firstRiver_19 : decode cX8_firstRiver 19 = .ok (.invokespecial 19, 3) := by decide +kernel
theorem dX8_firstRiver_22 : decode cX8_firstRiver 22 = .ok (.aload_n 1, 1) := by decide +kernel
theorem dX8_firstRiver_23 : decode cX8_firstRiver 23 = .ok (.aload_n 1, 1) := by decide +kernel
theorem dX8_firstRiver_24 : decode cX8_firstRiver 24 = .ok (.arraylength, 1) := by decide +kernel
theorem dX8_firstRiver_25 : decode cX8_firstRiver 25 = .ok (.aload_n 0, 1) := by decide +kernel
theorem dX8_firstRiver_26 : decode cX8_firstRiver 26 = .ok (.invokevirtual 86, 3) := by decide +kernel
theorem dX8_firstRiver_29 : decode cX8_firstRiver 29 = .ok (.pop, 1) := by decide +kernel
theorem dX8_firstRiver_30 : decode cX8_firstRiver 30 = .ok (.aload_n 0, 1) := by decide +kernel
theorem dX8_firstRiver_31 : decode cX8_firstRiver 31 = .ok (.invokevirtual 94, 3) := by decide +kernel
theorem dX8_firstRiver_34 : decode cX8_firstRiver 34 = .ok (.aload_n 0, 1) := by decide +kernel
theorem dX8_firstRiver_35 : decode cX8_firstRiver 35 = .ok (.areturn, 1) := by decide +kernel
theorem dX8_within_0 : decode cX8_within 0 = .ok (.iload_n 0, 1) := by decide +kernel
theorem dX8_within_1 : decode cX8_within 1 = .ok (.iload_n 1, 1) := by decide +kernel
theorem dX8_within_2 : decode cX8_within 2 = .ok (.if_icmp .lt 12, 3) := by decide +kernel
theorem dX8_within_5 : decode cX8_within 5 = .ok (.iload_n 0, 1) := by decide +kernel
theorem dX8_within_6 : decode cX8_within 6 = .ok (.iload_n 2, 1) := by decide +kernel
theorem dX8_within_7 : decode cX8_within 7 = .ok (.if_icmp .gt 7, 3) := by decide +kernel
theorem dX8_within_10 : decode cX8_within 10 = .ok (.iconst 1, 1) := by decide +kernel
theorem dX8_within_11 : decode cX8_within 11 = .ok (.goto 4, 3) := by decide +kernel
theorem dX8_within_14 : decode cX8_within 14 = .ok (.iconst 0, 1) := by decide +kernel
theorem dX8_within_15 : decode cX8_within 15 = .ok (.ireturn, 1) := by decide +kernel
theorem dX8_commonDivisor_0 : decode cX8_commonDivisor 0 = .ok (.iload_n 0, 1) := by decide +kernel
theorem dX8_commonDivisor_1 : decode cX8_commonDivisor 1 = .ok (.istore_n 2, 1) := by decide +kernel
theorem dX8_commonDivisor_2 : decode cX8_commonDivisor 2 = .ok (.iload_n 1, 1) := by decide +kernel
theorem dX8_commonDivisor_3 : decode cX8_commonDivisor 3 = .ok (.istore_n 3, 1) := by decide +kernel
theorem dX8_commonDivisor_4 : decode cX8_commonDivisor 4 = .ok (.iconst 0, 1) := by decide +kernel
theorem dX8_commonDivisor_5 : decode cX8_commonDivisor 5 = .ok (.istore 4, 2) := by decide +kernel
theorem dX8_commonDivisor_7 : decode cX8_commonDivisor 7 = .ok (.iload 4, 2) := by decide +kernel
theorem dX8_commonDivisor_9 : decode cX8_commonDivisor 9 = .ok (.bipush 64, 2) := by decide +kernel
theorem dX8_commonDivisor_11 : decode cX8_commonDivisor 11 = .ok (.if_icmp .ge 23, 3) := by decide +kernel
theorem dX8_commonDivisor_14 : decode cX8_commonDivisor 14 = .ok (.iload_n 3, 1) := by decide +kernel
theorem dX8_commonDivisor_15 : decode cX8_commonDivisor 15 = .ok (.ifCond .eq 19, 3) := by decide +kernel
theorem dX8_commonDivisor_18 : decode cX8_commonDivisor 18 = .ok (.iload_n 2, 1) := by decide +kernel
theorem dX8_commonDivisor_19 : decode cX8_commonDivisor 19 = .ok (.iload_n 3, 1) := by decide +kernel
theorem dX8_commonDivisor_20 : decode cX8_commonDivisor 20 = .ok (.irem, 1) := by decide +kernel
theorem dX8_commonDivisor_21 : decode cX8_commonDivisor 21 = .ok (.istore 5, 2) := by decide +kernel
theorem dX8_commonDivisor_23 : decode cX8_commonDivisor 23 = .ok (.iload_n 3, 1) := by decide +kernel
theorem dX8_commonDivisor_24 : decode cX8_commonDivisor 24 = .ok (.istore_n 2, 1) := by decide +kernel
theorem dX8_commonDivisor_25 : decode cX8_commonDivisor 25 = .ok (.iload 5, 2) := by decide +kernel
theorem dX8_commonDivisor_27 : decode cX8_commonDivisor 27 = .ok (.istore_n 3, 1) := by decide +kernel
theorem dX8_commonDivisor_28 : decode cX8_commonDivisor 28 = .ok (.iinc 4 1, 3) := by decide +kernel
theorem dX8_commonDivisor_31 : decode cX8_commonDivisor 31 = .ok (.goto (-24), 3) := by decide +kernel
theorem dX8_commonDivisor_34 : decode cX8_commonDivisor 34 = .ok (.iload_n 2, 1) := by decide +kernel
theorem dX8_commonDivisor_35 : decode cX8_commonDivisor 35 = .ok (.ireturn, 1) := by decide +kernel
theorem dX8_raceAsItIs_0 : decode cX8_raceAsItIs 0 = .ok (.aload_n 0, 1) := by decide +kernel
theorem dX8_raceAsItIs_1 : decode cX8_raceAsItIs 1 = .ok (.getfield 43, 3) := by decide +kernel
theorem dX8_raceAsItIs_4 : decode cX8_raceAsItIs 4 = .ok (.aload_n 0, 1) := by decide +kernel
theorem dX8_raceAsItIs_5 : decode cX8_raceAsItIs 5 = .ok (.getfield 28, 3) := by decide +kernel
theorem dX8_raceAsItIs_8 : decode cX8_raceAsItIs 8 = .ok (.invokevirtual 134, 3) := by decide +kernel
theorem dX8_raceAsItIs_11 : decode cX8_raceAsItIs 11 = .ok (.aload_n 0, 1) := by decide +kernel
theorem dX8_raceAsItIs_12 : decode cX8_raceAsItIs 12 = .ok (.getfield 43, 3) := by decide +kernel
theorem dX8_raceAsItIs_15 : decode cX8_raceAsItIs 15 = .ok (.invokevirtual 184, 3) := by decide +kernel
theorem dX8_raceAsItIs_18 : decode cX8_raceAsItIs 18 = .ok (.return_, 1) := by decide +kernel
theorem dX8_changeCarrier_0 : decode cX8_changeCarrier 0 = .ok (.aload_n 0, 1) := by decide +kernel
theorem dX8_changeCarrier_1 : decode cX8_changeCarrier 1 = .ok (.getfield 28, 3) := by decide +kernel
theorem dX8_changeCarrier_4 : decode cX8_changeCarrier 4 = .ok (.getfield 122, 3) := by decide +kernel
theorem dX8_changeCarrier_7 : decode cX8_changeCarrier 7 = .ok (.iload_n 1, 1) := by decide +kernel
theorem dX8_changeCarrier_8 : decode cX8_changeCarrier 8 = .ok (.iaload, 1) := by decide +kernel
theorem dX8_changeCarrier_9 : decode cX8_changeCarrier 9 = .ok (.istore_n 3, 1) := by decide +kernel
theorem dX8_changeCarrier_10 : decode cX8_changeCarrier 10 = .ok (.aload_n 0, 1) := by decide +kernel
theorem dX8_changeCarrier_11 : decode cX8_changeCarrier 11 = .ok (.getfield 50, 3) := by decide +kernel
theorem dX8_changeCarrier_14 : decode cX8_changeCarrier 14 = .ok (.aload_n 0, 1) := by decide +kernel
theorem dX8_changeCarrier_15 : decode cX8_changeCarrier 15 = .ok (.getfield 28, 3) := by decide +kernel
theorem dX8_changeCarrier_18 : decode cX8_changeCarrier 18 = .ok (.iload_n 1, 1) := by decide +kernel
theorem dX8_changeCarrier_19 : decode cX8_changeCarrier 19 = .ok (.invokevirtual 166, 3) := by decide +kernel
theorem dX8_changeCarrier_22 : decode cX8_changeCarrier 22 = .ok (.aload_n 0, 1) := by decide +kernel
theorem dX8_changeCarrier_23 : decode cX8_changeCarrier 23 = .ok (.getfield 28, 3) := by decide +kernel
theorem dX8_changeCarrier_26 : decode cX8_changeCarrier 26 = .ok (.getfield 122, 3) := by decide +kernel
theorem dX8_changeCarrier_29 : decode cX8_changeCarrier 29 = .ok (.iload_n 1, 1) := by decide +kernel
theorem dX8_changeCarrier_30 : decode cX8_changeCarrier 30 = .ok (.iload_n 2, 1) := by decide +kernel
theorem dX8_changeCarrier_31 : decode cX8_changeCarrier 31 = .ok (.iastore, 1) := by decide +kernel
theorem dX8_changeCarrier_32 : decode cX8_changeCarrier 32 = .ok (.iload_n 3, 1) := by decide +kernel
theorem dX8_changeCarrier_33 : decode cX8_changeCarrier 33 = .ok (.ireturn, 1) := by decide +kernel
theorem dX8_rankRidingOn_0 : decode cX8_rankRidingOn 0 = .ok (.aload_n 0, 1) := by decide +kernel
theorem dX8_rankRidingOn_1 : decode cX8_rankRidingOn 1 = .ok (.getfield 43, 3) := by decide +kernel
theorem dX8_rankRidingOn_4 : decode cX8_rankRidingOn 4 = .ok (.getfield 275, 3) := by decide +kernel
theorem dX8_rankRidingOn_7 : decode cX8_rankRidingOn 7 = .ok (.iload_n 1, 1) := by decide +kernel
theorem dX8_rankRidingOn_8 : decode cX8_rankRidingOn 8 = .ok (.iload_n 2, 1) := by decide +kernel
theorem dX8_rankRidingOn_9 : decode cX8_rankRidingOn 9 = .ok (.iastore, 1) := by decide +kernel
theorem dX8_rankRidingOn_10 : decode cX8_rankRidingOn 10 = .ok (.aload_n 0, 1) := by decide +kernel
theorem dX8_rankRidingOn_11 : decode cX8_rankRidingOn 11 = .ok (.getfield 43, 3) := by decide +kernel
theorem dX8_rankRidingOn_14 : decode cX8_rankRidingOn 14 = .ok (.invokevirtual 184, 3) := by decide +kernel
theorem dX8_rankRidingOn_17 : decode cX8_rankRidingOn 17 = .ok (.aload_n 0, 1) := by decide +kernel
theorem dX8_rankRidingOn_18 : decode cX8_rankRidingOn 18 = .ok (.getfield 43, 3) := by decide +kernel
theorem dX8_rankRidingOn_21 : decode cX8_rankRidingOn 21 = .ok (.getfield 160, 3) := by decide +kernel
theorem dX8_rankRidingOn_24 : decode cX8_rankRidingOn 24 = .ok (.iload_n 1, 1) := by decide +kernel
theorem dX8_rankRidingOn_25 : decode cX8_rankRidingOn 25 = .ok (.iaload, 1) := by decide +kernel
theorem dX8_rankRidingOn_26 : decode cX8_rankRidingOn 26 = .ok (.ireturn, 1) := by decide +kernel
theorem dX8_lightOnes_0 : decode cX8_lightOnes 0 = .ok (.iconst 0, 1) := by decide +kernel
theorem dX8_lightOnes_1 : decode cX8_lightOnes 1 = .ok (.istore_n 2, 1) := by decide +kernel
theorem dX8_lightOnes_2 : decode cX8_lightOnes 2 = .ok (.iconst 0, 1) := by decide +kernel
theorem dX8_lightOnes_3 : decode cX8_lightOnes 3 = .ok (.istore_n 3, 1) := by decide +kernel
theorem dX8_lightOnes_4 : decode cX8_lightOnes 4 = .ok (.iload_n 3, 1) := by decide +kernel
theorem dX8_lightOnes_5 : decode cX8_lightOnes 5 = .ok (.aload_n 0, 1) := by decide +kernel
theorem dX8_lightOnes_6 : decode cX8_lightOnes 6 = .ok (.getfield 28, 3) := by decide +kernel
theorem dX8_lightOnes_9 : decode cX8_lightOnes 9 = .ok (.getfield 102, 3) := by decide +kernel
theorem dX8_lightOnes_12 : decode cX8_lightOnes 12 = .ok (.if_icmp .ge 57, 3) := by decide +kernel
theorem dX8_lightOnes_15 : decode cX8_lightOnes 15 = .ok (.iload_n 2, 1) := by decide +kernel
theorem dX8_lightOnes_16 : decode cX8_lightOnes 16 = .ok (.aload_n 0, 1) := by decide +kernel
theorem dX8_lightOnes_17 : decode cX8_lightOnes 17 = .ok (.getfield 28, 3) := by decide +kernel
theorem dX8_lightOnes_20 : decode cX8_lightOnes 20 = .ok (.getfield 125, 3) := by decide +kernel
theorem dX8_lightOnes_23 : decode cX8_lightOnes 23 = .ok (.iload_n 3, 1) := by decide +kernel
theorem dX8_lightOnes_24 : decode cX8_lightOnes 24 = .ok (.iaload, 1) := by decide +kernel
theorem dX8_lightOnes_25 : decode cX8_lightOnes 25 = .ok (.bipush (-4), 2) := by decide +kernel
theorem dX8_lightOnes_27 : decode cX8_lightOnes 27 = .ok (.if_icmp .ne 33, 3) := by decide +kernel
theorem dX8_lightOnes_30 : decode cX8_lightOnes 30 = .ok (.aload_n 0, 1) := by decide +kernel
theorem dX8_lightOnes_31 : decode cX8_lightOnes 31 = .ok (.getfield 28, 3) := by decide +kernel
theorem dX8_lightOnes_34 : decode cX8_lightOnes 34 = .ok (.getfield 116, 3) := by decide +kernel
theorem dX8_lightOnes_37 : decode cX8_lightOnes 37 = .ok (.iload_n 3, 1) := by decide +kernel
theorem dX8_lightOnes_38 : decode cX8_lightOnes 38 = .ok (.iaload, 1) := by decide +kernel
theorem dX8_lightOnes_39 : decode cX8_lightOnes 39 = .ok (.iconst 1, 1) := by decide +kernel
theorem dX8_lightOnes_40 : decode cX8_lightOnes 40 = .ok (.if_icmp .ne 20, 3) := by decide +kernel
theorem dX8_lightOnes_43 : decode cX8_lightOnes 43 = .ok (.aload_n 0, 1) := by decide +kernel
theorem dX8_lightOnes_44 : decode cX8_lightOnes 44 = .ok (.getfield 28, 3) := by decide +kernel
theorem dX8_lightOnes_47 : decode cX8_lightOnes 47 = .ok (.getfield 113, 3) := by decide +kernel
theorem dX8_lightOnes_50 : decode cX8_lightOnes 50 = .ok (.iload_n 3, 1) := by decide +kernel
theorem dX8_lightOnes_51 : decode cX8_lightOnes 51 = .ok (.iaload, 1) := by decide +kernel
theorem dX8_lightOnes_52 : decode cX8_lightOnes 52 = .ok (.iload_n 1, 1) := by decide +kernel
theorem dX8_lightOnes_53 : decode cX8_lightOnes 53 = .ok (.if_icmp .ne 7, 3) := by decide +kernel
theorem dX8_lightOnes_56 : decode cX8_lightOnes 56 = .ok (.iconst 1, 1) := by decide +kernel
theorem dX8_lightOnes_57 : decode cX8_lightOnes 57 = .ok (.goto 4, 3) := by decide +kernel
theorem dX8_lightOnes_60 : decode cX8_lightOnes 60 = .ok (.iconst 0, 1) := by decide +kernel
theorem dX8_lightOnes_61 : decode cX8_lightOnes 61 = .ok (.iadd, 1) := by decide +kernel
theorem dX8_lightOnes_62 : decode cX8_lightOnes 62 = .ok (.istore_n 2, 1) := by decide +kernel
theorem dX8_lightOnes_63 : decode cX8_lightOnes 63 = .ok (.iinc 3 1, 3) := by decide +kernel
theorem dX8_lightOnes_66 : decode cX8_lightOnes 66 = .ok (.goto (-62), 3) := by decide +kernel
theorem dX8_lightOnes_69 : decode cX8_lightOnes 69 = .ok (.iload_n 2, 1) := by decide +kernel
theorem dX8_lightOnes_70 : decode cX8_lightOnes 70 = .ok (.ireturn, 1) := by decide +kernel
theorem dX8_bearersOf_0 : decode cX8_bearersOf 0 = .ok (.iconst 0, 1) := by decide +kernel
theorem dX8_bearersOf_1 : decode cX8_bearersOf 1 = .ok (.istore_n 2, 1) := by decide +kernel
theorem dX8_bearersOf_2 : decode cX8_bearersOf 2 = .ok (.iconst 0, 1) := by decide +kernel
theorem dX8_bearersOf_3 : decode cX8_bearersOf 3 = .ok (.istore_n 3, 1) := by decide +kernel
theorem dX8_bearersOf_4 : decode cX8_bearersOf 4 = .ok (.iload_n 3, 1) := by decide +kernel
theorem dX8_bearersOf_5 : decode cX8_bearersOf 5 = .ok (.aload_n 0, 1) := by decide +kernel
theorem dX8_bearersOf_6 : decode cX8_bearersOf 6 = .ok (.getfield 28, 3) := by decide +kernel
theorem dX8_bearersOf_9 : decode cX8_bearersOf 9 = .ok (.getfield 102, 3) := by decide +kernel
theorem dX8_bearersOf_12 : decode cX8_bearersOf 12 = .ok (.if_icmp .ge 57, 3) := by decide +kernel
theorem dX8_bearersOf_15 : decode cX8_bearersOf 15 = .ok (.iload_n 2, 1) := by decide +kernel
theorem dX8_bearersOf_16 : decode cX8_bearersOf 16 = .ok (.aload_n 0, 1) := by decide +kernel
theorem dX8_bearersOf_17 : decode cX8_bearersOf 17 = .ok (.getfield 28, 3) := by decide +kernel
theorem dX8_bearersOf_20 : decode cX8_bearersOf 20 = .ok (.getfield 125, 3) := by decide +kernel
theorem dX8_bearersOf_23 : decode cX8_bearersOf 23 = .ok (.iload_n 3, 1) := by decide +kernel
theorem dX8_bearersOf_24 : decode cX8_bearersOf 24 = .ok (.iaload, 1) := by decide +kernel
theorem dX8_bearersOf_25 : decode cX8_bearersOf 25 = .ok (.bipush (-4), 2) := by decide +kernel
theorem dX8_bearersOf_27 : decode cX8_bearersOf 27 = .ok (.if_icmp .ne 33, 3) := by decide +kernel
theorem dX8_bearersOf_30 : decode cX8_bearersOf 30 = .ok (.aload_n 0, 1) := by decide +kernel
theorem dX8_bearersOf_31 : decode cX8_bearersOf 31 = .ok (.getfield 28, 3) := by decide +kernel
theorem dX8_bearersOf_34 : decode cX8_bearersOf 34 = .ok (.getfield 116, 3) := by decide +kernel
theorem dX8_bearersOf_37 : decode cX8_bearersOf 37 = .ok (.iload_n 3, 1) := by decide +kernel
theorem dX8_bearersOf_38 : decode cX8_bearersOf 38 = .ok (.iaload, 1) := by decide +kernel
theorem dX8_bearersOf_39 : decode cX8_bearersOf 39 = .ok (.iconst 1, 1) := by decide +kernel
theorem dX8_bearersOf_40 : decode cX8_bearersOf 40 = .ok (.if_icmp .eq 20, 3) := by decide +kernel
theorem dX8_bearersOf_43 : decode cX8_bearersOf 43 = .ok (.aload_n 0, 1) := by decide +kernel
theorem dX8_bearersOf_44 : decode cX8_bearersOf 44 = .ok (.getfield 28, 3) := by decide +kernel
theorem dX8_bearersOf_47 : decode cX8_bearersOf 47 = .ok (.getfield 113, 3) := by decide +kernel
theorem dX8_bearersOf_50 : decode cX8_bearersOf 50 = .ok (.iload_n 3, 1) := by decide +kernel
theorem dX8_bearersOf_51 : decode cX8_bearersOf 51 = .ok (.iaload, 1) := by decide +kernel
theorem dX8_bearersOf_52 : decode cX8_bearersOf 52 = .ok (.iload_n 1, 1) := by decide +kernel
theorem dX8_bearersOf_53 : decode cX8_bearersOf 53 = .ok (.if_icmp .le 7, 3) := by decide +kernel
theorem dX8_bearersOf_56 : decode cX8_bearersOf 56 = .ok (.iconst 1, 1) := by decide +kernel
theorem dX8_bearersOf_57 : decode cX8_bearersOf 57 = .ok (.goto 4, 3) := by decide +kernel
theorem dX8_bearersOf_60 : decode cX8_bearersOf 60 = .ok (.iconst 0, 1) := by decide +kernel
theorem dX8_bearersOf_61 : decode cX8_bearersOf 61 = .ok (.iadd, 1) := by decide +kernel
theorem dX8_bearersOf_62 : decode cX8_bearersOf 62 = .ok (.istore_n 2, 1) := by decide +kernel
theorem dX8_bearersOf_63 : decode cX8_bearersOf 63 = .ok (.iinc 3 1, 3) := by decide +kernel
theorem dX8_bearersOf_66 : decode cX8_bearersOf 66 = .ok (.goto (-62), 3) := by decide +kernel
theorem dX8_bearersOf_69 : decode cX8_bearersOf 69 = .ok (.iload_n 2, 1) := by decide +kernel
theorem dX8_bearersOf_70 : decode cX8_bearersOf 70 = .ok (.ireturn, 1) := by decide +kernel
theorem dX8_wouldRather_0 : decode cX8_wouldRather 0 = .ok (.aload_n 0, 1) := by decide +kernel
theorem dX8_wouldRather_1 : decode cX8_wouldRather 1 = .ok (.getfield 28, 3) := by decide +kernel
theorem dX8_wouldRather_4 : decode cX8_wouldRather 4 = .ok (.getfield 276, 3) := by decide +kernel
theorem dX8_wouldRather_7 : decode cX8_wouldRather 7 = .ok (.iload_n 1, 1) := by decide +kernel
theorem dX8_wouldRather_8 : decode cX8_wouldRather 8 = .ok (.iaload, 1) := by decide +kernel
theorem dX8_wouldRather_9 : decode cX8_wouldRather 9 = .ok (.istore_n 3, 1) := by decide +kernel
theorem dX8_wouldRather_10 : decode cX8_wouldRather 10 = .ok (.iload_n 3, 1) := by decide +kernel
theorem dX8_wouldRather_11 : decode cX8_wouldRather 11 = .ok (.bipush (-4), 2) := by decide +kernel
theorem dX8_wouldRather_13 : decode cX8_wouldRather 13 = .ok (.if_icmp .eq 38, 3) := by decide +kernel
theorem dX8_wouldRather_16 : decode cX8_wouldRather 16 = .ok (.aload_n 0, 1) := by decide +kernel
theorem dX8_wouldRather_17 : decode cX8_wouldRather 17 = .ok (.getfield 43, 3) := by decide +kernel
theorem dX8_wouldRather_20 : decode cX8_wouldRather 20 = .ok (.getfield 160, 3) := by decide +kernel
theorem dX8_wouldRather_23 : decode cX8_wouldRather 23 = .ok (.iload_n 2, 1) := by decide +kernel
theorem dX8_wouldRather_24 : decode cX8_wouldRather 24 = .ok (.iaload, 1) := by decide +kernel
theorem dX8_wouldRather_25 : decode cX8_wouldRather 25 = .ok (.iload_n 3, 1) := by decide +kernel
theorem dX8_wouldRather_26 : decode cX8_wouldRather 26 = .ok (.isub, 1) := by decide +kernel
theorem dX8_wouldRather_27 : decode cX8_wouldRather 27 = .ok (.invokestatic 279, 3) := by decide +kernel
theorem dX8_wouldRather_30 : decode cX8_wouldRather 30 = .ok (.aload_n 0, 1) := by decide +kernel
theorem dX8_wouldRather_31 : decode cX8_wouldRather 31 = .ok (.getfield 43, 3) := by decide +kernel
theorem dX8_wouldRather_34 : decode cX8_wouldRather 34 = .ok (.getfield 160, 3) := by decide +kernel
theorem dX8_wouldRather_37 : decode cX8_wouldRather 37 = .ok (.iload_n 1, 1) := by decide +kernel
theorem dX8_wouldRather_38 : decode cX8_wouldRather 38 = .ok (.iaload, 1) := by decide +kernel
theorem dX8_wouldRather_39 : decode cX8_wouldRather 39 = .ok (.iload_n 3, 1) := by decide +kernel
theorem dX8_wouldRather_40 : decode cX8_wouldRather 40 = .ok (.isub, 1) := by decide +kernel
theorem dX8_wouldRather_41 : decode cX8_wouldRather 41 = .ok (.invokestatic 279, 3) := by decide +kernel
theorem dX8_wouldRather_44 : decode cX8_wouldRather 44 = .ok (.if_icmp .ge 7, 3) := by decide +kernel
theorem dX8_wouldRather_47 : decode cX8_wouldRather 47 = .ok (.iconst 1, 1) := by decide +kernel
theorem dX8_wouldRather_48 : decode cX8_wouldRather 48 = .ok (.goto 4, 3) := by decide +kernel
theorem dX8_wouldRather_51 : decode cX8_wouldRather 51 = .ok (.iconst 0, 1) := by decide +kernel
theorem dX8_wouldRather_52 : decode cX8_wouldRather 52 = .ok (.ireturn, 1) := by decide +kernel
theorem dX8_chancesOfFirst_0 : decode cX8_chancesOfFirst 0 = .ok (.aload_n 0, 1) := by decide +kernel
theorem dX8_chancesOfFirst_1 : decode cX8_chancesOfFirst 1 = .ok (.getfield 43, 3) := by decide +kernel
theorem dX8_chancesOfFirst_4 : decode cX8_chancesOfFirst 4 = .ok (.aload_n 0, 1) := by decide +kernel
theorem dX8_chancesOfFirst_5 : decode cX8_chancesOfFirst 5 = .ok (.getfield 28, 3) := by decide +kernel
theorem dX8_chancesOfFirst_8 : decode cX8_chancesOfFirst 8 = .ok (.invokevirtual 134, 3) := by decide +kernel
theorem dX8_chancesOfFirst_11 : decode cX8_chancesOfFirst 11 = .ok (.iconst 0, 1) := by decide +kernel
theorem dX8_chancesOfFirst_12 : decode cX8_chancesOfFirst 12 = .ok (.istore 4, 2) := by decide +kernel
theorem dX8_chancesOfFirst_14 : decode cX8_chancesOfFirst 14 = .ok (.iconst 0, 1) := by decide +kernel
theorem dX8_chancesOfFirst_15 : decode cX8_chancesOfFirst 15 = .ok (.istore 5, 2) := by decide +kernel
theorem dX8_chancesOfFirst_17 : decode cX8_chancesOfFirst 17 = .ok (.iload 5, 2) := by decide +kernel
theorem dX8_chancesOfFirst_19 : decode cX8_chancesOfFirst 19 = .ok (.iconst 1, 1) := by decide +kernel
theorem dX8_chancesOfFirst_20 : decode cX8_chancesOfFirst 20 = .ok (.iload_n 2, 1) := by decide +kernel
theorem dX8_chancesOfFirst_21 : decode cX8_chancesOfFirst 21 = .ok (.ishl, 1) := by decide +kernel
theorem dX8_chancesOfFirst_22 : decode cX8_chancesOfFirst 22 = .ok (.if_icmp .ge 96, 3) := by decide +kernel
theorem dX8_chancesOfFirst_25 : decode cX8_chancesOfFirst 25 = .ok (.iconst 1, 1) := by decide +kernel
theorem dX8_chancesOfFirst_26 : decode cX8_chancesOfFirst 26 = .ok (.istore 6, 2) := by decide +kernel
theorem dX8_chancesOfFirst_28 : decode cX8_chancesOfFirst 28 = .ok (.iconst 0, 1) := by decide +kernel
theorem dX8_chancesOfFirst_29 : decode cX8_chancesOfFirst 29 = .ok (.istore 7, 2) := by decide +kernel
theorem dX8_chancesOfFirst_31 : decode cX8_chancesOfFirst 31 = .ok (.iload 7, 2) := by decide +kernel
theorem dX8_chancesOfFirst_33 : decode cX8_chancesOfFirst 33 = .ok (.iload_n 2, 1) := by decide +kernel
theorem dX8_chancesOfFirst_34 : decode cX8_chancesOfFirst 34 = .ok (.if_icmp .ge 33, 3) := by decide +kernel
theorem dX8_chancesOfFirst_37 : decode cX8_chancesOfFirst 37 = .ok (.iload 6, 2) := by decide +kernel
theorem dX8_chancesOfFirst_39 : decode cX8_chancesOfFirst 39 = .ok (.iload 5, 2) := by decide +kernel
theorem dX8_chancesOfFirst_41 : decode cX8_chancesOfFirst 41 = .ok (.iload 7, 2) := by decide +kernel
theorem dX8_chancesOfFirst_43 : decode cX8_chancesOfFirst 43 = .ok (.ishr, 1) := by decide +kernel
theorem dX8_chancesOfFirst_44 : decode cX8_chancesOfFirst 44 = .ok (.iconst 1, 1) := by decide +kernel
theorem dX8_chancesOfFirst_45 : decode cX8_chancesOfFirst 45 = .ok (.iand, 1) := by decide +kernel
theorem dX8_chancesOfFirst_46 : decode cX8_chancesOfFirst 46 = .ok (.iconst 1, 1) := by decide +kernel
theorem dX8_chancesOfFirst_47 : decode cX8_chancesOfFirst 47 = .ok (.if_icmp .ne 7, 3) := by decide +kernel
theorem dX8_chancesOfFirst_50 : decode cX8_chancesOfFirst 50 = .ok (.iload_n 3, 1) := by decide +kernel
theorem dX8_chancesOfFirst_51 : decode cX8_chancesOfFirst 51 = .ok (.goto 7, 3) := by decide +kernel
theorem dX8_chancesOfFirst_54 : decode cX8_chancesOfFirst 54 = .ok (.bipush 10, 2) := by decide +kernel
theorem dX8_chancesOfFirst_56 : decode cX8_chancesOfFirst 56 = .ok (.iload_n 3, 1) := by decide +kernel
theorem dX8_chancesOfFirst_57 : decode cX8_chancesOfFirst 57 = .ok (.isub, 1) := by decide +kernel
theorem dX8_chancesOfFirst_58 : decode cX8_chancesOfFirst 58 = .ok (.imul, 1) := by decide +kernel
theorem dX8_chancesOfFirst_59 : decode cX8_chancesOfFirst 59 = .ok (.istore 6, 2) := by decide +kernel
theorem dX8_chancesOfFirst_61 : decode cX8_chancesOfFirst 61 = .ok (.iinc 7 1, 3) := by decide +kernel
theorem dX8_chancesOfFirst_64 : decode cX8_chancesOfFirst 64 = .ok (.goto (-33), 3) := by decide +kernel
theorem dX8_chancesOfFirst_67 : decode cX8_chancesOfFirst 67 = .ok (.iload 6, 2) := by decide +kernel
theorem dX8_chancesOfFirst_69 : decode cX8_chancesOfFirst 69 = .ok (.ifCond .le 43, 3) := by decide +kernel
theorem dX8_chancesOfFirst_72 : decode cX8_chancesOfFirst 72 = .ok (.aload_n 0, 1) := by decide +kernel
theorem dX8_chancesOfFirst_73 : decode cX8_chancesOfFirst 73 = .ok (.getfield 43, 3) := by decide +kernel
theorem dX8_chancesOfFirst_76 : decode cX8_chancesOfFirst 76 = .ok (.iload 5, 2) := by decide +kernel
theorem dX8_chancesOfFirst_78 : decode cX8_chancesOfFirst 78 = .ok (.putfield 282, 3) := by decide +kernel
theorem dX8_chancesOfFirst_81 : decode cX8_chancesOfFirst 81 = .ok (.aload_n 0, 1) := by decide +kernel
theorem dX8_chancesOfFirst_82 : decode cX8_chancesOfFirst 82 = .ok (.getfield 43, 3) := by decide +kernel
theorem dX8_chancesOfFirst_85 : decode cX8_chancesOfFirst 85 = .ok (.invokevirtual 184, 3) := by decide +kernel
theorem dX8_chancesOfFirst_88 : decode cX8_chancesOfFirst 88 = .ok (.iload 4, 2) := by decide +kernel
theorem dX8_chancesOfFirst_90 : decode cX8_chancesOfFirst 90 = .ok (.aload_n 0, 1) := by decide +kernel
theorem dX8_chancesOfFirst_91 : decode cX8_chancesOfFirst 91 = .ok (.getfield 43, 3) := by decide +kernel
theorem dX8_chancesOfFirst_94 : decode cX8_chancesOfFirst 94 = .ok (.getfield 163, 3) := by decide +kernel
theorem dX8_chancesOfFirst_97 : decode cX8_chancesOfFirst 97 = .ok (.iconst 0, 1) := by decide +kernel
theorem dX8_chancesOfFirst_98 : decode cX8_chancesOfFirst 98 = .ok (.iaload, 1) := by decide +kernel
theorem dX8_chancesOfFirst_99 : decode cX8_chancesOfFirst 99 = .ok (.iload_n 1, 1) := by decide +kernel
theorem dX8_chancesOfFirst_100 : decode cX8_chancesOfFirst 100 = .ok (.if_icmp .ne 8, 3) := by decide +kernel
theorem dX8_chancesOfFirst_103 : decode cX8_chancesOfFirst 103 = .ok (.iload 6, 2) := by decide +kernel
theorem dX8_chancesOfFirst_105 : decode cX8_chancesOfFirst 105 = .ok (.goto 4, 3) := by decide +kernel
theorem dX8_chancesOfFirst_108 : decode cX8_chancesOfFirst 108 = .ok (.iconst 0, 1) := by decide +kernel
theorem dX8_chancesOfFirst_109 : decode cX8_chancesOfFirst 109 = .ok (.iadd, 1) := by decide +kernel
theorem dX8_chancesOfFirst_110 : decode cX8_chancesOfFirst 110 = .ok (.istore 4, 2) := by decide +kernel
theorem dX8_chancesOfFirst_112 : decode cX8_chancesOfFirst 112 = .ok (.iinc 5 1, 3) := by decide +kernel
theorem dX8_chancesOfFirst_115 : decode cX8_chancesOfFirst 115 = .ok (.goto (-98), 3) := by decide +kernel
theorem dX8_chancesOfFirst_118 : decode cX8_chancesOfFirst 118 = .ok (.iload 4, 2) := by decide +kernel
theorem dX8_chancesOfFirst_120 : decode cX8_chancesOfFirst 120 = .ok (.ireturn, 1) := by decide +kernel
theorem dX8_explains_0 : decode cX8_explains 0 = .ok (.aload_n 0, 1) := by decide +kernel
theorem dX8_explains_1 : decode cX8_explains 1 = .ok (.getfield 43, 3) := by decide +kernel
theorem dX8_explains_4 : decode cX8_explains 4 = .ok (.getfield 275, 3) := by decide +kernel
theorem dX8_explains_7 : decode cX8_explains 7 = .ok (.iload_n 1, 1) := by decide +kernel
theorem dX8_explains_8 : decode cX8_explains 8 = .ok (.iload_n 2, 1) := by decide +kernel
theorem dX8_explains_9 : decode cX8_explains 9 = .ok (.iastore, 1) := by decide +kernel
theorem dX8_explains_10 : decode cX8_explains 10 = .ok (.aload_n 0, 1) := by decide +kernel
theorem dX8_explains_11 : decode cX8_explains 11 = .ok (.getfield 43, 3) := by decide +kernel
theorem dX8_explains_14 : decode cX8_explains 14 = .ok (.invokevirtual 184, 3) := by decide +kernel
theorem dX8_explains_17 : decode cX8_explains 17 = .ok (.aload_n 0, 1) := by decide +kernel
theorem dX8_explains_18 : decode cX8_explains 18 = .ok (.getfield 43, 3) := by decide +kernel
theorem dX8_explains_21 : decode cX8_explains 21 = .ok (.getfield 275, 3) := by decide +kernel
theorem dX8_explains_24 : decode cX8_explains 24 = .ok (.iload_n 1, 1) := by decide +kernel
theorem dX8_explains_25 : decode cX8_explains 25 = .ok (.bipush (-4), 2) := by decide +kernel
theorem dX8_explains_27 : decode cX8_explains 27 = .ok (.iastore, 1) := by decide +kernel
theorem dX8_explains_28 : decode cX8_explains 28 = .ok (.aload_n 0, 1) := by decide +kernel
theorem dX8_explains_29 : decode cX8_explains 29 = .ok (.getfield 64, 3) := by decide +kernel
theorem dX8_explains_32 : decode cX8_explains 32 = .ok (.aload_n 0, 1) := by decide +kernel
theorem dX8_explains_33 : decode cX8_explains 33 = .ok (.getfield 43, 3) := by decide +kernel
theorem dX8_explains_36 : decode cX8_explains 36 = .ok (.invokevirtual 241, 3) := by decide +kernel
theorem dX8_explains_39 : decode cX8_explains 39 = .ok (.ireturn, 1) := by decide +kernel
