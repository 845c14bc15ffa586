theorem dX7_chanceOf_24 : decode cX7_chanceOf 24 = .ok (.iconst 1, 1) := by decide +kernel
theorem dX7_chanceOf_25 : decode cX7_chanceOf 25 = .ok (.if_icmp .ne 7, 3) := by decide +kernel
theorem dX7_chanceOf_28 : decode cX7_chanceOf 28 = .ok (.iload_n 2, 1) := by decide +kernel
theorem dX7_chanceOf_29 : decode cX7_chanceOf 29 = .ok (.goto 7, 3) := by decide +kernel
theorem dX7_chanceOf_32 : decode cX7_chanceOf 32 = .ok (.bipush 10, 2) := by decide +kernel
theorem dX7_chanceOf_34 : decode cX7_chanceOf 34 = .ok (.iload_n 2, 1) := by decide +kernel
theorem dX7_chanceOf_35 : decode cX7_chanceOf 35 = .ok (.isub, 1) := by decide +kernel
theorem dX7_chanceOf_36 : decode cX7_chanceOf 36 = .ok (.imul, 1) := by decide +kernel
theorem dX7_chanceOf_37 : decode cX7_chanceOf 37 = .ok (.istore_n 3, 1) := by decide +kernel
theorem dX7_chanceOf_38 : decode cX7_chanceOf 38 = .ok (.iinc 4 1, 3) := by decide +kernel
theorem dX7_chanceOf_41 : decode cX7_chanceOf 41 = .ok (.goto (-36), 3) := by decide +kernel
theorem dX7_chanceOf_44 : decode cX7_chanceOf 44 = .ok (.iload_n 3, 1) := by decide +kernel
theorem dX7_chanceOf_45 : decode cX7_chanceOf 45 = .ok (.ireturn, 1) := by decide +kernel
theorem dX7_draw_0 : decode cX7_draw 0 = .ok (.ldc2_w 295, 3) := by decide +kernel
theorem dX7_draw_3 : decode cX7_draw 3 = .ok (.iload_n 0, 1) := by decide +kernel
theorem dX7_draw_4 : decode cX7_draw 4 = .ok (.i2l, 1) := by decide +kernel
theorem dX7_draw_5 : decode cX7_draw 5 = .ok (.lmul, 1) := by decide +kernel
theorem dX7_draw_6 : decode cX7_draw 6 = .ok (.ldc2_w 297, 3) := by decide +kernel
theorem dX7_draw_9 : decode cX7_draw 9 = .ok (.iload_n 1, 1) := by decide +kernel
theorem dX7_draw_10 : decode cX7_draw 10 = .ok (.i2l, 1) := by decide +kernel
theorem dX7_draw_11 : decode cX7_draw 11 = .ok (.lmul, 1) := by decide +kernel
theorem dX7_draw_12 : decode cX7_draw 12 = .ok (.ladd, 1) := by decide +kernel
theorem dX7_draw_13 : decode cX7_draw 13 = .ok (.lconst 1, 1) := by decide +kernel
theorem dX7_draw_14 : decode cX7_draw 14 = .ok (.ladd, 1) := by decide +kernel
theorem dX7_draw_15 : decode cX7_draw 15 = .ok (.lstore_n 2, 1) := by decide +kernel
theorem dX7_draw_16 : decode cX7_draw 16 = .ok (.lload_n 2, 1) := by decide +kernel
theorem dX7_draw_17 : decode cX7_draw 17 = .ok (.lload_n 2, 1) := by decide +kernel
theorem dX7_draw_18 : decode cX7_draw 18 = .ok (.lmul, 1) := by decide +kernel
theorem dX7_draw_19 : decode cX7_draw 19 = .ok (.ldc2_w 299, 3) := by decide +kernel
theorem dX7_draw_22 : decode cX7_draw 22 = .ok (.lrem, 1) := by decide +kernel
theorem dX7_draw_23 : decode cX7_draw 23 = .ok (.ldc2_w 301, 3) := by decide +kernel
theorem dX7_draw_26 : decode cX7_draw 26 = .ok (.ldiv, 1) := by decide +kernel
theorem dX7_draw_27 : decode cX7_draw 27 = .ok (.l2i, 1) := by decide +kernel
theorem dX7_draw_28 : decode cX7_draw 28 = .ok (.ireturn, 1) := by decide +kernel
theorem dX7_stir_0 : decode cX7_stir 0 = .ok (.aload_n 0, 1) := by decide +kernel
theorem dX7_stir_1 : decode cX7_stir 1 = .ok (.getfield 92, 3) := by decide +kernel
theorem dX7_stir_4 : decode cX7_stir 4 = .ok (.ifCond .le 22, 3) := by decide +kernel
theorem dX7_stir_7 : decode cX7_stir 7 = .ok (.iload_n 1, 1) := by decide +kernel
theorem dX7_stir_8 : decode cX7_stir 8 = .ok (.bipush 8, 2) := by decide +kernel
theorem dX7_stir_10 : decode cX7_stir 10 = .ok (.idiv, 1) := by decide +kernel
theorem dX7_stir_11 : decode cX7_stir 11 = .ok (.iconst 2, 1) := by decide +kernel
theorem dX7_stir_12 : decode cX7_stir 12 = .ok (.irem, 1) := by decide +kernel
theorem dX7_stir_13 : decode cX7_stir 13 = .ok (.ifCond .ne 13, 3) := by decide +kernel
theorem dX7_stir_16 : decode cX7_stir 16 = .ok (.aload_n 0, 1) := by decide +kernel
theorem dX7_stir_17 : decode cX7_stir 17 = .ok (.iload_n 1, 1) := by decide +kernel
theorem dX7_stir_18 : decode cX7_stir 18 = .ok (.aload_n 0, 1) := by decide +kernel
theorem dX7_stir_19 : decode cX7_stir 19 = .ok (.getfield 92, 3) := by decide +kernel
theorem dX7_stir_22 : decode cX7_stir 22 = .ok (.irem, 1) := by decide +kernel
theorem dX7_stir_23 : decode cX7_stir 23 = .ok (.invokevirtual 146, 3) := by decide +kernel
theorem dX7_stir_26 : decode cX7_stir 26 = .ok (.iload_n 1, 1) := by decide +kernel
theorem dX7_stir_27 : decode cX7_stir 27 = .ok (.bipush 16, 2) := by decide +kernel
theorem dX7_stir_29 : decode cX7_stir 29 = .ok (.idiv, 1) := by decide +kernel
theorem dX7_stir_30 : decode cX7_stir 30 = .ok (.iconst 4, 1) := by decide +kernel
theorem dX7_stir_31 : decode cX7_stir 31 = .ok (.irem, 1) := by decide +kernel
theorem dX7_stir_32 : decode cX7_stir 32 = .ok (.ifCond .ne 21, 3) := by decide +kernel
theorem dX7_stir_35 : decode cX7_stir 35 = .ok (.aload_n 0, 1) := by decide +kernel
theorem dX7_stir_36 : decode cX7_stir 36 = .ok (.getfield 153, 3) := by decide +kernel
theorem dX7_stir_39 : decode cX7_stir 39 = .ok (.ifCond .le 14, 3) := by decide +kernel
theorem dX7_stir_42 : decode cX7_stir 42 = .ok (.aload_n 0, 1) := by decide +kernel
theorem dX7_stir_43 : decode cX7_stir 43 = .ok (.iconst 0, 1) := by decide +kernel
theorem dX7_stir_44 : decode cX7_stir 44 = .ok (.aload_n 0, 1) := by decide +kernel
theorem dX7_stir_45 : decode cX7_stir 45 = .ok (.getfield 153, 3) := by decide +kernel
theorem dX7_stir_48 : decode cX7_stir 48 = .ok (.iconst 1, 1) := by decide +kernel
theorem dX7_stir_49 : decode cX7_stir 49 = .ok (.isub, 1) := by decide +kernel
theorem dX7_stir_50 : decode cX7_stir 50 = .ok (.invokevirtual 162, 3) := by decide +kernel
theorem dX7_stir_53 : decode cX7_stir 53 = .ok (.return_, 1) := by decide +kernel
theorem dX7_greatestDivisor_0 : decode cX7_greatestDivisor 0 = .ok (.iconst 0, 1) := by decide +kernel
theorem dX7_greatestDivisor_1 : decode cX7_greatestDivisor 1 = .ok (.istore_n 2, 1) := by decide +kernel
theorem dX7_greatestDivisor_2 : decode cX7_greatestDivisor 2 = .ok (.iload_n 2, 1) := by decide +kernel
theorem dX7_greatestDivisor_3 : decode cX7_greatestDivisor 3 = .ok (.bipush 100, 2) := by decide +kernel
theorem dX7_greatestDivisor_5 : decode cX7_greatestDivisor 5 = .ok (.if_icmp .ge 21, 3) := by decide +kernel
theorem dX7_greatestDivisor_8 : decode cX7_greatestDivisor 8 = .ok (.iload_n 1, 1) := by decide +kernel
theorem dX7_greatestDivisor_9 : decode cX7_greatestDivisor 9 = .ok (.ifCond .eq 17, 3) := by decide +kernel
theorem dX7_greatestDivisor_12 : decode cX7_greatestDivisor 12 = .ok (.iload_n 0, 1) := by decide +kernel
theorem dX7_greatestDivisor_13 : decode cX7_greatestDivisor 13 = .ok (.iload_n 1, 1) := by decide +kernel
theorem dX7_greatestDivisor_14 : decode cX7_greatestDivisor 14 = .ok (.irem, 1) := by decide +kernel
theorem dX7_greatestDivisor_15 : decode cX7_greatestDivisor 15 = .ok (.istore_n 3, 1) := by decide +kernel
theorem dX7_greatestDivisor_16 : decode cX7_greatestDivisor 16 = .ok (.iload_n 1, 1) := by decide +kernel
theorem dX7_greatestDivisor_17 : decode cX7_greatestDivisor 17 = .ok (.istore_n 0, 1) := by decide +kernel
theorem dX7_greatestDivisor_18 : decode cX7_greatestDivisor 18 = .ok (.iload_n 3, 1) := by decide +kernel
theorem dX7_greatestDivisor_19 : decode cX7_greatestDivisor 19 = .ok (.istore_n 1, 1) := by decide +kernel
theorem dX7_greatestDivisor_20 : decode cX7_greatestDivisor 20 = .ok (.iinc 2 1, 3) := by decide +kernel
theorem dX7_greatestDivisor_23 : decode cX7_greatestDivisor 23 = .ok (.goto (-21), 3) := by decide +kernel
theorem dX7_greatestDivisor_26 : decode cX7_greatestDivisor 26 = .ok (.iload_n 0, 1) := by decide +kernel
theorem dX7_greatestDivisor_27 : decode cX7_greatestDivisor 27 = .ok (.ireturn, 1) := by decide +kernel
theorem dX7_within_0 : decode cX7_within 0 = .ok (.iload_n 0, 1) := by decide +kernel
theorem dX7_within_1 : decode cX7_within 1 = .ok (.iload_n 1, 1) := by decide +kernel
theorem dX7_within_2 : decode cX7_within 2 = .ok (.if_icmp .lt 12, 3) := by decide +kernel
theorem dX7_within_5 : decode cX7_within 5 = .ok (.iload_n 0, 1) := by decide +kernel
theorem dX7_within_6 : decode cX7_within 6 = .ok (.iload_n 2, 1) := by decide +kernel
theorem dX7_within_7 : decode cX7_within 7 = .ok (.if_icmp .gt 7, 3) := by decide +kernel
theorem dX7_within_10 : decode cX7_within 10 = .ok (.iconst 1, 1) := by decide +kernel
theorem dX7_within_11 : decode cX7_within 11 = .ok (.goto 4, 3) := by decide +kernel
theorem dX7_within_14 : decode cX7_within 14 = .ok (.iconst 0, 1) := by decide +kernel
theorem dX7_within_15 : decode cX7_within 15 = .ok (.ireturn, 1) := by decide +kernel
theorem dX7_bit_0 : decode cX7_bit 0 = .ok (.iload_n 0, 1) := by decide +kernel
theorem dX7_bit_1 : decode cX7_bit 1 = .ok (.iload_n 1, 1) := by decide +kernel
theorem dX7_bit_2 : decode cX7_bit 2 = .ok (.ishr, 1) := by decide +kernel
theorem dX7_bit_3 : decode cX7_bit 3 = .ok (.iconst 1, 1) := by decide +kernel
theorem dX7_bit_4 : decode cX7_bit 4 = .ok (.iand, 1) := by decide +kernel
theorem dX7_bit_5 : decode cX7_bit 5 = .ok (.ireturn, 1) := by decide +kernel
theorem dX7_at_0 : decode cX7_at 0 = .ok (.iload_n 1, 1) := by decide +kernel
theorem dX7_at_1 : decode cX7_at 1 = .ok (.ifCond .lt 15, 3) := by decide +kernel
theorem dX7_at_4 : decode cX7_at 4 = .ok (.iload_n 1, 1) := by decide +kernel
theorem dX7_at_5 : decode cX7_at 5 = .ok (.aload_n 0, 1) := by decide +kernel
theorem dX7_at_6 : decode cX7_at 6 = .ok (.arraylength, 1) := by decide +kernel
theorem dX7_at_7 : decode cX7_at 7 = .ok (.if_icmp .ge 9, 3) := by decide +kernel
theorem dX7_at_10 : decode cX7_at 10 = .ok (.aload_n 0, 1) := by decide +kernel
theorem dX7_at_11 : decode cX7_at 11 = .ok (.iload_n 1, 1) := by decide +kernel
theorem dX7_at_12 : decode cX7_at 12 = .ok (.iaload, 1) := by decide +kernel
theorem dX7_at_13 : decode cX7_at 13 = .ok (.goto 4, 3) := by decide +kernel
theorem dX7_at_16 : decode cX7_at 16 = .ok (.iconst 0, 1) := by decide +kernel
theorem dX7_at_17 : decode cX7_at 17 = .ok (.ireturn, 1) := by decide +kernel
theorem dX7_put_0 : decode cX7_put 0 = .ok (.iload_n 1, 1) := by decide +kernel
theorem dX7_put_1 : decode cX7_put 1 = .ok (.ifCond .lt 13, 3) := by decide +kernel
theorem dX7_put_4 : decode cX7_put 4 = .ok (.iload_n 1, 1) := by decide +kernel
theorem dX7_put_5 : decode cX7_put 5 = .ok (.aload_n 0, 1) := by decide +kernel
theorem dX7_put_6 : decode cX7_put 6 = .ok (.arraylength, 1) := by decide +kernel
theorem dX7_put_7 : decode cX7_put 7 = .ok (.if_icmp .ge 7, 3) := by decide +kernel
theorem dX7_put_10 : decode cX7_put 10 = .ok (.aload_n 0, 1) := by decide +kernel
theorem dX7_put_11 : decode cX7_put 11 = .ok (.iload_n 1, 1) := by decide +kernel
theorem dX7_put_12 : decode cX7_put 12 = .ok (.iload_n 2, 1) := by decide +kernel
theorem dX7_put_13 : decode cX7_put 13 = .ok (.iastore, 1) := by decide +kernel
theorem dX7_put_14 : decode cX7_put 14 = .ok (.return_, 1) := by decide +kernel
theorem dX7_copyRow_0 : decode cX7_copyRow 0 = .ok (.aload_n 0, 1) := by decide +kernel
theorem dX7_copyRow_1 : decode cX7_copyRow 1 = .ok (.iconst 0, 1) := by decide +kernel
theorem dX7_copyRow_2 : decode cX7_copyRow 2 = .ok (.aload_n 1, 1) := by decide +kernel
theorem dX7_copyRow_3 : decode cX7_copyRow 3 = .ok (.iconst 0, 1) := by decide +kernel
theorem dX7_copyRow_4 : decode cX7_copyRow 4 = .ok (.aload_n 0, 1) := by decide +kernel
theorem dX7_copyRow_5 : decode cX7_copyRow 5 = .ok (.arraylength, 1) := by decide +kernel
theorem dX7_copyRow_6 : decode cX7_copyRow 6 = .ok (.aload_n 1, 1) := by decide +kernel
theorem dX7_copyRow_7 : decode cX7_copyRow 7 = .ok (.arraylength, 1) := by decide +kernel
theorem dX7_copyRow_8 : decode cX7_copyRow 8 = .ok (.invokestatic 303, 3) := by decide +kernel
theorem dX7_copyRow_11 : decode cX7_copyRow 11 = .ok (.invokestatic 306, 3) := by decide +kernel
theorem dX7_copyRow_14 : decode cX7_copyRow 14 = .ok (.return_, 1) := by decide +kernel
theorem dX7_slide_0 : decode cX7_slide 0 = .ok (.aload_n 0, 1) := by decide +kernel
theorem dX7_slide_1 : decode cX7_slide 1 = .ok (.iload_n 1, 1) := by decide +kernel
theorem dX7_slide_2 : decode cX7_slide 2 = .ok (.invokestatic 108, 3) := by decide +kernel
theorem dX7_slide_5 : decode cX7_slide 5 = .ok (.istore_n 3, 1) := by decide +kernel
theorem dX7_slide_6 : decode cX7_slide 6 = .ok (.iload_n 1, 1) := by decide +kernel
theorem dX7_slide_7 : decode cX7_slide 7 = .ok (.istore 4, 2) := by decide +kernel
theorem dX7_slide_9 : decode cX7_slide 9 = .ok (.iload 4, 2) := by decide +kernel
theorem dX7_slide_11 : decode cX7_slide 11 = .ok (.iload_n 2, 1) := by decide +kernel
theorem dX7_slide_12 : decode cX7_slide 12 = .ok (.if_icmp .ge 23, 3) := by decide +kernel
theorem dX7_slide_15 : decode cX7_slide 15 = .ok (.aload_n 0, 1) := by decide +kernel
theorem dX7_slide_16 : decode cX7_slide 16 = .ok (.iload 4, 2) := by decide +kernel
theorem dX7_slide_18 : decode cX7_slide 18 = .ok (.aload_n 0, 1) := by decide +kernel
theorem dX7_slide_19 : decode cX7_slide 19 = .ok (.iload 4, 2) := by decide +kernel
theorem dX7_slide_21 : decode cX7_slide 21 = .ok (.iconst 1, 1) := by decide +kernel
theorem dX7_slide_22 : decode cX7_slide 22 = .ok (.iadd, 1) := by decide +kernel
theorem dX7_slide_23 : decode cX7_slide 23 = .ok (.invokestatic 108, 3) := by decide +kernel
theorem dX7_slide_26 : decode cX7_slide 26 = .ok (.invokestatic 166, 3) := by decide +kernel
theorem dX7_slide_29 : decode cX7_slide 29 = .ok (.iinc 4 1, 3) := by decide +kernel
theorem dX7_slide_32 : decode cX7_slide 32 = .ok (.goto (-23), 3) := by decide +kernel
theorem dX7_slide_35 : decode cX7_slide 35 = .ok (.iload_n 1, 1) := by decide +kernel
theorem dX7_slide_36 : decode cX7_slide 36 = .ok (.istore 4, 2) := by decide +kernel
theorem dX7_slide_38 : decode cX7_slide 38 = .ok (.iload 4, 2) := by decide +kernel
theorem dX7_slide_40 : decode cX7_slide 40 = .ok (.iload_n 2, 1) := by decide +kernel
theorem dX7_slide_41 : decode cX7_slide 41 = .ok (.if_icmp .le 23, 3) := by decide +kernel
theorem dX7_slide_44 : decode cX7_slide 44 = .ok (.aload_n 0, 1) := by decide +kernel
theorem dX7_slide_45 : decode cX7_slide 45 = .ok (.iload 4, 2) := by decide +kernel
theorem dX7_slide_47 : decode cX7_slide 47 = .ok (.aload_n 0, 1) := by decide +kernel
theorem dX7_slide_48 : decode cX7_slide 48 = .ok (.iload 4, 2) := by decide +kernel
theorem dX7_slide_50 : decode cX7_slide 50 = .ok (.iconst 1, 1) := by decide +kernel
theorem dX7_slide_51 : decode cX7_slide 51 = .ok (.isub, 1) := by decide +kernel
theorem dX7_slide_52 : decode cX7_slide 52 = .ok (.invokestatic 108, 3) := by decide +kernel
theorem dX7_slide_55 : decode cX7_slide 55 = .ok (.invokestatic 166, 3) := by decide +kernel
theorem dX7_slide_58 : decode cX7_slide 58 = .ok (.iinc 4 (-1), 3) := by decide +kernel
theorem dX7_slide_61 : decode cX7_slide 61 = .ok (.goto (-23), 3) := by decide +kernel
theorem dX7_slide_64 : decode cX7_slide 64 = .ok (.aload_n 0, 1) := by decide +kernel
theorem dX7_slide_65 : decode cX7_slide 65 = .ok (.iload_n 2, 1) := by decide +kernel
theorem dX7_slide_66 : decode cX7_slide 66 = .ok (.iload_n 3, 1) := by decide +kernel
theorem dX7_slide_67 : decode cX7_slide 67 = .ok (.invokestatic 166, 3) := by decide +kernel
theorem dX7_slide_70 : decode cX7_slide 70 = .ok (.return_, 1) := by decide +kernel
theorem dX8_in_0 : decode cX8_in 0 = .ok (.iload_n 0, 1) := by decide +kernel
theorem dX8_in_1 : decode cX8_in 1 = .ok (.iload_n 1, 1) := by decide +kernel
theorem dX8_in_2 : decode cX8_in 2 = .ok (.if_icmp .lt 12, 3) := by decide +kernel
theorem dX8_in_5 : decode cX8_in 5 = .ok (.iload_n 0, 1) := by decide +kernel
theorem dX8_in_6 : decode cX8_in 6 = .ok (.iload_n 2, 1) := by decide +kernel
theorem dX8_in_7 : decode cX8_in 7 = .ok (.if_icmp .gt 7, 3) := by decide +kernel
theorem dX8_in_10 : decode cX8_in 10 = .ok (.iconst 1, 1) := by decide +kernel
theorem dX8_in_11 : decode cX8_in 11 = .ok (.goto 4, 3) := by decide +kernel
theorem dX8_in_14 : decode cX8_in 14 = .ok (.iconst 0, 1) := by decide +kernel
theorem dX8_in_15 : decode cX8_in 15 = .ok (.ireturn, 1) := by decide +kernel
theorem dX8_has_0 : decode cX8_has 0 = .ok (.iload_n 0, 1) := by decide +kernel
theorem dX8_has_1 : decode cX8_has 1 = .ok (.iload_n 1, 1) := by decide +kernel
theorem dX8_has_2 : decode cX8_has 2 = .ok (.ishr, 1) := by decide +kernel
theorem dX8_has_3 : decode cX8_has 3 = .ok (.iconst 1, 1) := by decide +kernel
theorem dX8_has_4 : decode cX8_has 4 = .ok (.iand, 1) := by decide +kernel
theorem dX8_has_5 : decode cX8_has 5 = .ok (.iconst 1, 1) := by decide +kernel
theorem dX8_has_6 : decode cX8_has 6 = .ok (.if_icmp .ne 7, 3) := by decide +kernel
theorem dX8_has_9 : decode cX8_has 9 = .ok (.iconst 1, 1) := by decide +kernel
theorem dX8_has_10 : decode cX8_has 10 = .ok (.goto 4, 3) := by decide +kernel
theorem dX8_has_13 : decode cX8_has 13 = .ok (.iconst 0, 1) := by decide +kernel
theorem dX8_has_14 : decode cX8_has 14 = .ok (.ireturn, 1) := by decide +kernel
theorem dX8_bits_0 : decode cX8_bits 0 = .ok (.iconst 0, 1) := by decide +kernel
theorem dX8_bits_1 : decode cX8_bits 1 = .ok (.istore_n 1, 1) := by decide +kernel
theorem dX8_bits_2 : decode cX8_bits 2 = .ok (.iconst 0, 1) := by decide +kernel
theorem dX8_bits_3 : decode cX8_bits 3 = .ok (.istore_n 2, 1) := by decide +kernel
theorem dX8_bits_4 : decode cX8_bits 4 = .ok (.iload_n 2, 1) := by decide +kernel
theorem dX8_bits_5 : decode cX8_bits 5 = .ok (.bipush 7, 2) := by decide +kernel
theorem dX8_bits_7 : decode cX8_bits 7 = .ok (.if_icmp .ge 17, 3) := by decide +kernel
theorem dX8_bits_10 : decode cX8_bits 10 = .ok (.iload_n 1, 1) := by decide +kernel
theorem dX8_bits_11 : decode cX8_bits 11 = .ok (.iload_n 0, 1) := by decide +kernel
theorem dX8_bits_12 : decode cX8_bits 12 = .ok (.iload_n 2, 1) := by decide +kernel
theorem dX8_bits_13 : decode cX8_bits 13 = .ok (.ishr, 1) := by decide +kernel
theorem dX8_bits_14 : decode cX8_bits 14 = .ok (.iconst 1, 1) := by decide +kernel
theorem dX8_bits_15 : decode cX8_bits 15 = .ok (.iand, 1) := by decide +kernel
theorem dX8_bits_16 : decode cX8_bits 16 = .ok (.iadd, 1) := by decide +kernel
theorem dX8_bits_17 : decode cX8_bits 17 = .ok (.istore_n 1, 1) := by decide +kernel
theorem dX8_bits_18 : decode cX8_bits 18 = .ok (.iinc 2 1, 3) := by decide +kernel
theorem dX8_bits_21 : decode cX8_bits 21 = .ok (.goto (-17), 3) := by decide +kernel
theorem dX8_bits_24 : decode cX8_bits 24 = .ok (.iload_n 1, 1) := by decide +kernel
theorem dX8_bits_25 : decode cX8_bits 25 = .ok (.ireturn, 1) := by decide +kernel
theorem dX8_firstTeller_0 : decode cX8_firstTeller 0 = .ok (.aload_n 0, 1) := by decide +kernel
theorem dX8_firstTeller_1 : decode cX8_firstTeller 1 = .ok (.getfield 9, 3) := by decide +kernel
theorem dX8_firstTeller_4 : decode cX8_firstTeller 4 = .ok (.aload_n 0, 1) := by decide +kernel
theorem dX8_firstTeller_5 : decode cX8_firstTeller 5 = .ok (.getfield 88, 3) := by decide +kernel
theorem dX8_firstTeller_8 : decode cX8_firstTeller 8 = .ok (.iload_n 1, 1) := by decide +kernel
theorem dX8_firstTeller_9 : decode cX8_firstTeller 9 = .ok (.iastore, 1) := by decide +kernel
theorem dX8_firstTeller_10 : decode cX8_firstTeller 10 = .ok (.aload_n 0, 1) := by decide +kernel
theorem dX8_firstTeller_11 : decode cX8_firstTeller 11 = .ok (.getfield 13, 3) := by decide +kernel
theorem dX8_firstTeller_14 : decode cX8_firstTeller 14 = .ok (.aload_n 0, 1) := by decide +kernel
theorem dX8_firstTeller_15 : decode cX8_firstTeller 15 = .ok (.getfield 88, 3) := by decide +kernel
theorem dX8_firstTeller_18 : decode cX8_firstTeller 18 = .ok (.iload_n 2, 1) := by decide +kernel
theorem dX8_firstTeller_19 : decode cX8_firstTeller 19 = .ok (.iastore, 1) := by decide +kernel
theorem dX8_firstTeller_20 : decode cX8_firstTeller 20 = .ok (.aload_n 0, 1) := by decide +kernel
theorem dX8_firstTeller_21 : decode cX8_firstTeller 21 = .ok (.dup, 1) := by decide +kernel
theorem dX8_firstTeller_22 : decode cX8_firstTeller 22 = .ok (.getfield 88, 3) := by decide +kernel
theorem dX8_firstTeller_25 : decode cX8_firstTeller 25 = .ok (.iconst 1, 1) := by decide +kernel
theorem dX8_firstTeller_26 : decode cX8_firstTeller 26 = .ok (.iadd, 1) := by decide +kernel
theorem dX8_firstTeller_27 : decode cX8_firstTeller 27 = .ok (.putfield 88, 3) := by decide +kernel
theorem dX8_firstTeller_30 : decode cX8_firstTeller 30 = .ok (.return_, 1) := by decide +kernel
theorem dX8_sets_0 : decode cX8_sets 0 = .ok (.aload_n 0, 1) := by decide +kernel
theorem dX8_sets_1 : decode cX8_sets 1 = .ok (.getfield 16, 3) := by decide +kernel
theorem dX8_sets_4 : decode cX8_sets 4 = .ok (.iload_n 1, 1) := by decide +kernel
theorem dX8_sets_5 : decode cX8_sets 5 = .ok (.iload_n 2, 1) := by decide +kernel
theorem dX8_sets_6 : decode cX8_sets 6 = .ok (.iastore, 1) := by decide +kernel
theorem dX8_sets_7 : decode cX8_sets 7 = .ok (.aload_n 0, 1) := by decide +kernel
theorem dX8_sets_8 : decode cX8_sets 8 = .ok (.getfield 19, 3) := by decide +kernel
theorem dX8_sets_11 : decode cX8_sets 11 = .ok (.iload_n 1, 1) := by decide +kernel
theorem dX8_sets_12 : decode cX8_sets 12 = .ok (.iload_n 3, 1) := by decide +kernel
theorem dX8_sets_13 : decode cX8_sets 13 = .ok (.iastore, 1) := by decide +kernel
theorem dX8_sets_14 : decode cX8_sets 14 = .ok (.aload_n 0, 1) := by decide +kernel
theorem dX8_sets_15 : decode cX8_sets 15 = .ok (.getfield 22, 3) := by decide +kernel
theorem dX8_sets_18 : decode cX8_sets 18 = .ok (.iload_n 1, 1) := by decide +kernel
theorem dX8_sets_19 : decode cX8_sets 19 = .ok (.iload 4, 2) := by decide +kernel
theorem dX8_sets_21 : decode cX8_sets 21 = .ok (.iastore, 1) := by decide +kernel
theorem dX8_sets_22 : decode cX8_sets 22 = .ok (.aload_n 0, 1) := by decide +kernel
theorem dX8_sets_23 : decode cX8_sets 23 = .ok (.getfield 25, 3) := by decide +kernel
theorem dX8_sets_26 : decode cX8_sets 26 = .ok (.iload_n 1, 1) := by decide +kernel
theorem dX8_sets_27 : decode cX8_sets 27 = .ok (.iload 5, 2) := by decide +kernel
theorem dX8_sets_29 : decode cX8_sets 29 = .ok (.iastore, 1) := by decide +kernel
theorem dX8_sets_30 : decode cX8_sets 30 = .ok (.return_, 1) := by decide +kernel
theorem dX8_copies_0 : decode cX8_copies 0 = .ok (.aload_n 0, 1) := by decide +kernel
theorem dX8_copies_1 : decode cX8_copies 1 = .ok (.iload_n 2, 1) := by decide +kernel
theorem dX8_copies_2 : decode cX8_copies 2 = .ok (.aload_n 0, 1) := by decide +kernel
theorem dX8_copies_3 : decode cX8_copies 3 = .ok (.getfield 16, 3) := by decide +kernel
theorem dX8_copies_6 : decode cX8_copies 6 = .ok (.iload_n 1, 1) := by decide +kernel
theorem dX8_copies_7 : decode cX8_copies 7 = .ok (.iaload, 1) := by decide +kernel
theorem dX8_copies_8 : decode cX8_copies 8 = .ok (.aload_n 0, 1) := by decide +kernel
theorem dX8_copies_9 : decode cX8_copies 9 = .ok (.getfield 19, 3) := by decide +kernel
theorem dX8_copies_12 : decode cX8_copies 12 = .ok (.iload_n 1, 1) := by decide +kernel
theorem dX8_copies_13 : decode cX8_copies 13 = .ok (.iaload, 1) := by decide +kernel
theorem dX8_copies_14 : decode cX8_copies 14 = .ok (.aload_n 0, 1) := by decide +kernel
theorem dX8_copies_15 : decode cX8_copies 15 = .ok (.getfield 22, 3) := by decide +kernel
theorem dX8_copies_18 : decode cX8_copies 18 = .ok (.iload_n 1, 1) := by decide +kernel
theorem dX8_copies_19 : decode cX8_copies 19 = .ok (.iaload, 1) := by decide +kernel
theorem dX8_copies_20 : decode cX8_copies 20 = .ok (.aload_n 0, 1) := by decide +kernel
theorem dX8_copies_21 : decode cX8_copies 21 = .ok (.getfield 25, 3) := by decide +kernel
theorem dX8_copies_24 : decode cX8_copies 24 = .ok (.iload_n 1, 1) := by decide +kernel
theorem dX8_copies_25 : decode cX8_copies 25 = .ok (.iaload, 1) := by decide +kernel
theorem dX8_copies_26 : decode cX8_copies 26 = .ok (.invokevirtual 81, 3) := by decide +kernel
theorem dX8_copies_29 : decode cX8_copies 29 = .ok (.return_, 1) := by decide +kernel
theorem dX8_isTeller_0 : decode cX8_isTeller 0 = .ok (.iload_n 1, 1) := by decide +kernel
theorem dX8_isTeller_1 : decode cX8_isTeller 1 = .ok (.iconst 0, 1) := by decide +kernel
theorem dX8_isTeller_2 : decode cX8_isTeller 2 = .ok (.aload_n 0, 1) := by decide +kernel
theorem dX8_isTeller_3 : decode cX8_isTeller 3 = .ok (.getfield 88, 3) := by decide +kernel
theorem dX8_isTeller_6 : decode cX8_isTeller 6 = .ok (.iconst 1, 1) := by decide +kernel
theorem dX8_isTeller_7 : decode cX8_isTeller 7 = .ok (.isub, 1) := by decide +kernel
theorem dX8_isTeller_8 : decode cX8_isTeller 8 = .ok (.invokestatic 91, 3) := by decide +kernel
theorem dX8_isTeller_11 : decode cX8_isTeller 11 = .ok (.ireturn, 1) := by decide +kernel
theorem dX8_isFact_0 : decode cX8_isFact 0 = .ok (.iload_n 1, 1) := by decide +kernel
theorem dX8_isFact_1 : decode cX8_isFact 1 = .ok (.iconst 0, 1) := by decide +kernel
theorem dX8_isFact_2 : decode cX8_isFact 2 = .ok (.aload_n 0, 1) := by decide +kernel
theorem dX8_isFact_3 : decode cX8_isFact 3 = .ok (.getfield 74, 3) := by decide +kernel
theorem dX8_isFact_6 : decode cX8_isFact 6 = .ok (.iconst 1, 1) := by decide +kernel
theorem dX8_isFact_7 : decode cX8_isFact 7 = .ok (.isub, 1) := by decide +kernel
theorem dX8_isFact_8 : decode cX8_isFact 8 = .ok (.invokestatic 91, 3) := by decide +kernel
theorem dX8_isFact_11 : decode cX8_isFact 11 = .ok (.ireturn, 1) := by decide +kernel
theorem dX8_isClaim_0 : decode cX8_isClaim 0 = .ok (.iload_n 1, 1) := by decide +kernel
theorem dX8_isClaim_1 : decode cX8_isClaim 1 = .ok (.iconst 0, 1) := by decide +kernel
theorem dX8_isClaim_2 : decode cX8_isClaim 2 = .ok (.aload_n 0, 1) := by decide +kernel
theorem dX8_isClaim_3 : decode cX8_isClaim 3 = .ok (.getfield 85, 3) := by decide +kernel
theorem dX8_isClaim_6 : decode cX8_isClaim 6 = .ok (.iconst 1, 1) := by decide +kernel
theorem dX8_isClaim_7 : decode cX8_isClaim 7 = .ok (.isub, 1) := by decide +kernel
theorem dX8_isClaim_8 : decode cX8_isClaim 8 = .ok (.invokestatic 91, 3) := by decide +kernel
theorem dX8_isClaim_11 : decode cX8_isClaim 11 = .ok (.ireturn, 1) := by decide +kernel
theorem dX8_write_0 : decode cX8_write 0 = .ok (.iload_n 1, 1) := by decide +kernel
theorem dX8_write_1 : decode cX8_write 1 = .ok (.bipush 32, 2) := by decide +kernel
theorem dX8_write_3 : decode cX8_write 3 = .ok (.bipush 126, 2) := by decide +kernel
theorem dX8_write_5 : decode cX8_write 5 = .ok (.invokestatic 91, 3) := by decide +kernel
theorem dX8_write_8 : decode cX8_write 8 = .ok (.ifCond .ne 5, 3) := by decide +kernel
theorem dX8_write_11 : decode cX8_write 11 = .ok (.iconst (-1), 1) := by decide +kernel
theorem dX8_write_12 : decode cX8_write 12 = .ok (.ireturn, 1) := by decide +kernel
theorem dX8_write_13 : decode cX8_write 13 = .ok (.aload_n 0, 1) := by decide +kernel
theorem dX8_write_14 : decode cX8_write 14 = .ok (.getfield 95, 3) := by decide +kernel
theorem dX8_write_17 : decode cX8_write 17 = .ok (.sipush 200, 3) := by decide +kernel
theorem dX8_write_20 : decode cX8_write 20 = .ok (.if_icmp .ne 6, 3) := by decide +kernel
theorem dX8_write_23 : decode cX8_write 23 = .ok (.bipush (-3), 2) := by decide +kernel
theorem dX8_write_25 : decode cX8_write 25 = .ok (.ireturn, 1) := by decide +kernel
theorem dX8_write_26 : decode cX8_write 26 = .ok (.aload_n 0, 1) := by decide +kernel
theorem dX8_write_27 : decode cX8_write 27 = .ok (.getfield 34, 3) := by decide +kernel
theorem dX8_write_30 : decode cX8_write 30 = .ok (.aload_n 0, 1) := by decide +kernel
theorem dX8_write_31 : decode cX8_write 31 = .ok (.getfield 95, 3) := by decide +kernel
theorem dX8_write_34 : decode cX8_write 34 = .ok (.iload_n 1, 1) := by decide +kernel
theorem dX8_write_35 : decode cX8_write 35 = .ok (.iastore, 1) := by decide +kernel
theorem dX8_write_36 : decode cX8_write 36 = .ok (.aload_n 0, 1) := by decide +kernel
theorem dX8_write_37 : decode cX8_write 37 = .ok (.dup, 1) := by decide +kernel
theorem dX8_write_38 : decode cX8_write 38 = .ok (.getfield 95, 3) := by decide +kernel
theorem dX8_write_41 : decode cX8_write 41 = .ok (.iconst 1, 1) := by decide +kernel
theorem dX8_write_42 : decode cX8_write 42 = .ok (.iadd, 1) := by decide +kernel
theorem dX8_write_43 : decode cX8_write 43 = .ok (.putfield 95, 3) := by decide +kernel
theorem dX8_write_46 : decode cX8_write 46 = .ok (.aload_n 0, 1) := by decide +kernel
theorem dX8_write_47 : decode cX8_write 47 = .ok (.getfield 95, 3) := by decide +kernel
theorem dX8_write_50 : decode cX8_write 50 = .ok (.ireturn, 1) := by decide +kernel
theorem dX8_wipe_0 : decode cX8_wipe 0 = .ok (.aload_n 0, 1) := by decide +kernel
theorem dX8_wipe_1 : decode cX8_wipe 1 = .ok (.getfield 95, 3) := by decide +kernel
theorem dX8_wipe_4 : decode cX8_wipe 4 = .ok (.istore_n 1, 1) := by decide +kernel
theorem dX8_wipe_5 : decode cX8_wipe 5 = .ok (.aload_n 0, 1) := by decide +kernel
theorem dX8_wipe_6 : decode cX8_wipe 6 = .ok (.iconst 0, 1) := by decide +kernel
theorem dX8_wipe_7 : decode cX8_wipe 7 = .ok (.putfield 95, 3) := by decide +kernel
theorem dX8_wipe_10 : decode cX8_wipe 10 = .ok (.iload_n 1, 1) := by decide +kernel
theorem dX8_wipe_11 : decode cX8_wipe 11 = .ok (.ireturn, 1) := by decide +kernel
theorem dX8_here_0 : decode cX8_here 0 = .ok (.aload_n 0, 1) := by decide +kernel
theorem dX8_here_1 : decode cX8_here 1 = .ok (.getfield 98, 3) := by decide +kernel
theorem dX8_here_4 : decode cX8_here 4 = .ok (.aload_n 0, 1) := by decide +kernel
theorem dX8_here_5 : decode cX8_here 5 = .ok (.getfield 95, 3) := by decide +kernel
theorem dX8_here_8 : decode cX8_here 8 = .ok (.if_icmp .ge 15, 3) := by decide +kernel
theorem dX8_here_11 : decode cX8_here 11 = .ok (.aload_n 0, 1) := by decide +kernel
theorem dX8_here_12 : decode cX8_here 12 = .ok (.getfield 34, 3) := by decide +kernel
theorem dX8_here_15 : decode cX8_here 15 = .ok (.aload_n 0, 1) := by decide +kernel
theorem dX8_here_16 : decode cX8_here 16 = .ok (.getfield 98, 3) := by decide +kernel
theorem dX8_here_19 : decode cX8_here 19 = .ok (.iaload, 1) := by decide +kernel
theorem dX8_here_20 : decode cX8_here 20 = .ok (.goto 4, 3) := by decide +kernel
theorem dX8_here_23 : decode cX8_here 23 = .ok (.iconst 0, 1) := by decide +kernel
theorem dX8_here_24 : decode cX8_here 24 = .ok (.ireturn, 1) := by decide +kernel
theorem dX8_isFigure_0 : decode cX8_isFigure 0 = .ok (.aload_n 0, 1) := by decide +kernel
theorem dX8_isFigure_1 : decode cX8_isFigure 1 = .ok (.invokevirtual 101, 3) := by decide +kernel
theorem dX8_isFigure_4 : decode cX8_isFigure 4 = .ok (.bipush 48, 2) := by decide +kernel
theorem dX8_isFigure_6 : decode cX8_isFigure 6 = .ok (.bipush 57, 2) := by decide +kernel
theorem dX8_isFigure_8 : decode cX8_isFigure 8 = .ok (.invokestatic 91, 3) := by decide +kernel
theorem dX8_isFigure_11 : decode cX8_isFigure 11 = .ok (.ireturn, 1) := by decide +kernel
theorem dX8_number_0 : decode cX8_number 0 = .ok (.aload_n 0, 1) := by decide +kernel
theorem dX8_number_1 : decode cX8_number 1 = .ok (.invokevirtual 105, 3) := by decide +kernel
theorem dX8_number_4 : decode cX8_number 4 = .ok (.ifCond .ne 5, 3) := by decide +kernel
theorem dX8_number_7 : decode cX8_number 7 = .ok (.iconst 0, 1) := by decide +kernel
theorem dX8_number_8 : decode cX8_number 8 = .ok (.ireturn, 1) := by decide +kernel
theorem dX8_number_9 : decode cX8_number 9 = .ok (.aload_n 0, 1) := by decide +kernel
theorem dX8_number_10 : decode cX8_number 10 = .ok (.invokevirtual 101, 3) := by decide +kernel
theorem dX8_number_13 : decode cX8_number 13 = .ok (.bipush 48, 2) := by decide +kernel
theorem dX8_number_15 : decode cX8_number 15 = .ok (.isub, 1) := by decide +kernel
theorem dX8_number_16 : decode cX8_number 16 = .ok (.istore 4, 2) := by decide +kernel
theorem dX8_number_18 : decode cX8_number 18 = .ok (.aload_n 0, 1) := by decide +kernel
theorem dX8_number_19 : decode cX8_number 19 = .ok (.dup, 1) := by decide +kernel
theorem dX8_number_20 : decode cX8_number 20 = .ok (.getfield 98, 3) := by decide +kernel
theorem dX8_number_23 : decode cX8_number 23 = .ok (.iconst 1, 1) := by decide +kernel
theorem dX8_number_24 : decode cX8_number 24 = .ok (.iadd, 1) := by decide +kernel
theorem dX8_number_25 : decode cX8_number 25 = .ok (.putfield 98, 3) := by decide +kernel
theorem dX8_number_28 : decode cX8_number 28 = .ok (.aload_n 0, 1) := by decide +kernel
theorem dX8_number_29 : decode cX8_number 29 = .ok (.invokevirtual 105, 3) := by decide +kernel
theorem dX8_number_32 : decode cX8_number 32 = .ok (.ifCond .eq 28, 3) := by decide +kernel
theorem dX8_number_35 : decode cX8_number 35 = .ok (.bipush 10, 2) := by decide +kernel
theorem dX8_number_37 : decode cX8_number 37 = .ok (.iload 4, 2) := by decide +kernel
theorem dX8_number_39 : decode cX8_number 39 = .ok (.imul, 1) := by decide +kernel
theorem dX8_number_40 : decode cX8_number 40 = .ok (.aload_n 0, 1) := by decide +kernel
theorem dX8_number_41 : decode cX8_number 41 = .ok (.invokevirtual 101, 3) := by decide +kernel
theorem dX8_number_44 : decode cX8_number 44 = .ok (.iadd, 1) := by decide +kernel
theorem dX8_number_45 : decode cX8_number 45 = .ok (.bipush 48, 2) := by decide +kernel
theorem dX8_number_47 : decode cX8_number 47 = .ok (.isub, 1) := by decide +kernel
theorem dX8_number_48 : decode cX8_number 48 = .ok (.istore 4, 2) := by decide +kernel
theorem dX8_number_50 : decode cX8_number 50 = .ok (.aload_n 0, 1) := by decide +kernel
theorem dX8_number_51 : decode cX8_number 51 = .ok (.dup, 1) := by decide +kernel
theorem dX8_number_52 : decode cX8_number 52 = .ok (.getfield 98, 3) := by decide +kernel
theorem dX8_number_55 : decode cX8_number 55 = .ok (.iconst 1, 1) := by decide +kernel
theorem dX8_number_56 : decode cX8_number 56 = .ok (.iadd, 1) := by decide +kernel
theorem dX8_number_57 : decode cX8_number 57 = .ok (.putfield 98, 3) := by decide +kernel
theorem dX8_number_60 : decode cX8_number 60 = .ok (.aload_n 0, 1) := by decide +kernel
theorem dX8_number_61 : decode cX8_number 61 = .ok (.iload 4, 2) := by decide +kernel
theorem dX8_number_63 : decode cX8_number 63 = .ok (.putfield 109, 3) := by decide +kernel
theorem dX8_number_66 : decode cX8_number 66 = .ok (.aload_n 0, 1) := by decide +kernel
theorem dX8_number_67 : decode cX8_number 67 = .ok (.invokevirtual 101, 3) := by decide +kernel
theorem dX8_number_70 : decode cX8_number 70 = .ok (.iload_n 3, 1) := by decide +kernel
theorem dX8_number_71 : decode cX8_number 71 = .ok (.if_icmp .ne 13, 3) := by decide +kernel
theorem dX8_number_74 : decode cX8_number 74 = .ok (.iload 4, 2) := by decide +kernel
theorem dX8_number_76 : decode cX8_number 76 = .ok (.iload_n 1, 1) := by decide +kernel
theorem dX8_number_77 : decode cX8_number 77 = .ok (.iload_n 2, 1) := by decide +kernel
theorem dX8_number_78 : decode cX8_number 78 = .ok (.invokestatic 91, 3) := by decide +kernel
theorem dX8_number_81 : decode cX8_number 81 = .ok (.ifCond .ne 5, 3) := by decide +kernel
theorem dX8_number_84 : decode cX8_number 84 = .ok (.iconst 0, 1) := by decide +kernel
theorem dX8_number_85 : decode cX8_number 85 = .ok (.ireturn, 1) := by decide +kernel
theorem dX8_number_86 : decode cX8_number 86 = .ok (.aload_n 0, 1) := by decide +kernel
theorem dX8_number_87 : decode cX8_number 87 = .ok (.dup, 1) := by decide +kernel
theorem dX8_number_88 : decode cX8_number 88 = .ok (.getfield 98, 3) := by decide +kernel
theorem dX8_number_91 : decode cX8_number 91 = .ok (.iconst 1, 1) := by decide +kernel
theorem dX8_number_92 : decode cX8_number 92 = .ok (.iadd, 1) := by decide +kernel
theorem dX8_number_93 : decode cX8_number 93 = .ok (.putfield 98, 3) := by decide +kernel
theorem dX8_number_96 : decode cX8_number 96 = .ok (.iconst 1, 1) := by decide +kernel
theorem dX8_number_97 : decode cX8_number 97 = .ok (.ireturn, 1) := by decide +kernel
theorem dX8_readsTeller_0 : decode cX8_readsTeller 0 = .ok (.aload_n 0, 1) := by decide +kernel
theorem dX8_readsTeller_1 : decode cX8_readsTeller 1 = .ok (.getfield 112, 3) := by decide +kernel
theorem dX8_readsTeller_4 : decode cX8_readsTeller 4 = .ok (.iconst 5, 1) := by decide +kernel
theorem dX8_readsTeller_5 : decode cX8_readsTeller 5 = .ok (.if_icmp .eq 14, 3) := by decide +kernel
theorem dX8_readsTeller_8 : decode cX8_readsTeller 8 = .ok (.aload_n 0, 1) := by decide +kernel
theorem dX8_readsTeller_9 : decode cX8_readsTeller 9 = .ok (.iconst 0, 1) := by decide +kernel
theorem dX8_readsTeller_10 : decode cX8_readsTeller 10 = .ok (.iconst 3, 1) := by decide +kernel
theorem dX8_readsTeller_11 : decode cX8_readsTeller 11 = .ok (.bipush 44, 2) := by decide +kernel
theorem dX8_readsTeller_13 : decode cX8_readsTeller 13 = .ok (.invokevirtual 115, 3) := by decide +kernel
theorem dX8_readsTeller_16 : decode cX8_readsTeller 16 = .ok (.ifCond .ne 5, 3) := by decide +kernel
theorem dX8_readsTeller_19 : decode cX8_readsTeller 19 = .ok (.iconst 0, 1) := by decide +kernel
theorem dX8_readsTeller_20 : decode cX8_readsTeller 20 = .ok (.ireturn, 1) := by decide +kernel
theorem dX8_readsTeller_21 : decode cX8_readsTeller 21 = .ok (.aload_n 0, 1) := by decide +kernel
theorem dX8_readsTeller_22 : decode cX8_readsTeller 22 = .ok (.getfield 109, 3) := by decide +kernel
theorem dX8_readsTeller_25 : decode cX8_readsTeller 25 = .ok (.istore_n 1, 1) := by decide +kernel
theorem dX8_readsTeller_26 : decode cX8_readsTeller 26 = .ok (.aload_n 0, 1) := by decide +kernel
theorem dX8_readsTeller_27 : decode cX8_readsTeller 27 = .ok (.iconst 1, 1) := by decide +kernel
theorem dX8_readsTeller_28 : decode cX8_readsTeller 28 = .ok (.bipush 40, 2) := by decide +kernel
theorem dX8_readsTeller_30 : decode cX8_readsTeller 30 = .ok (.bipush 59, 2) := by decide +kernel
theorem dX8_readsTeller_32 : decode cX8_readsTeller 32 = .ok (.invokevirtual 115, 3) := by decide +kernel
theorem dX8_readsTeller_35 : decode cX8_readsTeller 35 = .ok (.ifCond .ne 5, 3) := by decide +kernel
theorem dX8_readsTeller_38 : decode cX8_readsTeller 38 = .ok (.iconst 0, 1) := by decide +kernel
theorem dX8_readsTeller_39 : decode cX8_readsTeller 39 = .ok (.ireturn, 1) := by decide +kernel
theorem dX8_readsTeller_40 : decode cX8_readsTeller 40 = .ok (.aload_n 0, 1) := by decide +kernel
theorem dX8_readsTeller_41 : decode cX8_readsTeller 41 = .ok (.getfield 37, 3) := by decide +kernel
theorem dX8_readsTeller_44 : decode cX8_readsTeller 44 = .ok (.aload_n 0, 1) := by decide +kernel
theorem dX8_readsTeller_45 : decode cX8_readsTeller 45 = .ok (.getfield 112, 3) := by decide +kernel
theorem dX8_readsTeller_48 : decode cX8_readsTeller 48 = .ok (.iload_n 1, 1) := by decide +kernel
theorem dX8_readsTeller_49 : decode cX8_readsTeller 49 = .ok (.iastore, 1) := by decide +kernel
theorem dX8_readsTeller_50 : decode cX8_readsTeller 50 = .ok (.aload_n 0, 1) := by decide +kernel
theorem dX8_readsTeller_51 : decode cX8_readsTeller 51 = .ok (.getfield 40, 3) := by decide +kernel
theorem dX8_readsTeller_54 : decode cX8_readsTeller 54 = .ok (.aload_n 0, 1) := by decide +kernel
theorem dX8_readsTeller_55 : decode cX8_readsTeller 55 = .ok (.getfield 112, 3) := by decide +kernel
theorem dX8_readsTeller_58 : decode cX8_readsTeller 58 = .ok (.aload_n 0, 1) := by decide +kernel
theorem dX8_readsTeller_59 : decode cX8_readsTeller 59 = .ok (.getfield 109, 3) := by decide +kernel
theorem dX8_readsTeller_62 : decode cX8_readsTeller 62 = .ok (.iastore, 1) := by decide +kernel
theorem dX8_readsTeller_63 : decode cX8_readsTeller 63 = .ok (.aload_n 0, 1) := by decide +kernel
theorem dX8_readsTeller_64 : decode cX8_readsTeller 64 = .ok (.dup, 1) := by decide +kernel
theorem dX8_readsTeller_65 : decode cX8_readsTeller 65 = .ok (.getfield 112, 3) := by decide +kernel
theorem dX8_readsTeller_68 : decode cX8_readsTeller 68 = .ok (.iconst 1, 1) := by decide +kernel
theorem dX8_readsTeller_69 : decode cX8_readsTeller 69 = .ok (.iadd, 1) := by decide +kernel
theorem dX8_readsTeller_70 : decode cX8_readsTeller 70 = .ok (.putfield 112, 3) := by decide +kernel
theorem dX8_readsTeller_73 : decode cX8_readsTeller 73 = .ok (.iconst 1, 1) := by decide +kernel
theorem dX8_readsTeller_74 : decode cX8_readsTeller 74 = .ok (.ireturn, 1) := by decide +kernel
theorem dX8_readsFact_0 : decode cX8_readsFact 0 = .ok (.aload_n 0, 1) := by decide +kernel
theorem dX8_readsFact_1 : decode cX8_readsFact 1 = .ok (.getfield 118, 3) := by decide +kernel
theorem dX8_readsFact_4 : decode cX8_readsFact 4 = .ok (.bipush 6, 2) := by decide +kernel
theorem dX8_readsFact_6 : decode cX8_readsFact 6 = .ok (.if_icmp .eq 14, 3) := by decide +kernel
theorem dX8_readsFact_9 : decode cX8_readsFact 9 = .ok (.aload_n 0, 1) := by decide +kernel
theorem dX8_readsFact_10 : decode cX8_readsFact 10 = .ok (.iconst 0, 1) := by decide +kernel
theorem dX8_readsFact_11 : decode cX8_readsFact 11 = .ok (.iconst 1, 1) := by decide +kernel
theorem dX8_readsFact_12 : decode cX8_readsFact 12 = .ok (.bipush 59, 2) := by decide +kernel
theorem dX8_readsFact_14 : decode cX8_readsFact 14 = .ok (.invokevirtual 115, 3) := by decide +kernel
theorem dX8_readsFact_17 : decode cX8_readsFact 17 = .ok (.ifCond .ne 5, 3) := by decide +kernel
theorem dX8_readsFact_20 : decode cX8_readsFact 20 = .ok (.iconst 0, 1) := by decide +kernel
theorem dX8_readsFact_21 : decode cX8_readsFact 21 = .ok (.ireturn, 1) := by decide +kernel
theorem dX8_readsFact_22 : decode cX8_readsFact 22 = .ok (.aload_n 0, 1) := by decide +kernel
theorem dX8_readsFact_23 : decode cX8_readsFact 23 = .ok (.getfield 43, 3) := by decide +kernel
theorem dX8_readsFact_26 : decode cX8_readsFact 26 = .ok (.aload_n 0, 1) := by decide +kernel
theorem dX8_readsFact_27 : decode cX8_readsFact 27 = .ok (.getfield 118, 3) := by decide +kernel
theorem dX8_readsFact_30 : decode cX8_readsFact 30 = .ok (.aload_n 0, 1) := by decide +kernel
theorem dX8_readsFact_31 : decode cX8_readsFact 31 = .ok (.getfield 109, 3) := by decide +kernel
theorem dX8_readsFact_34 : decode cX8_readsFact 34 = .ok (.iastore, 1) := by decide +kernel
theorem dX8_readsFact_35 : decode cX8_readsFact 35 = .ok (.aload_n 0, 1) := by decide +kernel
theorem dX8_readsFact_36 : decode cX8_readsFact 36 = .ok (.dup, 1) := by decide +kernel
theorem dX8_readsFact_37 : decode cX8_readsFact 37 = .ok (.getfield 118, 3) := by decide +kernel
theorem dX8_readsFact_40 : decode cX8_readsFact 40 = .ok (.iconst 1, 1) := by decide +kernel
theorem dX8_readsFact_41 : decode cX8_readsFact 41 = .ok (.iadd, 1) := by decide +kernel
theorem dX8_readsFact_42 : decode cX8_readsFact 42 = .ok (.putfield 118, 3) := by decide +kernel
theorem dX8_readsFact_45 : decode cX8_readsFact 45 = .ok (.iconst 1, 1) := by decide +kernel
theorem dX8_readsFact_46 : decode cX8_readsFact 46 = .ok (.ireturn, 1) := by decide +kernel
theorem dX8_readsClaim_0 : decode cX8_readsClaim 0 = .ok (.aload_n 0, 1) := by decide +kernel
theorem dX8_readsClaim_1 : decode cX8_readsClaim 1 = .ok (.getfield 121, 3) := by decide +kernel
theorem dX8_readsClaim_4 : decode cX8_readsClaim 4 = .ok (.bipush 7, 2) := by decide +kernel
theorem dX8_readsClaim_6 : decode cX8_readsClaim 6 = .ok (.if_icmp .eq 19, 3) := by decide +kernel
theorem dX8_readsClaim_9 : decode cX8_readsClaim 9 = .ok (.aload_n 0, 1) := by decide +kernel
theorem dX8_readsClaim_10 : decode cX8_readsClaim 10 = .ok (.iconst 0, 1) := by decide +kernel
theorem dX8_readsClaim_11 : decode cX8_readsClaim 11 = .ok (.aload_n 0, 1) := by decide +kernel
theorem dX8_readsClaim_12 : decode cX8_readsClaim 12 = .ok (.getfield 112, 3) := by decide +kernel
theorem dX8_readsClaim_15 : decode cX8_readsClaim 15 = .ok (.iconst 1, 1) := by decide +kernel
theorem dX8_readsClaim_16 : decode cX8_readsClaim 16 = .ok (.isub, 1) := by decide +kernel
theorem dX8_readsClaim_17 : decode cX8_readsClaim 17 = .ok (.bipush 44, 2) := by decide +kernel
theorem dX8_readsClaim_19 : decode cX8_readsClaim 19 = .ok (.invokevirtual 115, 3) := by decide +kernel
theorem dX8_readsClaim_22 : decode cX8_readsClaim 22 = .ok (.ifCond .ne 5, 3) := by decide +kernel
theorem dX8_readsClaim_25 : decode cX8_readsClaim 25 = .ok (.iconst 0, 1) := by decide +kernel
theorem dX8_readsClaim_26 : decode cX8_readsClaim 26 = .ok (.ireturn, 1) := by decide +kernel
theorem dX8_readsClaim_27 : decode cX8_readsClaim 27 = .ok (.aload_n 0, 1) := by decide +kernel
theorem dX8_readsClaim_28 : decode cX8_readsClaim 28 = .ok (.getfield 46, 3) := by decide +kernel
theorem dX8_readsClaim_31 : decode cX8_readsClaim 31 = .ok (.iconst 4, 1) := by decide +kernel
theorem dX8_readsClaim_32 : decode cX8_readsClaim 32 = .ok (.aload_n 0, 1) := by decide +kernel
theorem dX8_readsClaim_33 : decode cX8_readsClaim 33 = .ok (.getfield 121, 3) := by decide +kernel
theorem dX8_readsClaim_36 : decode cX8_readsClaim 36 = .ok (.imul, 1) := by decide +kernel
theorem dX8_readsClaim_37 : decode cX8_readsClaim 37 = .ok (.aload_n 0, 1) := by decide +kernel
theorem dX8_readsClaim_38 : decode cX8_readsClaim 38 = .ok (.getfield 109, 3) := by decide +kernel
theorem dX8_readsClaim_41 : decode cX8_readsClaim 41 = .ok (.iastore, 1) := by decide +kernel
theorem dX8_readsClaim_42 : decode cX8_readsClaim 42 = .ok (.aload_n 0, 1) := by decide +kernel
theorem dX8_readsClaim_43 : decode cX8_readsClaim 43 = .ok (.iconst 0, 1) := by decide +kernel
theorem dX8_readsClaim_44 : decode cX8_readsClaim 44 = .ok (.aload_n 0, 1) := by decide +kernel
theorem dX8_readsClaim_45 : decode cX8_readsClaim 45 = .ok (.getfield 118, 3) := by decide +kernel
theorem dX8_readsClaim_48 : decode cX8_readsClaim 48 = .ok (.iconst 1, 1) := by decide +kernel
theorem dX8_readsClaim_49 : decode cX8_readsClaim 49 = .ok (.isub, 1) := by decide +kernel
theorem dX8_readsClaim_50 : decode cX8_readsClaim 50 = .ok (.bipush 44, 2) := by decide +kernel
theorem dX8_readsClaim_52 : decode cX8_readsClaim 52 = .ok (.invokevirtual 115, 3) := by decide +kernel
theorem dX8_readsClaim_55 : decode cX8_readsClaim 55 = .ok (.ifCond .ne 5, 3) := by decide +kernel
theorem dX8_readsClaim_58 : decode cX8_readsClaim 58 = .ok (.iconst 0, 1) := by decide +kernel
theorem dX8_readsClaim_59 : decode cX8_readsClaim 59 = .ok (.ireturn, 1) := by decide +kernel
theorem dX8_readsClaim_60 : decode cX8_readsClaim 60 = .ok (.aload_n 0, 1) := by decide +kernel
theorem dX8_readsClaim_61 : decode cX8_readsClaim 61 = .ok (.getfield 46, 3) := by decide +kernel
theorem dX8_readsClaim_64 : decode cX8_readsClaim 64 = .ok (.iconst 4, 1) := by decide +kernel
theorem dX8_readsClaim_65 : decode cX8_readsClaim 65 = .ok (.aload_n 0, 1) := by decide +kernel
theorem dX8_readsClaim_66 : decode cX8_readsClaim 66 = .ok (.getfield 121, 3) := by decide +kernel
theorem dX8_readsClaim_69 : decode cX8_readsClaim 69 = .ok (.imul, 1) := by decide +kernel
theorem dX8_readsClaim_70 : decode cX8_readsClaim 70 = .ok (.iconst 1, 1) := by decide +kernel
theorem dX8_readsClaim_71 : decode cX8_readsClaim 71 = .ok (.iadd, 1) := by decide +kernel
theorem dX8_readsClaim_72 : decode cX8_readsClaim 72 = .ok (.aload_n 0, 1) := by decide +kernel
theorem dX8_readsClaim_73 : decode cX8_readsClaim 73 = .ok (.getfield 109, 3) := by decide +kernel
theorem dX8_readsClaim_76 : decode cX8_readsClaim 76 = .ok (.iastore, 1) := by decide +kernel
theorem dX8_readsClaim_77 : decode cX8_readsClaim 77 = .ok (.aload_n 0, 1) := by decide +kernel
theorem dX8_readsClaim_78 : decode cX8_readsClaim 78 = .ok (.iconst 0, 1) := by decide +kernel
theorem dX8_readsClaim_79 : decode cX8_readsClaim 79 = .ok (.iconst 1, 1) := by decide +kernel
theorem dX8_readsClaim_80 : decode cX8_readsClaim 80 = .ok (.bipush 44, 2) := by decide +kernel
theorem dX8_readsClaim_82 : decode cX8_readsClaim 82 = .ok (.invokevirtual 115, 3) := by decide +kernel
theorem dX8_readsClaim_85 : decode cX8_readsClaim 85 = .ok (.ifCond .ne 5, 3) := by decide +kernel
theorem dX8_readsClaim_88 : decode cX8_readsClaim 88 = .ok (.iconst 0, 1) := by decide +kernel
theorem dX8_readsClaim_89 : decode cX8_readsClaim 89 = .ok (.ireturn, 1) := by decide +kernel
theorem dX8_readsClaim_90 : decode cX8_readsClaim 90 = .ok (.aload_n 0, 1) := by decide +kernel
theorem dX8_readsClaim_91 : decode cX8_readsClaim 91 = .ok (.getfield 46, 3) := by decide +kernel
theorem dX8_readsClaim_94 : decode cX8_readsClaim 94 = .ok (.iconst 4, 1) := by decide +kernel
theorem dX8_readsClaim_95 : decode cX8_readsClaim 95 = .ok (.aload_n 0, 1) := by decide +kernel
theorem dX8_readsClaim_96 : decode cX8_readsClaim 96 = .ok (.getfield 121, 3) := by decide +kernel
theorem dX8_readsClaim_99 : decode cX8_readsClaim 99 = .ok (.imul, 1) := by decide +kernel
theorem dX8_readsClaim_100 : decode cX8_readsClaim 100 = .ok (.iconst 2, 1) := by decide +kernel
theorem dX8_readsClaim_101 : decode cX8_readsClaim 101 = .ok (.iadd, 1) := by decide +kernel
theorem dX8_readsClaim_102 : decode cX8_readsClaim 102 = .ok (.aload_n 0, 1) := by decide +kernel
theorem dX8_readsClaim_103 : decode cX8_readsClaim 103 = .ok (.getfield 109, 3) := by decide +kernel
theorem dX8_readsClaim_106 : decode cX8_readsClaim 106 = .ok (.iastore, 1) := by decide +kernel
theorem dX8_readsClaim_107 : decode cX8_readsClaim 107 = .ok (.aload_n 0, 1) := by decide +kernel
theorem dX8_readsClaim_108 : decode cX8_readsClaim 108 = .ok (.iconst 1, 1) := by decide +kernel
theorem dX8_readsClaim_109 : decode cX8_readsClaim 109 = .ok (.bipush 20, 2) := by decide +kernel
theorem dX8_readsClaim_111 : decode cX8_readsClaim 111 = .ok (.bipush 59, 2) := by decide +kernel
theorem dX8_readsClaim_113 : decode cX8_readsClaim 113 = .ok (.invokevirtual 115, 3) := by decide +kernel
theorem dX8_readsClaim_116 : decode cX8_readsClaim 116 = .ok (.ifCond .ne 5, 3) := by decide +kernel
theorem dX8_readsClaim_119 : decode cX8_readsClaim 119 = .ok (.iconst 0, 1) := by decide +kernel
theorem dX8_readsClaim_120 : decode cX8_readsClaim 120 = .ok (.ireturn, 1) := by decide +kernel
theorem dX8_readsClaim_121 : decode cX8_readsClaim 121 = .ok (.aload_n 0, 1) := by decide +kernel
theorem dX8_readsClaim_122 : decode cX8_readsClaim 122 = .ok (.getfield 46, 3) := by decide +kernel
theorem dX8_readsClaim_125 : decode cX8_readsClaim 125 = .ok (.iconst 4, 1) := by decide +kernel
theorem dX8_readsClaim_126 : decode cX8_readsClaim 126 = .ok (.aload_n 0, 1) := by decide +kernel
theorem dX8_readsClaim_127 : decode cX8_readsClaim 127 = .ok (.getfield 121, 3) := by decide +kernel
theorem dX8_readsClaim_130 : decode cX8_readsClaim 130 = .ok (.imul, 1) := by decide +kernel
theorem dX8_readsClaim_131 : decode cX8_readsClaim 131 = .ok (.iconst 3, 1) := by decide +kernel
theorem dX8_readsClaim_132 : decode cX8_readsClaim 132 = .ok (.iadd, 1) := by decide +kernel
theorem dX8_readsClaim_133 : decode cX8_readsClaim 133 = .ok (.aload_n 0, 1) := by decide +kernel
theorem dX8_readsClaim_134 : decode cX8_readsClaim 134 = .ok (.getfield 109, 3) := by decide +kernel
theorem dX8_readsClaim_137 : decode cX8_readsClaim 137 = .ok (.iastore, 1) := by decide +kernel
theorem dX8_readsClaim_138 : decode cX8_readsClaim 138 = .ok (.aload_n 0, 1) := by decide +kernel
theorem dX8_readsClaim_139 : decode cX8_readsClaim 139 = .ok (.dup, 1) := by decide +kernel
theorem dX8_readsClaim_140 : decode cX8_readsClaim 140 = .ok (.getfield 121, 3) := by decide +kernel
theorem dX8_readsClaim_143 : decode cX8_readsClaim 143 = .ok (.iconst 1, 1) := by decide +kernel
theorem dX8_readsClaim_144 : decode cX8_readsClaim 144 = .ok (.iadd, 1) := by decide +kernel
theorem dX8_readsClaim_145 : decode cX8_readsClaim 145 = .ok (.putfield 121, 3) := by decide +kernel
theorem dX8_readsClaim_148 : decode cX8_readsClaim 148 = .ok (.iconst 1, 1) := by decide +kernel
theorem dX8_readsClaim_149 : decode cX8_readsClaim 149 = .ok (.ireturn, 1) := by decide +kernel
theorem dX8_readsItem_0 : decode cX8_readsItem 0 = .ok (.aload_n 0, 1) := by decide +kernel
theorem dX8_readsItem_1 : decode cX8_readsItem 1 = .ok (.invokevirtual 101, 3) := by decide +kernel
theorem dX8_readsItem_4 : decode cX8_readsItem 4 = .ok (.istore_n 1, 1) := by decide +kernel
theorem dX8_readsItem_5 : decode cX8_readsItem 5 = .ok (.aload_n 0, 1) := by decide +kernel
theorem dX8_readsItem_6 : decode cX8_readsItem 6 = .ok (.dup, 1) := by decide +kernel
theorem dX8_readsItem_7 : decode cX8_readsItem 7 = .ok (.getfield 98, 3) := by decide +kernel
theorem dX8_readsItem_10 : decode cX8_readsItem 10 = .ok (.iconst 1, 1) := by decide +kernel
theorem dX8_readsItem_11 : decode cX8_readsItem 11 = .ok (.iadd, 1) := by decide +kernel
theorem dX8_readsItem_12 : decode cX8_readsItem 12 = .ok (.putfield 98, 3) := by decide +kernel
theorem dX8_readsItem_15 : decode cX8_readsItem 15 = .ok (.iload_n 1, 1) := by decide +kernel
theorem dX8_readsItem_16 : decode cX8_readsItem 16 = .ok (.bipush 116, 2) := by decide +kernel
theorem dX8_readsItem_18 : decode cX8_readsItem 18 = .ok (.if_icmp .ne 10, 3) := by decide +kernel
theorem dX8_readsItem_21 : decode cX8_readsItem 21 = .ok (.aload_n 0, 1) := by decide +kernel
theorem dX8_readsItem_22 : decode cX8_readsItem 22 = .ok (.invokevirtual 124, 3) := by decide +kernel
theorem dX8_readsItem_25 : decode cX8_readsItem 25 = .ok (.goto 34, 3) := by decide +kernel
theorem dX8_readsItem_28 : decode cX8_readsItem 28 = .ok (.iload_n 1, 1) := by decide +kernel
theorem dX8_readsItem_29 : decode cX8_readsItem 29 = .ok (.bipush 102, 2) := by decide +kernel
theorem dX8_readsItem_31 : decode cX8_readsItem 31 = .ok (.if_icmp .ne 10, 3) := by decide +kernel
theorem dX8_readsItem_34 : decode cX8_readsItem 34 = .ok (.aload_n 0, 1) := by decide +kernel
theorem dX8_readsItem_35 : decode cX8_readsItem 35 = .ok (.invokevirtual 127, 3) := by decide +kernel
theorem dX8_readsItem_38 : decode cX8_readsItem 38 = .ok (.goto 21, 3) := by decide +kernel
theorem dX8_readsItem_41 : decode cX8_readsItem 41 = .ok (.iload_n 1, 1) := by decide +kernel
theorem dX8_readsItem_42 : decode cX8_readsItem 42 = .ok (.bipush 99, 2) := by decide +kernel
theorem dX8_readsItem_44 : decode cX8_readsItem 44 = .ok (.if_icmp .ne 14, 3) := by decide +kernel
theorem dX8_readsItem_47 : decode cX8_readsItem 47 = .ok (.aload_n 0, 1) := by decide +kernel
theorem dX8_readsItem_48 : decode cX8_readsItem 48 = .ok (.invokevirtual 130, 3) := by decide +kernel
theorem dX8_readsItem_51 : decode cX8_readsItem 51 = .ok (.ifCond .eq 7, 3) := by decide +kernel
theorem dX8_readsItem_54 : decode cX8_readsItem 54 = .ok (.iconst 1, 1) := by decide +kernel
theorem dX8_readsItem_55 : decode cX8_readsItem 55 = .ok (.goto 4, 3) := by decide +kernel
theorem dX8_readsItem_58 : decode cX8_readsItem 58 = .ok (.iconst 0, 1) := by decide +kernel
theorem dX8_readsItem_59 : decode cX8_readsItem 59 = .ok (.ireturn, 1) := by decide +kernel
theorem dX8_fault_0 : decode cX8_fault 0 = .ok (.aload_n 0, 1) := by decide +kernel
theorem dX8_fault_1 : decode cX8_fault 1 = .ok (.iconst 0, 1) := by decide +kernel
theorem dX8_fault_2 : decode cX8_fault 2 = .ok (.putfield 98, 3) := by decide +kernel
theorem dX8_fault_5 : decode cX8_fault 5 = .ok (.aload_n 0, 1) := by decide +kernel
theorem dX8_fault_6 : decode cX8_fault 6 = .ok (.iconst 0, 1) := by decide +kernel
theorem dX8_fault_7 : decode cX8_fault 7 = .ok (.putfield 112, 3) := by decide +kernel
theorem dX8_fault_10 : decode cX8_fault 10 = .ok (.aload_n 0, 1) := by decide +kernel
theorem dX8_fault_11 : decode cX8_fault 11 = .ok (.iconst 0, 1) := by decide +kernel
theorem dX8_fault_12 : decode cX8_fault 12 = .ok (.putfield 118, 3) := by decide +kernel
theorem dX8_fault_15 : decode cX8_fault 15 = .ok (.aload_n 0, 1) := by decide +kernel
theorem dX8_fault_16 : decode cX8_fault 16 = .ok (.iconst 0, 1) := by decide +kernel
theorem dX8_fault_17 : decode cX8_fault 17 = .ok (.putfield 121, 3) := by decide +kernel
theorem dX8_fault_20 : decode cX8_fault 20 = .ok (.aload_n 0, 1) := by decide +kernel
theorem dX8_fault_21 : decode cX8_fault 21 = .ok (.getfield 98, 3) := by decide +kernel
theorem dX8_fault_24 : decode cX8_fault 24 = .ok (.aload_n 0, 1) := by decide +kernel
theorem dX8_fault_25 : decode cX8_fault 25 = .ok (.getfield 95, 3) := by decide +kernel
theorem dX8_fault_28 : decode cX8_fault 28 = .ok (.if_icmp .ge 20, 3) := by decide +kernel
theorem dX8_fault_31 : decode cX8_fault 31 = .ok (.aload_n 0, 1) := by decide +kernel
theorem dX8_fault_32 : decode cX8_fault 32 = .ok (.getfield 98, 3) := by decide +kernel
theorem dX8_fault_35 : decode cX8_fault 35 = .ok (.istore_n 1, 1) := by decide +kernel
theorem dX8_fault_36 : decode cX8_fault 36 = .ok (.aload_n 0, 1) := by decide +kernel
theorem dX8_fault_37 : decode cX8_fault 37 = .ok (.invokevirtual 133, 3) := by decide +kernel
theorem dX8_fault_40 : decode cX8_fault 40 = .ok (.ifCond .ne 5, 3) := by decide +kernel
theorem dX8_fault_43 : decode cX8_fault 43 = .ok (.iload_n 1, 1) := by decide +kernel
theorem dX8_fault_44 : decode cX8_fault 44 = .ok (.ireturn, 1) := by decide +kernel
theorem dX8_fault_45 : decode cX8_fault 45 = .ok (.goto (-25), 3) := by decide +kernel
theorem dX8_fault_48 : decode cX8_fault 48 = .ok (.bipush (-4), 2) := by decide +kernel
theorem dX8_fault_50 : decode cX8_fault 50 = .ok (.ireturn, 1) := by decide +kernel
theorem dX8_lay_0 : decode cX8_lay 0 = .ok (.aload_n 0, 1) := by decide +kernel
theorem dX8_lay_1 : decode cX8_lay 1 = .ok (.invokevirtual 136, 3) := by decide +kernel
theorem dX8_lay_4 : decode cX8_lay 4 = .ok (.bipush (-4), 2) := by decide +kernel
theorem dX8_lay_6 : decode cX8_lay 6 = .ok (.if_icmp .ne 17, 3) := by decide +kernel
theorem dX8_lay_9 : decode cX8_lay 9 = .ok (.aload_n 0, 1) := by decide +kernel
theorem dX8_lay_10 : decode cX8_lay 10 = .ok (.getfield 112, 3) := by decide +kernel
theorem dX8_lay_13 : decode cX8_lay 13 = .ok (.ifCond .eq 10, 3) := by decide +kernel
theorem dX8_lay_16 : decode cX8_lay 16 = .ok (.aload_n 0, 1) := by decide +kernel
theorem dX8_lay_17 : decode cX8_lay 17 = .ok (.getfield 118, 3) := by decide +kernel
theorem dX8_lay_20 : decode cX8_lay 20 = .ok (.ifCond .ne 6, 3) := by decide +kernel
theorem dX8_lay_23 : decode cX8_lay 23 = .ok (.bipush (-2), 2) := by decide +kernel
theorem dX8_lay_25 : decode cX8_lay 25 = .ok (.ireturn, 1) := by decide +kernel
theorem dX8_lay_26 : decode cX8_lay 26 = .ok (.aload_n 0, 1) := by decide +kernel
theorem dX8_lay_27 : decode cX8_lay 27 = .ok (.aload_n 0, 1) := by decide +kernel
theorem dX8_lay_28 : decode cX8_lay 28 = .ok (.getfield 112, 3) := by decide +kernel
theorem dX8_lay_31 : decode cX8_lay 31 = .ok (.putfield 88, 3) := by decide +kernel
theorem dX8_lay_34 : decode cX8_lay 34 = .ok (.aload_n 0, 1) := by decide +kernel
theorem dX8_lay_35 : decode cX8_lay 35 = .ok (.aload_n 0, 1) := by decide +kernel
theorem dX8_lay_36 : decode cX8_lay 36 = .ok (.getfield 118, 3) := by decide +kernel
theorem dX8_lay_39 : decode cX8_lay 39 = .ok (.putfield 74, 3) := by decide +kernel
theorem dX8_lay_42 : decode cX8_lay 42 = .ok (.aload_n 0, 1) := by decide +kernel
theorem dX8_lay_43 : decode cX8_lay 43 = .ok (.aload_n 0, 1) := by decide +kernel
theorem dX8_lay_44 : decode cX8_lay 44 = .ok (.getfield 121, 3) := by decide +kernel
theorem dX8_lay_47 : decode cX8_lay 47 = .ok (.putfield 85, 3) := by decide +kernel
theorem dX8_lay_50 : decode cX8_lay 50 = .ok (.iconst 0, 1) := by decide +kernel
theorem dX8_lay_51 : decode cX8_lay 51 = .ok (.istore_n 1, 1) := by decide +kernel
theorem dX8_lay_52 : decode cX8_lay 52 = .ok (.iload_n 1, 1) := by decide +kernel
theorem dX8_lay_53 : decode cX8_lay 53 = .ok (.iconst 5, 1) := by decide +kernel
theorem dX8_lay_54 : decode cX8_lay 54 = .ok (.if_icmp .ge 33, 3) := by decide +kernel
theorem dX8_lay_57 : decode cX8_lay 57 = .ok (.aload_n 0, 1) := by decide +kernel
theorem dX8_lay_58 : decode cX8_lay 58 = .ok (.getfield 9, 3) := by decide +kernel
theorem dX8_lay_61 : decode cX8_lay 61 = .ok (.iload_n 1, 1) := by decide +kernel
theorem dX8_lay_62 : decode cX8_lay 62 = .ok (.aload_n 0, 1) := by decide +kernel
theorem dX8_lay_63 : decode cX8_lay 63 = .ok (.getfield 37, 3) := by decide +kernel
theorem dX8_lay_66 : decode cX8_lay 66 = .ok (.iload_n 1, 1) := by decide +kernel
theorem dX8_lay_67 : decode cX8_lay 67 = .ok (.iaload, 1) := by decide +kernel
theorem dX8_lay_68 : decode cX8_lay 68 = .ok (.iastore, 1) := by decide +kernel
theorem dX8_lay_69 : decode cX8_lay 69 = .ok (.aload_n 0, 1) := by decide +kernel
theorem dX8_lay_70 : decode cX8_lay 70 = .ok (.getfield 13, 3) := by decide +kernel
theorem dX8_lay_73 : decode cX8_lay 73 = .ok (.iload_n 1, 1) := by decide +kernel
theorem dX8_lay_74 : decode cX8_lay 74 = .ok (.aload_n 0, 1) := by decide +kernel
theorem dX8_lay_75 : decode cX8_lay 75 = .ok (.getfield 40, 3) := by decide +kernel
theorem dX8_lay_78 : decode cX8_lay 78 = .ok (.iload_n 1, 1) := by decide +kernel
theorem dX8_lay_79 : decode cX8_lay 79 = .ok (.iaload, 1) := by decide +kernel
theorem dX8_lay_80 : decode cX8_lay 80 = .ok (.iastore, 1) := by decide +kernel
theorem dX8_lay_81 : decode cX8_lay 81 = .ok (.iinc 1 1, 3) := by decide +kernel
theorem dX8_lay_84 : decode cX8_lay 84 = .ok (.goto (-32), 3) := by decide +kernel
theorem dX8_lay_87 : decode cX8_lay 87 = .ok (.aload_n 0, 1) := by decide +kernel
theorem dX8_lay_88 : decode cX8_lay 88 = .ok (.iconst 0, 1) := by decide +kernel
theorem dX8_lay_89 : decode cX8_lay 89 = .ok (.putfield 78, 3) := by decide +kernel
theorem dX8_lay_92 : decode cX8_lay 92 = .ok (.iconst 0, 1) := by decide +kernel
theorem dX8_lay_93 : decode cX8_lay 93 = .ok (.istore_n 1, 1) := by decide +kernel
theorem dX8_lay_94 : decode cX8_lay 94 = .ok (.iload_n 1, 1) := by decide +kernel
theorem dX8_lay_95 : decode cX8_lay 95 = .ok (.aload_n 0, 1) := by decide +kernel
theorem dX8_lay_96 : decode cX8_lay 96 = .ok (.getfield 74, 3) := by decide +kernel
theorem dX8_lay_99 : decode cX8_lay 99 = .ok (.if_icmp .ge 26, 3) := by decide +kernel
theorem dX8_lay_102 : decode cX8_lay 102 = .ok (.aload_n 0, 1) := by decide +kernel
theorem dX8_lay_103 : decode cX8_lay 103 = .ok (.dup, 1) := by decide +kernel
theorem dX8_lay_104 : decode cX8_lay 104 = .ok (.getfield 78, 3) := by decide +kernel
theorem dX8_lay_107 : decode cX8_lay 107 = .ok (.aload_n 0, 1) := by decide +kernel
theorem dX8_lay_108 : decode cX8_lay 108 = .ok (.getfield 43, 3) := by decide +kernel
theorem dX8_lay_111 : decode cX8_lay 111 = .ok (.iload_n 1, 1) := by decide +kernel
theorem dX8_lay_112 : decode cX8_lay 112 = .ok (.iaload, 1) := by decide +kernel
theorem dX8_lay_113 : decode cX8_lay 113 = .ok (.iload_n 1, 1) := by decide +kernel
theorem dX8_lay_114 : decode cX8_lay 114 = .ok (.ishl, 1) := by decide +kernel
theorem dX8_lay_115 : decode cX8_lay 115 = .ok (.ior, 1) := by decide +kernel
theorem dX8_lay_116 : decode cX8_lay 116 = .ok (.putfield 78, 3) := by decide +kernel
theorem dX8_lay_119 : decode cX8_lay 119 = .ok (.iinc 1 1, 3) := by decide +kernel
theorem dX8_lay_122 : decode cX8_lay 122 = .ok (.goto (-28), 3) := by decide +kernel
theorem dX8_lay_125 : decode cX8_lay 125 = .ok (.iconst 0, 1) := by decide +kernel
theorem dX8_lay_126 : decode cX8_lay 126 = .ok (.istore_n 1, 1) := by decide +kernel
theorem dX8_lay_127 : decode cX8_lay 127 = .ok (.iload_n 1, 1) := by decide +kernel
theorem dX8_lay_128 : decode cX8_lay 128 = .ok (.aload_n 0, 1) := by decide +kernel
theorem dX8_lay_129 : decode cX8_lay 129 = .ok (.getfield 85, 3) := by decide +kernel
theorem dX8_lay_132 : decode cX8_lay 132 = .ok (.if_icmp .ge 52, 3) := by decide +kernel
theorem dX8_lay_135 : decode cX8_lay 135 = .ok (.aload_n 0, 1) := by decide +kernel
theorem dX8_lay_136 : decode cX8_lay 136 = .ok (.iload_n 1, 1) := by decide +kernel
theorem dX8_lay_137 : decode cX8_lay 137 = .ok (.aload_n 0, 1) := by decide +kernel
theorem dX8_lay_138 : decode cX8_lay 138 = .ok (.getfield 46, 3) := by decide +kernel
theorem dX8_lay_141 : decode cX8_lay 141 = .ok (.iconst 4, 1) := by decide +kernel
theorem dX8_lay_142 : decode cX8_lay 142 = .ok (.iload_n 1, 1) := by decide +kernel
theorem dX8_lay_143 : decode cX8_lay 143 = .ok (.imul, 1) := by decide +kernel
theorem dX8_lay_144 : decode cX8_lay 144 = .ok (.iaload, 1) := by decide +kernel
theorem dX8_lay_145 : decode cX8_lay 145 = .ok (.aload_n 0, 1) := by decide +kernel
theorem dX8_lay_146 : decode cX8_lay 146 = .ok (.getfield 46, 3) := by decide +kernel
theorem dX8_lay_149 : decode cX8_lay 149 = .ok (.iconst 4, 1) := by decide +kernel
theorem dX8_lay_150 : decode cX8_lay 150 = .ok (.iload_n 1, 1) := by decide +kernel
theorem dX8_lay_151 : decode cX8_lay 151 = .ok (.imul, 1) := by decide +kernel
theorem dX8_lay_152 : decode cX8_lay 152 = .ok (.iconst 1, 1) := by decide +kernel
theorem dX8_lay_153 : decode cX8_lay 153 = .ok (.iadd, 1) := by decide +kernel
theorem dX8_lay_154 : decode cX8_lay 154 = .ok (.iaload, 1) := by decide +kernel
theorem dX8_lay_155 : decode cX8_lay 155 = .ok (.aload_n 0, 1) := by decide +kernel
theorem dX8_lay_156 : decode cX8_lay 156 = .ok (.getfield 46, 3) := by decide +kernel
theorem dX8_lay_159 : decode cX8_lay 159 = .ok (.iconst 4, 1) := by decide +kernel
theorem dX8_lay_160 : decode cX8_lay 160 = .ok (.iload_n 1, 1) := by decide +kernel
theorem dX8_lay_161 : decode cX8_lay 161 = .ok (.imul, 1) := by decide +kernel
theorem dX8_lay_162 : decode cX8_lay 162 = .ok (.iconst 2, 1) := by decide +kernel
theorem dX8_lay_163 : decode cX8_lay 163 = .ok (.iadd, 1) := by decide +kernel
theorem dX8_lay_164 : decode cX8_lay 164 = .ok (.iaload, 1) := by decide +kernel
theorem dX8_lay_165 : decode cX8_lay 165 = .ok (.aload_n 0, 1) := by decide +kernel
theorem dX8_lay_166 : decode cX8_lay 166 = .ok (.getfield 46, 3) := by decide +kernel
theorem dX8_lay_169 : decode cX8_lay 169 = .ok (.iconst 4, 1) := by decide +kernel
theorem dX8_lay_170 : decode cX8_lay 170 = .ok (.iload_n 1, 1) := by decide +kernel
theorem dX8_lay_171 : decode cX8_lay 171 = .ok (.imul, 1) := by decide +kernel
theorem dX8_lay_172 : decode cX8_lay 172 = .ok (.iconst 3, 1) := by decide +kernel
theorem dX8_lay_173 : decode cX8_lay 173 = .ok (.iadd, 1) := by decide +kernel
theorem dX8_lay_174 : decode cX8_lay 174 = .ok (.iaload, 1) := by decide +kernel
theorem dX8_lay_175 : decode cX8_lay 175 = .ok (.invokevirtual 81, 3) := by decide +kernel
theorem dX8_lay_178 : decode cX8_lay 178 = .ok (.iinc 1 1, 3) := by decide +kernel
theorem dX8_lay_181 : decode cX8_lay 181 = .ok (.goto (-54), 3) := by decide +kernel
theorem dX8_lay_184 : decode cX8_lay 184 = .ok (.aload_n 0, 1) := by decide +kernel
theorem dX8_lay_185 : decode cX8_lay 185 = .ok (.iconst 0, 1) := by decide +kernel
theorem dX8_lay_186 : decode cX8_lay 186 = .ok (.putfield 139, 3) := by decide +kernel
theorem dX8_lay_189 : decode cX8_lay 189 = .ok (.aload_n 0, 1) := by decide +kernel
theorem dX8_lay_190 : decode cX8_lay 190 = .ok (.iconst 0, 1) := by decide +kernel
theorem dX8_lay_191 : decode cX8_lay 191 = .ok (.putfield 142, 3) := by decide +kernel
theorem dX8_lay_194 : decode cX8_lay 194 = .ok (.aload_n 0, 1) := by decide +kernel
theorem dX8_lay_195 : decode cX8_lay 195 = .ok (.iconst 0, 1) := by decide +kernel
theorem dX8_lay_196 : decode cX8_lay 196 = .ok (.putfield 145, 3) := by decide +kernel
theorem dX8_lay_199 : decode cX8_lay 199 = .ok (.aload_n 0, 1) := by decide +kernel
theorem dX8_lay_200 : decode cX8_lay 200 = .ok (.getfield 88, 3) := by decide +kernel
theorem dX8_lay_203 : decode cX8_lay 203 = .ok (.ireturn, 1) := by decide +kernel
theorem dX8_isFalse_0 : decode cX8_isFalse 0 = .ok (.aload_n 0, 1) := by decide +kernel
theorem dX8_isFalse_1 : decode cX8_isFalse 1 = .ok (.getfield 78, 3) := by decide +kernel
theorem dX8_isFalse_4 : decode cX8_isFalse 4 = .ok (.aload_n 0, 1) := by decide +kernel
theorem dX8_isFalse_5 : decode cX8_isFalse 5 = .ok (.getfield 19, 3) := by decide +kernel
theorem dX8_isFalse_8 : decode cX8_isFalse 8 = .ok (.iload_n 1, 1) := by decide +kernel
theorem dX8_isFalse_9 : decode cX8_isFalse 9 = .ok (.iaload, 1) := by decide +kernel
theorem dX8_isFalse_10 : decode cX8_isFalse 10 = .ok (.ishr, 1) := by decide +kernel
theorem dX8_isFalse_11 : decode cX8_isFalse 11 = .ok (.iconst 1, 1) := by decide +kernel
theorem dX8_isFalse_12 : decode cX8_isFalse 12 = .ok (.iand, 1) := by decide +kernel
theorem dX8_isFalse_13 : decode cX8_isFalse 13 = .ok (.aload_n 0, 1) := by decide +kernel
theorem dX8_isFalse_14 : decode cX8_isFalse 14 = .ok (.getfield 22, 3) := by decide +kernel
theorem dX8_isFalse_17 : decode cX8_isFalse 17 = .ok (.iload_n 1, 1) := by decide +kernel
theorem dX8_isFalse_18 : decode cX8_isFalse 18 = .ok (.iaload, 1) := by decide +kernel
theorem dX8_isFalse_19 : decode cX8_isFalse 19 = .ok (.if_icmp .eq 7, 3) := by decide +kernel
theorem dX8_isFalse_22 : decode cX8_isFalse 22 = .ok (.iconst 1, 1) := by decide +kernel
theorem dX8_isFalse_23 : decode cX8_isFalse 23 = .ok (.goto 4, 3) := by decide +kernel
theorem dX8_isFalse_26 : decode cX8_isFalse 26 = .ok (.iconst 0, 1) := by decide +kernel
theorem dX8_isFalse_27 : decode cX8_isFalse 27 = .ok (.ireturn, 1) := by decide +kernel
theorem dX8_hotter_0 : decode cX8_hotter 0 = .ok (.iload_n 1, 1) := by decide +kernel
theorem dX8_hotter_1 : decode cX8_hotter 1 = .ok (.ifCond .eq 7, 3) := by decide +kernel
theorem dX8_hotter_4 : decode cX8_hotter 4 = .ok (.iload_n 2, 1) := by decide +kernel
theorem dX8_hotter_5 : decode cX8_hotter 5 = .ok (.goto 4, 3) := by decide +kernel
theorem dX8_hotter_8 : decode cX8_hotter 8 = .ok (.iconst 1, 1) := by decide +kernel
theorem dX8_hotter_9 : decode cX8_hotter 9 = .ok (.istore_n 3, 1) := by decide +kernel
theorem dX8_hotter_10 : decode cX8_hotter 10 = .ok (.iload_n 0, 1) := by decide +kernel
theorem dX8_hotter_11 : decode cX8_hotter 11 = .ok (.tableswitch 45 1 3 #[25, 29, 41], 25) := by decide +kernel
theorem dX8_hotter_36 : decode cX8_hotter 36 = .ok (.iload_n 3, 1) := by decide +kernel
theorem dX8_hotter_37 : decode cX8_hotter 37 = .ok (.iconst 2, 1) := by decide +kernel
theorem dX8_hotter_38 : decode cX8_hotter 38 = .ok (.idiv, 1) := by decide +kernel
theorem dX8_hotter_39 : decode cX8_hotter 39 = .ok (.ireturn, 1) := by decide +kernel
theorem dX8_hotter_40 : decode cX8_hotter 40 = .ok (.iload_n 1, 1) := by decide +kernel
theorem dX8_hotter_41 : decode cX8_hotter 41 = .ok (.ifCond .eq 9, 3) := by decide +kernel
theorem dX8_hotter_44 : decode cX8_hotter 44 = .ok (.iconst 2, 1) := by decide +kernel
theorem dX8_hotter_45 : decode cX8_hotter 45 = .ok (.iload_n 2, 1) := by decide +kernel
theorem dX8_hotter_46 : decode cX8_hotter 46 = .ok (.imul, 1) := by decide +kernel
theorem dX8_hotter_47 : decode cX8_hotter 47 = .ok (.goto 4, 3) := by decide +kernel
theorem dX8_hotter_50 : decode cX8_hotter 50 = .ok (.iconst 1, 1) := by decide +kernel
theorem dX8_hotter_51 : decode cX8_hotter 51 = .ok (.ireturn, 1) := by decide +kernel
theorem dX8_hotter_52 : decode cX8_hotter 52 = .ok (.iload_n 3, 1) := by decide +kernel
theorem dX8_hotter_53 : decode cX8_hotter 53 = .ok (.iconst 1, 1) := by decide +kernel
theorem dX8_hotter_54 : decode cX8_hotter 54 = .ok (.iadd, 1) := by decide +kernel
theorem dX8_hotter_55 : decode cX8_hotter 55 = .ok (.ireturn, 1) := by decide +kernel
theorem dX8_hotter_56 : decode cX8_hotter 56 = .ok (.iload_n 3, 1) := by decide +kernel
theorem dX8_hotter_57 : decode cX8_hotter 57 = .ok (.ireturn, 1) := by decide +kernel
theorem dX8_evening_0 : decode cX8_evening 0 = .ok (.iconst 0, 1) := by decide +kernel
theorem dX8_evening_1 : decode cX8_evening 1 = .ok (.istore_n 2, 1) := by decide +kernel
theorem dX8_evening_2 : decode cX8_evening 2 = .ok (.iload_n 2, 1) := by decide +kernel
theorem dX8_evening_3 : decode cX8_evening 3 = .ok (.aload_n 0, 1) := by decide +kernel
theorem dX8_evening_4 : decode cX8_evening 4 = .ok (.getfield 88, 3) := by decide +kernel
theorem dX8_evening_7 : decode cX8_evening 7 = .ok (.if_icmp .ge 17, 3) := by decide +kernel
theorem dX8_evening_10 : decode cX8_evening 10 = .ok (.aload_n 0, 1) := by decide +kernel
theorem dX8_evening_11 : decode cX8_evening 11 = .ok (.getfield 52, 3) := by decide +kernel
theorem dX8_evening_14 : decode cX8_evening 14 = .ok (.iload_n 2, 1) := by decide +kernel
theorem dX8_evening_15 : decode cX8_evening 15 = .ok (.bipush (-4), 2) := by decide +kernel
theorem dX8_evening_17 : decode cX8_evening 17 = .ok (.iastore, 1) := by decide +kernel
theorem dX8_evening_18 : decode cX8_evening 18 = .ok (.iinc 2 1, 3) := by decide +kernel
theorem dX8_evening_21 : decode cX8_evening 21 = .ok (.goto (-19), 3) := by decide +kernel
theorem dX8_evening_24 : decode cX8_evening 24 = .ok (.iconst 0, 1) := by decide +kernel
theorem dX8_evening_25 : decode cX8_evening 25 = .ok (.istore_n 2, 1) := by decide +kernel
theorem dX8_evening_26 : decode cX8_evening 26 = .ok (.iload_n 2, 1) := by decide +kernel
theorem dX8_evening_27 : decode cX8_evening 27 = .ok (.bipush 8, 2) := by decide +kernel
theorem dX8_evening_29 : decode cX8_evening 29 = .ok (.if_icmp .ge 17, 3) := by decide +kernel
theorem dX8_evening_32 : decode cX8_evening 32 = .ok (.aload_n 0, 1) := by decide +kernel
theorem dX8_evening_33 : decode cX8_evening 33 = .ok (.getfield 55, 3) := by decide +kernel
theorem dX8_evening_36 : decode cX8_evening 36 = .ok (.iload_n 2, 1) := by decide +kernel
theorem dX8_evening_37 : decode cX8_evening 37 = .ok (.bipush (-4), 2) := by decide +kernel
theorem dX8_evening_39 : decode cX8_evening 39 = .ok (.iastore, 1) := by decide +kernel
theorem dX8_evening_40 : decode cX8_evening 40 = .ok (.iinc 2 1, 3) := by decide +kernel
theorem dX8_evening_43 : decode cX8_evening 43 = .ok (.goto (-17), 3) := by decide +kernel
theorem dX8_evening_46 : decode cX8_evening 46 = .ok (.aload_n 0, 1) := by decide +kernel
theorem dX8_evening_47 : decode cX8_evening 47 = .ok (.iconst 0, 1) := by decide +kernel
theorem dX8_evening_48 : decode cX8_evening 48 = .ok (.putfield 148, 3) := by decide +kernel
theorem dX8_evening_51 : decode cX8_evening 51 = .ok (.aload_n 0, 1) := by decide +kernel
theorem dX8_evening_52 : decode cX8_evening 52 = .ok (.iconst 0, 1) := by decide +kernel
theorem dX8_evening_53 : decode cX8_evening 53 = .ok (.putfield 151, 3) := by decide +kernel
theorem dX8_evening_56 : decode cX8_evening 56 = .ok (.iconst 0, 1) := by decide +kernel
theorem dX8_evening_57 : decode cX8_evening 57 = .ok (.istore_n 2, 1) := by decide +kernel
theorem dX8_evening_58 : decode cX8_evening 58 = .ok (.bipush (-4), 2) := by decide +kernel
theorem dX8_evening_60 : decode cX8_evening 60 = .ok (.istore_n 3, 1) := by decide +kernel
theorem dX8_evening_61 : decode cX8_evening 61 = .ok (.iconst 0, 1) := by decide +kernel
theorem dX8_evening_62 : decode cX8_evening 62 = .ok (.istore 4, 2) := by decide +kernel
theorem dX8_evening_64 : decode cX8_evening 64 = .ok (.iload 4, 2) := by decide +kernel
theorem dX8_evening_66 : decode cX8_evening 66 = .ok (.iload_n 1, 1) := by decide +kernel
theorem dX8_evening_67 : decode cX8_evening 67 = .ok (.if_icmp .ge 151, 3) := by decide +kernel
theorem dX8_evening_70 : decode cX8_evening 70 = .ok (.aload_n 0, 1) := by decide +kernel
theorem dX8_evening_71 : decode cX8_evening 71 = .ok (.getfield 49, 3) := by decide +kernel
theorem dX8_evening_74 : decode cX8_evening 74 = .ok (.iload 4, 2) := by decide +kernel
theorem dX8_evening_76 : decode cX8_evening 76 = .ok (.iaload, 1) := by decide +kernel
theorem dX8_evening_77 : decode cX8_evening 77 = .ok (.istore 5, 2) := by decide +kernel
theorem dX8_evening_79 : decode cX8_evening 79 = .ok (.aload_n 0, 1) := by decide +kernel
theorem dX8_evening_80 : decode cX8_evening 80 = .ok (.getfield 16, 3) := by decide +kernel
theorem dX8_evening_83 : decode cX8_evening 83 = .ok (.iload 5, 2) := by decide +kernel
theorem dX8_evening_85 : decode cX8_evening 85 = .ok (.iaload, 1) := by decide +kernel
theorem dX8_evening_86 : decode cX8_evening 86 = .ok (.istore 6, 2) := by decide +kernel
theorem dX8_evening_88 : decode cX8_evening 88 = .ok (.aload_n 0, 1) := by decide +kernel
theorem dX8_evening_89 : decode cX8_evening 89 = .ok (.getfield 52, 3) := by decide +kernel
theorem dX8_evening_92 : decode cX8_evening 92 = .ok (.iload 6, 2) := by decide +kernel
theorem dX8_evening_94 : decode cX8_evening 94 = .ok (.iaload, 1) := by decide +kernel
theorem dX8_evening_95 : decode cX8_evening 95 = .ok (.bipush (-4), 2) := by decide +kernel
theorem dX8_evening_97 : decode cX8_evening 97 = .ok (.if_icmp .ne 115, 3) := by decide +kernel
theorem dX8_evening_100 : decode cX8_evening 100 = .ok (.iload_n 3, 1) := by decide +kernel
theorem dX8_evening_101 : decode cX8_evening 101 = .ok (.bipush (-4), 2) := by decide +kernel
theorem dX8_evening_103 : decode cX8_evening 103 = .ok (.if_icmp .eq 15, 3) := by decide +kernel
theorem dX8_evening_106 : decode cX8_evening 106 = .ok (.iload_n 3, 1) := by decide +kernel
theorem dX8_evening_107 : decode cX8_evening 107 = .ok (.iload 6, 2) := by decide +kernel
theorem dX8_evening_109 : decode cX8_evening 109 = .ok (.if_icmp .eq 9, 3) := by decide +kernel
theorem dX8_evening_112 : decode cX8_evening 112 = .ok (.iload_n 2, 1) := by decide +kernel
theorem dX8_evening_113 : decode cX8_evening 113 = .ok (.iconst 2, 1) := by decide +kernel
theorem dX8_evening_114 : decode cX8_evening 114 = .ok (.idiv, 1) := by decide +kernel
theorem dX8_evening_115 : decode cX8_evening 115 = .ok (.goto 4, 3) := by decide +kernel
theorem dX8_evening_118 : decode cX8_evening 118 = .ok (.iload_n 2, 1) := by decide +kernel
theorem dX8_evening_119 : decode cX8_evening 119 = .ok (.istore_n 2, 1) := by decide +kernel
theorem dX8_evening_120 : decode cX8_evening 120 = .ok (.iload_n 2, 1) := by decide +kernel
theorem dX8_evening_121 : decode cX8_evening 121 = .ok (.aload_n 0, 1) := by decide +kernel
theorem dX8_evening_122 : decode cX8_evening 122 = .ok (.getfield 9, 3) := by decide +kernel
theorem dX8_evening_125 : decode cX8_evening 125 = .ok (.iload 6, 2) := by decide +kernel
theorem dX8_evening_127 : decode cX8_evening 127 = .ok (.iaload, 1) := by decide +kernel
theorem dX8_evening_128 : decode cX8_evening 128 = .ok (.aload_n 0, 1) := by decide +kernel
theorem dX8_evening_129 : decode cX8_evening 129 = .ok (.iload 5, 2) := by decide +kernel
theorem dX8_evening_131 : decode cX8_evening 131 = .ok (.invokevirtual 154, 3) := by decide +kernel
theorem dX8_evening_134 : decode cX8_evening 134 = .ok (.aload_n 0, 1) := by decide +kernel
theorem dX8_evening_135 : decode cX8_evening 135 = .ok (.getfield 25, 3) := by decide +kernel
theorem dX8_evening_138 : decode cX8_evening 138 = .ok (.iload 5, 2) := by decide +kernel
theorem dX8_evening_140 : decode cX8_evening 140 = .ok (.iaload, 1) := by decide +kernel
theorem dX8_evening_141 : decode cX8_evening 141 = .ok (.invokestatic 158, 3) := by decide +kernel
theorem dX8_evening_144 : decode cX8_evening 144 = .ok (.iadd, 1) := by decide +kernel
theorem dX8_evening_145 : decode cX8_evening 145 = .ok (.istore_n 2, 1) := by decide +kernel
theorem dX8_evening_146 : decode cX8_evening 146 = .ok (.aload_n 0, 1) := by decide +kernel
theorem dX8_evening_147 : decode cX8_evening 147 = .ok (.getfield 55, 3) := by decide +kernel
theorem dX8_evening_150 : decode cX8_evening 150 = .ok (.iload 5, 2) := by decide +kernel
theorem dX8_evening_152 : decode cX8_evening 152 = .ok (.iload_n 2, 1) := by decide +kernel
theorem dX8_evening_153 : decode cX8_evening 153 = .ok (.iastore, 1) := by decide +kernel
theorem dX8_evening_154 : decode cX8_evening 154 = .ok (.aload_n 0, 1) := by decide +kernel
theorem dX8_evening_155 : decode cX8_evening 155 = .ok (.dup, 1) := by decide +kernel
theorem dX8_evening_156 : decode cX8_evening 156 = .ok (.getfield 148, 3) := by decide +kernel
theorem dX8_evening_159 : decode cX8_evening 159 = .ok (.iconst 1, 1) := by decide +kernel
theorem dX8_evening_160 : decode cX8_evening 160 = .ok (.iload 5, 2) := by decide +kernel
theorem dX8_evening_162 : decode cX8_evening 162 = .ok (.ishl, 1) := by decide +kernel
theorem dX8_evening_163 : decode cX8_evening 163 = .ok (.ior, 1) := by decide +kernel
theorem dX8_evening_164 : decode cX8_evening 164 = .ok (.putfield 148, 3) := by decide +kernel
theorem dX8_evening_167 : decode cX8_evening 167 = .ok (.aload_n 0, 1) := by decide +kernel
theorem dX8_evening_168 : decode cX8_evening 168 = .ok (.iload_n 2, 1) := by decide +kernel
theorem dX8_evening_169 : decode cX8_evening 169 = .ok (.aload_n 0, 1) := by decide +kernel
theorem dX8_evening_170 : decode cX8_evening 170 = .ok (.getfield 151, 3) := by decide +kernel
theorem dX8_evening_173 : decode cX8_evening 173 = .ok (.if_icmp .le 7, 3) := by decide +kernel
theorem dX8_evening_176 : decode cX8_evening 176 = .ok (.iload_n 2, 1) := by decide +kernel
theorem dX8_evening_177 : decode cX8_evening 177 = .ok (.goto 7, 3) := by decide +kernel
theorem dX8_evening_180 : decode cX8_evening 180 = .ok (.aload_n 0, 1) := by decide +kernel
theorem dX8_evening_181 : decode cX8_evening 181 = .ok (.getfield 151, 3) := by decide +kernel
theorem dX8_evening_184 : decode cX8_evening 184 = .ok (.putfield 151, 3) := by decide +kernel
theorem dX8_evening_187 : decode cX8_evening 187 = .ok (.iload 6, 2) := by decide +kernel
theorem dX8_evening_189 : decode cX8_evening 189 = .ok (.istore_n 3, 1) := by decide +kernel
theorem dX8_evening_190 : decode cX8_evening 190 = .ok (.iload_n 2, 1) := by decide +kernel
theorem dX8_evening_191 : decode cX8_evening 191 = .ok (.aload_n 0, 1) := by decide +kernel
theorem dX8_evening_192 : decode cX8_evening 192 = .ok (.getfield 13, 3) := by decide +kernel
theorem dX8_evening_195 : decode cX8_evening 195 = .ok (.iload 6, 2) := by decide +kernel
theorem dX8_evening_197 : decode cX8_evening 197 = .ok (.iaload, 1) := by decide +kernel
theorem dX8_evening_198 : decode cX8_evening 198 = .ok (.if_icmp .le 14, 3) := by decide +kernel
theorem dX8_evening_201 : decode cX8_evening 201 = .ok (.aload_n 0, 1) := by decide +kernel
theorem dX8_evening_202 : decode cX8_evening 202 = .ok (.getfield 52, 3) := by decide +kernel
theorem dX8_evening_205 : decode cX8_evening 205 = .ok (.iload 6, 2) := by decide +kernel
theorem dX8_evening_207 : decode cX8_evening 207 = .ok (.iload 5, 2) := by decide +kernel
theorem dX8_evening_209 : decode cX8_evening 209 = .ok (.iastore, 1) := by decide +kernel
theorem dX8_evening_210 : decode cX8_evening 210 = .ok (.iconst 0, 1) := by decide +kernel
theorem dX8_evening_211 : decode cX8_evening 211 = .ok (.istore_n 2, 1) := by decide +kernel
theorem dX8_evening_212 : decode cX8_evening 212 = .ok (.iinc 4 1, 3) := by decide +kernel
theorem dX8_evening_215 : decode cX8_evening 215 = .ok (.goto (-151), 3) := by decide +kernel
theorem dX8_evening_218 : decode cX8_evening 218 = .ok (.return_, 1) := by decide +kernel
theorem dX8_without_0 : decode cX8_without 0 = .ok (.iconst 0, 1) := by decide +kernel
theorem dX8_without_1 : decode cX8_without 1 = .ok (.istore_n 2, 1) := by decide +kernel
theorem dX8_without_2 : decode cX8_without 2 = .ok (.iconst 0, 1) := by decide +kernel
theorem dX8_without_3 : decode cX8_without 3 = .ok (.istore_n 3, 1) := by decide +kernel
theorem dX8_without_4 : decode cX8_without 4 = .ok (.iload_n 3, 1) := by decide +kernel
theorem dX8_without_5 : decode cX8_without 5 = .ok (.aload_n 0, 1) := by decide +kernel
theorem dX8_without_6 : decode cX8_without 6 = .ok (.getfield 85, 3) := by decide +kernel
theorem dX8_without_9 : decode cX8_without 9 = .ok (.if_icmp .ge 27, 3) := by decide +kernel
theorem dX8_without_12 : decode cX8_without 12 = .ok (.iload_n 1, 1) := by decide +kernel
theorem dX8_without_13 : decode cX8_without 13 = .ok (.iload_n 3, 1) := by decide +kernel
theorem dX8_without_14 : decode cX8_without 14 = .ok (.invokestatic 162, 3) := by decide +kernel
theorem dX8_without_17 : decode cX8_without 17 = .ok (.ifCond .ne 13, 3) := by decide +kernel
theorem dX8_without_20 : decode cX8_without 20 = .ok (.aload_n 0, 1) := by decide +kernel
theorem dX8_without_21 : decode cX8_without 21 = .ok (.getfield 49, 3) := by decide +kernel
theorem dX8_without_24 : decode cX8_without 24 = .ok (.iload_n 2, 1) := by decide +kernel
theorem dX8_without_25 : decode cX8_without 25 = .ok (.iload_n 3, 1) := by decide +kernel
theorem dX8_without_26 : decode cX8_without 26 = .ok (.iastore, 1) := by decide +kernel
theorem dX8_without_27 : decode cX8_without 27 = .ok (.iinc 2 1, 3) := by decide +kernel
theorem dX8_without_30 : decode cX8_without 30 = .ok (.iinc 3 1, 3) := by decide +kernel
theorem dX8_without_33 : decode cX8_without 33 = .ok (.goto (-29), 3) := by decide +kernel
theorem dX8_without_36 : decode cX8_without 36 = .ok (.aload_n 0, 1) := by decide +kernel
theorem dX8_without_37 : decode cX8_without 37 = .ok (.iload_n 2, 1) := by decide +kernel
theorem dX8_without_38 : decode cX8_without 38 = .ok (.invokevirtual 166, 3) := by decide +kernel
theorem dX8_without_41 : decode cX8_without 41 = .ok (.return_, 1) := by decide +kernel
theorem dX8_gone_0 : decode cX8_gone 0 = .ok (.iconst 0, 1) := by decide +kernel
theorem dX8_gone_1 : decode cX8_gone 1 = .ok (.istore_n 1, 1) := by decide +kernel
theorem dX8_gone_2 : decode cX8_gone 2 = .ok (.iconst 0, 1) := by decide +kernel
theorem dX8_gone_3 : decode cX8_gone 3 = .ok (.istore_n 2, 1) := by decide +kernel
theorem dX8_gone_4 : decode cX8_gone 4 = .ok (.iload_n 2, 1) := by decide +kernel
theorem dX8_gone_5 : decode cX8_gone 5 = .ok (.aload_n 0, 1) := by decide +kernel
theorem dX8_gone_6 : decode cX8_gone 6 = .ok (.getfield 88, 3) := by decide +kernel
theorem dX8_gone_9 : decode cX8_gone 9 = .ok (.if_icmp .ge 28, 3) := by decide +kernel
theorem dX8_gone_12 : decode cX8_gone 12 = .ok (.iload_n 1, 1) := by decide +kernel
theorem dX8_gone_13 : decode cX8_gone 13 = .ok (.aload_n 0, 1) := by decide +kernel
theorem dX8_gone_14 : decode cX8_gone 14 = .ok (.getfield 52, 3) := by decide +kernel
theorem dX8_gone_17 : decode cX8_gone 17 = .ok (.iload_n 2, 1) := by decide +kernel
theorem dX8_gone_18 : decode cX8_gone 18 = .ok (.iaload, 1) := by decide +kernel
theorem dX8_gone_19 : decode cX8_gone 19 = .ok (.bipush (-4), 2) := by decide +kernel
theorem dX8_gone_21 : decode cX8_gone 21 = .ok (.if_icmp .ne 7, 3) := by decide +kernel
theorem dX8_gone_24 : decode cX8_gone 24 = .ok (.iconst 0, 1) := by decide +kernel
theorem dX8_gone_25 : decode cX8_gone 25 = .ok (.goto 4, 3) := by decide +kernel
theorem dX8_gone_28 : decode cX8_gone 28 = .ok (.iconst 1, 1) := by decide +kernel
theorem dX8_gone_29 : decode cX8_gone 29 = .ok (.iadd, 1) := by decide +kernel
theorem dX8_gone_30 : decode cX8_gone 30 = .ok (.istore_n 1, 1) := by decide +kernel
theorem dX8_gone_31 : decode cX8_gone 31 = .ok (.iinc 2 1, 3) := by decide +kernel
theorem dX8_gone_34 : decode cX8_gone 34 = .ok (.goto (-30), 3) := by decide +kernel
theorem dX8_gone_37 : decode cX8_gone 37 = .ok (.iload_n 1, 1) := by decide +kernel
theorem dX8_gone_38 : decode cX8_gone 38 = .ok (.ireturn, 1) := by decide +kernel
theorem dX8_teller_0 : decode cX8_teller 0 = .ok (.aload_n 0, 1) := by decide +kernel
theorem dX8_teller_1 : decode cX8_teller 1 = .ok (.iload_n 1, 1) := by decide +kernel
theorem dX8_teller_2 : decode cX8_teller 2 = .ok (.invokevirtual 170, 3) := by decide +kernel
theorem dX8_teller_5 : decode cX8_teller 5 = .ok (.ifCond .eq 12, 3) := by decide +kernel
theorem dX8_teller_8 : decode cX8_teller 8 = .ok (.iload_n 2, 1) := by decide +kernel
theorem dX8_teller_9 : decode cX8_teller 9 = .ok (.iconst 0, 1) := by decide +kernel
theorem dX8_teller_10 : decode cX8_teller 10 = .ok (.iconst 1, 1) := by decide +kernel
theorem dX8_teller_11 : decode cX8_teller 11 = .ok (.invokestatic 91, 3) := by decide +kernel
theorem dX8_teller_14 : decode cX8_teller 14 = .ok (.ifCond .ne 5, 3) := by decide +kernel
theorem dX8_teller_17 : decode cX8_teller 17 = .ok (.iconst (-1), 1) := by decide +kernel
theorem dX8_teller_18 : decode cX8_teller 18 = .ok (.ireturn, 1) := by decide +kernel
theorem dX8_teller_19 : decode cX8_teller 19 = .ok (.iload_n 2, 1) := by decide +kernel
theorem dX8_teller_20 : decode cX8_teller 20 = .ok (.ifCond .ne 12, 3) := by decide +kernel
theorem dX8_teller_23 : decode cX8_teller 23 = .ok (.aload_n 0, 1) := by decide +kernel
theorem dX8_teller_24 : decode cX8_teller 24 = .ok (.getfield 9, 3) := by decide +kernel
theorem dX8_teller_27 : decode cX8_teller 27 = .ok (.iload_n 1, 1) := by decide +kernel
theorem dX8_teller_28 : decode cX8_teller 28 = .ok (.iaload, 1) := by decide +kernel
theorem dX8_teller_29 : decode cX8_teller 29 = .ok (.goto 9, 3) := by decide +kernel
theorem dX8_teller_32 : decode cX8_teller 32 = .ok (.aload_n 0, 1) := by decide +kernel
theorem dX8_teller_33 : decode cX8_teller 33 = .ok (.getfield 13, 3) := by decide +kernel
theorem dX8_teller_36 : decode cX8_teller 36 = .ok (.iload_n 1, 1) := by decide +kernel
theorem dX8_teller_37 : decode cX8_teller 37 = .ok (.iaload, 1) := by decide +kernel
theorem dX8_teller_38 : decode cX8_teller 38 = .ok (.ireturn, 1) := by decide +kernel
theorem dX8_fact_0 : decode cX8_fact 0 = .ok (.aload_n 0, 1) := by decide +kernel
theorem dX8_fact_1 : decode cX8_fact 1 = .ok (.iload_n 1, 1) := by decide +kernel
theorem dX8_fact_2 : decode cX8_fact 2 = .ok (.invokevirtual 173, 3) := by decide +kernel
theorem dX8_fact_5 : decode cX8_fact 5 = .ok (.ifCond .eq 14, 3) := by decide +kernel
theorem dX8_fact_8 : decode cX8_fact 8 = .ok (.aload_n 0, 1) := by decide +kernel
theorem dX8_fact_9 : decode cX8_fact 9 = .ok (.getfield 78, 3) := by decide +kernel
theorem dX8_fact_12 : decode cX8_fact 12 = .ok (.iload_n 1, 1) := by decide +kernel
theorem dX8_fact_13 : decode cX8_fact 13 = .ok (.ishr, 1) := by decide +kernel
theorem dX8_fact_14 : decode cX8_fact 14 = .ok (.iconst 1, 1) := by decide +kernel
theorem dX8_fact_15 : decode cX8_fact 15 = .ok (.iand, 1) := by decide +kernel
theorem dX8_fact_16 : decode cX8_fact 16 = .ok (.goto 4, 3) := by decide +kernel
theorem dX8_fact_19 : decode cX8_fact 19 = .ok (.iconst (-1), 1) := by decide +kernel
theorem dX8_fact_20 : decode cX8_fact 20 = .ok (.ireturn, 1) := by decide +kernel
theorem dX8_claim_0 : decode cX8_claim 0 = .ok (.aload_n 0, 1) := by decide +kernel
theorem dX8_claim_1 : decode cX8_claim 1 = .ok (.iload_n 1, 1) := by decide +kernel
theorem dX8_claim_2 : decode cX8_claim 2 = .ok (.invokevirtual 176, 3) := by decide +kernel
theorem dX8_claim_5 : decode cX8_claim 5 = .ok (.ifCond .eq 12, 3) := by decide +kernel
theorem dX8_claim_8 : decode cX8_claim 8 = .ok (.iload_n 2, 1) := by decide +kernel
theorem dX8_claim_9 : decode cX8_claim 9 = .ok (.iconst 0, 1) := by decide +kernel
theorem dX8_claim_10 : decode cX8_claim 10 = .ok (.iconst 4, 1) := by decide +kernel
theorem dX8_claim_11 : decode cX8_claim 11 = .ok (.invokestatic 91, 3) := by decide +kernel
theorem dX8_claim_14 : decode cX8_claim 14 = .ok (.ifCond .ne 5, 3) := by decide +kernel
theorem dX8_claim_17 : decode cX8_claim 17 = .ok (.iconst (-1), 1) := by decide +kernel
theorem dX8_claim_18 : decode cX8_claim 18 = .ok (.ireturn, 1) := by decide +kernel
theorem dX8_claim_19 : decode cX8_claim 19 = .ok (.iload_n 2, 1) := by decide +kernel
theorem dX8_claim_20 : decode cX8_claim 20 = .ok (.tableswitch 60 0 3 #[32, 39, 46, 53], 32) := by decide +kernel
theorem dX8_claim_52 : decode cX8_claim 52 = .ok (.aload_n 0, 1) := by decide +kernel
theorem dX8_claim_53 : decode cX8_claim 53 = .ok (.getfield 16, 3) := by decide +kernel
theorem dX8_claim_56 : decode cX8_claim 56 = .ok (.iload_n 1, 1) := by decide +kernel
theorem dX8_claim_57 : decode cX8_claim 57 = .ok (.iaload, 1) := by decide +kernel
theorem dX8_claim_58 : decode cX8_claim 58 = .ok (.ireturn, 1) := by decide +kernel
theorem dX8_claim_59 : decode cX8_claim 59 = .ok (.aload_n 0, 1) := by decide +kernel
theorem dX8_claim_60 : decode cX8_claim 60 = .ok (.getfield 19, 3) := by decide +kernel
theorem dX8_claim_63 : decode cX8_claim 63 = .ok (.iload_n 1, 1) := by decide +kernel
theorem dX8_claim_64 : decode cX8_claim 64 = .ok (.iaload, 1) := by decide +kernel
theorem dX8_claim_65 : decode cX8_claim 65 = .ok (.ireturn, 1) := by decide +kernel
theorem dX8_claim_66 : decode cX8_claim 66 = .ok (.aload_n 0, 1) := by decide +kernel
theorem dX8_claim_67 : decode cX8_claim 67 = .ok (.getfield 22, 3) := by decide +kernel
theorem dX8_claim_70 : decode cX8_claim 70 = .ok (.iload_n 1, 1) := by decide +kernel
theorem dX8_claim_71 : decode cX8_claim 71 = .ok (.iaload, 1) := by decide +kernel
theorem dX8_claim_72 : decode cX8_claim 72 = .ok (.ireturn, 1) := by decide +kernel
theorem dX8_claim_73 : decode cX8_claim 73 = .ok (.aload_n 0, 1) := by decide +kernel
theorem dX8_claim_74 : decode cX8_claim 74 = .ok (.getfield 25, 3) := by decide +kernel
theorem dX8_claim_77 : decode cX8_claim 77 = .ok (.iload_n 1, 1) := by decide +kernel
theorem dX8_claim_78 : decode cX8_claim 78 = .ok (.iaload, 1) := by decide +kernel
theorem dX8_claim_79 : decode cX8_claim 79 = .ok (.ireturn, 1) := by decide +kernel
theorem dX8_claim_80 : decode cX8_claim 80 = .ok (.aload_n 0, 1) := by decide +kernel
theorem dX8_claim_81 : decode cX8_claim 81 = .ok (.iload_n 1, 1) := by decide +kernel
theorem dX8_claim_82 : decode cX8_claim 82 = .ok (.invokevirtual 154, 3) := by decide +kernel
theorem dX8_claim_85 : decode cX8_claim 85 = .ok (.ifCond .eq 7, 3) := by decide +kernel
theorem dX8_claim_88 : decode cX8_claim 88 = .ok (.iconst 1, 1) := by decide +kernel
theorem dX8_claim_89 : decode cX8_claim 89 = .ok (.goto 4, 3) := by decide +kernel
theorem dX8_claim_92 : decode cX8_claim 92 = .ok (.iconst 0, 1) := by decide +kernel
theorem dX8_claim_93 : decode cX8_claim 93 = .ok (.ireturn, 1) := by decide +kernel
theorem dX8_lays_0 : decode cX8_lays 0 = .ok (.aload_n 1, 1) := by decide +kernel
theorem dX8_lays_1 : decode cX8_lays 1 = .ok (.iload_n 2, 1) := by decide +kernel
theorem dX8_lays_2 : decode cX8_lays 2 = .ok (.aload_n 0, 1) := by decide +kernel
theorem dX8_lays_3 : decode cX8_lays 3 = .ok (.getfield 78, 3) := by decide +kernel
theorem dX8_lays_6 : decode cX8_lays 6 = .ok (.iastore, 1) := by decide +kernel
theorem dX8_lays_7 : decode cX8_lays 7 = .ok (.aload_n 1, 1) := by decide +kernel
theorem dX8_lays_8 : decode cX8_lays 8 = .ok (.iload_n 2, 1) := by decide +kernel
theorem dX8_lays_9 : decode cX8_lays 9 = .ok (.iconst 1, 1) := by decide +kernel
theorem dX8_lays_10 : decode cX8_lays 10 = .ok (.iadd, 1) := by decide +kernel
theorem dX8_lays_11 : decode cX8_lays 11 = .ok (.aload_n 0, 1) := by decide +kernel
theorem dX8_lays_12 : decode cX8_lays 12 = .ok (.getfield 85, 3) := by decide +kernel
theorem dX8_lays_15 : decode cX8_lays 15 = .ok (.iastore, 1) := by decide +kernel
theorem dX8_lays_16 : decode cX8_lays 16 = .ok (.iconst 0, 1) := by decide +kernel
theorem dX8_lays_17 : decode cX8_lays 17 = .ok (.istore_n 3, 1) := by decide +kernel
theorem dX8_lays_18 : decode cX8_lays 18 = .ok (.iload_n 3, 1) := by decide +kernel
theorem dX8_lays_19 : decode cX8_lays 19 = .ok (.bipush 7, 2) := by decide +kernel
theorem dX8_lays_21 : decode cX8_lays 21 = .ok (.if_icmp .ge 64, 3) := by decide +kernel
theorem dX8_lays_24 : decode cX8_lays 24 = .ok (.aload_n 1, 1) := by decide +kernel
theorem dX8_lays_25 : decode cX8_lays 25 = .ok (.iload_n 2, 1) := by decide +kernel
theorem dX8_lays_26 : decode cX8_lays 26 = .ok (.iconst 2, 1) := by decide +kernel
theorem dX8_lays_27 : decode cX8_lays 27 = .ok (.iadd, 1) := by decide +kernel
theorem dX8_lays_28 : decode cX8_lays 28 = .ok (.iload_n 3, 1) := by decide +kernel
theorem dX8_lays_29 : decode cX8_lays 29 = .ok (.iadd, 1) := by decide +kernel
theorem dX8_lays_30 : decode cX8_lays 30 = .ok (.aload_n 0, 1) := by decide +kernel
theorem dX8_lays_31 : decode cX8_lays 31 = .ok (.getfield 16, 3) := by decide +kernel
theorem dX8_lays_34 : decode cX8_lays 34 = .ok (.iload_n 3, 1) := by decide +kernel
theorem dX8_lays_35 : decode cX8_lays 35 = .ok (.iaload, 1) := by decide +kernel
theorem dX8_lays_36 : decode cX8_lays 36 = .ok (.iastore, 1) := by decide +kernel
theorem dX8_lays_37 : decode cX8_lays 37 = .ok (.aload_n 1, 1) := by decide +kernel
theorem dX8_lays_38 : decode cX8_lays 38 = .ok (.iload_n 2, 1) := by decide +kernel
theorem dX8_lays_39 : decode cX8_lays 39 = .ok (.bipush 9, 2) := by decide +kernel
theorem dX8_lays_41 : decode cX8_lays 41 = .ok (.iadd, 1) := by decide +kernel
theorem dX8_lays_42 : decode cX8_lays 42 = .ok (.iload_n 3, 1) := by decide +kernel
theorem dX8_lays_43 : decode cX8_lays 43 = .ok (.iadd, 1) := by decide +kernel
theorem dX8_lays_44 : decode cX8_lays 44 = .ok (.aload_n 0, 1) := by decide +kernel
theorem dX8_lays_45 : decode cX8_lays 45 = .ok (.getfield 19, 3) := by decide +kernel
theorem dX8_lays_48 : decode cX8_lays 48 = .ok (.iload_n 3, 1) := by decide +kernel
theorem dX8_lays_49 : decode cX8_lays 49 = .ok (.iaload, 1) := by decide +kernel
theorem dX8_lays_50 : decode cX8_lays 50 = .ok (.iastore, 1) := by decide +kernel
theorem dX8_lays_51 : decode cX8_lays 51 = .ok (.aload_n 1, 1) := by decide +kernel
theorem dX8_lays_52 : decode cX8_lays 52 = .ok (.iload_n 2, 1) := by decide +kernel
theorem dX8_lays_53 : decode cX8_lays 53 = .ok (.bipush 16, 2) := by decide +kernel
theorem dX8_lays_55 : decode cX8_lays 55 = .ok (.iadd, 1) := by decide +kernel
theorem dX8_lays_56 : decode cX8_lays 56 = .ok (.iload_n 3, 1) := by decide +kernel
theorem dX8_lays_57 : decode cX8_lays 57 = .ok (.iadd, 1) := by decide +kernel
theorem dX8_lays_58 : decode cX8_lays 58 = .ok (.aload_n 0, 1) := by decide +kernel
theorem dX8_lays_59 : decode cX8_lays 59 = .ok (.getfield 22, 3) := by decide +kernel
theorem dX8_lays_62 : decode cX8_lays 62 = .ok (.iload_n 3, 1) := by decide +kernel
theorem dX8_lays_63 : decode cX8_lays 63 = .ok (.iaload, 1) := by decide +kernel
theorem dX8_lays_64 : decode cX8_lays 64 = .ok (.iastore, 1) := by decide +kernel
theorem dX8_lays_65 : decode cX8_lays 65 = .ok (.aload_n 1, 1) := by decide +kernel
theorem dX8_lays_66 : decode cX8_lays 66 = .ok (.iload_n 2, 1) := by decide +kernel
theorem dX8_lays_67 : decode cX8_lays 67 = .ok (.bipush 23, 2) := by decide +kernel
theorem dX8_lays_69 : decode cX8_lays 69 = .ok (.iadd, 1) := by decide +kernel
