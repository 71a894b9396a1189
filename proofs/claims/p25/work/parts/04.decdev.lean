theorem dX0_init_0 : decode cX0_init 0 = .ok (.aload_n 0, 1) := by decide +kernel
theorem dX0_init_1 : decode cX0_init 1 = .ok (.invokespecial 3, 3) := by decide +kernel
theorem dX0_init_4 : decode cX0_init 4 = .ok (.aload_n 0, 1) := by decide +kernel
theorem dX0_init_5 : decode cX0_init 5 = .ok (.iconst (-1), 1) := by decide +kernel
theorem dX0_init_6 : decode cX0_init 6 = .ok (.putfield 9, 3) := by decide +kernel
theorem dX0_init_9 : decode cX0_init 9 = .ok (.aload_n 0, 1) := by decide +kernel
theorem dX0_init_10 : decode cX0_init 10 = .ok (.iconst (-1), 1) := by decide +kernel
theorem dX0_init_11 : decode cX0_init 11 = .ok (.putfield 15, 3) := by decide +kernel
theorem dX0_init_14 : decode cX0_init 14 = .ok (.return_, 1) := by decide +kernel
theorem dX0_isTold_0 : decode cX0_isTold 0 = .ok (.aload_n 0, 1) := by decide +kernel
theorem dX0_isTold_1 : decode cX0_isTold 1 = .ok (.getfield 18, 3) := by decide +kernel
theorem dX0_isTold_4 : decode cX0_isTold 4 = .ok (.ifCond .eq 7, 3) := by decide +kernel
theorem dX0_isTold_7 : decode cX0_isTold 7 = .ok (.iconst 1, 1) := by decide +kernel
theorem dX0_isTold_8 : decode cX0_isTold 8 = .ok (.goto 4, 3) := by decide +kernel
theorem dX0_isTold_11 : decode cX0_isTold 11 = .ok (.iconst 0, 1) := by decide +kernel
theorem dX0_isTold_12 : decode cX0_isTold 12 = .ok (.ireturn, 1) := by decide +kernel
theorem dX0_clear_0 : decode cX0_clear 0 = .ok (.aload_n 0, 1) := by decide +kernel
theorem dX0_clear_1 : decode cX0_clear 1 = .ok (.iconst 0, 1) := by decide +kernel
theorem dX0_clear_2 : decode cX0_clear 2 = .ok (.iconst (-1), 1) := by decide +kernel
theorem dX0_clear_3 : decode cX0_clear 3 = .ok (.iconst (-1), 1) := by decide +kernel
theorem dX0_clear_4 : decode cX0_clear 4 = .ok (.invokevirtual 21, 3) := by decide +kernel
theorem dX0_clear_7 : decode cX0_clear 7 = .ok (.return_, 1) := by decide +kernel
theorem dX0_tell_0 : decode cX0_tell 0 = .ok (.aload_n 0, 1) := by decide +kernel
theorem dX0_tell_1 : decode cX0_tell 1 = .ok (.iload_n 1, 1) := by decide +kernel
theorem dX0_tell_2 : decode cX0_tell 2 = .ok (.putfield 18, 3) := by decide +kernel
theorem dX0_tell_5 : decode cX0_tell 5 = .ok (.aload_n 0, 1) := by decide +kernel
theorem dX0_tell_6 : decode cX0_tell 6 = .ok (.iload_n 2, 1) := by decide +kernel
theorem dX0_tell_7 : decode cX0_tell 7 = .ok (.putfield 9, 3) := by decide +kernel
theorem dX0_tell_10 : decode cX0_tell 10 = .ok (.aload_n 0, 1) := by decide +kernel
theorem dX0_tell_11 : decode cX0_tell 11 = .ok (.iload_n 3, 1) := by decide +kernel
theorem dX0_tell_12 : decode cX0_tell 12 = .ok (.putfield 15, 3) := by decide +kernel
theorem dX0_tell_15 : decode cX0_tell 15 = .ok (.return_, 1) := by decide +kernel
theorem dX0_seekPair_0 : decode cX0_seekPair 0 = .ok (.aload_n 1, 1) := by decide +kernel
theorem dX0_seekPair_1 : decode cX0_seekPair 1 = .ok (.getfield 25, 3) := by decide +kernel
theorem dX0_seekPair_4 : decode cX0_seekPair 4 = .ok (.astore 5, 2) := by decide +kernel
theorem dX0_seekPair_6 : decode cX0_seekPair 6 = .ok (.iconst 0, 1) := by decide +kernel
theorem dX0_seekPair_7 : decode cX0_seekPair 7 = .ok (.istore 6, 2) := by decide +kernel
theorem dX0_seekPair_9 : decode cX0_seekPair 9 = .ok (.iload 6, 2) := by decide +kernel
theorem dX0_seekPair_11 : decode cX0_seekPair 11 = .ok (.aload 5, 2) := by decide +kernel
theorem dX0_seekPair_13 : decode cX0_seekPair 13 = .ok (.invokevirtual 31, 3) := by decide +kernel
theorem dX0_seekPair_16 : decode cX0_seekPair 16 = .ok (.if_icmp .ge 90, 3) := by decide +kernel
theorem dX0_seekPair_19 : decode cX0_seekPair 19 = .ok (.iload 6, 2) := by decide +kernel
theorem dX0_seekPair_21 : decode cX0_seekPair 21 = .ok (.iconst 1, 1) := by decide +kernel
theorem dX0_seekPair_22 : decode cX0_seekPair 22 = .ok (.iadd, 1) := by decide +kernel
theorem dX0_seekPair_23 : decode cX0_seekPair 23 = .ok (.istore 7, 2) := by decide +kernel
theorem dX0_seekPair_25 : decode cX0_seekPair 25 = .ok (.iload 7, 2) := by decide +kernel
theorem dX0_seekPair_27 : decode cX0_seekPair 27 = .ok (.aload 5, 2) := by decide +kernel
theorem dX0_seekPair_29 : decode cX0_seekPair 29 = .ok (.invokevirtual 31, 3) := by decide +kernel
theorem dX0_seekPair_32 : decode cX0_seekPair 32 = .ok (.if_icmp .ge 68, 3) := by decide +kernel
theorem dX0_seekPair_35 : decode cX0_seekPair 35 = .ok (.aload 5, 2) := by decide +kernel
theorem dX0_seekPair_37 : decode cX0_seekPair 37 = .ok (.iload 6, 2) := by decide +kernel
theorem dX0_seekPair_39 : decode cX0_seekPair 39 = .ok (.invokevirtual 37, 3) := by decide +kernel
theorem dX0_seekPair_42 : decode cX0_seekPair 42 = .ok (.istore 8, 2) := by decide +kernel
theorem dX0_seekPair_44 : decode cX0_seekPair 44 = .ok (.aload 5, 2) := by decide +kernel
theorem dX0_seekPair_46 : decode cX0_seekPair 46 = .ok (.iload 7, 2) := by decide +kernel
theorem dX0_seekPair_48 : decode cX0_seekPair 48 = .ok (.invokevirtual 37, 3) := by decide +kernel
theorem dX0_seekPair_51 : decode cX0_seekPair 51 = .ok (.istore 9, 2) := by decide +kernel
theorem dX0_seekPair_53 : decode cX0_seekPair 53 = .ok (.iload 8, 2) := by decide +kernel
theorem dX0_seekPair_55 : decode cX0_seekPair 55 = .ok (.iload 9, 2) := by decide +kernel
theorem dX0_seekPair_57 : decode cX0_seekPair 57 = .ok (.iload_n 3, 1) := by decide +kernel
theorem dX0_seekPair_58 : decode cX0_seekPair 58 = .ok (.invokestatic 41, 3) := by decide +kernel
theorem dX0_seekPair_61 : decode cX0_seekPair 61 = .ok (.ifCond .eq 33, 3) := by decide +kernel
theorem dX0_seekPair_64 : decode cX0_seekPair 64 = .ok (.iload 8, 2) := by decide +kernel
theorem dX0_seekPair_66 : decode cX0_seekPair 66 = .ok (.iload 9, 2) := by decide +kernel
theorem dX0_seekPair_68 : decode cX0_seekPair 68 = .ok (.iload 4, 2) := by decide +kernel
theorem dX0_seekPair_70 : decode cX0_seekPair 70 = .ok (.invokestatic 41, 3) := by decide +kernel
theorem dX0_seekPair_73 : decode cX0_seekPair 73 = .ok (.ifCond .ne 21, 3) := by decide +kernel
theorem dX0_seekPair_76 : decode cX0_seekPair 76 = .ok (.aload_n 0, 1) := by decide +kernel
theorem dX0_seekPair_77 : decode cX0_seekPair 77 = .ok (.bipush 10, 2) := by decide +kernel
theorem dX0_seekPair_79 : decode cX0_seekPair 79 = .ok (.aload_n 1, 1) := by decide +kernel
theorem dX0_seekPair_80 : decode cX0_seekPair 80 = .ok (.getfield 47, 3) := by decide +kernel
theorem dX0_seekPair_83 : decode cX0_seekPair 83 = .ok (.imul, 1) := by decide +kernel
theorem dX0_seekPair_84 : decode cX0_seekPair 84 = .ok (.iload_n 2, 1) := by decide +kernel
theorem dX0_seekPair_85 : decode cX0_seekPair 85 = .ok (.iadd, 1) := by decide +kernel
theorem dX0_seekPair_86 : decode cX0_seekPair 86 = .ok (.iload 8, 2) := by decide +kernel
theorem dX0_seekPair_88 : decode cX0_seekPair 88 = .ok (.iload 9, 2) := by decide +kernel
theorem dX0_seekPair_90 : decode cX0_seekPair 90 = .ok (.invokevirtual 21, 3) := by decide +kernel
theorem dX0_seekPair_93 : decode cX0_seekPair 93 = .ok (.return_, 1) := by decide +kernel
theorem dX0_seekPair_94 : decode cX0_seekPair 94 = .ok (.iinc 7 1, 3) := by decide +kernel
theorem dX0_seekPair_97 : decode cX0_seekPair 97 = .ok (.goto (-72), 3) := by decide +kernel
theorem dX0_seekPair_100 : decode cX0_seekPair 100 = .ok (.iinc 6 1, 3) := by decide +kernel
theorem dX0_seekPair_103 : decode cX0_seekPair 103 = .ok (.goto (-94), 3) := by decide +kernel
theorem dX0_seekPair_106 : decode cX0_seekPair 106 = .ok (.return_, 1) := by decide +kernel
theorem dX1_isIn_0 : decode cX1_isIn 0 = .ok (.iload_n 1, 1) := by decide +kernel
theorem dX1_isIn_1 : decode cX1_isIn 1 = .ok (.iload_n 0, 1) := by decide +kernel
theorem dX1_isIn_2 : decode cX1_isIn 2 = .ok (.ishr, 1) := by decide +kernel
theorem dX1_isIn_3 : decode cX1_isIn 3 = .ok (.iconst 1, 1) := by decide +kernel
theorem dX1_isIn_4 : decode cX1_isIn 4 = .ok (.iand, 1) := by decide +kernel
theorem dX1_isIn_5 : decode cX1_isIn 5 = .ok (.iconst 1, 1) := by decide +kernel
theorem dX1_isIn_6 : decode cX1_isIn 6 = .ok (.if_icmp .ne 7, 3) := by decide +kernel
theorem dX1_isIn_9 : decode cX1_isIn 9 = .ok (.iconst 1, 1) := by decide +kernel
theorem dX1_isIn_10 : decode cX1_isIn 10 = .ok (.goto 4, 3) := by decide +kernel
theorem dX1_isIn_13 : decode cX1_isIn 13 = .ok (.iconst 0, 1) := by decide +kernel
theorem dX1_isIn_14 : decode cX1_isIn 14 = .ok (.ireturn, 1) := by decide +kernel
theorem dX1_isColumn_0 : decode cX1_isColumn 0 = .ok (.iload_n 0, 1) := by decide +kernel
theorem dX1_isColumn_1 : decode cX1_isColumn 1 = .ok (.ifCond .lt 21, 3) := by decide +kernel
theorem dX1_isColumn_4 : decode cX1_isColumn 4 = .ok (.iload_n 0, 1) := by decide +kernel
theorem dX1_isColumn_5 : decode cX1_isColumn 5 = .ok (.bipush 6, 2) := by decide +kernel
theorem dX1_isColumn_7 : decode cX1_isColumn 7 = .ok (.if_icmp .ge 15, 3) := by decide +kernel
theorem dX1_isColumn_10 : decode cX1_isColumn 10 = .ok (.iload_n 0, 1) := by decide +kernel
theorem dX1_isColumn_11 : decode cX1_isColumn 11 = .ok (.iload_n 1, 1) := by decide +kernel
theorem dX1_isColumn_12 : decode cX1_isColumn 12 = .ok (.invokestatic 9, 3) := by decide +kernel
theorem dX1_isColumn_15 : decode cX1_isColumn 15 = .ok (.ifCond .eq 7, 3) := by decide +kernel
theorem dX1_isColumn_18 : decode cX1_isColumn 18 = .ok (.iconst 1, 1) := by decide +kernel
theorem dX1_isColumn_19 : decode cX1_isColumn 19 = .ok (.goto 4, 3) := by decide +kernel
theorem dX1_isColumn_22 : decode cX1_isColumn 22 = .ok (.iconst 0, 1) := by decide +kernel
theorem dX1_isColumn_23 : decode cX1_isColumn 23 = .ok (.ireturn, 1) := by decide +kernel
theorem dX1_isValue_0 : decode cX1_isValue 0 = .ok (.iload_n 0, 1) := by decide +kernel
theorem dX1_isValue_1 : decode cX1_isValue 1 = .ok (.ifCond .lt 13, 3) := by decide +kernel
theorem dX1_isValue_4 : decode cX1_isValue 4 = .ok (.iload_n 0, 1) := by decide +kernel
theorem dX1_isValue_5 : decode cX1_isValue 5 = .ok (.bipush 9, 2) := by decide +kernel
theorem dX1_isValue_7 : decode cX1_isValue 7 = .ok (.if_icmp .gt 7, 3) := by decide +kernel
theorem dX1_isValue_10 : decode cX1_isValue 10 = .ok (.iconst 1, 1) := by decide +kernel
theorem dX1_isValue_11 : decode cX1_isValue 11 = .ok (.goto 4, 3) := by decide +kernel
theorem dX1_isValue_14 : decode cX1_isValue 14 = .ok (.iconst 0, 1) := by decide +kernel
theorem dX1_isValue_15 : decode cX1_isValue 15 = .ok (.ireturn, 1) := by decide +kernel
theorem dX1_isRow_0 : decode cX1_isRow 0 = .ok (.iload_n 0, 1) := by decide +kernel
theorem dX1_isRow_1 : decode cX1_isRow 1 = .ok (.ifCond .lt 22, 3) := by decide +kernel
theorem dX1_isRow_4 : decode cX1_isRow 4 = .ok (.iload_n 0, 1) := by decide +kernel
theorem dX1_isRow_5 : decode cX1_isRow 5 = .ok (.ldc 15, 2) := by decide +kernel
theorem dX1_isRow_7 : decode cX1_isRow 7 = .ok (.if_icmp .gt 16, 3) := by decide +kernel
theorem dX1_isRow_10 : decode cX1_isRow 10 = .ok (.iload_n 0, 1) := by decide +kernel
theorem dX1_isRow_11 : decode cX1_isRow 11 = .ok (.iload_n 1, 1) := by decide +kernel
theorem dX1_isRow_12 : decode cX1_isRow 12 = .ok (.invokestatic 16, 3) := by decide +kernel
theorem dX1_isRow_15 : decode cX1_isRow 15 = .ok (.iload_n 0, 1) := by decide +kernel
theorem dX1_isRow_16 : decode cX1_isRow 16 = .ok (.if_icmp .ne 7, 3) := by decide +kernel
theorem dX1_isRow_19 : decode cX1_isRow 19 = .ok (.iconst 1, 1) := by decide +kernel
theorem dX1_isRow_20 : decode cX1_isRow 20 = .ok (.goto 4, 3) := by decide +kernel
theorem dX1_isRow_23 : decode cX1_isRow 23 = .ok (.iconst 0, 1) := by decide +kernel
theorem dX1_isRow_24 : decode cX1_isRow 24 = .ok (.ireturn, 1) := by decide +kernel
theorem dX1_digit_0 : decode cX1_digit 0 = .ok (.iload_n 0, 1) := by decide +kernel
theorem dX1_digit_1 : decode cX1_digit 1 = .ok (.istore_n 2, 1) := by decide +kernel
theorem dX1_digit_2 : decode cX1_digit 2 = .ok (.iconst 0, 1) := by decide +kernel
theorem dX1_digit_3 : decode cX1_digit 3 = .ok (.istore_n 3, 1) := by decide +kernel
theorem dX1_digit_4 : decode cX1_digit 4 = .ok (.iload_n 3, 1) := by decide +kernel
theorem dX1_digit_5 : decode cX1_digit 5 = .ok (.iload_n 1, 1) := by decide +kernel
theorem dX1_digit_6 : decode cX1_digit 6 = .ok (.if_icmp .ge 20, 3) := by decide +kernel
theorem dX1_digit_9 : decode cX1_digit 9 = .ok (.iload_n 3, 1) := by decide +kernel
theorem dX1_digit_10 : decode cX1_digit 10 = .ok (.bipush 6, 2) := by decide +kernel
theorem dX1_digit_12 : decode cX1_digit 12 = .ok (.if_icmp .ge 14, 3) := by decide +kernel
theorem dX1_digit_15 : decode cX1_digit 15 = .ok (.iload_n 2, 1) := by decide +kernel
theorem dX1_digit_16 : decode cX1_digit 16 = .ok (.bipush 10, 2) := by decide +kernel
theorem dX1_digit_18 : decode cX1_digit 18 = .ok (.idiv, 1) := by decide +kernel
theorem dX1_digit_19 : decode cX1_digit 19 = .ok (.istore_n 2, 1) := by decide +kernel
theorem dX1_digit_20 : decode cX1_digit 20 = .ok (.iinc 3 1, 3) := by decide +kernel
theorem dX1_digit_23 : decode cX1_digit 23 = .ok (.goto (-19), 3) := by decide +kernel
theorem dX1_digit_26 : decode cX1_digit 26 = .ok (.iload_n 2, 1) := by decide +kernel
theorem dX1_digit_27 : decode cX1_digit 27 = .ok (.bipush 10, 2) := by decide +kernel
theorem dX1_digit_29 : decode cX1_digit 29 = .ok (.irem, 1) := by decide +kernel
theorem dX1_digit_30 : decode cX1_digit 30 = .ok (.ireturn, 1) := by decide +kernel
theorem dX1_told_0 : decode cX1_told 0 = .ok (.iload_n 1, 1) := by decide +kernel
theorem dX1_told_1 : decode cX1_told 1 = .ok (.istore_n 2, 1) := by decide +kernel
theorem dX1_told_2 : decode cX1_told 2 = .ok (.iconst 0, 1) := by decide +kernel
theorem dX1_told_3 : decode cX1_told 3 = .ok (.istore_n 3, 1) := by decide +kernel
theorem dX1_told_4 : decode cX1_told 4 = .ok (.iload_n 3, 1) := by decide +kernel
theorem dX1_told_5 : decode cX1_told 5 = .ok (.iload_n 0, 1) := by decide +kernel
theorem dX1_told_6 : decode cX1_told 6 = .ok (.if_icmp .ge 20, 3) := by decide +kernel
theorem dX1_told_9 : decode cX1_told 9 = .ok (.iload_n 3, 1) := by decide +kernel
theorem dX1_told_10 : decode cX1_told 10 = .ok (.bipush 6, 2) := by decide +kernel
theorem dX1_told_12 : decode cX1_told 12 = .ok (.if_icmp .ge 14, 3) := by decide +kernel
theorem dX1_told_15 : decode cX1_told 15 = .ok (.iload_n 2, 1) := by decide +kernel
theorem dX1_told_16 : decode cX1_told 16 = .ok (.bipush 10, 2) := by decide +kernel
theorem dX1_told_18 : decode cX1_told 18 = .ok (.imul, 1) := by decide +kernel
theorem dX1_told_19 : decode cX1_told 19 = .ok (.istore_n 2, 1) := by decide +kernel
theorem dX1_told_20 : decode cX1_told 20 = .ok (.iinc 3 1, 3) := by decide +kernel
theorem dX1_told_23 : decode cX1_told 23 = .ok (.goto (-19), 3) := by decide +kernel
theorem dX1_told_26 : decode cX1_told 26 = .ok (.iload_n 2, 1) := by decide +kernel
theorem dX1_told_27 : decode cX1_told 27 = .ok (.ireturn, 1) := by decide +kernel
theorem dX1_with_0 : decode cX1_with 0 = .ok (.iload_n 0, 1) := by decide +kernel
theorem dX1_with_1 : decode cX1_with 1 = .ok (.iload_n 1, 1) := by decide +kernel
theorem dX1_with_2 : decode cX1_with 2 = .ok (.iload_n 0, 1) := by decide +kernel
theorem dX1_with_3 : decode cX1_with 3 = .ok (.iload_n 1, 1) := by decide +kernel
theorem dX1_with_4 : decode cX1_with 4 = .ok (.invokestatic 20, 3) := by decide +kernel
theorem dX1_with_7 : decode cX1_with 7 = .ok (.invokestatic 23, 3) := by decide +kernel
theorem dX1_with_10 : decode cX1_with 10 = .ok (.isub, 1) := by decide +kernel
theorem dX1_with_11 : decode cX1_with 11 = .ok (.iload_n 1, 1) := by decide +kernel
theorem dX1_with_12 : decode cX1_with 12 = .ok (.iload_n 2, 1) := by decide +kernel
theorem dX1_with_13 : decode cX1_with 13 = .ok (.invokestatic 23, 3) := by decide +kernel
theorem dX1_with_16 : decode cX1_with 16 = .ok (.iadd, 1) := by decide +kernel
theorem dX1_with_17 : decode cX1_with 17 = .ok (.ireturn, 1) := by decide +kernel
theorem dX1_part_0 : decode cX1_part 0 = .ok (.iconst 0, 1) := by decide +kernel
theorem dX1_part_1 : decode cX1_part 1 = .ok (.istore_n 2, 1) := by decide +kernel
theorem dX1_part_2 : decode cX1_part 2 = .ok (.iload_n 0, 1) := by decide +kernel
theorem dX1_part_3 : decode cX1_part 3 = .ok (.istore_n 3, 1) := by decide +kernel
theorem dX1_part_4 : decode cX1_part 4 = .ok (.iconst 1, 1) := by decide +kernel
theorem dX1_part_5 : decode cX1_part 5 = .ok (.istore 4, 2) := by decide +kernel
theorem dX1_part_7 : decode cX1_part 7 = .ok (.iconst 0, 1) := by decide +kernel
theorem dX1_part_8 : decode cX1_part 8 = .ok (.istore 5, 2) := by decide +kernel
theorem dX1_part_10 : decode cX1_part 10 = .ok (.iload 5, 2) := by decide +kernel
theorem dX1_part_12 : decode cX1_part 12 = .ok (.bipush 6, 2) := by decide +kernel
theorem dX1_part_14 : decode cX1_part 14 = .ok (.if_icmp .ge 40, 3) := by decide +kernel
theorem dX1_part_17 : decode cX1_part 17 = .ok (.iload 5, 2) := by decide +kernel
theorem dX1_part_19 : decode cX1_part 19 = .ok (.iload_n 1, 1) := by decide +kernel
theorem dX1_part_20 : decode cX1_part 20 = .ok (.invokestatic 9, 3) := by decide +kernel
theorem dX1_part_23 : decode cX1_part 23 = .ok (.ifCond .eq 13, 3) := by decide +kernel
theorem dX1_part_26 : decode cX1_part 26 = .ok (.iload_n 2, 1) := by decide +kernel
theorem dX1_part_27 : decode cX1_part 27 = .ok (.iload_n 3, 1) := by decide +kernel
theorem dX1_part_28 : decode cX1_part 28 = .ok (.bipush 10, 2) := by decide +kernel
theorem dX1_part_30 : decode cX1_part 30 = .ok (.irem, 1) := by decide +kernel
theorem dX1_part_31 : decode cX1_part 31 = .ok (.iload 4, 2) := by decide +kernel
theorem dX1_part_33 : decode cX1_part 33 = .ok (.imul, 1) := by decide +kernel
theorem dX1_part_34 : decode cX1_part 34 = .ok (.iadd, 1) := by decide +kernel
theorem dX1_part_35 : decode cX1_part 35 = .ok (.istore_n 2, 1) := by decide +kernel
theorem dX1_part_36 : decode cX1_part 36 = .ok (.iload_n 3, 1) := by decide +kernel
theorem dX1_part_37 : decode cX1_part 37 = .ok (.bipush 10, 2) := by decide +kernel
theorem dX1_part_39 : decode cX1_part 39 = .ok (.idiv, 1) := by decide +kernel
theorem dX1_part_40 : decode cX1_part 40 = .ok (.istore_n 3, 1) := by decide +kernel
theorem dX1_part_41 : decode cX1_part 41 = .ok (.iload 4, 2) := by decide +kernel
theorem dX1_part_43 : decode cX1_part 43 = .ok (.bipush 10, 2) := by decide +kernel
theorem dX1_part_45 : decode cX1_part 45 = .ok (.imul, 1) := by decide +kernel
theorem dX1_part_46 : decode cX1_part 46 = .ok (.istore 4, 2) := by decide +kernel
theorem dX1_part_48 : decode cX1_part 48 = .ok (.iinc 5 1, 3) := by decide +kernel
theorem dX1_part_51 : decode cX1_part 51 = .ok (.goto (-41), 3) := by decide +kernel
theorem dX1_part_54 : decode cX1_part 54 = .ok (.iload_n 2, 1) := by decide +kernel
theorem dX1_part_55 : decode cX1_part 55 = .ok (.ireturn, 1) := by decide +kernel
theorem dX1_alike_0 : decode cX1_alike 0 = .ok (.iload_n 0, 1) := by decide +kernel
theorem dX1_alike_1 : decode cX1_alike 1 = .ok (.istore_n 3, 1) := by decide +kernel
theorem dX1_alike_2 : decode cX1_alike 2 = .ok (.iload_n 1, 1) := by decide +kernel
theorem dX1_alike_3 : decode cX1_alike 3 = .ok (.istore 4, 2) := by decide +kernel
theorem dX1_alike_5 : decode cX1_alike 5 = .ok (.iconst 0, 1) := by decide +kernel
theorem dX1_alike_6 : decode cX1_alike 6 = .ok (.istore 5, 2) := by decide +kernel
theorem dX1_alike_8 : decode cX1_alike 8 = .ok (.iload 5, 2) := by decide +kernel
theorem dX1_alike_10 : decode cX1_alike 10 = .ok (.bipush 6, 2) := by decide +kernel
theorem dX1_alike_12 : decode cX1_alike 12 = .ok (.if_icmp .ge 51, 3) := by decide +kernel
theorem dX1_alike_15 : decode cX1_alike 15 = .ok (.iload_n 3, 1) := by decide +kernel
theorem dX1_alike_16 : decode cX1_alike 16 = .ok (.iload 4, 2) := by decide +kernel
theorem dX1_alike_18 : decode cX1_alike 18 = .ok (.if_icmp .eq 45, 3) := by decide +kernel
theorem dX1_alike_21 : decode cX1_alike 21 = .ok (.iload_n 2, 1) := by decide +kernel
theorem dX1_alike_22 : decode cX1_alike 22 = .ok (.iload 5, 2) := by decide +kernel
theorem dX1_alike_24 : decode cX1_alike 24 = .ok (.ishr, 1) := by decide +kernel
theorem dX1_alike_25 : decode cX1_alike 25 = .ok (.iconst 1, 1) := by decide +kernel
theorem dX1_alike_26 : decode cX1_alike 26 = .ok (.iand, 1) := by decide +kernel
theorem dX1_alike_27 : decode cX1_alike 27 = .ok (.iconst 1, 1) := by decide +kernel
theorem dX1_alike_28 : decode cX1_alike 28 = .ok (.if_icmp .ne 17, 3) := by decide +kernel
theorem dX1_alike_31 : decode cX1_alike 31 = .ok (.iload_n 3, 1) := by decide +kernel
theorem dX1_alike_32 : decode cX1_alike 32 = .ok (.bipush 10, 2) := by decide +kernel
theorem dX1_alike_34 : decode cX1_alike 34 = .ok (.irem, 1) := by decide +kernel
theorem dX1_alike_35 : decode cX1_alike 35 = .ok (.iload 4, 2) := by decide +kernel
theorem dX1_alike_37 : decode cX1_alike 37 = .ok (.bipush 10, 2) := by decide +kernel
theorem dX1_alike_39 : decode cX1_alike 39 = .ok (.irem, 1) := by decide +kernel
theorem dX1_alike_40 : decode cX1_alike 40 = .ok (.if_icmp .eq 5, 3) := by decide +kernel
theorem dX1_alike_43 : decode cX1_alike 43 = .ok (.iconst 0, 1) := by decide +kernel
theorem dX1_alike_44 : decode cX1_alike 44 = .ok (.ireturn, 1) := by decide +kernel
theorem dX1_alike_45 : decode cX1_alike 45 = .ok (.iload_n 3, 1) := by decide +kernel
theorem dX1_alike_46 : decode cX1_alike 46 = .ok (.bipush 10, 2) := by decide +kernel
theorem dX1_alike_48 : decode cX1_alike 48 = .ok (.idiv, 1) := by decide +kernel
theorem dX1_alike_49 : decode cX1_alike 49 = .ok (.istore_n 3, 1) := by decide +kernel
theorem dX1_alike_50 : decode cX1_alike 50 = .ok (.iload 4, 2) := by decide +kernel
theorem dX1_alike_52 : decode cX1_alike 52 = .ok (.bipush 10, 2) := by decide +kernel
theorem dX1_alike_54 : decode cX1_alike 54 = .ok (.idiv, 1) := by decide +kernel
theorem dX1_alike_55 : decode cX1_alike 55 = .ok (.istore 4, 2) := by decide +kernel
theorem dX1_alike_57 : decode cX1_alike 57 = .ok (.iinc 5 1, 3) := by decide +kernel
theorem dX1_alike_60 : decode cX1_alike 60 = .ok (.goto (-52), 3) := by decide +kernel
theorem dX1_alike_63 : decode cX1_alike 63 = .ok (.iconst 1, 1) := by decide +kernel
theorem dX1_alike_64 : decode cX1_alike 64 = .ok (.ireturn, 1) := by decide +kernel
theorem dX2_init_0 : decode cX2_init 0 = .ok (.aload_n 0, 1) := by decide +kernel
theorem dX2_init_1 : decode cX2_init 1 = .ok (.iload_n 1, 1) := by decide +kernel
theorem dX2_init_2 : decode cX2_init 2 = .ok (.aload_n 2, 1) := by decide +kernel
theorem dX2_init_3 : decode cX2_init 3 = .ok (.getfield 3, 3) := by decide +kernel
theorem dX2_init_6 : decode cX2_init 6 = .ok (.iconst 1, 1) := by decide +kernel
theorem dX2_init_7 : decode cX2_init 7 = .ok (.iload_n 3, 1) := by decide +kernel
theorem dX2_init_8 : decode cX2_init 8 = .ok (.ishl, 1) := by decide +kernel
theorem dX2_init_9 : decode cX2_init 9 = .ok (.iconst (-1), 1) := by decide +kernel
theorem dX2_init_10 : decode cX2_init 10 = .ok (.ixor, 1) := by decide +kernel
theorem dX2_init_11 : decode cX2_init 11 = .ok (.iand, 1) := by decide +kernel
theorem dX2_init_12 : decode cX2_init 12 = .ok (.aload_n 2, 1) := by decide +kernel
theorem dX2_init_13 : decode cX2_init 13 = .ok (.getfield 9, 3) := by decide +kernel
theorem dX2_init_16 : decode cX2_init 16 = .ok (.aload_n 2, 1) := by decide +kernel
theorem dX2_init_17 : decode cX2_init 17 = .ok (.getfield 12, 3) := by decide +kernel
theorem dX2_init_20 : decode cX2_init 20 = .ok (.aload_n 2, 1) := by decide +kernel
theorem dX2_init_21 : decode cX2_init 21 = .ok (.aconst_null, 1) := by decide +kernel
theorem dX2_init_22 : decode cX2_init 22 = .ok (.invokespecial 15, 3) := by decide +kernel
theorem dX2_init_25 : decode cX2_init 25 = .ok (.aload_n 0, 1) := by decide +kernel
theorem dX2_init_26 : decode cX2_init 26 = .ok (.aload_n 2, 1) := by decide +kernel
theorem dX2_init_27 : decode cX2_init 27 = .ok (.putfield 19, 3) := by decide +kernel
theorem dX2_init_30 : decode cX2_init 30 = .ok (.aload_n 0, 1) := by decide +kernel
theorem dX2_init_31 : decode cX2_init 31 = .ok (.iload_n 3, 1) := by decide +kernel
theorem dX2_init_32 : decode cX2_init 32 = .ok (.putfield 25, 3) := by decide +kernel
theorem dX2_init_35 : decode cX2_init 35 = .ok (.aload_n 0, 1) := by decide +kernel
theorem dX2_init_36 : decode cX2_init 36 = .ok (.iload 4, 2) := by decide +kernel
theorem dX2_init_38 : decode cX2_init 38 = .ok (.putfield 28, 3) := by decide +kernel
theorem dX2_init_41 : decode cX2_init 41 = .ok (.return_, 1) := by decide +kernel
theorem dX2_show_0 : decode cX2_show 0 = .ok (.aload_n 0, 1) := by decide +kernel
theorem dX2_show_1 : decode cX2_show 1 = .ok (.getfield 31, 3) := by decide +kernel
theorem dX2_show_4 : decode cX2_show 4 = .ok (.invokevirtual 35, 3) := by decide +kernel
theorem dX2_show_7 : decode cX2_show 7 = .ok (.iconst 0, 1) := by decide +kernel
theorem dX2_show_8 : decode cX2_show 8 = .ok (.istore_n 1, 1) := by decide +kernel
theorem dX2_show_9 : decode cX2_show 9 = .ok (.iload_n 1, 1) := by decide +kernel
theorem dX2_show_10 : decode cX2_show 10 = .ok (.aload_n 0, 1) := by decide +kernel
theorem dX2_show_11 : decode cX2_show 11 = .ok (.getfield 19, 3) := by decide +kernel
theorem dX2_show_14 : decode cX2_show 14 = .ok (.getfield 41, 3) := by decide +kernel
theorem dX2_show_17 : decode cX2_show 17 = .ok (.invokevirtual 42, 3) := by decide +kernel
theorem dX2_show_20 : decode cX2_show 20 = .ok (.if_icmp .ge 34, 3) := by decide +kernel
theorem dX2_show_23 : decode cX2_show 23 = .ok (.aload_n 0, 1) := by decide +kernel
theorem dX2_show_24 : decode cX2_show 24 = .ok (.getfield 31, 3) := by decide +kernel
theorem dX2_show_27 : decode cX2_show 27 = .ok (.aload_n 0, 1) := by decide +kernel
theorem dX2_show_28 : decode cX2_show 28 = .ok (.getfield 19, 3) := by decide +kernel
theorem dX2_show_31 : decode cX2_show 31 = .ok (.getfield 41, 3) := by decide +kernel
theorem dX2_show_34 : decode cX2_show 34 = .ok (.iload_n 1, 1) := by decide +kernel
theorem dX2_show_35 : decode cX2_show 35 = .ok (.invokevirtual 46, 3) := by decide +kernel
theorem dX2_show_38 : decode cX2_show 38 = .ok (.aload_n 0, 1) := by decide +kernel
theorem dX2_show_39 : decode cX2_show 39 = .ok (.getfield 50, 3) := by decide +kernel
theorem dX2_show_42 : decode cX2_show 42 = .ok (.invokestatic 51, 3) := by decide +kernel
theorem dX2_show_45 : decode cX2_show 45 = .ok (.invokevirtual 57, 3) := by decide +kernel
theorem dX2_show_48 : decode cX2_show 48 = .ok (.iinc 1 1, 3) := by decide +kernel
theorem dX2_show_51 : decode cX2_show 51 = .ok (.goto (-42), 3) := by decide +kernel
theorem dX2_show_54 : decode cX2_show 54 = .ok (.return_, 1) := by decide +kernel
theorem dX2_seekOwnConflict_0 : decode cX2_seekOwnConflict 0 = .ok (.return_, 1) := by decide +kernel
theorem dX2_passOn_0 : decode cX2_passOn 0 = .ok (.aload_n 0, 1) := by decide +kernel
theorem dX2_passOn_1 : decode cX2_passOn 1 = .ok (.getfield 19, 3) := by decide +kernel
theorem dX2_passOn_4 : decode cX2_passOn 4 = .ok (.getfield 61, 3) := by decide +kernel
theorem dX2_passOn_7 : decode cX2_passOn 7 = .ok (.invokevirtual 35, 3) := by decide +kernel
theorem dX2_passOn_10 : decode cX2_passOn 10 = .ok (.iconst 0, 1) := by decide +kernel
theorem dX2_passOn_11 : decode cX2_passOn 11 = .ok (.istore_n 1, 1) := by decide +kernel
theorem dX2_passOn_12 : decode cX2_passOn 12 = .ok (.iload_n 1, 1) := by decide +kernel
theorem dX2_passOn_13 : decode cX2_passOn 13 = .ok (.aload_n 0, 1) := by decide +kernel
theorem dX2_passOn_14 : decode cX2_passOn 14 = .ok (.getfield 64, 3) := by decide +kernel
theorem dX2_passOn_17 : decode cX2_passOn 17 = .ok (.invokevirtual 42, 3) := by decide +kernel
theorem dX2_passOn_20 : decode cX2_passOn 20 = .ok (.if_icmp .ge 41, 3) := by decide +kernel
theorem dX2_passOn_23 : decode cX2_passOn 23 = .ok (.aload_n 0, 1) := by decide +kernel
theorem dX2_passOn_24 : decode cX2_passOn 24 = .ok (.getfield 64, 3) := by decide +kernel
theorem dX2_passOn_27 : decode cX2_passOn 27 = .ok (.iload_n 1, 1) := by decide +kernel
theorem dX2_passOn_28 : decode cX2_passOn 28 = .ok (.invokevirtual 46, 3) := by decide +kernel
theorem dX2_passOn_31 : decode cX2_passOn 31 = .ok (.istore_n 2, 1) := by decide +kernel
theorem dX2_passOn_32 : decode cX2_passOn 32 = .ok (.aload_n 0, 1) := by decide +kernel
theorem dX2_passOn_33 : decode cX2_passOn 33 = .ok (.getfield 19, 3) := by decide +kernel
theorem dX2_passOn_36 : decode cX2_passOn 36 = .ok (.getfield 61, 3) := by decide +kernel
theorem dX2_passOn_39 : decode cX2_passOn 39 = .ok (.iload_n 2, 1) := by decide +kernel
theorem dX2_passOn_40 : decode cX2_passOn 40 = .ok (.aload_n 0, 1) := by decide +kernel
theorem dX2_passOn_41 : decode cX2_passOn 41 = .ok (.getfield 25, 3) := by decide +kernel
theorem dX2_passOn_44 : decode cX2_passOn 44 = .ok (.aload_n 0, 1) := by decide +kernel
theorem dX2_passOn_45 : decode cX2_passOn 45 = .ok (.iload_n 2, 1) := by decide +kernel
theorem dX2_passOn_46 : decode cX2_passOn 46 = .ok (.invokevirtual 65, 3) := by decide +kernel
theorem dX2_passOn_49 : decode cX2_passOn 49 = .ok (.invokestatic 68, 3) := by decide +kernel
theorem dX2_passOn_52 : decode cX2_passOn 52 = .ok (.invokevirtual 57, 3) := by decide +kernel
theorem dX2_passOn_55 : decode cX2_passOn 55 = .ok (.iinc 1 1, 3) := by decide +kernel
theorem dX2_passOn_58 : decode cX2_passOn 58 = .ok (.goto (-46), 3) := by decide +kernel
theorem dX2_passOn_61 : decode cX2_passOn 61 = .ok (.return_, 1) := by decide +kernel
theorem dX2_hiddenValue_0 : decode cX2_hiddenValue 0 = .ok (.aload_n 0, 1) := by decide +kernel
theorem dX2_hiddenValue_1 : decode cX2_hiddenValue 1 = .ok (.getfield 19, 3) := by decide +kernel
theorem dX2_hiddenValue_4 : decode cX2_hiddenValue 4 = .ok (.getfield 41, 3) := by decide +kernel
theorem dX2_hiddenValue_7 : decode cX2_hiddenValue 7 = .ok (.iload_n 1, 1) := by decide +kernel
theorem dX2_hiddenValue_8 : decode cX2_hiddenValue 8 = .ok (.aload_n 0, 1) := by decide +kernel
theorem dX2_hiddenValue_9 : decode cX2_hiddenValue 9 = .ok (.getfield 72, 3) := by decide +kernel
theorem dX2_hiddenValue_12 : decode cX2_hiddenValue 12 = .ok (.invokevirtual 73, 3) := by decide +kernel
theorem dX2_hiddenValue_15 : decode cX2_hiddenValue 15 = .ok (.istore_n 2, 1) := by decide +kernel
theorem dX2_hiddenValue_16 : decode cX2_hiddenValue 16 = .ok (.iload_n 2, 1) := by decide +kernel
theorem dX2_hiddenValue_17 : decode cX2_hiddenValue 17 = .ok (.iconst (-1), 1) := by decide +kernel
theorem dX2_hiddenValue_18 : decode cX2_hiddenValue 18 = .ok (.if_icmp .ne 10, 3) := by decide +kernel
theorem dX2_hiddenValue_21 : decode cX2_hiddenValue 21 = .ok (.aload_n 0, 1) := by decide +kernel
theorem dX2_hiddenValue_22 : decode cX2_hiddenValue 22 = .ok (.getfield 28, 3) := by decide +kernel
theorem dX2_hiddenValue_25 : decode cX2_hiddenValue 25 = .ok (.goto 11, 3) := by decide +kernel
theorem dX2_hiddenValue_28 : decode cX2_hiddenValue 28 = .ok (.iload_n 2, 1) := by decide +kernel
theorem dX2_hiddenValue_29 : decode cX2_hiddenValue 29 = .ok (.aload_n 0, 1) := by decide +kernel
theorem dX2_hiddenValue_30 : decode cX2_hiddenValue 30 = .ok (.getfield 25, 3) := by decide +kernel
theorem dX2_hiddenValue_33 : decode cX2_hiddenValue 33 = .ok (.invokestatic 76, 3) := by decide +kernel
theorem dX2_hiddenValue_36 : decode cX2_hiddenValue 36 = .ok (.ireturn, 1) := by decide +kernel
theorem dX3_init_0 : decode cX3_init 0 = .ok (.aload_n 0, 1) := by decide +kernel
theorem dX3_init_1 : decode cX3_init 1 = .ok (.iload_n 1, 1) := by decide +kernel
theorem dX3_init_2 : decode cX3_init 2 = .ok (.aload_n 2, 1) := by decide +kernel
theorem dX3_init_3 : decode cX3_init 3 = .ok (.getfield 3, 3) := by decide +kernel
theorem dX3_init_6 : decode cX3_init 6 = .ok (.aload_n 3, 1) := by decide +kernel
theorem dX3_init_7 : decode cX3_init 7 = .ok (.getfield 3, 3) := by decide +kernel
theorem dX3_init_10 : decode cX3_init 10 = .ok (.ior, 1) := by decide +kernel
theorem dX3_init_11 : decode cX3_init 11 = .ok (.aload_n 2, 1) := by decide +kernel
theorem dX3_init_12 : decode cX3_init 12 = .ok (.getfield 9, 3) := by decide +kernel
theorem dX3_init_15 : decode cX3_init 15 = .ok (.aload_n 2, 1) := by decide +kernel
theorem dX3_init_16 : decode cX3_init 16 = .ok (.getfield 12, 3) := by decide +kernel
theorem dX3_init_19 : decode cX3_init 19 = .ok (.aload_n 3, 1) := by decide +kernel
theorem dX3_init_20 : decode cX3_init 20 = .ok (.getfield 12, 3) := by decide +kernel
theorem dX3_init_23 : decode cX3_init 23 = .ok (.ior, 1) := by decide +kernel
theorem dX3_init_24 : decode cX3_init 24 = .ok (.aload_n 2, 1) := by decide +kernel
theorem dX3_init_25 : decode cX3_init 25 = .ok (.aload_n 3, 1) := by decide +kernel
theorem dX3_init_26 : decode cX3_init 26 = .ok (.invokespecial 15, 3) := by decide +kernel
theorem dX3_init_29 : decode cX3_init 29 = .ok (.aload_n 0, 1) := by decide +kernel
theorem dX3_init_30 : decode cX3_init 30 = .ok (.aload_n 2, 1) := by decide +kernel
theorem dX3_init_31 : decode cX3_init 31 = .ok (.putfield 19, 3) := by decide +kernel
theorem dX3_init_34 : decode cX3_init 34 = .ok (.aload_n 0, 1) := by decide +kernel
theorem dX3_init_35 : decode cX3_init 35 = .ok (.aload_n 3, 1) := by decide +kernel
theorem dX3_init_36 : decode cX3_init 36 = .ok (.putfield 25, 3) := by decide +kernel
theorem dX3_init_39 : decode cX3_init 39 = .ok (.aload_n 0, 1) := by decide +kernel
theorem dX3_init_40 : decode cX3_init 40 = .ok (.aload_n 2, 1) := by decide +kernel
theorem dX3_init_41 : decode cX3_init 41 = .ok (.getfield 3, 3) := by decide +kernel
theorem dX3_init_44 : decode cX3_init 44 = .ok (.aload_n 3, 1) := by decide +kernel
theorem dX3_init_45 : decode cX3_init 45 = .ok (.getfield 3, 3) := by decide +kernel
theorem dX3_init_48 : decode cX3_init 48 = .ok (.iand, 1) := by decide +kernel
theorem dX3_init_49 : decode cX3_init 49 = .ok (.putfield 28, 3) := by decide +kernel
theorem dX3_init_52 : decode cX3_init 52 = .ok (.return_, 1) := by decide +kernel
theorem dX3_show_0 : decode cX3_show 0 = .ok (.aload_n 0, 1) := by decide +kernel
theorem dX3_show_1 : decode cX3_show 1 = .ok (.getfield 31, 3) := by decide +kernel
theorem dX3_show_4 : decode cX3_show 4 = .ok (.invokevirtual 35, 3) := by decide +kernel
theorem dX3_show_7 : decode cX3_show 7 = .ok (.iconst 0, 1) := by decide +kernel
theorem dX3_show_8 : decode cX3_show 8 = .ok (.istore_n 1, 1) := by decide +kernel
theorem dX3_show_9 : decode cX3_show 9 = .ok (.iload_n 1, 1) := by decide +kernel
theorem dX3_show_10 : decode cX3_show 10 = .ok (.aload_n 0, 1) := by decide +kernel
theorem dX3_show_11 : decode cX3_show 11 = .ok (.getfield 19, 3) := by decide +kernel
theorem dX3_show_14 : decode cX3_show 14 = .ok (.getfield 41, 3) := by decide +kernel
theorem dX3_show_17 : decode cX3_show 17 = .ok (.invokevirtual 42, 3) := by decide +kernel
theorem dX3_show_20 : decode cX3_show 20 = .ok (.if_icmp .ge 72, 3) := by decide +kernel
theorem dX3_show_23 : decode cX3_show 23 = .ok (.aload_n 0, 1) := by decide +kernel
theorem dX3_show_24 : decode cX3_show 24 = .ok (.getfield 19, 3) := by decide +kernel
theorem dX3_show_27 : decode cX3_show 27 = .ok (.getfield 41, 3) := by decide +kernel
theorem dX3_show_30 : decode cX3_show 30 = .ok (.iload_n 1, 1) := by decide +kernel
theorem dX3_show_31 : decode cX3_show 31 = .ok (.invokevirtual 46, 3) := by decide +kernel
theorem dX3_show_34 : decode cX3_show 34 = .ok (.istore_n 2, 1) := by decide +kernel
theorem dX3_show_35 : decode cX3_show 35 = .ok (.aload_n 0, 1) := by decide +kernel
theorem dX3_show_36 : decode cX3_show 36 = .ok (.getfield 25, 3) := by decide +kernel
theorem dX3_show_39 : decode cX3_show 39 = .ok (.getfield 41, 3) := by decide +kernel
theorem dX3_show_42 : decode cX3_show 42 = .ok (.iload_n 2, 1) := by decide +kernel
theorem dX3_show_43 : decode cX3_show 43 = .ok (.aload_n 0, 1) := by decide +kernel
theorem dX3_show_44 : decode cX3_show 44 = .ok (.getfield 28, 3) := by decide +kernel
theorem dX3_show_47 : decode cX3_show 47 = .ok (.invokevirtual 50, 3) := by decide +kernel
theorem dX3_show_50 : decode cX3_show 50 = .ok (.istore_n 3, 1) := by decide +kernel
theorem dX3_show_51 : decode cX3_show 51 = .ok (.iload_n 3, 1) := by decide +kernel
theorem dX3_show_52 : decode cX3_show 52 = .ok (.iconst (-1), 1) := by decide +kernel
theorem dX3_show_53 : decode cX3_show 53 = .ok (.if_icmp .eq 33, 3) := by decide +kernel
theorem dX3_show_56 : decode cX3_show 56 = .ok (.aload_n 0, 1) := by decide +kernel
theorem dX3_show_57 : decode cX3_show 57 = .ok (.getfield 31, 3) := by decide +kernel
theorem dX3_show_60 : decode cX3_show 60 = .ok (.iload_n 2, 1) := by decide +kernel
theorem dX3_show_61 : decode cX3_show 61 = .ok (.iload_n 3, 1) := by decide +kernel
theorem dX3_show_62 : decode cX3_show 62 = .ok (.aload_n 0, 1) := by decide +kernel
theorem dX3_show_63 : decode cX3_show 63 = .ok (.getfield 25, 3) := by decide +kernel
theorem dX3_show_66 : decode cX3_show 66 = .ok (.getfield 3, 3) := by decide +kernel
theorem dX3_show_69 : decode cX3_show 69 = .ok (.aload_n 0, 1) := by decide +kernel
theorem dX3_show_70 : decode cX3_show 70 = .ok (.getfield 19, 3) := by decide +kernel
theorem dX3_show_73 : decode cX3_show 73 = .ok (.getfield 3, 3) := by decide +kernel
theorem dX3_show_76 : decode cX3_show 76 = .ok (.iconst (-1), 1) := by decide +kernel
theorem dX3_show_77 : decode cX3_show 77 = .ok (.ixor, 1) := by decide +kernel
theorem dX3_show_78 : decode cX3_show 78 = .ok (.iand, 1) := by decide +kernel
theorem dX3_show_79 : decode cX3_show 79 = .ok (.invokestatic 54, 3) := by decide +kernel
theorem dX3_show_82 : decode cX3_show 82 = .ok (.iadd, 1) := by decide +kernel
theorem dX3_show_83 : decode cX3_show 83 = .ok (.invokevirtual 59, 3) := by decide +kernel
theorem dX3_show_86 : decode cX3_show 86 = .ok (.iinc 1 1, 3) := by decide +kernel
theorem dX3_show_89 : decode cX3_show 89 = .ok (.goto (-80), 3) := by decide +kernel
theorem dX3_show_92 : decode cX3_show 92 = .ok (.return_, 1) := by decide +kernel
theorem dX3_seekOwnConflict_0 : decode cX3_seekOwnConflict 0 = .ok (.aload_n 1, 1) := by decide +kernel
theorem dX3_seekOwnConflict_1 : decode cX3_seekOwnConflict 1 = .ok (.aload_n 0, 1) := by decide +kernel
theorem dX3_seekOwnConflict_2 : decode cX3_seekOwnConflict 2 = .ok (.iconst 3, 1) := by decide +kernel
theorem dX3_seekOwnConflict_3 : decode cX3_seekOwnConflict 3 = .ok (.aload_n 0, 1) := by decide +kernel
theorem dX3_seekOwnConflict_4 : decode cX3_seekOwnConflict 4 = .ok (.getfield 25, 3) := by decide +kernel
theorem dX3_seekOwnConflict_7 : decode cX3_seekOwnConflict 7 = .ok (.getfield 9, 3) := by decide +kernel
theorem dX3_seekOwnConflict_10 : decode cX3_seekOwnConflict 10 = .ok (.aload_n 0, 1) := by decide +kernel
theorem dX3_seekOwnConflict_11 : decode cX3_seekOwnConflict 11 = .ok (.getfield 25, 3) := by decide +kernel
theorem dX3_seekOwnConflict_14 : decode cX3_seekOwnConflict 14 = .ok (.getfield 3, 3) := by decide +kernel
theorem dX3_seekOwnConflict_17 : decode cX3_seekOwnConflict 17 = .ok (.invokevirtual 63, 3) := by decide +kernel
theorem dX3_seekOwnConflict_20 : decode cX3_seekOwnConflict 20 = .ok (.return_, 1) := by decide +kernel
theorem dX3_passOn_0 : decode cX3_passOn 0 = .ok (.aload_n 0, 1) := by decide +kernel
theorem dX3_passOn_1 : decode cX3_passOn 1 = .ok (.getfield 25, 3) := by decide +kernel
theorem dX3_passOn_4 : decode cX3_passOn 4 = .ok (.aload_n 0, 1) := by decide +kernel
theorem dX3_passOn_5 : decode cX3_passOn 5 = .ok (.getfield 69, 3) := by decide +kernel
theorem dX3_passOn_8 : decode cX3_passOn 8 = .ok (.invokevirtual 72, 3) := by decide +kernel
theorem dX3_passOn_11 : decode cX3_passOn 11 = .ok (.iconst 0, 1) := by decide +kernel
theorem dX3_passOn_12 : decode cX3_passOn 12 = .ok (.istore_n 1, 1) := by decide +kernel
theorem dX3_passOn_13 : decode cX3_passOn 13 = .ok (.iload_n 1, 1) := by decide +kernel
theorem dX3_passOn_14 : decode cX3_passOn 14 = .ok (.aload_n 0, 1) := by decide +kernel
theorem dX3_passOn_15 : decode cX3_passOn 15 = .ok (.getfield 25, 3) := by decide +kernel
theorem dX3_passOn_18 : decode cX3_passOn 18 = .ok (.getfield 41, 3) := by decide +kernel
theorem dX3_passOn_21 : decode cX3_passOn 21 = .ok (.invokevirtual 42, 3) := by decide +kernel
theorem dX3_passOn_24 : decode cX3_passOn 24 = .ok (.if_icmp .ge 43, 3) := by decide +kernel
theorem dX3_passOn_27 : decode cX3_passOn 27 = .ok (.aload_n 0, 1) := by decide +kernel
theorem dX3_passOn_28 : decode cX3_passOn 28 = .ok (.getfield 25, 3) := by decide +kernel
theorem dX3_passOn_31 : decode cX3_passOn 31 = .ok (.getfield 41, 3) := by decide +kernel
theorem dX3_passOn_34 : decode cX3_passOn 34 = .ok (.iload_n 1, 1) := by decide +kernel
theorem dX3_passOn_35 : decode cX3_passOn 35 = .ok (.invokevirtual 46, 3) := by decide +kernel
theorem dX3_passOn_38 : decode cX3_passOn 38 = .ok (.istore_n 2, 1) := by decide +kernel
theorem dX3_passOn_39 : decode cX3_passOn 39 = .ok (.aload_n 0, 1) := by decide +kernel
theorem dX3_passOn_40 : decode cX3_passOn 40 = .ok (.getfield 25, 3) := by decide +kernel
theorem dX3_passOn_43 : decode cX3_passOn 43 = .ok (.iload_n 2, 1) := by decide +kernel
theorem dX3_passOn_44 : decode cX3_passOn 44 = .ok (.invokevirtual 76, 3) := by decide +kernel
theorem dX3_passOn_47 : decode cX3_passOn 47 = .ok (.ifCond .ne 14, 3) := by decide +kernel
theorem dX3_passOn_50 : decode cX3_passOn 50 = .ok (.aload_n 0, 1) := by decide +kernel
theorem dX3_passOn_51 : decode cX3_passOn 51 = .ok (.getfield 25, 3) := by decide +kernel
theorem dX3_passOn_54 : decode cX3_passOn 54 = .ok (.getfield 80, 3) := by decide +kernel
theorem dX3_passOn_57 : decode cX3_passOn 57 = .ok (.iload_n 2, 1) := by decide +kernel
theorem dX3_passOn_58 : decode cX3_passOn 58 = .ok (.invokevirtual 59, 3) := by decide +kernel
theorem dX3_passOn_61 : decode cX3_passOn 61 = .ok (.iinc 1 1, 3) := by decide +kernel
theorem dX3_passOn_64 : decode cX3_passOn 64 = .ok (.goto (-51), 3) := by decide +kernel
theorem dX3_passOn_67 : decode cX3_passOn 67 = .ok (.aload_n 0, 1) := by decide +kernel
theorem dX3_passOn_68 : decode cX3_passOn 68 = .ok (.getfield 19, 3) := by decide +kernel
theorem dX3_passOn_71 : decode cX3_passOn 71 = .ok (.aload_n 0, 1) := by decide +kernel
theorem dX3_passOn_72 : decode cX3_passOn 72 = .ok (.getfield 69, 3) := by decide +kernel
theorem dX3_passOn_75 : decode cX3_passOn 75 = .ok (.invokevirtual 72, 3) := by decide +kernel
theorem dX3_passOn_78 : decode cX3_passOn 78 = .ok (.iconst 0, 1) := by decide +kernel
theorem dX3_passOn_79 : decode cX3_passOn 79 = .ok (.istore_n 1, 1) := by decide +kernel
theorem dX3_passOn_80 : decode cX3_passOn 80 = .ok (.iload_n 1, 1) := by decide +kernel
theorem dX3_passOn_81 : decode cX3_passOn 81 = .ok (.aload_n 0, 1) := by decide +kernel
theorem dX3_passOn_82 : decode cX3_passOn 82 = .ok (.getfield 19, 3) := by decide +kernel
theorem dX3_passOn_85 : decode cX3_passOn 85 = .ok (.getfield 41, 3) := by decide +kernel
theorem dX3_passOn_88 : decode cX3_passOn 88 = .ok (.invokevirtual 42, 3) := by decide +kernel
theorem dX3_passOn_91 : decode cX3_passOn 91 = .ok (.if_icmp .ge 62, 3) := by decide +kernel
theorem dX3_passOn_94 : decode cX3_passOn 94 = .ok (.aload_n 0, 1) := by decide +kernel
theorem dX3_passOn_95 : decode cX3_passOn 95 = .ok (.getfield 19, 3) := by decide +kernel
theorem dX3_passOn_98 : decode cX3_passOn 98 = .ok (.getfield 41, 3) := by decide +kernel
theorem dX3_passOn_101 : decode cX3_passOn 101 = .ok (.iload_n 1, 1) := by decide +kernel
theorem dX3_passOn_102 : decode cX3_passOn 102 = .ok (.invokevirtual 46, 3) := by decide +kernel
theorem dX3_passOn_105 : decode cX3_passOn 105 = .ok (.istore_n 2, 1) := by decide +kernel
theorem dX3_passOn_106 : decode cX3_passOn 106 = .ok (.aload_n 0, 1) := by decide +kernel
theorem dX3_passOn_107 : decode cX3_passOn 107 = .ok (.getfield 19, 3) := by decide +kernel
theorem dX3_passOn_110 : decode cX3_passOn 110 = .ok (.iload_n 2, 1) := by decide +kernel
theorem dX3_passOn_111 : decode cX3_passOn 111 = .ok (.invokevirtual 76, 3) := by decide +kernel
theorem dX3_passOn_114 : decode cX3_passOn 114 = .ok (.ifCond .ne 33, 3) := by decide +kernel
theorem dX3_passOn_117 : decode cX3_passOn 117 = .ok (.aload_n 0, 1) := by decide +kernel
theorem dX3_passOn_118 : decode cX3_passOn 118 = .ok (.getfield 25, 3) := by decide +kernel
theorem dX3_passOn_121 : decode cX3_passOn 121 = .ok (.getfield 80, 3) := by decide +kernel
theorem dX3_passOn_124 : decode cX3_passOn 124 = .ok (.iload_n 2, 1) := by decide +kernel
theorem dX3_passOn_125 : decode cX3_passOn 125 = .ok (.aload_n 0, 1) := by decide +kernel
theorem dX3_passOn_126 : decode cX3_passOn 126 = .ok (.getfield 28, 3) := by decide +kernel
theorem dX3_passOn_129 : decode cX3_passOn 129 = .ok (.invokevirtual 50, 3) := by decide +kernel
theorem dX3_passOn_132 : decode cX3_passOn 132 = .ok (.iconst (-1), 1) := by decide +kernel
theorem dX3_passOn_133 : decode cX3_passOn 133 = .ok (.if_icmp .ne 14, 3) := by decide +kernel
theorem dX3_passOn_136 : decode cX3_passOn 136 = .ok (.aload_n 0, 1) := by decide +kernel
theorem dX3_passOn_137 : decode cX3_passOn 137 = .ok (.getfield 19, 3) := by decide +kernel
theorem dX3_passOn_140 : decode cX3_passOn 140 = .ok (.getfield 80, 3) := by decide +kernel
theorem dX3_passOn_143 : decode cX3_passOn 143 = .ok (.iload_n 2, 1) := by decide +kernel
theorem dX3_passOn_144 : decode cX3_passOn 144 = .ok (.invokevirtual 59, 3) := by decide +kernel
theorem dX3_passOn_147 : decode cX3_passOn 147 = .ok (.iinc 1 1, 3) := by decide +kernel
theorem dX3_passOn_150 : decode cX3_passOn 150 = .ok (.goto (-70), 3) := by decide +kernel
theorem dX3_passOn_153 : decode cX3_passOn 153 = .ok (.return_, 1) := by decide +kernel
theorem dX4_init_0 : decode cX4_init 0 = .ok (.aload_n 0, 1) := by decide +kernel
theorem dX4_init_1 : decode cX4_init 1 = .ok (.invokespecial 3, 3) := by decide +kernel
theorem dX4_init_4 : decode cX4_init 4 = .ok (.aload_n 0, 1) := by decide +kernel
theorem dX4_init_5 : decode cX4_init 5 = .ok (.iload_n 1, 1) := by decide +kernel
theorem dX4_init_6 : decode cX4_init 6 = .ok (.ifCond .ge 7, 3) := by decide +kernel
theorem dX4_init_9 : decode cX4_init 9 = .ok (.iconst 0, 1) := by decide +kernel
theorem dX4_init_10 : decode cX4_init 10 = .ok (.goto 4, 3) := by decide +kernel
theorem dX4_init_13 : decode cX4_init 13 = .ok (.iload_n 1, 1) := by decide +kernel
theorem dX4_init_14 : decode cX4_init 14 = .ok (.newarray .int, 2) := by decide +kernel
theorem dX4_init_16 : decode cX4_init 16 = .ok (.putfield 9, 3) := by decide +kernel
theorem dX4_init_19 : decode cX4_init 19 = .ok (.return_, 1) := by decide +kernel
theorem dX4_size_0 : decode cX4_size 0 = .ok (.aload_n 0, 1) := by decide +kernel
theorem dX4_size_1 : decode cX4_size 1 = .ok (.getfield 15, 3) := by decide +kernel
theorem dX4_size_4 : decode cX4_size 4 = .ok (.ireturn, 1) := by decide +kernel
theorem dX4_at_0 : decode cX4_at 0 = .ok (.iload_n 1, 1) := by decide +kernel
theorem dX4_at_1 : decode cX4_at 1 = .ok (.ifCond .lt 20, 3) := by decide +kernel
theorem dX4_at_4 : decode cX4_at 4 = .ok (.iload_n 1, 1) := by decide +kernel
theorem dX4_at_5 : decode cX4_at 5 = .ok (.aload_n 0, 1) := by decide +kernel
theorem dX4_at_6 : decode cX4_at 6 = .ok (.getfield 15, 3) := by decide +kernel
theorem dX4_at_9 : decode cX4_at 9 = .ok (.if_icmp .ge 12, 3) := by decide +kernel
theorem dX4_at_12 : decode cX4_at 12 = .ok (.iload_n 1, 1) := by decide +kernel
theorem dX4_at_13 : decode cX4_at 13 = .ok (.aload_n 0, 1) := by decide +kernel
theorem dX4_at_14 : decode cX4_at 14 = .ok (.getfield 9, 3) := by decide +kernel
theorem dX4_at_17 : decode cX4_at 17 = .ok (.arraylength, 1) := by decide +kernel
theorem dX4_at_18 : decode cX4_at 18 = .ok (.if_icmp .lt 7, 3) := by decide +kernel
theorem dX4_at_21 : decode cX4_at 21 = .ok (.iconst (-1), 1) := by decide +kernel
theorem dX4_at_22 : decode cX4_at 22 = .ok (.goto 9, 3) := by decide +kernel
theorem dX4_at_25 : decode cX4_at 25 = .ok (.aload_n 0, 1) := by decide +kernel
theorem dX4_at_26 : decode cX4_at 26 = .ok (.getfield 9, 3) := by decide +kernel
theorem dX4_at_29 : decode cX4_at 29 = .ok (.iload_n 1, 1) := by decide +kernel
theorem dX4_at_30 : decode cX4_at 30 = .ok (.iaload, 1) := by decide +kernel
theorem dX4_at_31 : decode cX4_at 31 = .ok (.ireturn, 1) := by decide +kernel
theorem dX4_has_0 : decode cX4_has 0 = .ok (.iconst 0, 1) := by decide +kernel
theorem dX4_has_1 : decode cX4_has 1 = .ok (.istore_n 2, 1) := by decide +kernel
theorem dX4_has_2 : decode cX4_has 2 = .ok (.iload_n 2, 1) := by decide +kernel
theorem dX4_has_3 : decode cX4_has 3 = .ok (.aload_n 0, 1) := by decide +kernel
theorem dX4_has_4 : decode cX4_has 4 = .ok (.getfield 15, 3) := by decide +kernel
theorem dX4_has_7 : decode cX4_has 7 = .ok (.if_icmp .ge 30, 3) := by decide +kernel
theorem dX4_has_10 : decode cX4_has 10 = .ok (.iload_n 2, 1) := by decide +kernel
theorem dX4_has_11 : decode cX4_has 11 = .ok (.aload_n 0, 1) := by decide +kernel
theorem dX4_has_12 : decode cX4_has 12 = .ok (.getfield 9, 3) := by decide +kernel
theorem dX4_has_15 : decode cX4_has 15 = .ok (.arraylength, 1) := by decide +kernel
theorem dX4_has_16 : decode cX4_has 16 = .ok (.if_icmp .ge 21, 3) := by decide +kernel
theorem dX4_has_19 : decode cX4_has 19 = .ok (.aload_n 0, 1) := by decide +kernel
theorem dX4_has_20 : decode cX4_has 20 = .ok (.getfield 9, 3) := by decide +kernel
theorem dX4_has_23 : decode cX4_has 23 = .ok (.iload_n 2, 1) := by decide +kernel
theorem dX4_has_24 : decode cX4_has 24 = .ok (.iaload, 1) := by decide +kernel
theorem dX4_has_25 : decode cX4_has 25 = .ok (.iload_n 1, 1) := by decide +kernel
theorem dX4_has_26 : decode cX4_has 26 = .ok (.if_icmp .ne 5, 3) := by decide +kernel
theorem dX4_has_29 : decode cX4_has 29 = .ok (.iconst 1, 1) := by decide +kernel
theorem dX4_has_30 : decode cX4_has 30 = .ok (.ireturn, 1) := by decide +kernel
theorem dX4_has_31 : decode cX4_has 31 = .ok (.iinc 2 1, 3) := by decide +kernel
theorem dX4_has_34 : decode cX4_has 34 = .ok (.goto (-32), 3) := by decide +kernel
theorem dX4_has_37 : decode cX4_has 37 = .ok (.iconst 0, 1) := by decide +kernel
theorem dX4_has_38 : decode cX4_has 38 = .ok (.ireturn, 1) := by decide +kernel
theorem dX4_firstLike_0 : decode cX4_firstLike 0 = .ok (.iconst 0, 1) := by decide +kernel
theorem dX4_firstLike_1 : decode cX4_firstLike 1 = .ok (.istore_n 3, 1) := by decide +kernel
theorem dX4_firstLike_2 : decode cX4_firstLike 2 = .ok (.iload_n 3, 1) := by decide +kernel
theorem dX4_firstLike_3 : decode cX4_firstLike 3 = .ok (.aload_n 0, 1) := by decide +kernel
theorem dX4_firstLike_4 : decode cX4_firstLike 4 = .ok (.getfield 15, 3) := by decide +kernel
theorem dX4_firstLike_7 : decode cX4_firstLike 7 = .ok (.if_icmp .ge 28, 3) := by decide +kernel
theorem dX4_firstLike_10 : decode cX4_firstLike 10 = .ok (.aload_n 0, 1) := by decide +kernel
theorem dX4_firstLike_11 : decode cX4_firstLike 11 = .ok (.iload_n 3, 1) := by decide +kernel
theorem dX4_firstLike_12 : decode cX4_firstLike 12 = .ok (.invokevirtual 19, 3) := by decide +kernel
theorem dX4_firstLike_15 : decode cX4_firstLike 15 = .ok (.iload_n 1, 1) := by decide +kernel
theorem dX4_firstLike_16 : decode cX4_firstLike 16 = .ok (.iload_n 2, 1) := by decide +kernel
theorem dX4_firstLike_17 : decode cX4_firstLike 17 = .ok (.invokestatic 23, 3) := by decide +kernel
theorem dX4_firstLike_20 : decode cX4_firstLike 20 = .ok (.ifCond .eq 9, 3) := by decide +kernel
theorem dX4_firstLike_23 : decode cX4_firstLike 23 = .ok (.aload_n 0, 1) := by decide +kernel
theorem dX4_firstLike_24 : decode cX4_firstLike 24 = .ok (.iload_n 3, 1) := by decide +kernel
theorem dX4_firstLike_25 : decode cX4_firstLike 25 = .ok (.invokevirtual 19, 3) := by decide +kernel
theorem dX4_firstLike_28 : decode cX4_firstLike 28 = .ok (.ireturn, 1) := by decide +kernel
theorem dX4_firstLike_29 : decode cX4_firstLike 29 = .ok (.iinc 3 1, 3) := by decide +kernel
theorem dX4_firstLike_32 : decode cX4_firstLike 32 = .ok (.goto (-30), 3) := by decide +kernel
theorem dX4_firstLike_35 : decode cX4_firstLike 35 = .ok (.iconst (-1), 1) := by decide +kernel
theorem dX4_firstLike_36 : decode cX4_firstLike 36 = .ok (.ireturn, 1) := by decide +kernel
theorem dX4_countMissingIn_0 : decode cX4_countMissingIn 0 = .ok (.iconst 0, 1) := by decide +kernel
theorem dX4_countMissingIn_1 : decode cX4_countMissingIn 1 = .ok (.istore_n 2, 1) := by decide +kernel
theorem dX4_countMissingIn_2 : decode cX4_countMissingIn 2 = .ok (.iconst 0, 1) := by decide +kernel
theorem dX4_countMissingIn_3 : decode cX4_countMissingIn 3 = .ok (.istore_n 3, 1) := by decide +kernel
theorem dX4_countMissingIn_4 : decode cX4_countMissingIn 4 = .ok (.iload_n 3, 1) := by decide +kernel
theorem dX4_countMissingIn_5 : decode cX4_countMissingIn 5 = .ok (.aload_n 0, 1) := by decide +kernel
theorem dX4_countMissingIn_6 : decode cX4_countMissingIn 6 = .ok (.getfield 15, 3) := by decide +kernel
theorem dX4_countMissingIn_9 : decode cX4_countMissingIn 9 = .ok (.if_icmp .ge 24, 3) := by decide +kernel
theorem dX4_countMissingIn_12 : decode cX4_countMissingIn 12 = .ok (.aload_n 1, 1) := by decide +kernel
theorem dX4_countMissingIn_13 : decode cX4_countMissingIn 13 = .ok (.aload_n 0, 1) := by decide +kernel
theorem dX4_countMissingIn_14 : decode cX4_countMissingIn 14 = .ok (.iload_n 3, 1) := by decide +kernel
theorem dX4_countMissingIn_15 : decode cX4_countMissingIn 15 = .ok (.invokevirtual 19, 3) := by decide +kernel
theorem dX4_countMissingIn_18 : decode cX4_countMissingIn 18 = .ok (.invokevirtual 29, 3) := by decide +kernel
theorem dX4_countMissingIn_21 : decode cX4_countMissingIn 21 = .ok (.ifCond .ne 6, 3) := by decide +kernel
theorem dX4_countMissingIn_24 : decode cX4_countMissingIn 24 = .ok (.iinc 2 1, 3) := by decide +kernel
theorem dX4_countMissingIn_27 : decode cX4_countMissingIn 27 = .ok (.iinc 3 1, 3) := by decide +kernel
theorem dX4_countMissingIn_30 : decode cX4_countMissingIn 30 = .ok (.goto (-26), 3) := by decide +kernel
theorem dX4_countMissingIn_33 : decode cX4_countMissingIn 33 = .ok (.iload_n 2, 1) := by decide +kernel
theorem dX4_countMissingIn_34 : decode cX4_countMissingIn 34 = .ok (.ireturn, 1) := by decide +kernel
theorem dX4_clear_0 : decode cX4_clear 0 = .ok (.aload_n 0, 1) := by decide +kernel
theorem dX4_clear_1 : decode cX4_clear 1 = .ok (.iconst 0, 1) := by decide +kernel
theorem dX4_clear_2 : decode cX4_clear 2 = .ok (.putfield 15, 3) := by decide +kernel
theorem dX4_clear_5 : decode cX4_clear 5 = .ok (.return_, 1) := by decide +kernel
theorem dX4_put_0 : decode cX4_put 0 = .ok (.aload_n 0, 1) := by decide +kernel
theorem dX4_put_1 : decode cX4_put 1 = .ok (.getfield 15, 3) := by decide +kernel
theorem dX4_put_4 : decode cX4_put 4 = .ok (.aload_n 0, 1) := by decide +kernel
theorem dX4_put_5 : decode cX4_put 5 = .ok (.getfield 9, 3) := by decide +kernel
theorem dX4_put_8 : decode cX4_put 8 = .ok (.arraylength, 1) := by decide +kernel
theorem dX4_put_9 : decode cX4_put 9 = .ok (.if_icmp .ge 11, 3) := by decide +kernel
theorem dX4_put_12 : decode cX4_put 12 = .ok (.aload_n 0, 1) := by decide +kernel
theorem dX4_put_13 : decode cX4_put 13 = .ok (.iload_n 1, 1) := by decide +kernel
theorem dX4_put_14 : decode cX4_put 14 = .ok (.invokevirtual 29, 3) := by decide +kernel
theorem dX4_put_17 : decode cX4_put 17 = .ok (.ifCond .eq 4, 3) := by decide +kernel
theorem dX4_put_20 : decode cX4_put 20 = .ok (.return_, 1) := by decide +kernel
theorem dX4_put_21 : decode cX4_put 21 = .ok (.aload_n 0, 1) := by decide +kernel
theorem dX4_put_22 : decode cX4_put 22 = .ok (.getfield 15, 3) := by decide +kernel
theorem dX4_put_25 : decode cX4_put 25 = .ok (.istore_n 2, 1) := by decide +kernel
theorem dX4_put_26 : decode cX4_put 26 = .ok (.iload_n 2, 1) := by decide +kernel
theorem dX4_put_27 : decode cX4_put 27 = .ok (.ifCond .le 35, 3) := by decide +kernel
theorem dX4_put_30 : decode cX4_put 30 = .ok (.aload_n 0, 1) := by decide +kernel
theorem dX4_put_31 : decode cX4_put 31 = .ok (.getfield 9, 3) := by decide +kernel
theorem dX4_put_34 : decode cX4_put 34 = .ok (.iload_n 2, 1) := by decide +kernel
theorem dX4_put_35 : decode cX4_put 35 = .ok (.iconst 1, 1) := by decide +kernel
theorem dX4_put_36 : decode cX4_put 36 = .ok (.isub, 1) := by decide +kernel
theorem dX4_put_37 : decode cX4_put 37 = .ok (.iaload, 1) := by decide +kernel
theorem dX4_put_38 : decode cX4_put 38 = .ok (.iload_n 1, 1) := by decide +kernel
theorem dX4_put_39 : decode cX4_put 39 = .ok (.if_icmp .le 23, 3) := by decide +kernel
theorem dX4_put_42 : decode cX4_put 42 = .ok (.aload_n 0, 1) := by decide +kernel
theorem dX4_put_43 : decode cX4_put 43 = .ok (.getfield 9, 3) := by decide +kernel
theorem dX4_put_46 : decode cX4_put 46 = .ok (.iload_n 2, 1) := by decide +kernel
theorem dX4_put_47 : decode cX4_put 47 = .ok (.aload_n 0, 1) := by decide +kernel
theorem dX4_put_48 : decode cX4_put 48 = .ok (.getfield 9, 3) := by decide +kernel
theorem dX4_put_51 : decode cX4_put 51 = .ok (.iload_n 2, 1) := by decide +kernel
theorem dX4_put_52 : decode cX4_put 52 = .ok (.iconst 1, 1) := by decide +kernel
theorem dX4_put_53 : decode cX4_put 53 = .ok (.isub, 1) := by decide +kernel
theorem dX4_put_54 : decode cX4_put 54 = .ok (.iaload, 1) := by decide +kernel
theorem dX4_put_55 : decode cX4_put 55 = .ok (.iastore, 1) := by decide +kernel
theorem dX4_put_56 : decode cX4_put 56 = .ok (.iinc 2 (-1), 3) := by decide +kernel
theorem dX4_put_59 : decode cX4_put 59 = .ok (.goto (-33), 3) := by decide +kernel
theorem dX4_put_62 : decode cX4_put 62 = .ok (.aload_n 0, 1) := by decide +kernel
theorem dX4_put_63 : decode cX4_put 63 = .ok (.getfield 9, 3) := by decide +kernel
theorem dX4_put_66 : decode cX4_put 66 = .ok (.iload_n 2, 1) := by decide +kernel
theorem dX4_put_67 : decode cX4_put 67 = .ok (.iload_n 1, 1) := by decide +kernel
theorem dX4_put_68 : decode cX4_put 68 = .ok (.iastore, 1) := by decide +kernel
theorem dX4_put_69 : decode cX4_put 69 = .ok (.aload_n 0, 1) := by decide +kernel
theorem dX4_put_70 : decode cX4_put 70 = .ok (.dup, 1) := by decide +kernel
theorem dX4_put_71 : decode cX4_put 71 = .ok (.getfield 15, 3) := by decide +kernel
theorem dX4_put_74 : decode cX4_put 74 = .ok (.iconst 1, 1) := by decide +kernel
theorem dX4_put_75 : decode cX4_put 75 = .ok (.iadd, 1) := by decide +kernel
theorem dX4_put_76 : decode cX4_put 76 = .ok (.putfield 15, 3) := by decide +kernel
theorem dX4_put_79 : decode cX4_put 79 = .ok (.return_, 1) := by decide +kernel
theorem dX4_remove_0 : decode cX4_remove 0 = .ok (.iconst 0, 1) := by decide +kernel
theorem dX4_remove_1 : decode cX4_remove 1 = .ok (.istore_n 2, 1) := by decide +kernel
theorem dX4_remove_2 : decode cX4_remove 2 = .ok (.iconst 0, 1) := by decide +kernel
theorem dX4_remove_3 : decode cX4_remove 3 = .ok (.istore_n 3, 1) := by decide +kernel
theorem dX4_remove_4 : decode cX4_remove 4 = .ok (.iload_n 3, 1) := by decide +kernel
theorem dX4_remove_5 : decode cX4_remove 5 = .ok (.aload_n 0, 1) := by decide +kernel
theorem dX4_remove_6 : decode cX4_remove 6 = .ok (.getfield 15, 3) := by decide +kernel
theorem dX4_remove_9 : decode cX4_remove 9 = .ok (.if_icmp .ge 43, 3) := by decide +kernel
theorem dX4_remove_12 : decode cX4_remove 12 = .ok (.iload_n 3, 1) := by decide +kernel
theorem dX4_remove_13 : decode cX4_remove 13 = .ok (.aload_n 0, 1) := by decide +kernel
theorem dX4_remove_14 : decode cX4_remove 14 = .ok (.getfield 9, 3) := by decide +kernel
theorem dX4_remove_17 : decode cX4_remove 17 = .ok (.arraylength, 1) := by decide +kernel
theorem dX4_remove_18 : decode cX4_remove 18 = .ok (.if_icmp .ge 34, 3) := by decide +kernel
theorem dX4_remove_21 : decode cX4_remove 21 = .ok (.aload_n 0, 1) := by decide +kernel
theorem dX4_remove_22 : decode cX4_remove 22 = .ok (.getfield 9, 3) := by decide +kernel
theorem dX4_remove_25 : decode cX4_remove 25 = .ok (.iload_n 3, 1) := by decide +kernel
theorem dX4_remove_26 : decode cX4_remove 26 = .ok (.iaload, 1) := by decide +kernel
theorem dX4_remove_27 : decode cX4_remove 27 = .ok (.iload_n 1, 1) := by decide +kernel
theorem dX4_remove_28 : decode cX4_remove 28 = .ok (.if_icmp .eq 18, 3) := by decide +kernel
theorem dX4_remove_31 : decode cX4_remove 31 = .ok (.aload_n 0, 1) := by decide +kernel
theorem dX4_remove_32 : decode cX4_remove 32 = .ok (.getfield 9, 3) := by decide +kernel
theorem dX4_remove_35 : decode cX4_remove 35 = .ok (.iload_n 2, 1) := by decide +kernel
theorem dX4_remove_36 : decode cX4_remove 36 = .ok (.aload_n 0, 1) := by decide +kernel
theorem dX4_remove_37 : decode cX4_remove 37 = .ok (.getfield 9, 3) := by decide +kernel
theorem dX4_remove_40 : decode cX4_remove 40 = .ok (.iload_n 3, 1) := by decide +kernel
theorem dX4_remove_41 : decode cX4_remove 41 = .ok (.iaload, 1) := by decide +kernel
theorem dX4_remove_42 : decode cX4_remove 42 = .ok (.iastore, 1) := by decide +kernel
theorem dX4_remove_43 : decode cX4_remove 43 = .ok (.iinc 2 1, 3) := by decide +kernel
theorem dX4_remove_46 : decode cX4_remove 46 = .ok (.iinc 3 1, 3) := by decide +kernel
theorem dX4_remove_49 : decode cX4_remove 49 = .ok (.goto (-45), 3) := by decide +kernel
theorem dX4_remove_52 : decode cX4_remove 52 = .ok (.aload_n 0, 1) := by decide +kernel
theorem dX4_remove_53 : decode cX4_remove 53 = .ok (.iload_n 2, 1) := by decide +kernel
theorem dX4_remove_54 : decode cX4_remove 54 = .ok (.putfield 15, 3) := by decide +kernel
theorem dX4_remove_57 : decode cX4_remove 57 = .ok (.return_, 1) := by decide +kernel
theorem dX4_takeOver_0 : decode cX4_takeOver 0 = .ok (.aload_n 0, 1) := by decide +kernel
theorem dX4_takeOver_1 : decode cX4_takeOver 1 = .ok (.aload_n 1, 1) := by decide +kernel
theorem dX4_takeOver_2 : decode cX4_takeOver 2 = .ok (.getfield 15, 3) := by decide +kernel
theorem dX4_takeOver_5 : decode cX4_takeOver 5 = .ok (.aload_n 0, 1) := by decide +kernel
theorem dX4_takeOver_6 : decode cX4_takeOver 6 = .ok (.getfield 9, 3) := by decide +kernel
theorem dX4_takeOver_9 : decode cX4_takeOver 9 = .ok (.arraylength, 1) := by decide +kernel
theorem dX4_takeOver_10 : decode cX4_takeOver 10 = .ok (.invokestatic 33, 3) := by decide +kernel
theorem dX4_takeOver_13 : decode cX4_takeOver 13 = .ok (.putfield 15, 3) := by decide +kernel
theorem dX4_takeOver_16 : decode cX4_takeOver 16 = .ok (.iconst 0, 1) := by decide +kernel
theorem dX4_takeOver_17 : decode cX4_takeOver 17 = .ok (.istore_n 2, 1) := by decide +kernel
theorem dX4_takeOver_18 : decode cX4_takeOver 18 = .ok (.iload_n 2, 1) := by decide +kernel
theorem dX4_takeOver_19 : decode cX4_takeOver 19 = .ok (.aload_n 0, 1) := by decide +kernel
theorem dX4_takeOver_20 : decode cX4_takeOver 20 = .ok (.getfield 15, 3) := by decide +kernel
theorem dX4_takeOver_23 : decode cX4_takeOver 23 = .ok (.if_icmp .ge 20, 3) := by decide +kernel
theorem dX4_takeOver_26 : decode cX4_takeOver 26 = .ok (.aload_n 0, 1) := by decide +kernel
theorem dX4_takeOver_27 : decode cX4_takeOver 27 = .ok (.getfield 9, 3) := by decide +kernel
theorem dX4_takeOver_30 : decode cX4_takeOver 30 = .ok (.iload_n 2, 1) := by decide +kernel
theorem dX4_takeOver_31 : decode cX4_takeOver 31 = .ok (.aload_n 1, 1) := by decide +kernel
theorem dX4_takeOver_32 : decode cX4_takeOver 32 = .ok (.iload_n 2, 1) := by decide +kernel
theorem dX4_takeOver_33 : decode cX4_takeOver 33 = .ok (.invokevirtual 19, 3) := by decide +kernel
theorem dX4_takeOver_36 : decode cX4_takeOver 36 = .ok (.iastore, 1) := by decide +kernel
theorem dX4_takeOver_37 : decode cX4_takeOver 37 = .ok (.iinc 2 1, 3) := by decide +kernel
theorem dX4_takeOver_40 : decode cX4_takeOver 40 = .ok (.goto (-22), 3) := by decide +kernel
theorem dX4_takeOver_43 : decode cX4_takeOver 43 = .ok (.return_, 1) := by decide +kernel
theorem dX5_init_0 : decode cX5_init 0 = .ok (.aload_n 0, 1) := by decide +kernel
theorem dX5_init_1 : decode cX5_init 1 = .ok (.iload_n 1, 1) := by decide +kernel
theorem dX5_init_2 : decode cX5_init 2 = .ok (.aload_n 2, 1) := by decide +kernel
theorem dX5_init_3 : decode cX5_init 3 = .ok (.getfield 3, 3) := by decide +kernel
theorem dX5_init_6 : decode cX5_init 6 = .ok (.aload_n 2, 1) := by decide +kernel
theorem dX5_init_7 : decode cX5_init 7 = .ok (.getfield 9, 3) := by decide +kernel
theorem dX5_init_10 : decode cX5_init 10 = .ok (.aload_n 2, 1) := by decide +kernel
theorem dX5_init_11 : decode cX5_init 11 = .ok (.getfield 12, 3) := by decide +kernel
theorem dX5_init_14 : decode cX5_init 14 = .ok (.aload_n 2, 1) := by decide +kernel
theorem dX5_init_15 : decode cX5_init 15 = .ok (.aconst_null, 1) := by decide +kernel
theorem dX5_init_16 : decode cX5_init 16 = .ok (.invokespecial 15, 3) := by decide +kernel
theorem dX5_init_19 : decode cX5_init 19 = .ok (.aload_n 0, 1) := by decide +kernel
theorem dX5_init_20 : decode cX5_init 20 = .ok (.aload_n 2, 1) := by decide +kernel
theorem dX5_init_21 : decode cX5_init 21 = .ok (.putfield 19, 3) := by decide +kernel
theorem dX5_init_24 : decode cX5_init 24 = .ok (.aload_n 0, 1) := by decide +kernel
theorem dX5_init_25 : decode cX5_init 25 = .ok (.iload_n 3, 1) := by decide +kernel
theorem dX5_init_26 : decode cX5_init 26 = .ok (.putfield 25, 3) := by decide +kernel
theorem dX5_init_29 : decode cX5_init 29 = .ok (.aload_n 0, 1) := by decide +kernel
theorem dX5_init_30 : decode cX5_init 30 = .ok (.iload 4, 2) := by decide +kernel
theorem dX5_init_32 : decode cX5_init 32 = .ok (.putfield 28, 3) := by decide +kernel
theorem dX5_init_35 : decode cX5_init 35 = .ok (.aload_n 0, 1) := by decide +kernel
theorem dX5_init_36 : decode cX5_init 36 = .ok (.iload 5, 2) := by decide +kernel
theorem dX5_init_38 : decode cX5_init 38 = .ok (.putfield 31, 3) := by decide +kernel
theorem dX5_init_41 : decode cX5_init 41 = .ok (.return_, 1) := by decide +kernel
theorem dX5_selects_0 : decode cX5_selects 0 = .ok (.iload_n 1, 1) := by decide +kernel
theorem dX5_selects_1 : decode cX5_selects 1 = .ok (.aload_n 0, 1) := by decide +kernel
theorem dX5_selects_2 : decode cX5_selects 2 = .ok (.getfield 25, 3) := by decide +kernel
theorem dX5_selects_5 : decode cX5_selects 5 = .ok (.invokestatic 35, 3) := by decide +kernel
theorem dX5_selects_8 : decode cX5_selects 8 = .ok (.aload_n 0, 1) := by decide +kernel
theorem dX5_selects_9 : decode cX5_selects 9 = .ok (.getfield 28, 3) := by decide +kernel
theorem dX5_selects_12 : decode cX5_selects 12 = .ok (.if_icmp .ne 7, 3) := by decide +kernel
theorem dX5_selects_15 : decode cX5_selects 15 = .ok (.iconst 1, 1) := by decide +kernel
theorem dX5_selects_16 : decode cX5_selects 16 = .ok (.goto 4, 3) := by decide +kernel
theorem dX5_selects_19 : decode cX5_selects 19 = .ok (.iconst 0, 1) := by decide +kernel
theorem dX5_selects_20 : decode cX5_selects 20 = .ok (.aload_n 0, 1) := by decide +kernel
theorem dX5_selects_21 : decode cX5_selects 21 = .ok (.getfield 31, 3) := by decide +kernel
theorem dX5_selects_24 : decode cX5_selects 24 = .ok (.if_icmp .ne 7, 3) := by decide +kernel
theorem dX5_selects_27 : decode cX5_selects 27 = .ok (.iconst 1, 1) := by decide +kernel
theorem dX5_selects_28 : decode cX5_selects 28 = .ok (.goto 4, 3) := by decide +kernel
theorem dX5_selects_31 : decode cX5_selects 31 = .ok (.iconst 0, 1) := by decide +kernel
theorem dX5_selects_32 : decode cX5_selects 32 = .ok (.ireturn, 1) := by decide +kernel
theorem dX5_show_0 : decode cX5_show 0 = .ok (.aload_n 0, 1) := by decide +kernel
theorem dX5_show_1 : decode cX5_show 1 = .ok (.getfield 41, 3) := by decide +kernel
theorem dX5_show_4 : decode cX5_show 4 = .ok (.invokevirtual 45, 3) := by decide +kernel
theorem dX5_show_7 : decode cX5_show 7 = .ok (.iconst 0, 1) := by decide +kernel
theorem dX5_show_8 : decode cX5_show 8 = .ok (.istore_n 1, 1) := by decide +kernel
theorem dX5_show_9 : decode cX5_show 9 = .ok (.iload_n 1, 1) := by decide +kernel
theorem dX5_show_10 : decode cX5_show 10 = .ok (.aload_n 0, 1) := by decide +kernel
theorem dX5_show_11 : decode cX5_show 11 = .ok (.getfield 19, 3) := by decide +kernel
theorem dX5_show_14 : decode cX5_show 14 = .ok (.getfield 51, 3) := by decide +kernel
theorem dX5_show_17 : decode cX5_show 17 = .ok (.invokevirtual 52, 3) := by decide +kernel
theorem dX5_show_20 : decode cX5_show 20 = .ok (.if_icmp .ge 37, 3) := by decide +kernel
theorem dX5_show_23 : decode cX5_show 23 = .ok (.aload_n 0, 1) := by decide +kernel
theorem dX5_show_24 : decode cX5_show 24 = .ok (.getfield 19, 3) := by decide +kernel
theorem dX5_show_27 : decode cX5_show 27 = .ok (.getfield 51, 3) := by decide +kernel
theorem dX5_show_30 : decode cX5_show 30 = .ok (.iload_n 1, 1) := by decide +kernel
theorem dX5_show_31 : decode cX5_show 31 = .ok (.invokevirtual 56, 3) := by decide +kernel
theorem dX5_show_34 : decode cX5_show 34 = .ok (.istore_n 2, 1) := by decide +kernel
theorem dX5_show_35 : decode cX5_show 35 = .ok (.aload_n 0, 1) := by decide +kernel
theorem dX5_show_36 : decode cX5_show 36 = .ok (.iload_n 2, 1) := by decide +kernel
theorem dX5_show_37 : decode cX5_show 37 = .ok (.invokevirtual 60, 3) := by decide +kernel
theorem dX5_show_40 : decode cX5_show 40 = .ok (.ifCond .eq 11, 3) := by decide +kernel
theorem dX5_show_43 : decode cX5_show 43 = .ok (.aload_n 0, 1) := by decide +kernel
theorem dX5_show_44 : decode cX5_show 44 = .ok (.getfield 41, 3) := by decide +kernel
theorem dX5_show_47 : decode cX5_show 47 = .ok (.iload_n 2, 1) := by decide +kernel
theorem dX5_show_48 : decode cX5_show 48 = .ok (.invokevirtual 64, 3) := by decide +kernel
theorem dX5_show_51 : decode cX5_show 51 = .ok (.iinc 1 1, 3) := by decide +kernel
theorem dX5_show_54 : decode cX5_show 54 = .ok (.goto (-45), 3) := by decide +kernel
theorem dX5_show_57 : decode cX5_show 57 = .ok (.return_, 1) := by decide +kernel
theorem dX5_seekOwnConflict_0 : decode cX5_seekOwnConflict 0 = .ok (.iconst 0, 1) := by decide +kernel
theorem dX5_seekOwnConflict_1 : decode cX5_seekOwnConflict 1 = .ok (.istore_n 2, 1) := by decide +kernel
theorem dX5_seekOwnConflict_2 : decode cX5_seekOwnConflict 2 = .ok (.iload_n 2, 1) := by decide +kernel
theorem dX5_seekOwnConflict_3 : decode cX5_seekOwnConflict 3 = .ok (.aload_n 0, 1) := by decide +kernel
theorem dX5_seekOwnConflict_4 : decode cX5_seekOwnConflict 4 = .ok (.getfield 68, 3) := by decide +kernel
theorem dX5_seekOwnConflict_7 : decode cX5_seekOwnConflict 7 = .ok (.invokevirtual 52, 3) := by decide +kernel
theorem dX5_seekOwnConflict_10 : decode cX5_seekOwnConflict 10 = .ok (.if_icmp .ge 42, 3) := by decide +kernel
theorem dX5_seekOwnConflict_13 : decode cX5_seekOwnConflict 13 = .ok (.aload_n 0, 1) := by decide +kernel
theorem dX5_seekOwnConflict_14 : decode cX5_seekOwnConflict 14 = .ok (.getfield 68, 3) := by decide +kernel
theorem dX5_seekOwnConflict_17 : decode cX5_seekOwnConflict 17 = .ok (.iload_n 2, 1) := by decide +kernel
theorem dX5_seekOwnConflict_18 : decode cX5_seekOwnConflict 18 = .ok (.invokevirtual 56, 3) := by decide +kernel
theorem dX5_seekOwnConflict_21 : decode cX5_seekOwnConflict 21 = .ok (.istore_n 3, 1) := by decide +kernel
theorem dX5_seekOwnConflict_22 : decode cX5_seekOwnConflict 22 = .ok (.aload_n 0, 1) := by decide +kernel
theorem dX5_seekOwnConflict_23 : decode cX5_seekOwnConflict 23 = .ok (.iload_n 3, 1) := by decide +kernel
theorem dX5_seekOwnConflict_24 : decode cX5_seekOwnConflict 24 = .ok (.invokevirtual 60, 3) := by decide +kernel
theorem dX5_seekOwnConflict_27 : decode cX5_seekOwnConflict 27 = .ok (.ifCond .ne 19, 3) := by decide +kernel
theorem dX5_seekOwnConflict_30 : decode cX5_seekOwnConflict 30 = .ok (.aload_n 1, 1) := by decide +kernel
theorem dX5_seekOwnConflict_31 : decode cX5_seekOwnConflict 31 = .ok (.bipush 10, 2) := by decide +kernel
theorem dX5_seekOwnConflict_33 : decode cX5_seekOwnConflict 33 = .ok (.aload_n 0, 1) := by decide +kernel
theorem dX5_seekOwnConflict_34 : decode cX5_seekOwnConflict 34 = .ok (.getfield 71, 3) := by decide +kernel
theorem dX5_seekOwnConflict_37 : decode cX5_seekOwnConflict 37 = .ok (.imul, 1) := by decide +kernel
theorem dX5_seekOwnConflict_38 : decode cX5_seekOwnConflict 38 = .ok (.iconst 2, 1) := by decide +kernel
theorem dX5_seekOwnConflict_39 : decode cX5_seekOwnConflict 39 = .ok (.iadd, 1) := by decide +kernel
theorem dX5_seekOwnConflict_40 : decode cX5_seekOwnConflict 40 = .ok (.iload_n 3, 1) := by decide +kernel
theorem dX5_seekOwnConflict_41 : decode cX5_seekOwnConflict 41 = .ok (.iconst (-1), 1) := by decide +kernel
theorem dX5_seekOwnConflict_42 : decode cX5_seekOwnConflict 42 = .ok (.invokevirtual 74, 3) := by decide +kernel
theorem dX5_seekOwnConflict_45 : decode cX5_seekOwnConflict 45 = .ok (.return_, 1) := by decide +kernel
theorem dX5_seekOwnConflict_46 : decode cX5_seekOwnConflict 46 = .ok (.iinc 2 1, 3) := by decide +kernel
theorem dX5_seekOwnConflict_49 : decode cX5_seekOwnConflict 49 = .ok (.goto (-47), 3) := by decide +kernel
theorem dX5_seekOwnConflict_52 : decode cX5_seekOwnConflict 52 = .ok (.return_, 1) := by decide +kernel
theorem dX5_passOn_0 : decode cX5_passOn 0 = .ok (.aload_n 0, 1) := by decide +kernel
theorem dX5_passOn_1 : decode cX5_passOn 1 = .ok (.getfield 19, 3) := by decide +kernel
theorem dX5_passOn_4 : decode cX5_passOn 4 = .ok (.getfield 80, 3) := by decide +kernel
theorem dX5_passOn_7 : decode cX5_passOn 7 = .ok (.aload_n 0, 1) := by decide +kernel
theorem dX5_passOn_8 : decode cX5_passOn 8 = .ok (.getfield 68, 3) := by decide +kernel
theorem dX5_passOn_11 : decode cX5_passOn 11 = .ok (.invokevirtual 81, 3) := by decide +kernel
theorem dX5_passOn_14 : decode cX5_passOn 14 = .ok (.iconst 0, 1) := by decide +kernel
theorem dX5_passOn_15 : decode cX5_passOn 15 = .ok (.istore_n 1, 1) := by decide +kernel
theorem dX5_passOn_16 : decode cX5_passOn 16 = .ok (.iload_n 1, 1) := by decide +kernel
theorem dX5_passOn_17 : decode cX5_passOn 17 = .ok (.aload_n 0, 1) := by decide +kernel
theorem dX5_passOn_18 : decode cX5_passOn 18 = .ok (.getfield 19, 3) := by decide +kernel
theorem dX5_passOn_21 : decode cX5_passOn 21 = .ok (.getfield 51, 3) := by decide +kernel
theorem dX5_passOn_24 : decode cX5_passOn 24 = .ok (.invokevirtual 52, 3) := by decide +kernel
theorem dX5_passOn_27 : decode cX5_passOn 27 = .ok (.if_icmp .ge 48, 3) := by decide +kernel
theorem dX5_passOn_30 : decode cX5_passOn 30 = .ok (.aload_n 0, 1) := by decide +kernel
theorem dX5_passOn_31 : decode cX5_passOn 31 = .ok (.getfield 19, 3) := by decide +kernel
theorem dX5_passOn_34 : decode cX5_passOn 34 = .ok (.getfield 51, 3) := by decide +kernel
theorem dX5_passOn_37 : decode cX5_passOn 37 = .ok (.iload_n 1, 1) := by decide +kernel
theorem dX5_passOn_38 : decode cX5_passOn 38 = .ok (.invokevirtual 56, 3) := by decide +kernel
theorem dX5_passOn_41 : decode cX5_passOn 41 = .ok (.istore_n 2, 1) := by decide +kernel
theorem dX5_passOn_42 : decode cX5_passOn 42 = .ok (.aload_n 0, 1) := by decide +kernel
theorem dX5_passOn_43 : decode cX5_passOn 43 = .ok (.iload_n 2, 1) := by decide +kernel
theorem dX5_passOn_44 : decode cX5_passOn 44 = .ok (.invokevirtual 60, 3) := by decide +kernel
theorem dX5_passOn_47 : decode cX5_passOn 47 = .ok (.ifCond .ne 22, 3) := by decide +kernel
theorem dX5_passOn_50 : decode cX5_passOn 50 = .ok (.aload_n 0, 1) := by decide +kernel
theorem dX5_passOn_51 : decode cX5_passOn 51 = .ok (.iload_n 2, 1) := by decide +kernel
theorem dX5_passOn_52 : decode cX5_passOn 52 = .ok (.invokevirtual 85, 3) := by decide +kernel
theorem dX5_passOn_55 : decode cX5_passOn 55 = .ok (.ifCond .ne 14, 3) := by decide +kernel
theorem dX5_passOn_58 : decode cX5_passOn 58 = .ok (.aload_n 0, 1) := by decide +kernel
theorem dX5_passOn_59 : decode cX5_passOn 59 = .ok (.getfield 19, 3) := by decide +kernel
theorem dX5_passOn_62 : decode cX5_passOn 62 = .ok (.getfield 80, 3) := by decide +kernel
theorem dX5_passOn_65 : decode cX5_passOn 65 = .ok (.iload_n 2, 1) := by decide +kernel
theorem dX5_passOn_66 : decode cX5_passOn 66 = .ok (.invokevirtual 64, 3) := by decide +kernel
theorem dX5_passOn_69 : decode cX5_passOn 69 = .ok (.iinc 1 1, 3) := by decide +kernel
theorem dX5_passOn_72 : decode cX5_passOn 72 = .ok (.goto (-56), 3) := by decide +kernel
theorem dX5_passOn_75 : decode cX5_passOn 75 = .ok (.return_, 1) := by decide +kernel
theorem dX6_init_0 : decode cX6_init 0 = .ok (.aload_n 0, 1) := by decide +kernel
theorem dX6_init_1 : decode cX6_init 1 = .ok (.invokespecial 3, 3) := by decide +kernel
theorem dX6_init_4 : decode cX6_init 4 = .ok (.aload_n 0, 1) := by decide +kernel
theorem dX6_init_5 : decode cX6_init 5 = .ok (.new 9, 3) := by decide +kernel
theorem dX6_init_8 : decode cX6_init 8 = .ok (.dup, 1) := by decide +kernel
theorem dX6_init_9 : decode cX6_init 9 = .ok (.bipush 12, 2) := by decide +kernel
theorem dX6_init_11 : decode cX6_init 11 = .ok (.invokespecial 11, 3) := by decide +kernel
theorem dX6_init_14 : decode cX6_init 14 = .ok (.putfield 14, 3) := by decide +kernel
theorem dX6_init_17 : decode cX6_init 17 = .ok (.aload_n 0, 1) := by decide +kernel
theorem dX6_init_18 : decode cX6_init 18 = .ok (.new 9, 3) := by decide +kernel
theorem dX6_init_21 : decode cX6_init 21 = .ok (.dup, 1) := by decide +kernel
theorem dX6_init_22 : decode cX6_init 22 = .ok (.bipush 12, 2) := by decide +kernel
theorem dX6_init_24 : decode cX6_init 24 = .ok (.invokespecial 11, 3) := by decide +kernel
theorem dX6_init_27 : decode cX6_init 27 = .ok (.putfield 20, 3) := by decide +kernel
theorem dX6_init_30 : decode cX6_init 30 = .ok (.aload_n 0, 1) := by decide +kernel
theorem dX6_init_31 : decode cX6_init 31 = .ok (.iconst 5, 1) := by decide +kernel
theorem dX6_init_32 : decode cX6_init 32 = .ok (.anewarray 9, 3) := by decide +kernel
theorem dX6_init_35 : decode cX6_init 35 = .ok (.putfield 23, 3) := by decide +kernel
theorem dX6_init_38 : decode cX6_init 38 = .ok (.aload_n 0, 1) := by decide +kernel
theorem dX6_init_39 : decode cX6_init 39 = .ok (.iload_n 1, 1) := by decide +kernel
theorem dX6_init_40 : decode cX6_init 40 = .ok (.putfield 27, 3) := by decide +kernel
theorem dX6_init_43 : decode cX6_init 43 = .ok (.aload_n 0, 1) := by decide +kernel
theorem dX6_init_44 : decode cX6_init 44 = .ok (.iload_n 2, 1) := by decide +kernel
theorem dX6_init_45 : decode cX6_init 45 = .ok (.putfield 31, 3) := by decide +kernel
theorem dX6_init_48 : decode cX6_init 48 = .ok (.iconst 0, 1) := by decide +kernel
theorem dX6_init_49 : decode cX6_init 49 = .ok (.istore_n 3, 1) := by decide +kernel
theorem dX6_init_50 : decode cX6_init 50 = .ok (.iload_n 3, 1) := by decide +kernel
theorem dX6_init_51 : decode cX6_init 51 = .ok (.aload_n 0, 1) := by decide +kernel
theorem dX6_init_52 : decode cX6_init 52 = .ok (.getfield 23, 3) := by decide +kernel
theorem dX6_init_55 : decode cX6_init 55 = .ok (.arraylength, 1) := by decide +kernel
theorem dX6_init_56 : decode cX6_init 56 = .ok (.if_icmp .ge 24, 3) := by decide +kernel
theorem dX6_init_59 : decode cX6_init 59 = .ok (.aload_n 0, 1) := by decide +kernel
theorem dX6_init_60 : decode cX6_init 60 = .ok (.getfield 23, 3) := by decide +kernel
theorem dX6_init_63 : decode cX6_init 63 = .ok (.iload_n 3, 1) := by decide +kernel
theorem dX6_init_64 : decode cX6_init 64 = .ok (.new 9, 3) := by decide +kernel
theorem dX6_init_67 : decode cX6_init 67 = .ok (.dup, 1) := by decide +kernel
theorem dX6_init_68 : decode cX6_init 68 = .ok (.bipush 12, 2) := by decide +kernel
theorem dX6_init_70 : decode cX6_init 70 = .ok (.invokespecial 11, 3) := by decide +kernel
theorem dX6_init_73 : decode cX6_init 73 = .ok (.aastore, 1) := by decide +kernel
theorem dX6_init_74 : decode cX6_init 74 = .ok (.iinc 3 1, 3) := by decide +kernel
theorem dX6_init_77 : decode cX6_init 77 = .ok (.goto (-27), 3) := by decide +kernel
theorem dX6_init_80 : decode cX6_init 80 = .ok (.return_, 1) := by decide +kernel
theorem dX6_remember_0 : decode cX6_remember 0 = .ok (.iload_n 1, 1) := by decide +kernel
theorem dX6_remember_1 : decode cX6_remember 1 = .ok (.istore_n 2, 1) := by decide +kernel
theorem dX6_remember_2 : decode cX6_remember 2 = .ok (.iload_n 2, 1) := by decide +kernel
theorem dX6_remember_3 : decode cX6_remember 3 = .ok (.aload_n 0, 1) := by decide +kernel
theorem dX6_remember_4 : decode cX6_remember 4 = .ok (.getfield 23, 3) := by decide +kernel
theorem dX6_remember_7 : decode cX6_remember 7 = .ok (.arraylength, 1) := by decide +kernel
theorem dX6_remember_8 : decode cX6_remember 8 = .ok (.if_icmp .lt 15, 3) := by decide +kernel
theorem dX6_remember_11 : decode cX6_remember 11 = .ok (.aload_n 0, 1) := by decide +kernel
theorem dX6_remember_12 : decode cX6_remember 12 = .ok (.invokevirtual 34, 3) := by decide +kernel
theorem dX6_remember_15 : decode cX6_remember 15 = .ok (.aload_n 0, 1) := by decide +kernel
theorem dX6_remember_16 : decode cX6_remember 16 = .ok (.getfield 23, 3) := by decide +kernel
theorem dX6_remember_19 : decode cX6_remember 19 = .ok (.arraylength, 1) := by decide +kernel
theorem dX6_remember_20 : decode cX6_remember 20 = .ok (.iconst 1, 1) := by decide +kernel
theorem dX6_remember_21 : decode cX6_remember 21 = .ok (.isub, 1) := by decide +kernel
theorem dX6_remember_22 : decode cX6_remember 22 = .ok (.istore_n 2, 1) := by decide +kernel
theorem dX6_remember_23 : decode cX6_remember 23 = .ok (.iload_n 2, 1) := by decide +kernel
theorem dX6_remember_24 : decode cX6_remember 24 = .ok (.ifCond .lt 25, 3) := by decide +kernel
theorem dX6_remember_27 : decode cX6_remember 27 = .ok (.aload_n 0, 1) := by decide +kernel
theorem dX6_remember_28 : decode cX6_remember 28 = .ok (.getfield 23, 3) := by decide +kernel
theorem dX6_remember_31 : decode cX6_remember 31 = .ok (.iload_n 2, 1) := by decide +kernel
theorem dX6_remember_32 : decode cX6_remember 32 = .ok (.aaload, 1) := by decide +kernel
theorem dX6_remember_33 : decode cX6_remember 33 = .ok (.ifnull 16, 3) := by decide +kernel
theorem dX6_remember_36 : decode cX6_remember 36 = .ok (.aload_n 0, 1) := by decide +kernel
theorem dX6_remember_37 : decode cX6_remember 37 = .ok (.getfield 23, 3) := by decide +kernel
theorem dX6_remember_40 : decode cX6_remember 40 = .ok (.iload_n 2, 1) := by decide +kernel
theorem dX6_remember_41 : decode cX6_remember 41 = .ok (.aaload, 1) := by decide +kernel
theorem dX6_remember_42 : decode cX6_remember 42 = .ok (.aload_n 0, 1) := by decide +kernel
theorem dX6_remember_43 : decode cX6_remember 43 = .ok (.getfield 14, 3) := by decide +kernel
theorem dX6_remember_46 : decode cX6_remember 46 = .ok (.invokevirtual 37, 3) := by decide +kernel
theorem dX6_remember_49 : decode cX6_remember 49 = .ok (.return_, 1) := by decide +kernel
theorem dX6_forgetOldest_0 : decode cX6_forgetOldest 0 = .ok (.iconst 0, 1) := by decide +kernel
theorem dX6_forgetOldest_1 : decode cX6_forgetOldest 1 = .ok (.istore_n 1, 1) := by decide +kernel
theorem dX6_forgetOldest_2 : decode cX6_forgetOldest 2 = .ok (.iload_n 1, 1) := by decide +kernel
theorem dX6_forgetOldest_3 : decode cX6_forgetOldest 3 = .ok (.iconst 1, 1) := by decide +kernel
theorem dX6_forgetOldest_4 : decode cX6_forgetOldest 4 = .ok (.iadd, 1) := by decide +kernel
theorem dX6_forgetOldest_5 : decode cX6_forgetOldest 5 = .ok (.aload_n 0, 1) := by decide +kernel
theorem dX6_forgetOldest_6 : decode cX6_forgetOldest 6 = .ok (.getfield 23, 3) := by decide +kernel
theorem dX6_forgetOldest_9 : decode cX6_forgetOldest 9 = .ok (.arraylength, 1) := by decide +kernel
theorem dX6_forgetOldest_10 : decode cX6_forgetOldest 10 = .ok (.if_icmp .ge 46, 3) := by decide +kernel
theorem dX6_forgetOldest_13 : decode cX6_forgetOldest 13 = .ok (.aload_n 0, 1) := by decide +kernel
theorem dX6_forgetOldest_14 : decode cX6_forgetOldest 14 = .ok (.getfield 23, 3) := by decide +kernel
theorem dX6_forgetOldest_17 : decode cX6_forgetOldest 17 = .ok (.iload_n 1, 1) := by decide +kernel
theorem dX6_forgetOldest_18 : decode cX6_forgetOldest 18 = .ok (.aaload, 1) := by decide +kernel
theorem dX6_forgetOldest_19 : decode cX6_forgetOldest 19 = .ok (.ifnull 31, 3) := by decide +kernel
theorem dX6_forgetOldest_22 : decode cX6_forgetOldest 22 = .ok (.aload_n 0, 1) := by decide +kernel
theorem dX6_forgetOldest_23 : decode cX6_forgetOldest 23 = .ok (.getfield 23, 3) := by decide +kernel
theorem dX6_forgetOldest_26 : decode cX6_forgetOldest 26 = .ok (.iload_n 1, 1) := by decide +kernel
theorem dX6_forgetOldest_27 : decode cX6_forgetOldest 27 = .ok (.iconst 1, 1) := by decide +kernel
theorem dX6_forgetOldest_28 : decode cX6_forgetOldest 28 = .ok (.iadd, 1) := by decide +kernel
theorem dX6_forgetOldest_29 : decode cX6_forgetOldest 29 = .ok (.aaload, 1) := by decide +kernel
theorem dX6_forgetOldest_30 : decode cX6_forgetOldest 30 = .ok (.ifnull 20, 3) := by decide +kernel
theorem dX6_forgetOldest_33 : decode cX6_forgetOldest 33 = .ok (.aload_n 0, 1) := by decide +kernel
theorem dX6_forgetOldest_34 : decode cX6_forgetOldest 34 = .ok (.getfield 23, 3) := by decide +kernel
theorem dX6_forgetOldest_37 : decode cX6_forgetOldest 37 = .ok (.iload_n 1, 1) := by decide +kernel
theorem dX6_forgetOldest_38 : decode cX6_forgetOldest 38 = .ok (.aaload, 1) := by decide +kernel
theorem dX6_forgetOldest_39 : decode cX6_forgetOldest 39 = .ok (.aload_n 0, 1) := by decide +kernel
theorem dX6_forgetOldest_40 : decode cX6_forgetOldest 40 = .ok (.getfield 23, 3) := by decide +kernel
theorem dX6_forgetOldest_43 : decode cX6_forgetOldest 43 = .ok (.iload_n 1, 1) := by decide +kernel
theorem dX6_forgetOldest_44 : decode cX6_forgetOldest 44 = .ok (.iconst 1, 1) := by decide +kernel
theorem dX6_forgetOldest_45 : decode cX6_forgetOldest 45 = .ok (.iadd, 1) := by decide +kernel
theorem dX6_forgetOldest_46 : decode cX6_forgetOldest 46 = .ok (.aaload, 1) := by decide +kernel
theorem dX6_forgetOldest_47 : decode cX6_forgetOldest 47 = .ok (.invokevirtual 37, 3) := by decide +kernel
theorem dX6_forgetOldest_50 : decode cX6_forgetOldest 50 = .ok (.iinc 1 1, 3) := by decide +kernel
theorem dX6_forgetOldest_53 : decode cX6_forgetOldest 53 = .ok (.goto (-51), 3) := by decide +kernel
theorem dX6_forgetOldest_56 : decode cX6_forgetOldest 56 = .ok (.return_, 1) := by decide +kernel
theorem dX6_recall_0 : decode cX6_recall 0 = .ok (.iload_n 1, 1) := by decide +kernel
theorem dX6_recall_1 : decode cX6_recall 1 = .ok (.ifCond .lt 34, 3) := by decide +kernel
theorem dX6_recall_4 : decode cX6_recall 4 = .ok (.iload_n 1, 1) := by decide +kernel
theorem dX6_recall_5 : decode cX6_recall 5 = .ok (.aload_n 0, 1) := by decide +kernel
theorem dX6_recall_6 : decode cX6_recall 6 = .ok (.getfield 23, 3) := by decide +kernel
theorem dX6_recall_9 : decode cX6_recall 9 = .ok (.arraylength, 1) := by decide +kernel
theorem dX6_recall_10 : decode cX6_recall 10 = .ok (.if_icmp .ge 25, 3) := by decide +kernel
theorem dX6_recall_13 : decode cX6_recall 13 = .ok (.aload_n 0, 1) := by decide +kernel
theorem dX6_recall_14 : decode cX6_recall 14 = .ok (.getfield 23, 3) := by decide +kernel
theorem dX6_recall_17 : decode cX6_recall 17 = .ok (.iload_n 1, 1) := by decide +kernel
theorem dX6_recall_18 : decode cX6_recall 18 = .ok (.aaload, 1) := by decide +kernel
theorem dX6_recall_19 : decode cX6_recall 19 = .ok (.ifnull 16, 3) := by decide +kernel
theorem dX6_recall_22 : decode cX6_recall 22 = .ok (.aload_n 0, 1) := by decide +kernel
theorem dX6_recall_23 : decode cX6_recall 23 = .ok (.getfield 14, 3) := by decide +kernel
theorem dX6_recall_26 : decode cX6_recall 26 = .ok (.aload_n 0, 1) := by decide +kernel
theorem dX6_recall_27 : decode cX6_recall 27 = .ok (.getfield 23, 3) := by decide +kernel
theorem dX6_recall_30 : decode cX6_recall 30 = .ok (.iload_n 1, 1) := by decide +kernel
theorem dX6_recall_31 : decode cX6_recall 31 = .ok (.aaload, 1) := by decide +kernel
theorem dX6_recall_32 : decode cX6_recall 32 = .ok (.invokevirtual 37, 3) := by decide +kernel
theorem dX6_recall_35 : decode cX6_recall 35 = .ok (.return_, 1) := by decide +kernel
theorem dX7_init_0 : decode cX7_init 0 = .ok (.aload_n 0, 1) := by decide +kernel
theorem dX7_init_1 : decode cX7_init 1 = .ok (.iload_n 1, 1) := by decide +kernel
theorem dX7_init_2 : decode cX7_init 2 = .ok (.aload_n 2, 1) := by decide +kernel
theorem dX7_init_3 : decode cX7_init 3 = .ok (.getfield 3, 3) := by decide +kernel
theorem dX7_init_6 : decode cX7_init 6 = .ok (.aload_n 2, 1) := by decide +kernel
theorem dX7_init_7 : decode cX7_init 7 = .ok (.getfield 9, 3) := by decide +kernel
theorem dX7_init_10 : decode cX7_init 10 = .ok (.iload_n 3, 1) := by decide +kernel
theorem dX7_init_11 : decode cX7_init 11 = .ok (.aconst_null, 1) := by decide +kernel
theorem dX7_init_12 : decode cX7_init 12 = .ok (.aconst_null, 1) := by decide +kernel
theorem dX7_init_13 : decode cX7_init 13 = .ok (.invokespecial 12, 3) := by decide +kernel
theorem dX7_init_16 : decode cX7_init 16 = .ok (.aload_n 0, 1) := by decide +kernel
theorem dX7_init_17 : decode cX7_init 17 = .ok (.aload_n 2, 1) := by decide +kernel
theorem dX7_init_18 : decode cX7_init 18 = .ok (.putfield 18, 3) := by decide +kernel
theorem dX7_init_21 : decode cX7_init 21 = .ok (.return_, 1) := by decide +kernel
theorem dX7_show_0 : decode cX7_show 0 = .ok (.aload_n 0, 1) := by decide +kernel
theorem dX7_show_1 : decode cX7_show 1 = .ok (.getfield 24, 3) := by decide +kernel
theorem dX7_show_4 : decode cX7_show 4 = .ok (.aload_n 0, 1) := by decide +kernel
theorem dX7_show_5 : decode cX7_show 5 = .ok (.getfield 18, 3) := by decide +kernel
theorem dX7_show_8 : decode cX7_show 8 = .ok (.getfield 28, 3) := by decide +kernel
theorem dX7_show_11 : decode cX7_show 11 = .ok (.invokevirtual 31, 3) := by decide +kernel
theorem dX7_show_14 : decode cX7_show 14 = .ok (.return_, 1) := by decide +kernel
theorem dX7_seekOwnConflict_0 : decode cX7_seekOwnConflict 0 = .ok (.aload_n 0, 1) := by decide +kernel
theorem dX7_seekOwnConflict_1 : decode cX7_seekOwnConflict 1 = .ok (.getfield 37, 3) := by decide +kernel
theorem dX7_seekOwnConflict_4 : decode cX7_seekOwnConflict 4 = .ok (.invokevirtual 40, 3) := by decide +kernel
theorem dX7_seekOwnConflict_7 : decode cX7_seekOwnConflict 7 = .ok (.bipush 12, 2) := by decide +kernel
theorem dX7_seekOwnConflict_9 : decode cX7_seekOwnConflict 9 = .ok (.if_icmp .le 18, 3) := by decide +kernel
theorem dX7_seekOwnConflict_12 : decode cX7_seekOwnConflict 12 = .ok (.aload_n 1, 1) := by decide +kernel
theorem dX7_seekOwnConflict_13 : decode cX7_seekOwnConflict 13 = .ok (.bipush 10, 2) := by decide +kernel
theorem dX7_seekOwnConflict_15 : decode cX7_seekOwnConflict 15 = .ok (.aload_n 0, 1) := by decide +kernel
theorem dX7_seekOwnConflict_16 : decode cX7_seekOwnConflict 16 = .ok (.getfield 44, 3) := by decide +kernel
theorem dX7_seekOwnConflict_19 : decode cX7_seekOwnConflict 19 = .ok (.imul, 1) := by decide +kernel
theorem dX7_seekOwnConflict_20 : decode cX7_seekOwnConflict 20 = .ok (.iconst 4, 1) := by decide +kernel
theorem dX7_seekOwnConflict_21 : decode cX7_seekOwnConflict 21 = .ok (.iadd, 1) := by decide +kernel
theorem dX7_seekOwnConflict_22 : decode cX7_seekOwnConflict 22 = .ok (.iconst (-1), 1) := by decide +kernel
theorem dX7_seekOwnConflict_23 : decode cX7_seekOwnConflict 23 = .ok (.iconst (-1), 1) := by decide +kernel
theorem dX7_seekOwnConflict_24 : decode cX7_seekOwnConflict 24 = .ok (.invokevirtual 47, 3) := by decide +kernel
theorem dX7_seekOwnConflict_27 : decode cX7_seekOwnConflict 27 = .ok (.return_, 1) := by decide +kernel
theorem dX7_passOn_0 : decode cX7_passOn 0 = .ok (.aload_n 0, 1) := by decide +kernel
theorem dX7_passOn_1 : decode cX7_passOn 1 = .ok (.getfield 18, 3) := by decide +kernel
theorem dX7_passOn_4 : decode cX7_passOn 4 = .ok (.getfield 53, 3) := by decide +kernel
theorem dX7_passOn_7 : decode cX7_passOn 7 = .ok (.aload_n 0, 1) := by decide +kernel
theorem dX7_passOn_8 : decode cX7_passOn 8 = .ok (.getfield 37, 3) := by decide +kernel
theorem dX7_passOn_11 : decode cX7_passOn 11 = .ok (.invokevirtual 31, 3) := by decide +kernel
theorem dX7_passOn_14 : decode cX7_passOn 14 = .ok (.return_, 1) := by decide +kernel
theorem dX8_init_0 : decode cX8_init 0 = .ok (.aload_n 0, 1) := by decide +kernel
theorem dX8_init_1 : decode cX8_init 1 = .ok (.invokespecial 3, 3) := by decide +kernel
theorem dX8_init_4 : decode cX8_init 4 = .ok (.aload_n 0, 1) := by decide +kernel
theorem dX8_init_5 : decode cX8_init 5 = .ok (.bipush 9, 2) := by decide +kernel
theorem dX8_init_7 : decode cX8_init 7 = .ok (.newarray .int, 2) := by decide +kernel
theorem dX8_init_9 : decode cX8_init 9 = .ok (.putfield 9, 3) := by decide +kernel
theorem dX8_init_12 : decode cX8_init 12 = .ok (.aload_n 0, 1) := by decide +kernel
theorem dX8_init_13 : decode cX8_init 13 = .ok (.bipush 9, 2) := by decide +kernel
theorem dX8_init_15 : decode cX8_init 15 = .ok (.newarray .int, 2) := by decide +kernel
theorem dX8_init_17 : decode cX8_init 17 = .ok (.putfield 15, 3) := by decide +kernel
theorem dX8_init_20 : decode cX8_init 20 = .ok (.return_, 1) := by decide +kernel
theorem dX8_canTry_0 : decode cX8_canTry 0 = .ok (.aload_n 0, 1) := by decide +kernel
theorem dX8_canTry_1 : decode cX8_canTry 1 = .ok (.getfield 18, 3) := by decide +kernel
theorem dX8_canTry_4 : decode cX8_canTry 4 = .ok (.invokestatic 24, 3) := by decide +kernel
theorem dX8_canTry_7 : decode cX8_canTry 7 = .ok (.iconst 2, 1) := by decide +kernel
theorem dX8_canTry_8 : decode cX8_canTry 8 = .ok (.if_icmp .le 5, 3) := by decide +kernel
theorem dX8_canTry_11 : decode cX8_canTry 11 = .ok (.iconst 0, 1) := by decide +kernel
theorem dX8_canTry_12 : decode cX8_canTry 12 = .ok (.ireturn, 1) := by decide +kernel
theorem dX8_canTry_13 : decode cX8_canTry 13 = .ok (.iconst 0, 1) := by decide +kernel
theorem dX8_canTry_14 : decode cX8_canTry 14 = .ok (.istore_n 1, 1) := by decide +kernel
theorem dX8_canTry_15 : decode cX8_canTry 15 = .ok (.iload_n 1, 1) := by decide +kernel
theorem dX8_canTry_16 : decode cX8_canTry 16 = .ok (.aload_n 0, 1) := by decide +kernel
theorem dX8_canTry_17 : decode cX8_canTry 17 = .ok (.getfield 30, 3) := by decide +kernel
theorem dX8_canTry_20 : decode cX8_canTry 20 = .ok (.invokevirtual 34, 3) := by decide +kernel
theorem dX8_canTry_23 : decode cX8_canTry 23 = .ok (.if_icmp .ge 25, 3) := by decide +kernel
theorem dX8_canTry_26 : decode cX8_canTry 26 = .ok (.aload_n 0, 1) := by decide +kernel
theorem dX8_canTry_27 : decode cX8_canTry 27 = .ok (.getfield 30, 3) := by decide +kernel
theorem dX8_canTry_30 : decode cX8_canTry 30 = .ok (.iload_n 1, 1) := by decide +kernel
theorem dX8_canTry_31 : decode cX8_canTry 31 = .ok (.invokevirtual 40, 3) := by decide +kernel
theorem dX8_canTry_34 : decode cX8_canTry 34 = .ok (.invokestatic 43, 3) := by decide +kernel
theorem dX8_canTry_37 : decode cX8_canTry 37 = .ok (.ifCond .eq 5, 3) := by decide +kernel
theorem dX8_canTry_40 : decode cX8_canTry 40 = .ok (.iconst 0, 1) := by decide +kernel
theorem dX8_canTry_41 : decode cX8_canTry 41 = .ok (.ireturn, 1) := by decide +kernel
theorem dX8_canTry_42 : decode cX8_canTry 42 = .ok (.iinc 1 1, 3) := by decide +kernel
theorem dX8_canTry_45 : decode cX8_canTry 45 = .ok (.goto (-30), 3) := by decide +kernel
theorem dX8_canTry_48 : decode cX8_canTry 48 = .ok (.iconst 1, 1) := by decide +kernel
theorem dX8_canTry_49 : decode cX8_canTry 49 = .ok (.ireturn, 1) := by decide +kernel
theorem dX8_hasGreatValue_0 : decode cX8_hasGreatValue 0 = .ok (.iconst 0, 1) := by decide +kernel
theorem dX8_hasGreatValue_1 : decode cX8_hasGreatValue 1 = .ok (.istore_n 1, 1) := by decide +kernel
theorem dX8_hasGreatValue_2 : decode cX8_hasGreatValue 2 = .ok (.iload_n 1, 1) := by decide +kernel
theorem dX8_hasGreatValue_3 : decode cX8_hasGreatValue 3 = .ok (.bipush 6, 2) := by decide +kernel
theorem dX8_hasGreatValue_5 : decode cX8_hasGreatValue 5 = .ok (.if_icmp .ge 20, 3) := by decide +kernel
theorem dX8_hasGreatValue_8 : decode cX8_hasGreatValue 8 = .ok (.iload_n 0, 1) := by decide +kernel
theorem dX8_hasGreatValue_9 : decode cX8_hasGreatValue 9 = .ok (.iload_n 1, 1) := by decide +kernel
theorem dX8_hasGreatValue_10 : decode cX8_hasGreatValue 10 = .ok (.invokestatic 47, 3) := by decide +kernel
theorem dX8_hasGreatValue_13 : decode cX8_hasGreatValue 13 = .ok (.iconst 2, 1) := by decide +kernel
theorem dX8_hasGreatValue_14 : decode cX8_hasGreatValue 14 = .ok (.if_icmp .le 5, 3) := by decide +kernel
theorem dX8_hasGreatValue_17 : decode cX8_hasGreatValue 17 = .ok (.iconst 1, 1) := by decide +kernel
theorem dX8_hasGreatValue_18 : decode cX8_hasGreatValue 18 = .ok (.ireturn, 1) := by decide +kernel
theorem dX8_hasGreatValue_19 : decode cX8_hasGreatValue 19 = .ok (.iinc 1 1, 3) := by decide +kernel
theorem dX8_hasGreatValue_22 : decode cX8_hasGreatValue 22 = .ok (.goto (-20), 3) := by decide +kernel
theorem dX8_hasGreatValue_25 : decode cX8_hasGreatValue 25 = .ok (.iconst 0, 1) := by decide +kernel
theorem dX8_hasGreatValue_26 : decode cX8_hasGreatValue 26 = .ok (.ireturn, 1) := by decide +kernel
theorem dX8_fewestChanges_0 : decode cX8_fewestChanges 0 = .ok (.aload_n 0, 1) := by decide +kernel
theorem dX8_fewestChanges_1 : decode cX8_fewestChanges 1 = .ok (.aload_n 2, 1) := by decide +kernel
theorem dX8_fewestChanges_2 : decode cX8_fewestChanges 2 = .ok (.getfield 18, 3) := by decide +kernel
theorem dX8_fewestChanges_5 : decode cX8_fewestChanges 5 = .ok (.invokevirtual 53, 3) := by decide +kernel
theorem dX8_fewestChanges_8 : decode cX8_fewestChanges 8 = .ok (.aload_n 0, 1) := by decide +kernel
theorem dX8_fewestChanges_9 : decode cX8_fewestChanges 9 = .ok (.aload_n 1, 1) := by decide +kernel
theorem dX8_fewestChanges_10 : decode cX8_fewestChanges 10 = .ok (.aload_n 2, 1) := by decide +kernel
theorem dX8_fewestChanges_11 : decode cX8_fewestChanges 11 = .ok (.aload_n 3, 1) := by decide +kernel
theorem dX8_fewestChanges_12 : decode cX8_fewestChanges 12 = .ok (.invokevirtual 57, 3) := by decide +kernel
theorem dX8_fewestChanges_15 : decode cX8_fewestChanges 15 = .ok (.iconst (-1), 1) := by decide +kernel
theorem dX8_fewestChanges_16 : decode cX8_fewestChanges 16 = .ok (.istore 4, 2) := by decide +kernel
theorem dX8_fewestChanges_18 : decode cX8_fewestChanges 18 = .ok (.iconst 0, 1) := by decide +kernel
theorem dX8_fewestChanges_19 : decode cX8_fewestChanges 19 = .ok (.istore 5, 2) := by decide +kernel
theorem dX8_fewestChanges_21 : decode cX8_fewestChanges 21 = .ok (.iload 5, 2) := by decide +kernel
theorem dX8_fewestChanges_23 : decode cX8_fewestChanges 23 = .ok (.iconst 1, 1) := by decide +kernel
theorem dX8_fewestChanges_24 : decode cX8_fewestChanges 24 = .ok (.aload_n 0, 1) := by decide +kernel
theorem dX8_fewestChanges_25 : decode cX8_fewestChanges 25 = .ok (.getfield 61, 3) := by decide +kernel
theorem dX8_fewestChanges_28 : decode cX8_fewestChanges 28 = .ok (.ishl, 1) := by decide +kernel
theorem dX8_fewestChanges_29 : decode cX8_fewestChanges 29 = .ok (.if_icmp .ge 77, 3) := by decide +kernel
theorem dX8_fewestChanges_32 : decode cX8_fewestChanges 32 = .ok (.iload 5, 2) := by decide +kernel
theorem dX8_fewestChanges_34 : decode cX8_fewestChanges 34 = .ok (.aload_n 0, 1) := by decide +kernel
theorem dX8_fewestChanges_35 : decode cX8_fewestChanges 35 = .ok (.getfield 64, 3) := by decide +kernel
theorem dX8_fewestChanges_38 : decode cX8_fewestChanges 38 = .ok (.iand, 1) := by decide +kernel
theorem dX8_fewestChanges_39 : decode cX8_fewestChanges 39 = .ok (.ifCond .ne 61, 3) := by decide +kernel
theorem dX8_fewestChanges_42 : decode cX8_fewestChanges 42 = .ok (.iload 5, 2) := by decide +kernel
theorem dX8_fewestChanges_44 : decode cX8_fewestChanges 44 = .ok (.aload_n 0, 1) := by decide +kernel
theorem dX8_fewestChanges_45 : decode cX8_fewestChanges 45 = .ok (.getfield 67, 3) := by decide +kernel
theorem dX8_fewestChanges_48 : decode cX8_fewestChanges 48 = .ok (.iand, 1) := by decide +kernel
theorem dX8_fewestChanges_49 : decode cX8_fewestChanges 49 = .ok (.invokestatic 24, 3) := by decide +kernel
theorem dX8_fewestChanges_52 : decode cX8_fewestChanges 52 = .ok (.aload_n 3, 1) := by decide +kernel
theorem dX8_fewestChanges_53 : decode cX8_fewestChanges 53 = .ok (.invokevirtual 34, 3) := by decide +kernel
theorem dX8_fewestChanges_56 : decode cX8_fewestChanges 56 = .ok (.if_icmp .ne 44, 3) := by decide +kernel
theorem dX8_fewestChanges_59 : decode cX8_fewestChanges 59 = .ok (.aload_n 0, 1) := by decide +kernel
theorem dX8_fewestChanges_60 : decode cX8_fewestChanges 60 = .ok (.iload 5, 2) := by decide +kernel
theorem dX8_fewestChanges_62 : decode cX8_fewestChanges 62 = .ok (.invokevirtual 70, 3) := by decide +kernel
theorem dX8_fewestChanges_65 : decode cX8_fewestChanges 65 = .ok (.ifCond .eq 35, 3) := by decide +kernel
theorem dX8_fewestChanges_68 : decode cX8_fewestChanges 68 = .ok (.iload 5, 2) := by decide +kernel
theorem dX8_fewestChanges_70 : decode cX8_fewestChanges 70 = .ok (.aload_n 0, 1) := by decide +kernel
theorem dX8_fewestChanges_71 : decode cX8_fewestChanges 71 = .ok (.getfield 73, 3) := by decide +kernel
theorem dX8_fewestChanges_74 : decode cX8_fewestChanges 74 = .ok (.ixor, 1) := by decide +kernel
theorem dX8_fewestChanges_75 : decode cX8_fewestChanges 75 = .ok (.invokestatic 24, 3) := by decide +kernel
theorem dX8_fewestChanges_78 : decode cX8_fewestChanges 78 = .ok (.istore 6, 2) := by decide +kernel
theorem dX8_fewestChanges_80 : decode cX8_fewestChanges 80 = .ok (.iload 4, 2) := by decide +kernel
theorem dX8_fewestChanges_82 : decode cX8_fewestChanges 82 = .ok (.iconst (-1), 1) := by decide +kernel
theorem dX8_fewestChanges_83 : decode cX8_fewestChanges 83 = .ok (.if_icmp .ne 8, 3) := by decide +kernel
theorem dX8_fewestChanges_86 : decode cX8_fewestChanges 86 = .ok (.iload 6, 2) := by decide +kernel
theorem dX8_fewestChanges_88 : decode cX8_fewestChanges 88 = .ok (.goto 10, 3) := by decide +kernel
theorem dX8_fewestChanges_91 : decode cX8_fewestChanges 91 = .ok (.iload 4, 2) := by decide +kernel
theorem dX8_fewestChanges_93 : decode cX8_fewestChanges 93 = .ok (.iload 6, 2) := by decide +kernel
theorem dX8_fewestChanges_95 : decode cX8_fewestChanges 95 = .ok (.invokestatic 76, 3) := by decide +kernel
theorem dX8_fewestChanges_98 : decode cX8_fewestChanges 98 = .ok (.istore 4, 2) := by decide +kernel
theorem dX8_fewestChanges_100 : decode cX8_fewestChanges 100 = .ok (.iinc 5 1, 3) := by decide +kernel
theorem dX8_fewestChanges_103 : decode cX8_fewestChanges 103 = .ok (.goto (-82), 3) := by decide +kernel
theorem dX8_fewestChanges_106 : decode cX8_fewestChanges 106 = .ok (.iload 4, 2) := by decide +kernel
theorem dX8_fewestChanges_108 : decode cX8_fewestChanges 108 = .ok (.ireturn, 1) := by decide +kernel
theorem dX8_listRows_0 : decode cX8_listRows 0 = .ok (.aload_n 0, 1) := by decide +kernel
theorem dX8_listRows_1 : decode cX8_listRows 1 = .ok (.getfield 9, 3) := by decide +kernel
theorem dX8_listRows_4 : decode cX8_listRows 4 = .ok (.iconst 0, 1) := by decide +kernel
theorem dX8_listRows_5 : decode cX8_listRows 5 = .ok (.iconst 0, 1) := by decide +kernel
theorem dX8_listRows_6 : decode cX8_listRows 6 = .ok (.iastore, 1) := by decide +kernel
theorem dX8_listRows_7 : decode cX8_listRows 7 = .ok (.aload_n 0, 1) := by decide +kernel
theorem dX8_listRows_8 : decode cX8_listRows 8 = .ok (.iconst 1, 1) := by decide +kernel
theorem dX8_listRows_9 : decode cX8_listRows 9 = .ok (.putfield 61, 3) := by decide +kernel
theorem dX8_listRows_12 : decode cX8_listRows 12 = .ok (.iconst 0, 1) := by decide +kernel
theorem dX8_listRows_13 : decode cX8_listRows 13 = .ok (.istore_n 2, 1) := by decide +kernel
theorem dX8_listRows_14 : decode cX8_listRows 14 = .ok (.iload_n 2, 1) := by decide +kernel
theorem dX8_listRows_15 : decode cX8_listRows 15 = .ok (.bipush 6, 2) := by decide +kernel
theorem dX8_listRows_17 : decode cX8_listRows 17 = .ok (.if_icmp .ge 87, 3) := by decide +kernel
theorem dX8_listRows_20 : decode cX8_listRows 20 = .ok (.iload_n 2, 1) := by decide +kernel
theorem dX8_listRows_21 : decode cX8_listRows 21 = .ok (.iload_n 1, 1) := by decide +kernel
theorem dX8_listRows_22 : decode cX8_listRows 22 = .ok (.invokestatic 81, 3) := by decide +kernel
theorem dX8_listRows_25 : decode cX8_listRows 25 = .ok (.ifCond .eq 10, 3) := by decide +kernel
theorem dX8_listRows_28 : decode cX8_listRows 28 = .ok (.aload_n 0, 1) := by decide +kernel
theorem dX8_listRows_29 : decode cX8_listRows 29 = .ok (.getfield 61, 3) := by decide +kernel
theorem dX8_listRows_32 : decode cX8_listRows 32 = .ok (.goto 4, 3) := by decide +kernel
theorem dX8_listRows_35 : decode cX8_listRows 35 = .ok (.iconst 0, 1) := by decide +kernel
theorem dX8_listRows_36 : decode cX8_listRows 36 = .ok (.istore_n 3, 1) := by decide +kernel
theorem dX8_listRows_37 : decode cX8_listRows 37 = .ok (.iconst 0, 1) := by decide +kernel
theorem dX8_listRows_38 : decode cX8_listRows 38 = .ok (.istore 4, 2) := by decide +kernel
theorem dX8_listRows_40 : decode cX8_listRows 40 = .ok (.iload 4, 2) := by decide +kernel
theorem dX8_listRows_42 : decode cX8_listRows 42 = .ok (.iconst 2, 1) := by decide +kernel
theorem dX8_listRows_43 : decode cX8_listRows 43 = .ok (.iload_n 3, 1) := by decide +kernel
theorem dX8_listRows_44 : decode cX8_listRows 44 = .ok (.imul, 1) := by decide +kernel
theorem dX8_listRows_45 : decode cX8_listRows 45 = .ok (.if_icmp .ge 53, 3) := by decide +kernel
theorem dX8_listRows_48 : decode cX8_listRows 48 = .ok (.aload_n 0, 1) := by decide +kernel
theorem dX8_listRows_49 : decode cX8_listRows 49 = .ok (.getfield 61, 3) := by decide +kernel
theorem dX8_listRows_52 : decode cX8_listRows 52 = .ok (.aload_n 0, 1) := by decide +kernel
theorem dX8_listRows_53 : decode cX8_listRows 53 = .ok (.getfield 9, 3) := by decide +kernel
theorem dX8_listRows_56 : decode cX8_listRows 56 = .ok (.arraylength, 1) := by decide +kernel
theorem dX8_listRows_57 : decode cX8_listRows 57 = .ok (.if_icmp .ge 41, 3) := by decide +kernel
theorem dX8_listRows_60 : decode cX8_listRows 60 = .ok (.aload_n 0, 1) := by decide +kernel
theorem dX8_listRows_61 : decode cX8_listRows 61 = .ok (.getfield 9, 3) := by decide +kernel
theorem dX8_listRows_64 : decode cX8_listRows 64 = .ok (.aload_n 0, 1) := by decide +kernel
theorem dX8_listRows_65 : decode cX8_listRows 65 = .ok (.getfield 61, 3) := by decide +kernel
theorem dX8_listRows_68 : decode cX8_listRows 68 = .ok (.aload_n 0, 1) := by decide +kernel
theorem dX8_listRows_69 : decode cX8_listRows 69 = .ok (.getfield 9, 3) := by decide +kernel
theorem dX8_listRows_72 : decode cX8_listRows 72 = .ok (.iload 4, 2) := by decide +kernel
theorem dX8_listRows_74 : decode cX8_listRows 74 = .ok (.iaload, 1) := by decide +kernel
theorem dX8_listRows_75 : decode cX8_listRows 75 = .ok (.iload_n 2, 1) := by decide +kernel
theorem dX8_listRows_76 : decode cX8_listRows 76 = .ok (.iconst 1, 1) := by decide +kernel
theorem dX8_listRows_77 : decode cX8_listRows 77 = .ok (.invokestatic 85, 3) := by decide +kernel
theorem dX8_listRows_80 : decode cX8_listRows 80 = .ok (.iadd, 1) := by decide +kernel
theorem dX8_listRows_81 : decode cX8_listRows 81 = .ok (.iastore, 1) := by decide +kernel
theorem dX8_listRows_82 : decode cX8_listRows 82 = .ok (.aload_n 0, 1) := by decide +kernel
theorem dX8_listRows_83 : decode cX8_listRows 83 = .ok (.dup, 1) := by decide +kernel
theorem dX8_listRows_84 : decode cX8_listRows 84 = .ok (.getfield 61, 3) := by decide +kernel
theorem dX8_listRows_87 : decode cX8_listRows 87 = .ok (.iconst 1, 1) := by decide +kernel
theorem dX8_listRows_88 : decode cX8_listRows 88 = .ok (.iadd, 1) := by decide +kernel
theorem dX8_listRows_89 : decode cX8_listRows 89 = .ok (.putfield 61, 3) := by decide +kernel
theorem dX8_listRows_92 : decode cX8_listRows 92 = .ok (.iinc 4 1, 3) := by decide +kernel
theorem dX8_listRows_95 : decode cX8_listRows 95 = .ok (.goto (-55), 3) := by decide +kernel
theorem dX8_listRows_98 : decode cX8_listRows 98 = .ok (.iinc 2 1, 3) := by decide +kernel
theorem dX8_listRows_101 : decode cX8_listRows 101 = .ok (.goto (-87), 3) := by decide +kernel
theorem dX8_listRows_104 : decode cX8_listRows 104 = .ok (.return_, 1) := by decide +kernel
theorem dX8_sortRows_0 : decode cX8_sortRows 0 = .ok (.aload_n 0, 1) := by decide +kernel
theorem dX8_sortRows_1 : decode cX8_sortRows 1 = .ok (.iconst 0, 1) := by decide +kernel
theorem dX8_sortRows_2 : decode cX8_sortRows 2 = .ok (.putfield 73, 3) := by decide +kernel
theorem dX8_sortRows_5 : decode cX8_sortRows 5 = .ok (.aload_n 0, 1) := by decide +kernel
theorem dX8_sortRows_6 : decode cX8_sortRows 6 = .ok (.iconst 0, 1) := by decide +kernel
theorem dX8_sortRows_7 : decode cX8_sortRows 7 = .ok (.putfield 67, 3) := by decide +kernel
theorem dX8_sortRows_10 : decode cX8_sortRows 10 = .ok (.aload_n 0, 1) := by decide +kernel
theorem dX8_sortRows_11 : decode cX8_sortRows 11 = .ok (.iconst 0, 1) := by decide +kernel
theorem dX8_sortRows_12 : decode cX8_sortRows 12 = .ok (.putfield 64, 3) := by decide +kernel
theorem dX8_sortRows_15 : decode cX8_sortRows 15 = .ok (.iconst 0, 1) := by decide +kernel
theorem dX8_sortRows_16 : decode cX8_sortRows 16 = .ok (.istore 4, 2) := by decide +kernel
theorem dX8_sortRows_18 : decode cX8_sortRows 18 = .ok (.iload 4, 2) := by decide +kernel
theorem dX8_sortRows_20 : decode cX8_sortRows 20 = .ok (.aload_n 0, 1) := by decide +kernel
theorem dX8_sortRows_21 : decode cX8_sortRows 21 = .ok (.getfield 61, 3) := by decide +kernel
theorem dX8_sortRows_24 : decode cX8_sortRows 24 = .ok (.if_icmp .ge 127, 3) := by decide +kernel
theorem dX8_sortRows_27 : decode cX8_sortRows 27 = .ok (.iload 4, 2) := by decide +kernel
theorem dX8_sortRows_29 : decode cX8_sortRows 29 = .ok (.aload_n 0, 1) := by decide +kernel
theorem dX8_sortRows_30 : decode cX8_sortRows 30 = .ok (.getfield 9, 3) := by decide +kernel
theorem dX8_sortRows_33 : decode cX8_sortRows 33 = .ok (.arraylength, 1) := by decide +kernel
theorem dX8_sortRows_34 : decode cX8_sortRows 34 = .ok (.if_icmp .ge 117, 3) := by decide +kernel
theorem dX8_sortRows_37 : decode cX8_sortRows 37 = .ok (.iconst 1, 1) := by decide +kernel
theorem dX8_sortRows_38 : decode cX8_sortRows 38 = .ok (.iload 4, 2) := by decide +kernel
theorem dX8_sortRows_40 : decode cX8_sortRows 40 = .ok (.ishl, 1) := by decide +kernel
theorem dX8_sortRows_41 : decode cX8_sortRows 41 = .ok (.istore 5, 2) := by decide +kernel
theorem dX8_sortRows_43 : decode cX8_sortRows 43 = .ok (.aload_n 2, 1) := by decide +kernel
theorem dX8_sortRows_44 : decode cX8_sortRows 44 = .ok (.getfield 30, 3) := by decide +kernel
theorem dX8_sortRows_47 : decode cX8_sortRows 47 = .ok (.aload_n 0, 1) := by decide +kernel
theorem dX8_sortRows_48 : decode cX8_sortRows 48 = .ok (.getfield 9, 3) := by decide +kernel
theorem dX8_sortRows_51 : decode cX8_sortRows 51 = .ok (.iload 4, 2) := by decide +kernel
theorem dX8_sortRows_53 : decode cX8_sortRows 53 = .ok (.iaload, 1) := by decide +kernel
theorem dX8_sortRows_54 : decode cX8_sortRows 54 = .ok (.invokevirtual 88, 3) := by decide +kernel
theorem dX8_sortRows_57 : decode cX8_sortRows 57 = .ok (.ifCond .eq 14, 3) := by decide +kernel
theorem dX8_sortRows_60 : decode cX8_sortRows 60 = .ok (.aload_n 0, 1) := by decide +kernel
theorem dX8_sortRows_61 : decode cX8_sortRows 61 = .ok (.dup, 1) := by decide +kernel
theorem dX8_sortRows_62 : decode cX8_sortRows 62 = .ok (.getfield 73, 3) := by decide +kernel
theorem dX8_sortRows_65 : decode cX8_sortRows 65 = .ok (.iload 5, 2) := by decide +kernel
theorem dX8_sortRows_67 : decode cX8_sortRows 67 = .ok (.ior, 1) := by decide +kernel
theorem dX8_sortRows_68 : decode cX8_sortRows 68 = .ok (.putfield 73, 3) := by decide +kernel
theorem dX8_sortRows_71 : decode cX8_sortRows 71 = .ok (.aload_n 1, 1) := by decide +kernel
theorem dX8_sortRows_72 : decode cX8_sortRows 72 = .ok (.aload_n 0, 1) := by decide +kernel
theorem dX8_sortRows_73 : decode cX8_sortRows 73 = .ok (.getfield 9, 3) := by decide +kernel
theorem dX8_sortRows_76 : decode cX8_sortRows 76 = .ok (.iload 4, 2) := by decide +kernel
theorem dX8_sortRows_78 : decode cX8_sortRows 78 = .ok (.iaload, 1) := by decide +kernel
theorem dX8_sortRows_79 : decode cX8_sortRows 79 = .ok (.invokestatic 91, 3) := by decide +kernel
theorem dX8_sortRows_82 : decode cX8_sortRows 82 = .ok (.ifCond .eq 46, 3) := by decide +kernel
theorem dX8_sortRows_85 : decode cX8_sortRows 85 = .ok (.aload_n 0, 1) := by decide +kernel
theorem dX8_sortRows_86 : decode cX8_sortRows 86 = .ok (.dup, 1) := by decide +kernel
theorem dX8_sortRows_87 : decode cX8_sortRows 87 = .ok (.getfield 67, 3) := by decide +kernel
theorem dX8_sortRows_90 : decode cX8_sortRows 90 = .ok (.iload 5, 2) := by decide +kernel
theorem dX8_sortRows_92 : decode cX8_sortRows 92 = .ok (.ior, 1) := by decide +kernel
theorem dX8_sortRows_93 : decode cX8_sortRows 93 = .ok (.putfield 67, 3) := by decide +kernel
theorem dX8_sortRows_96 : decode cX8_sortRows 96 = .ok (.aload_n 3, 1) := by decide +kernel
theorem dX8_sortRows_97 : decode cX8_sortRows 97 = .ok (.aload_n 0, 1) := by decide +kernel
theorem dX8_sortRows_98 : decode cX8_sortRows 98 = .ok (.getfield 9, 3) := by decide +kernel
theorem dX8_sortRows_101 : decode cX8_sortRows 101 = .ok (.iload 4, 2) := by decide +kernel
theorem dX8_sortRows_103 : decode cX8_sortRows 103 = .ok (.iaload, 1) := by decide +kernel
theorem dX8_sortRows_104 : decode cX8_sortRows 104 = .ok (.aload_n 1, 1) := by decide +kernel
theorem dX8_sortRows_105 : decode cX8_sortRows 105 = .ok (.getfield 95, 3) := by decide +kernel
theorem dX8_sortRows_108 : decode cX8_sortRows 108 = .ok (.invokestatic 98, 3) := by decide +kernel
theorem dX8_sortRows_111 : decode cX8_sortRows 111 = .ok (.invokevirtual 88, 3) := by decide +kernel
theorem dX8_sortRows_114 : decode cX8_sortRows 114 = .ok (.ifCond .ne 14, 3) := by decide +kernel
theorem dX8_sortRows_117 : decode cX8_sortRows 117 = .ok (.aload_n 0, 1) := by decide +kernel
theorem dX8_sortRows_118 : decode cX8_sortRows 118 = .ok (.dup, 1) := by decide +kernel
theorem dX8_sortRows_119 : decode cX8_sortRows 119 = .ok (.getfield 64, 3) := by decide +kernel
theorem dX8_sortRows_122 : decode cX8_sortRows 122 = .ok (.iload 5, 2) := by decide +kernel
theorem dX8_sortRows_124 : decode cX8_sortRows 124 = .ok (.ior, 1) := by decide +kernel
theorem dX8_sortRows_125 : decode cX8_sortRows 125 = .ok (.putfield 64, 3) := by decide +kernel
theorem dX8_sortRows_128 : decode cX8_sortRows 128 = .ok (.aload_n 0, 1) := by decide +kernel
theorem dX8_sortRows_129 : decode cX8_sortRows 129 = .ok (.getfield 15, 3) := by decide +kernel
theorem dX8_sortRows_132 : decode cX8_sortRows 132 = .ok (.iload 4, 2) := by decide +kernel
theorem dX8_sortRows_134 : decode cX8_sortRows 134 = .ok (.aload_n 0, 1) := by decide +kernel
theorem dX8_sortRows_135 : decode cX8_sortRows 135 = .ok (.iload 4, 2) := by decide +kernel
theorem dX8_sortRows_137 : decode cX8_sortRows 137 = .ok (.aload_n 2, 1) := by decide +kernel
theorem dX8_sortRows_138 : decode cX8_sortRows 138 = .ok (.getfield 101, 3) := by decide +kernel
theorem dX8_sortRows_141 : decode cX8_sortRows 141 = .ok (.invokevirtual 104, 3) := by decide +kernel
theorem dX8_sortRows_144 : decode cX8_sortRows 144 = .ok (.iastore, 1) := by decide +kernel
theorem dX8_sortRows_145 : decode cX8_sortRows 145 = .ok (.iinc 4 1, 3) := by decide +kernel
theorem dX8_sortRows_148 : decode cX8_sortRows 148 = .ok (.goto (-130), 3) := by decide +kernel
theorem dX8_sortRows_151 : decode cX8_sortRows 151 = .ok (.return_, 1) := by decide +kernel
theorem dX8_rivalsOf_0 : decode cX8_rivalsOf 0 = .ok (.iconst 0, 1) := by decide +kernel
theorem dX8_rivalsOf_1 : decode cX8_rivalsOf 1 = .ok (.istore_n 3, 1) := by decide +kernel
theorem dX8_rivalsOf_2 : decode cX8_rivalsOf 2 = .ok (.iconst 0, 1) := by decide +kernel
theorem dX8_rivalsOf_3 : decode cX8_rivalsOf 3 = .ok (.istore 4, 2) := by decide +kernel
theorem dX8_rivalsOf_5 : decode cX8_rivalsOf 5 = .ok (.iload 4, 2) := by decide +kernel
theorem dX8_rivalsOf_7 : decode cX8_rivalsOf 7 = .ok (.aload_n 0, 1) := by decide +kernel
theorem dX8_rivalsOf_8 : decode cX8_rivalsOf 8 = .ok (.getfield 61, 3) := by decide +kernel
theorem dX8_rivalsOf_11 : decode cX8_rivalsOf 11 = .ok (.if_icmp .ge 61, 3) := by decide +kernel
theorem dX8_rivalsOf_14 : decode cX8_rivalsOf 14 = .ok (.iload 4, 2) := by decide +kernel
theorem dX8_rivalsOf_16 : decode cX8_rivalsOf 16 = .ok (.aload_n 0, 1) := by decide +kernel
theorem dX8_rivalsOf_17 : decode cX8_rivalsOf 17 = .ok (.getfield 9, 3) := by decide +kernel
theorem dX8_rivalsOf_20 : decode cX8_rivalsOf 20 = .ok (.arraylength, 1) := by decide +kernel
theorem dX8_rivalsOf_21 : decode cX8_rivalsOf 21 = .ok (.if_icmp .ge 51, 3) := by decide +kernel
theorem dX8_rivalsOf_24 : decode cX8_rivalsOf 24 = .ok (.iload_n 1, 1) := by decide +kernel
theorem dX8_rivalsOf_25 : decode cX8_rivalsOf 25 = .ok (.aload_n 0, 1) := by decide +kernel
theorem dX8_rivalsOf_26 : decode cX8_rivalsOf 26 = .ok (.getfield 9, 3) := by decide +kernel
theorem dX8_rivalsOf_29 : decode cX8_rivalsOf 29 = .ok (.arraylength, 1) := by decide +kernel
theorem dX8_rivalsOf_30 : decode cX8_rivalsOf 30 = .ok (.if_icmp .ge 42, 3) := by decide +kernel
theorem dX8_rivalsOf_33 : decode cX8_rivalsOf 33 = .ok (.iload 4, 2) := by decide +kernel
theorem dX8_rivalsOf_35 : decode cX8_rivalsOf 35 = .ok (.iload_n 1, 1) := by decide +kernel
theorem dX8_rivalsOf_36 : decode cX8_rivalsOf 36 = .ok (.if_icmp .eq 30, 3) := by decide +kernel
theorem dX8_rivalsOf_39 : decode cX8_rivalsOf 39 = .ok (.aload_n 0, 1) := by decide +kernel
theorem dX8_rivalsOf_40 : decode cX8_rivalsOf 40 = .ok (.getfield 9, 3) := by decide +kernel
theorem dX8_rivalsOf_43 : decode cX8_rivalsOf 43 = .ok (.iload 4, 2) := by decide +kernel
theorem dX8_rivalsOf_45 : decode cX8_rivalsOf 45 = .ok (.iaload, 1) := by decide +kernel
theorem dX8_rivalsOf_46 : decode cX8_rivalsOf 46 = .ok (.aload_n 0, 1) := by decide +kernel
theorem dX8_rivalsOf_47 : decode cX8_rivalsOf 47 = .ok (.getfield 9, 3) := by decide +kernel
theorem dX8_rivalsOf_50 : decode cX8_rivalsOf 50 = .ok (.iload_n 1, 1) := by decide +kernel
theorem dX8_rivalsOf_51 : decode cX8_rivalsOf 51 = .ok (.iaload, 1) := by decide +kernel
theorem dX8_rivalsOf_52 : decode cX8_rivalsOf 52 = .ok (.iload_n 2, 1) := by decide +kernel
theorem dX8_rivalsOf_53 : decode cX8_rivalsOf 53 = .ok (.invokestatic 107, 3) := by decide +kernel
theorem dX8_rivalsOf_56 : decode cX8_rivalsOf 56 = .ok (.ifCond .eq 10, 3) := by decide +kernel
theorem dX8_rivalsOf_59 : decode cX8_rivalsOf 59 = .ok (.iload_n 3, 1) := by decide +kernel
theorem dX8_rivalsOf_60 : decode cX8_rivalsOf 60 = .ok (.iconst 1, 1) := by decide +kernel
theorem dX8_rivalsOf_61 : decode cX8_rivalsOf 61 = .ok (.iload 4, 2) := by decide +kernel
theorem dX8_rivalsOf_63 : decode cX8_rivalsOf 63 = .ok (.ishl, 1) := by decide +kernel
theorem dX8_rivalsOf_64 : decode cX8_rivalsOf 64 = .ok (.ior, 1) := by decide +kernel
theorem dX8_rivalsOf_65 : decode cX8_rivalsOf 65 = .ok (.istore_n 3, 1) := by decide +kernel
theorem dX8_rivalsOf_66 : decode cX8_rivalsOf 66 = .ok (.iinc 4 1, 3) := by decide +kernel
theorem dX8_rivalsOf_69 : decode cX8_rivalsOf 69 = .ok (.goto (-64), 3) := by decide +kernel
theorem dX8_rivalsOf_72 : decode cX8_rivalsOf 72 = .ok (.iload_n 3, 1) := by decide +kernel
theorem dX8_rivalsOf_73 : decode cX8_rivalsOf 73 = .ok (.ireturn, 1) := by decide +kernel
theorem dX8_isSeen_0 : decode cX8_isSeen 0 = .ok (.aload_n 0, 1) := by decide +kernel
theorem dX8_isSeen_1 : decode cX8_isSeen 1 = .ok (.astore_n 2, 1) := by decide +kernel
theorem dX8_isSeen_2 : decode cX8_isSeen 2 = .ok (.aload_n 2, 1) := by decide +kernel
theorem dX8_isSeen_3 : decode cX8_isSeen 3 = .ok (.ifnull 21, 3) := by decide +kernel
theorem dX8_isSeen_6 : decode cX8_isSeen 6 = .ok (.aload_n 2, 1) := by decide +kernel
theorem dX8_isSeen_7 : decode cX8_isSeen 7 = .ok (.iload_n 1, 1) := by decide +kernel
theorem dX8_isSeen_8 : decode cX8_isSeen 8 = .ok (.invokevirtual 111, 3) := by decide +kernel
theorem dX8_isSeen_11 : decode cX8_isSeen 11 = .ok (.ifCond .ne 5, 3) := by decide +kernel
theorem dX8_isSeen_14 : decode cX8_isSeen 14 = .ok (.iconst 0, 1) := by decide +kernel
theorem dX8_isSeen_15 : decode cX8_isSeen 15 = .ok (.ireturn, 1) := by decide +kernel
theorem dX8_isSeen_16 : decode cX8_isSeen 16 = .ok (.aload_n 2, 1) := by decide +kernel
theorem dX8_isSeen_17 : decode cX8_isSeen 17 = .ok (.getfield 114, 3) := by decide +kernel
theorem dX8_isSeen_20 : decode cX8_isSeen 20 = .ok (.astore_n 2, 1) := by decide +kernel
theorem dX8_isSeen_21 : decode cX8_isSeen 21 = .ok (.goto (-19), 3) := by decide +kernel
theorem dX8_isSeen_24 : decode cX8_isSeen 24 = .ok (.iconst 1, 1) := by decide +kernel
theorem dX8_isSeen_25 : decode cX8_isSeen 25 = .ok (.ireturn, 1) := by decide +kernel
theorem dX8_hasUnlikeKeys_0 : decode cX8_hasUnlikeKeys 0 = .ok (.iconst 0, 1) := by decide +kernel
theorem dX8_hasUnlikeKeys_1 : decode cX8_hasUnlikeKeys 1 = .ok (.istore_n 2, 1) := by decide +kernel
theorem dX8_hasUnlikeKeys_2 : decode cX8_hasUnlikeKeys 2 = .ok (.iload_n 2, 1) := by decide +kernel
theorem dX8_hasUnlikeKeys_3 : decode cX8_hasUnlikeKeys 3 = .ok (.aload_n 0, 1) := by decide +kernel
theorem dX8_hasUnlikeKeys_4 : decode cX8_hasUnlikeKeys 4 = .ok (.getfield 61, 3) := by decide +kernel
theorem dX8_hasUnlikeKeys_7 : decode cX8_hasUnlikeKeys 7 = .ok (.if_icmp .ge 40, 3) := by decide +kernel
theorem dX8_hasUnlikeKeys_10 : decode cX8_hasUnlikeKeys 10 = .ok (.iload_n 2, 1) := by decide +kernel
theorem dX8_hasUnlikeKeys_11 : decode cX8_hasUnlikeKeys 11 = .ok (.aload_n 0, 1) := by decide +kernel
theorem dX8_hasUnlikeKeys_12 : decode cX8_hasUnlikeKeys 12 = .ok (.getfield 15, 3) := by decide +kernel
theorem dX8_hasUnlikeKeys_15 : decode cX8_hasUnlikeKeys 15 = .ok (.arraylength, 1) := by decide +kernel
theorem dX8_hasUnlikeKeys_16 : decode cX8_hasUnlikeKeys 16 = .ok (.if_icmp .ge 31, 3) := by decide +kernel
theorem dX8_hasUnlikeKeys_19 : decode cX8_hasUnlikeKeys 19 = .ok (.iload_n 1, 1) := by decide +kernel
theorem dX8_hasUnlikeKeys_20 : decode cX8_hasUnlikeKeys 20 = .ok (.iload_n 2, 1) := by decide +kernel
theorem dX8_hasUnlikeKeys_21 : decode cX8_hasUnlikeKeys 21 = .ok (.ishr, 1) := by decide +kernel
theorem dX8_hasUnlikeKeys_22 : decode cX8_hasUnlikeKeys 22 = .ok (.iconst 1, 1) := by decide +kernel
theorem dX8_hasUnlikeKeys_23 : decode cX8_hasUnlikeKeys 23 = .ok (.iand, 1) := by decide +kernel
theorem dX8_hasUnlikeKeys_24 : decode cX8_hasUnlikeKeys 24 = .ok (.iconst 1, 1) := by decide +kernel
theorem dX8_hasUnlikeKeys_25 : decode cX8_hasUnlikeKeys 25 = .ok (.if_icmp .ne 16, 3) := by decide +kernel
theorem dX8_hasUnlikeKeys_28 : decode cX8_hasUnlikeKeys 28 = .ok (.iload_n 1, 1) := by decide +kernel
theorem dX8_hasUnlikeKeys_29 : decode cX8_hasUnlikeKeys 29 = .ok (.aload_n 0, 1) := by decide +kernel
theorem dX8_hasUnlikeKeys_30 : decode cX8_hasUnlikeKeys 30 = .ok (.getfield 15, 3) := by decide +kernel
theorem dX8_hasUnlikeKeys_33 : decode cX8_hasUnlikeKeys 33 = .ok (.iload_n 2, 1) := by decide +kernel
theorem dX8_hasUnlikeKeys_34 : decode cX8_hasUnlikeKeys 34 = .ok (.iaload, 1) := by decide +kernel
theorem dX8_hasUnlikeKeys_35 : decode cX8_hasUnlikeKeys 35 = .ok (.iand, 1) := by decide +kernel
theorem dX8_hasUnlikeKeys_36 : decode cX8_hasUnlikeKeys 36 = .ok (.ifCond .eq 5, 3) := by decide +kernel
theorem dX8_hasUnlikeKeys_39 : decode cX8_hasUnlikeKeys 39 = .ok (.iconst 0, 1) := by decide +kernel
theorem dX8_hasUnlikeKeys_40 : decode cX8_hasUnlikeKeys 40 = .ok (.ireturn, 1) := by decide +kernel
theorem dX8_hasUnlikeKeys_41 : decode cX8_hasUnlikeKeys 41 = .ok (.iinc 2 1, 3) := by decide +kernel
theorem dX8_hasUnlikeKeys_44 : decode cX8_hasUnlikeKeys 44 = .ok (.goto (-42), 3) := by decide +kernel
theorem dX8_hasUnlikeKeys_47 : decode cX8_hasUnlikeKeys 47 = .ok (.iconst 1, 1) := by decide +kernel
theorem dX8_hasUnlikeKeys_48 : decode cX8_hasUnlikeKeys 48 = .ok (.ireturn, 1) := by decide +kernel
theorem dX9_init_0 : decode cX9_init 0 = .ok (.aload_n 0, 1) := by decide +kernel
theorem dX9_init_1 : decode cX9_init 1 = .ok (.invokespecial 3, 3) := by decide +kernel
theorem dX9_init_4 : decode cX9_init 4 = .ok (.aload_n 0, 1) := by decide +kernel
theorem dX9_init_5 : decode cX9_init 5 = .ok (.new 9, 3) := by decide +kernel
theorem dX9_init_8 : decode cX9_init 8 = .ok (.dup, 1) := by decide +kernel
theorem dX9_init_9 : decode cX9_init 9 = .ok (.bipush 12, 2) := by decide +kernel
theorem dX9_init_11 : decode cX9_init 11 = .ok (.invokespecial 11, 3) := by decide +kernel
theorem dX9_init_14 : decode cX9_init 14 = .ok (.putfield 14, 3) := by decide +kernel
theorem dX9_init_17 : decode cX9_init 17 = .ok (.aload_n 0, 1) := by decide +kernel
theorem dX9_init_18 : decode cX9_init 18 = .ok (.new 9, 3) := by decide +kernel
theorem dX9_init_21 : decode cX9_init 21 = .ok (.dup, 1) := by decide +kernel
theorem dX9_init_22 : decode cX9_init 22 = .ok (.bipush 32, 2) := by decide +kernel
theorem dX9_init_24 : decode cX9_init 24 = .ok (.invokespecial 11, 3) := by decide +kernel
theorem dX9_init_27 : decode cX9_init 27 = .ok (.putfield 20, 3) := by decide +kernel
theorem dX9_init_30 : decode cX9_init 30 = .ok (.aload_n 0, 1) := by decide +kernel
theorem dX9_init_31 : decode cX9_init 31 = .ok (.iload_n 1, 1) := by decide +kernel
theorem dX9_init_32 : decode cX9_init 32 = .ok (.putfield 23, 3) := by decide +kernel
theorem dX9_init_35 : decode cX9_init 35 = .ok (.aload_n 0, 1) := by decide +kernel
theorem dX9_init_36 : decode cX9_init 36 = .ok (.iload_n 2, 1) := by decide +kernel
theorem dX9_init_37 : decode cX9_init 37 = .ok (.putfield 27, 3) := by decide +kernel
theorem dX9_init_40 : decode cX9_init 40 = .ok (.aload_n 0, 1) := by decide +kernel
theorem dX9_init_41 : decode cX9_init 41 = .ok (.iload_n 3, 1) := by decide +kernel
theorem dX9_init_42 : decode cX9_init 42 = .ok (.putfield 30, 3) := by decide +kernel
theorem dX9_init_45 : decode cX9_init 45 = .ok (.aload_n 0, 1) := by decide +kernel
theorem dX9_init_46 : decode cX9_init 46 = .ok (.iload 4, 2) := by decide +kernel
theorem dX9_init_48 : decode cX9_init 48 = .ok (.putfield 33, 3) := by decide +kernel
theorem dX9_init_51 : decode cX9_init 51 = .ok (.aload_n 0, 1) := by decide +kernel
theorem dX9_init_52 : decode cX9_init 52 = .ok (.aload 5, 2) := by decide +kernel
theorem dX9_init_54 : decode cX9_init 54 = .ok (.putfield 36, 3) := by decide +kernel
theorem dX9_init_57 : decode cX9_init 57 = .ok (.aload_n 0, 1) := by decide +kernel
theorem dX9_init_58 : decode cX9_init 58 = .ok (.aload 6, 2) := by decide +kernel
theorem dX9_init_60 : decode cX9_init 60 = .ok (.putfield 40, 3) := by decide +kernel
theorem dX9_init_63 : decode cX9_init 63 = .ok (.return_, 1) := by decide +kernel
theorem dX9_selects_0 : decode cX9_selects 0 = .ok (.iconst 1, 1) := by decide +kernel
theorem dX9_selects_1 : decode cX9_selects 1 = .ok (.ireturn, 1) := by decide +kernel
theorem dX9_seekConflict_0 : decode cX9_seekConflict 0 = .ok (.aload_n 1, 1) := by decide +kernel
theorem dX9_seekConflict_1 : decode cX9_seekConflict 1 = .ok (.aload_n 0, 1) := by decide +kernel
theorem dX9_seekConflict_2 : decode cX9_seekConflict 2 = .ok (.iconst 1, 1) := by decide +kernel
theorem dX9_seekConflict_3 : decode cX9_seekConflict 3 = .ok (.aload_n 0, 1) := by decide +kernel
theorem dX9_seekConflict_4 : decode cX9_seekConflict 4 = .ok (.getfield 30, 3) := by decide +kernel
theorem dX9_seekConflict_7 : decode cX9_seekConflict 7 = .ok (.aload_n 0, 1) := by decide +kernel
theorem dX9_seekConflict_8 : decode cX9_seekConflict 8 = .ok (.getfield 27, 3) := by decide +kernel
theorem dX9_seekConflict_11 : decode cX9_seekConflict 11 = .ok (.invokevirtual 43, 3) := by decide +kernel
theorem dX9_seekConflict_14 : decode cX9_seekConflict 14 = .ok (.aload_n 1, 1) := by decide +kernel
theorem dX9_seekConflict_15 : decode cX9_seekConflict 15 = .ok (.invokevirtual 49, 3) := by decide +kernel
theorem dX9_seekConflict_18 : decode cX9_seekConflict 18 = .ok (.ifCond .ne 8, 3) := by decide +kernel
theorem dX9_seekConflict_21 : decode cX9_seekConflict 21 = .ok (.aload_n 0, 1) := by decide +kernel
theorem dX9_seekConflict_22 : decode cX9_seekConflict 22 = .ok (.aload_n 1, 1) := by decide +kernel
theorem dX9_seekConflict_23 : decode cX9_seekConflict 23 = .ok (.invokevirtual 53, 3) := by decide +kernel
theorem dX9_seekConflict_26 : decode cX9_seekConflict 26 = .ok (.return_, 1) := by decide +kernel
theorem dX9_wantsKeyOf_0 : decode cX9_wantsKeyOf 0 = .ok (.aload_n 0, 1) := by decide +kernel
theorem dX9_wantsKeyOf_1 : decode cX9_wantsKeyOf 1 = .ok (.getfield 20, 3) := by decide +kernel
theorem dX9_wantsKeyOf_4 : decode cX9_wantsKeyOf 4 = .ok (.iload_n 1, 1) := by decide +kernel
theorem dX9_wantsKeyOf_5 : decode cX9_wantsKeyOf 5 = .ok (.aload_n 0, 1) := by decide +kernel
theorem dX9_wantsKeyOf_6 : decode cX9_wantsKeyOf 6 = .ok (.getfield 30, 3) := by decide +kernel
theorem dX9_wantsKeyOf_9 : decode cX9_wantsKeyOf 9 = .ok (.invokevirtual 57, 3) := by decide +kernel
theorem dX9_wantsKeyOf_12 : decode cX9_wantsKeyOf 12 = .ok (.iconst (-1), 1) := by decide +kernel
theorem dX9_wantsKeyOf_13 : decode cX9_wantsKeyOf 13 = .ok (.if_icmp .eq 7, 3) := by decide +kernel
theorem dX9_wantsKeyOf_16 : decode cX9_wantsKeyOf 16 = .ok (.iconst 1, 1) := by decide +kernel
theorem dX9_wantsKeyOf_17 : decode cX9_wantsKeyOf 17 = .ok (.goto 4, 3) := by decide +kernel
theorem dX9_wantsKeyOf_20 : decode cX9_wantsKeyOf 20 = .ok (.iconst 0, 1) := by decide +kernel
theorem dX9_wantsKeyOf_21 : decode cX9_wantsKeyOf 21 = .ok (.ireturn, 1) := by decide +kernel
theorem dX9_wantParts_0 : decode cX9_wantParts 0 = .ok (.aload_n 0, 1) := by decide +kernel
theorem dX9_wantParts_1 : decode cX9_wantParts 1 = .ok (.getfield 20, 3) := by decide +kernel
theorem dX9_wantParts_4 : decode cX9_wantParts 4 = .ok (.invokevirtual 61, 3) := by decide +kernel
theorem dX9_wantParts_7 : decode cX9_wantParts 7 = .ok (.iconst 0, 1) := by decide +kernel
theorem dX9_wantParts_8 : decode cX9_wantParts 8 = .ok (.istore_n 2, 1) := by decide +kernel
theorem dX9_wantParts_9 : decode cX9_wantParts 9 = .ok (.iload_n 2, 1) := by decide +kernel
theorem dX9_wantParts_10 : decode cX9_wantParts 10 = .ok (.aload_n 1, 1) := by decide +kernel
theorem dX9_wantParts_11 : decode cX9_wantParts 11 = .ok (.invokevirtual 64, 3) := by decide +kernel
theorem dX9_wantParts_14 : decode cX9_wantParts 14 = .ok (.if_icmp .ge 28, 3) := by decide +kernel
theorem dX9_wantParts_17 : decode cX9_wantParts 17 = .ok (.aload_n 0, 1) := by decide +kernel
theorem dX9_wantParts_18 : decode cX9_wantParts 18 = .ok (.getfield 20, 3) := by decide +kernel
theorem dX9_wantParts_21 : decode cX9_wantParts 21 = .ok (.aload_n 1, 1) := by decide +kernel
theorem dX9_wantParts_22 : decode cX9_wantParts 22 = .ok (.iload_n 2, 1) := by decide +kernel
theorem dX9_wantParts_23 : decode cX9_wantParts 23 = .ok (.invokevirtual 68, 3) := by decide +kernel
theorem dX9_wantParts_26 : decode cX9_wantParts 26 = .ok (.aload_n 0, 1) := by decide +kernel
theorem dX9_wantParts_27 : decode cX9_wantParts 27 = .ok (.getfield 27, 3) := by decide +kernel
theorem dX9_wantParts_30 : decode cX9_wantParts 30 = .ok (.invokestatic 72, 3) := by decide +kernel
theorem dX9_wantParts_33 : decode cX9_wantParts 33 = .ok (.invokevirtual 77, 3) := by decide +kernel
theorem dX9_wantParts_36 : decode cX9_wantParts 36 = .ok (.iinc 2 1, 3) := by decide +kernel
theorem dX9_wantParts_39 : decode cX9_wantParts 39 = .ok (.goto (-30), 3) := by decide +kernel
theorem dX9_wantParts_42 : decode cX9_wantParts 42 = .ok (.return_, 1) := by decide +kernel
theorem dX10_init_0 : decode cX10_init 0 = .ok (.aload_n 0, 1) := by decide +kernel
theorem dX10_init_1 : decode cX10_init 1 = .ok (.invokespecial 1, 3) := by decide +kernel
theorem dX10_init_4 : decode cX10_init 4 = .ok (.aload_n 0, 1) := by decide +kernel
theorem dX10_init_5 : decode cX10_init 5 = .ok (.iconst 3, 1) := by decide +kernel
theorem dX10_init_6 : decode cX10_init 6 = .ok (.anewarray 9, 3) := by decide +kernel
theorem dX10_init_9 : decode cX10_init 9 = .ok (.putfield 11, 3) := by decide +kernel
theorem dX10_init_12 : decode cX10_init 12 = .ok (.aload_n 0, 1) := by decide +kernel
theorem dX10_init_13 : decode cX10_init 13 = .ok (.bipush 10, 2) := by decide +kernel
theorem dX10_init_15 : decode cX10_init 15 = .ok (.anewarray 15, 3) := by decide +kernel
theorem dX10_init_18 : decode cX10_init 18 = .ok (.putfield 17, 3) := by decide +kernel
theorem dX10_init_21 : decode cX10_init 21 = .ok (.aload_n 0, 1) := by decide +kernel
theorem dX10_init_22 : decode cX10_init 22 = .ok (.new 21, 3) := by decide +kernel
theorem dX10_init_25 : decode cX10_init 25 = .ok (.dup, 1) := by decide +kernel
theorem dX10_init_26 : decode cX10_init 26 = .ok (.bipush 20, 2) := by decide +kernel
theorem dX10_init_28 : decode cX10_init 28 = .ok (.invokespecial 23, 3) := by decide +kernel
theorem dX10_init_31 : decode cX10_init 31 = .ok (.putfield 26, 3) := by decide +kernel
theorem dX10_init_34 : decode cX10_init 34 = .ok (.aload_n 0, 1) := by decide +kernel
theorem dX10_init_35 : decode cX10_init 35 = .ok (.new 30, 3) := by decide +kernel
theorem dX10_init_38 : decode cX10_init 38 = .ok (.dup, 1) := by decide +kernel
theorem dX10_init_39 : decode cX10_init 39 = .ok (.invokespecial 32, 3) := by decide +kernel
theorem dX10_init_42 : decode cX10_init 42 = .ok (.putfield 33, 3) := by decide +kernel
theorem dX10_init_45 : decode cX10_init 45 = .ok (.aload_n 0, 1) := by decide +kernel
theorem dX10_init_46 : decode cX10_init 46 = .ok (.new 37, 3) := by decide +kernel
theorem dX10_init_49 : decode cX10_init 49 = .ok (.dup, 1) := by decide +kernel
theorem dX10_init_50 : decode cX10_init 50 = .ok (.invokespecial 39, 3) := by decide +kernel
theorem dX10_init_53 : decode cX10_init 53 = .ok (.putfield 40, 3) := by decide +kernel
theorem dX10_init_56 : decode cX10_init 56 = .ok (.return_, 1) := by decide +kernel
theorem dX10_table_0 : decode cX10_table 0 = .ok (.iload_n 1, 1) := by decide +kernel
theorem dX10_table_1 : decode cX10_table 1 = .ok (.iconst 1, 1) := by decide +kernel
theorem dX10_table_2 : decode cX10_table 2 = .ok (.if_icmp .lt 21, 3) := by decide +kernel
theorem dX10_table_5 : decode cX10_table 5 = .ok (.iload_n 1, 1) := by decide +kernel
theorem dX10_table_6 : decode cX10_table 6 = .ok (.bipush 63, 2) := by decide +kernel
theorem dX10_table_8 : decode cX10_table 8 = .ok (.if_icmp .gt 15, 3) := by decide +kernel
theorem dX10_table_11 : decode cX10_table 11 = .ok (.iload_n 2, 1) := by decide +kernel
theorem dX10_table_12 : decode cX10_table 12 = .ok (.ifCond .eq 11, 3) := by decide +kernel
theorem dX10_table_15 : decode cX10_table 15 = .ok (.iload_n 2, 1) := by decide +kernel
theorem dX10_table_16 : decode cX10_table 16 = .ok (.iload_n 1, 1) := by decide +kernel
theorem dX10_table_17 : decode cX10_table 17 = .ok (.iconst (-1), 1) := by decide +kernel
theorem dX10_table_18 : decode cX10_table 18 = .ok (.ixor, 1) := by decide +kernel
theorem dX10_table_19 : decode cX10_table 19 = .ok (.iand, 1) := by decide +kernel
theorem dX10_table_20 : decode cX10_table 20 = .ok (.ifCond .eq 13, 3) := by decide +kernel
theorem dX10_table_23 : decode cX10_table 23 = .ok (.new 44, 3) := by decide +kernel
theorem dX10_table_26 : decode cX10_table 26 = .ok (.dup, 1) := by decide +kernel
theorem dX10_table_27 : decode cX10_table 27 = .ok (.ldc 46, 2) := by decide +kernel
theorem dX10_table_29 : decode cX10_table 29 = .ok (.invokespecial 48, 3) := by decide +kernel
theorem dX10_table_32 : decode cX10_table 32 = .ok (.athrow, 1) := by decide +kernel
theorem dX10_table_33 : decode cX10_table 33 = .ok (.aload_n 0, 1) := by decide +kernel
theorem dX10_table_34 : decode cX10_table 34 = .ok (.getfield 51, 3) := by decide +kernel
theorem dX10_table_37 : decode cX10_table 37 = .ok (.iconst 3, 1) := by decide +kernel
theorem dX10_table_38 : decode cX10_table 38 = .ok (.if_icmp .lt 13, 3) := by decide +kernel
theorem dX10_table_41 : decode cX10_table 41 = .ok (.new 55, 3) := by decide +kernel
theorem dX10_table_44 : decode cX10_table 44 = .ok (.dup, 1) := by decide +kernel
theorem dX10_table_45 : decode cX10_table 45 = .ok (.ldc 57, 2) := by decide +kernel
theorem dX10_table_47 : decode cX10_table 47 = .ok (.invokespecial 59, 3) := by decide +kernel
theorem dX10_table_50 : decode cX10_table 50 = .ok (.athrow, 1) := by decide +kernel
theorem dX10_table_51 : decode cX10_table 51 = .ok (.aload_n 0, 1) := by decide +kernel
theorem dX10_table_52 : decode cX10_table 52 = .ok (.getfield 11, 3) := by decide +kernel
theorem dX10_table_55 : decode cX10_table 55 = .ok (.aload_n 0, 1) := by decide +kernel
theorem dX10_table_56 : decode cX10_table 56 = .ok (.getfield 51, 3) := by decide +kernel
theorem dX10_table_59 : decode cX10_table 59 = .ok (.new 9, 3) := by decide +kernel
theorem dX10_table_62 : decode cX10_table 62 = .ok (.dup, 1) := by decide +kernel
theorem dX10_table_63 : decode cX10_table 63 = .ok (.iload_n 1, 1) := by decide +kernel
theorem dX10_table_64 : decode cX10_table 64 = .ok (.iload_n 2, 1) := by decide +kernel
theorem dX10_table_65 : decode cX10_table 65 = .ok (.invokespecial 60, 3) := by decide +kernel
theorem dX10_table_68 : decode cX10_table 68 = .ok (.aastore, 1) := by decide +kernel
theorem dX10_table_69 : decode cX10_table 69 = .ok (.aload_n 0, 1) := by decide +kernel
theorem dX10_table_70 : decode cX10_table 70 = .ok (.dup, 1) := by decide +kernel
theorem dX10_table_71 : decode cX10_table 71 = .ok (.getfield 51, 3) := by decide +kernel
theorem dX10_table_74 : decode cX10_table 74 = .ok (.iconst 1, 1) := by decide +kernel
theorem dX10_table_75 : decode cX10_table 75 = .ok (.iadd, 1) := by decide +kernel
theorem dX10_table_76 : decode cX10_table 76 = .ok (.putfield 51, 3) := by decide +kernel
theorem dX10_table_79 : decode cX10_table 79 = .ok (.aload_n 0, 1) := by decide +kernel
theorem dX10_table_80 : decode cX10_table 80 = .ok (.getfield 51, 3) := by decide +kernel
theorem dX10_table_83 : decode cX10_table 83 = .ok (.iconst 1, 1) := by decide +kernel
theorem dX10_table_84 : decode cX10_table 84 = .ok (.isub, 1) := by decide +kernel
theorem dX10_table_85 : decode cX10_table 85 = .ok (.ireturn, 1) := by decide +kernel
theorem dX10_insert_0 : decode cX10_insert 0 = .ok (.aload_n 0, 1) := by decide +kernel
theorem dX10_insert_1 : decode cX10_insert 1 = .ok (.iload_n 1, 1) := by decide +kernel
theorem dX10_insert_2 : decode cX10_insert 2 = .ok (.invokevirtual 63, 3) := by decide +kernel
theorem dX10_insert_5 : decode cX10_insert 5 = .ok (.astore_n 3, 1) := by decide +kernel
theorem dX10_insert_6 : decode cX10_insert 6 = .ok (.aload_n 3, 1) := by decide +kernel
theorem dX10_insert_7 : decode cX10_insert 7 = .ok (.ifnonnull 13, 3) := by decide +kernel
theorem dX10_insert_10 : decode cX10_insert 10 = .ok (.new 67, 3) := by decide +kernel
theorem dX10_insert_13 : decode cX10_insert 13 = .ok (.dup, 1) := by decide +kernel
theorem dX10_insert_14 : decode cX10_insert 14 = .ok (.ldc 69, 2) := by decide +kernel
theorem dX10_insert_16 : decode cX10_insert 16 = .ok (.invokespecial 71, 3) := by decide +kernel
theorem dX10_insert_19 : decode cX10_insert 19 = .ok (.athrow, 1) := by decide +kernel
theorem dX10_insert_20 : decode cX10_insert 20 = .ok (.iload_n 2, 1) := by decide +kernel
theorem dX10_insert_21 : decode cX10_insert 21 = .ok (.aload_n 3, 1) := by decide +kernel
theorem dX10_insert_22 : decode cX10_insert 22 = .ok (.getfield 72, 3) := by decide +kernel
theorem dX10_insert_25 : decode cX10_insert 25 = .ok (.invokestatic 75, 3) := by decide +kernel
theorem dX10_insert_28 : decode cX10_insert 28 = .ok (.ifCond .ne 13, 3) := by decide +kernel
theorem dX10_insert_31 : decode cX10_insert 31 = .ok (.new 44, 3) := by decide +kernel
theorem dX10_insert_34 : decode cX10_insert 34 = .ok (.dup, 1) := by decide +kernel
theorem dX10_insert_35 : decode cX10_insert 35 = .ok (.ldc 81, 2) := by decide +kernel
theorem dX10_insert_37 : decode cX10_insert 37 = .ok (.invokespecial 48, 3) := by decide +kernel
theorem dX10_insert_40 : decode cX10_insert 40 = .ok (.athrow, 1) := by decide +kernel
theorem dX10_insert_41 : decode cX10_insert 41 = .ok (.aload_n 3, 1) := by decide +kernel
theorem dX10_insert_42 : decode cX10_insert 42 = .ok (.getfield 83, 3) := by decide +kernel
theorem dX10_insert_45 : decode cX10_insert 45 = .ok (.invokevirtual 86, 3) := by decide +kernel
theorem dX10_insert_48 : decode cX10_insert 48 = .ok (.bipush 12, 2) := by decide +kernel
theorem dX10_insert_50 : decode cX10_insert 50 = .ok (.if_icmp .ge 19, 3) := by decide +kernel
theorem dX10_insert_53 : decode cX10_insert 53 = .ok (.aload_n 3, 1) := by decide +kernel
theorem dX10_insert_54 : decode cX10_insert 54 = .ok (.getfield 83, 3) := by decide +kernel
theorem dX10_insert_57 : decode cX10_insert 57 = .ok (.iload_n 2, 1) := by decide +kernel
theorem dX10_insert_58 : decode cX10_insert 58 = .ok (.aload_n 3, 1) := by decide +kernel
theorem dX10_insert_59 : decode cX10_insert 59 = .ok (.getfield 90, 3) := by decide +kernel
theorem dX10_insert_62 : decode cX10_insert 62 = .ok (.invokevirtual 93, 3) := by decide +kernel
theorem dX10_insert_65 : decode cX10_insert 65 = .ok (.iconst (-1), 1) := by decide +kernel
theorem dX10_insert_66 : decode cX10_insert 66 = .ok (.if_icmp .eq 13, 3) := by decide +kernel
theorem dX10_insert_69 : decode cX10_insert 69 = .ok (.new 55, 3) := by decide +kernel
theorem dX10_insert_72 : decode cX10_insert 72 = .ok (.dup, 1) := by decide +kernel
theorem dX10_insert_73 : decode cX10_insert 73 = .ok (.ldc 97, 2) := by decide +kernel
theorem dX10_insert_75 : decode cX10_insert 75 = .ok (.invokespecial 59, 3) := by decide +kernel
theorem dX10_insert_78 : decode cX10_insert 78 = .ok (.athrow, 1) := by decide +kernel
theorem dX10_insert_79 : decode cX10_insert 79 = .ok (.aload_n 3, 1) := by decide +kernel
theorem dX10_insert_80 : decode cX10_insert 80 = .ok (.getfield 83, 3) := by decide +kernel
theorem dX10_insert_83 : decode cX10_insert 83 = .ok (.iload_n 2, 1) := by decide +kernel
theorem dX10_insert_84 : decode cX10_insert 84 = .ok (.invokevirtual 99, 3) := by decide +kernel
theorem dX10_insert_87 : decode cX10_insert 87 = .ok (.aload_n 0, 1) := by decide +kernel
theorem dX10_insert_88 : decode cX10_insert 88 = .ok (.invokevirtual 102, 3) := by decide +kernel
theorem dX10_insert_91 : decode cX10_insert 91 = .ok (.aload_n 3, 1) := by decide +kernel
theorem dX10_insert_92 : decode cX10_insert 92 = .ok (.getfield 83, 3) := by decide +kernel
theorem dX10_insert_95 : decode cX10_insert 95 = .ok (.invokevirtual 86, 3) := by decide +kernel
theorem dX10_insert_98 : decode cX10_insert 98 = .ok (.ireturn, 1) := by decide +kernel
theorem dX10_delete_0 : decode cX10_delete 0 = .ok (.aload_n 0, 1) := by decide +kernel
theorem dX10_delete_1 : decode cX10_delete 1 = .ok (.iload_n 1, 1) := by decide +kernel
theorem dX10_delete_2 : decode cX10_delete 2 = .ok (.invokevirtual 63, 3) := by decide +kernel
theorem dX10_delete_5 : decode cX10_delete 5 = .ok (.astore_n 3, 1) := by decide +kernel
theorem dX10_delete_6 : decode cX10_delete 6 = .ok (.aload_n 3, 1) := by decide +kernel
theorem dX10_delete_7 : decode cX10_delete 7 = .ok (.ifnonnull 13, 3) := by decide +kernel
theorem dX10_delete_10 : decode cX10_delete 10 = .ok (.new 67, 3) := by decide +kernel
theorem dX10_delete_13 : decode cX10_delete 13 = .ok (.dup, 1) := by decide +kernel
theorem dX10_delete_14 : decode cX10_delete 14 = .ok (.ldc 69, 2) := by decide +kernel
theorem dX10_delete_16 : decode cX10_delete 16 = .ok (.invokespecial 71, 3) := by decide +kernel
theorem dX10_delete_19 : decode cX10_delete 19 = .ok (.athrow, 1) := by decide +kernel
theorem dX10_delete_20 : decode cX10_delete 20 = .ok (.aload_n 3, 1) := by decide +kernel
theorem dX10_delete_21 : decode cX10_delete 21 = .ok (.getfield 83, 3) := by decide +kernel
theorem dX10_delete_24 : decode cX10_delete 24 = .ok (.iload_n 2, 1) := by decide +kernel
theorem dX10_delete_25 : decode cX10_delete 25 = .ok (.invokevirtual 105, 3) := by decide +kernel
theorem dX10_delete_28 : decode cX10_delete 28 = .ok (.ifCond .ne 13, 3) := by decide +kernel
theorem dX10_delete_31 : decode cX10_delete 31 = .ok (.new 109, 3) := by decide +kernel
theorem dX10_delete_34 : decode cX10_delete 34 = .ok (.dup, 1) := by decide +kernel
theorem dX10_delete_35 : decode cX10_delete 35 = .ok (.ldc 111, 2) := by decide +kernel
theorem dX10_delete_37 : decode cX10_delete 37 = .ok (.invokespecial 113, 3) := by decide +kernel
theorem dX10_delete_40 : decode cX10_delete 40 = .ok (.athrow, 1) := by decide +kernel
theorem dX10_delete_41 : decode cX10_delete 41 = .ok (.aload_n 3, 1) := by decide +kernel
theorem dX10_delete_42 : decode cX10_delete 42 = .ok (.getfield 83, 3) := by decide +kernel
theorem dX10_delete_45 : decode cX10_delete 45 = .ok (.iload_n 2, 1) := by decide +kernel
theorem dX10_delete_46 : decode cX10_delete 46 = .ok (.invokevirtual 114, 3) := by decide +kernel
theorem dX10_delete_49 : decode cX10_delete 49 = .ok (.aload_n 0, 1) := by decide +kernel
theorem dX10_delete_50 : decode cX10_delete 50 = .ok (.invokevirtual 102, 3) := by decide +kernel
theorem dX10_delete_53 : decode cX10_delete 53 = .ok (.aload_n 3, 1) := by decide +kernel
theorem dX10_delete_54 : decode cX10_delete 54 = .ok (.getfield 83, 3) := by decide +kernel
theorem dX10_delete_57 : decode cX10_delete 57 = .ok (.invokevirtual 86, 3) := by decide +kernel
theorem dX10_delete_60 : decode cX10_delete 60 = .ok (.ireturn, 1) := by decide +kernel
theorem dX10_of_0 : decode cX10_of 0 = .ok (.aload_n 0, 1) := by decide +kernel
theorem dX10_of_1 : decode cX10_of 1 = .ok (.iload_n 1, 1) := by decide +kernel
theorem dX10_of_2 : decode cX10_of 2 = .ok (.invokevirtual 63, 3) := by decide +kernel
theorem dX10_of_5 : decode cX10_of 5 = .ok (.astore_n 2, 1) := by decide +kernel
theorem dX10_of_6 : decode cX10_of 6 = .ok (.aload_n 2, 1) := by decide +kernel
theorem dX10_of_7 : decode cX10_of 7 = .ok (.ifnonnull 13, 3) := by decide +kernel
theorem dX10_of_10 : decode cX10_of 10 = .ok (.new 67, 3) := by decide +kernel
theorem dX10_of_13 : decode cX10_of 13 = .ok (.dup, 1) := by decide +kernel
theorem dX10_of_14 : decode cX10_of 14 = .ok (.ldc 69, 2) := by decide +kernel
theorem dX10_of_16 : decode cX10_of 16 = .ok (.invokespecial 71, 3) := by decide +kernel
theorem dX10_of_19 : decode cX10_of 19 = .ok (.athrow, 1) := by decide +kernel
theorem dX10_of_20 : decode cX10_of 20 = .ok (.aload_n 0, 1) := by decide +kernel
theorem dX10_of_21 : decode cX10_of 21 = .ok (.getfield 117, 3) := by decide +kernel
theorem dX10_of_24 : decode cX10_of 24 = .ok (.bipush 10, 2) := by decide +kernel
theorem dX10_of_26 : decode cX10_of 26 = .ok (.if_icmp .lt 13, 3) := by decide +kernel
theorem dX10_of_29 : decode cX10_of 29 = .ok (.new 55, 3) := by decide +kernel
theorem dX10_of_32 : decode cX10_of 32 = .ok (.dup, 1) := by decide +kernel
theorem dX10_of_33 : decode cX10_of 33 = .ok (.ldc 120, 2) := by decide +kernel
theorem dX10_of_35 : decode cX10_of 35 = .ok (.invokespecial 59, 3) := by decide +kernel
theorem dX10_of_38 : decode cX10_of 38 = .ok (.athrow, 1) := by decide +kernel
theorem dX10_of_39 : decode cX10_of 39 = .ok (.aload_n 0, 1) := by decide +kernel
theorem dX10_of_40 : decode cX10_of 40 = .ok (.new 122, 3) := by decide +kernel
theorem dX10_of_43 : decode cX10_of 43 = .ok (.dup, 1) := by decide +kernel
theorem dX10_of_44 : decode cX10_of 44 = .ok (.aload_n 0, 1) := by decide +kernel
theorem dX10_of_45 : decode cX10_of 45 = .ok (.getfield 117, 3) := by decide +kernel
theorem dX10_of_48 : decode cX10_of 48 = .ok (.aload_n 2, 1) := by decide +kernel
theorem dX10_of_49 : decode cX10_of 49 = .ok (.iconst 1, 1) := by decide +kernel
theorem dX10_of_50 : decode cX10_of 50 = .ok (.iload_n 1, 1) := by decide +kernel
theorem dX10_of_51 : decode cX10_of 51 = .ok (.ishl, 1) := by decide +kernel
theorem dX10_of_52 : decode cX10_of 52 = .ok (.invokespecial 124, 3) := by decide +kernel
theorem dX10_of_55 : decode cX10_of 55 = .ok (.invokevirtual 127, 3) := by decide +kernel
theorem dX10_of_58 : decode cX10_of 58 = .ok (.ireturn, 1) := by decide +kernel
theorem dX10_select_0 : decode cX10_select 0 = .ok (.aload_n 0, 1) := by decide +kernel
theorem dX10_select_1 : decode cX10_select 1 = .ok (.iload_n 1, 1) := by decide +kernel
theorem dX10_select_2 : decode cX10_select 2 = .ok (.invokevirtual 131, 3) := by decide +kernel
theorem dX10_select_5 : decode cX10_select 5 = .ok (.astore 5, 2) := by decide +kernel
theorem dX10_select_7 : decode cX10_select 7 = .ok (.aload 5, 2) := by decide +kernel
theorem dX10_select_9 : decode cX10_select 9 = .ok (.ifnonnull 13, 3) := by decide +kernel
theorem dX10_select_12 : decode cX10_select 12 = .ok (.new 67, 3) := by decide +kernel
theorem dX10_select_15 : decode cX10_select 15 = .ok (.dup, 1) := by decide +kernel
theorem dX10_select_16 : decode cX10_select 16 = .ok (.ldc 135, 2) := by decide +kernel
theorem dX10_select_18 : decode cX10_select 18 = .ok (.invokespecial 71, 3) := by decide +kernel
theorem dX10_select_21 : decode cX10_select 21 = .ok (.athrow, 1) := by decide +kernel
theorem dX10_select_22 : decode cX10_select 22 = .ok (.iload_n 2, 1) := by decide +kernel
theorem dX10_select_23 : decode cX10_select 23 = .ok (.aload 5, 2) := by decide +kernel
theorem dX10_select_25 : decode cX10_select 25 = .ok (.getfield 137, 3) := by decide +kernel
theorem dX10_select_28 : decode cX10_select 28 = .ok (.invokestatic 138, 3) := by decide +kernel
theorem dX10_select_31 : decode cX10_select 31 = .ok (.ifCond .eq 10, 3) := by decide +kernel
theorem dX10_select_34 : decode cX10_select 34 = .ok (.iload_n 3, 1) := by decide +kernel
theorem dX10_select_35 : decode cX10_select 35 = .ok (.invokestatic 141, 3) := by decide +kernel
theorem dX10_select_38 : decode cX10_select 38 = .ok (.ifCond .ne 13, 3) := by decide +kernel
theorem dX10_select_41 : decode cX10_select 41 = .ok (.new 44, 3) := by decide +kernel
theorem dX10_select_44 : decode cX10_select 44 = .ok (.dup, 1) := by decide +kernel
theorem dX10_select_45 : decode cX10_select 45 = .ok (.ldc 144, 2) := by decide +kernel
theorem dX10_select_47 : decode cX10_select 47 = .ok (.invokespecial 48, 3) := by decide +kernel
theorem dX10_select_50 : decode cX10_select 50 = .ok (.athrow, 1) := by decide +kernel
theorem dX10_select_51 : decode cX10_select 51 = .ok (.aload_n 0, 1) := by decide +kernel
theorem dX10_select_52 : decode cX10_select 52 = .ok (.getfield 117, 3) := by decide +kernel
theorem dX10_select_55 : decode cX10_select 55 = .ok (.bipush 10, 2) := by decide +kernel
theorem dX10_select_57 : decode cX10_select 57 = .ok (.if_icmp .lt 13, 3) := by decide +kernel
theorem dX10_select_60 : decode cX10_select 60 = .ok (.new 55, 3) := by decide +kernel
theorem dX10_select_63 : decode cX10_select 63 = .ok (.dup, 1) := by decide +kernel
theorem dX10_select_64 : decode cX10_select 64 = .ok (.ldc 120, 2) := by decide +kernel
theorem dX10_select_66 : decode cX10_select 66 = .ok (.invokespecial 59, 3) := by decide +kernel
theorem dX10_select_69 : decode cX10_select 69 = .ok (.athrow, 1) := by decide +kernel
theorem dX10_select_70 : decode cX10_select 70 = .ok (.aload_n 0, 1) := by decide +kernel
theorem dX10_select_71 : decode cX10_select 71 = .ok (.new 146, 3) := by decide +kernel
theorem dX10_select_74 : decode cX10_select 74 = .ok (.dup, 1) := by decide +kernel
theorem dX10_select_75 : decode cX10_select 75 = .ok (.aload_n 0, 1) := by decide +kernel
theorem dX10_select_76 : decode cX10_select 76 = .ok (.getfield 117, 3) := by decide +kernel
theorem dX10_select_79 : decode cX10_select 79 = .ok (.aload 5, 2) := by decide +kernel
theorem dX10_select_81 : decode cX10_select 81 = .ok (.iload_n 2, 1) := by decide +kernel
theorem dX10_select_82 : decode cX10_select 82 = .ok (.iload_n 3, 1) := by decide +kernel
theorem dX10_select_83 : decode cX10_select 83 = .ok (.iload 4, 2) := by decide +kernel
theorem dX10_select_85 : decode cX10_select 85 = .ok (.invokespecial 148, 3) := by decide +kernel
theorem dX10_select_88 : decode cX10_select 88 = .ok (.invokevirtual 127, 3) := by decide +kernel
theorem dX10_select_91 : decode cX10_select 91 = .ok (.ireturn, 1) := by decide +kernel
theorem dX10_drop_0 : decode cX10_drop 0 = .ok (.aload_n 0, 1) := by decide +kernel
theorem dX10_drop_1 : decode cX10_drop 1 = .ok (.iload_n 1, 1) := by decide +kernel
theorem dX10_drop_2 : decode cX10_drop 2 = .ok (.invokevirtual 131, 3) := by decide +kernel
theorem dX10_drop_5 : decode cX10_drop 5 = .ok (.astore 4, 2) := by decide +kernel
theorem dX10_drop_7 : decode cX10_drop 7 = .ok (.aload 4, 2) := by decide +kernel
theorem dX10_drop_9 : decode cX10_drop 9 = .ok (.ifnonnull 13, 3) := by decide +kernel
theorem dX10_drop_12 : decode cX10_drop 12 = .ok (.new 67, 3) := by decide +kernel
theorem dX10_drop_15 : decode cX10_drop 15 = .ok (.dup, 1) := by decide +kernel
theorem dX10_drop_16 : decode cX10_drop 16 = .ok (.ldc 135, 2) := by decide +kernel
theorem dX10_drop_18 : decode cX10_drop 18 = .ok (.invokespecial 71, 3) := by decide +kernel
theorem dX10_drop_21 : decode cX10_drop 21 = .ok (.athrow, 1) := by decide +kernel
theorem dX10_drop_22 : decode cX10_drop 22 = .ok (.iload_n 2, 1) := by decide +kernel
theorem dX10_drop_23 : decode cX10_drop 23 = .ok (.aload 4, 2) := by decide +kernel
theorem dX10_drop_25 : decode cX10_drop 25 = .ok (.getfield 137, 3) := by decide +kernel
theorem dX10_drop_28 : decode cX10_drop 28 = .ok (.aload 4, 2) := by decide +kernel
theorem dX10_drop_30 : decode cX10_drop 30 = .ok (.getfield 151, 3) := by decide +kernel
theorem dX10_drop_33 : decode cX10_drop 33 = .ok (.iconst (-1), 1) := by decide +kernel
theorem dX10_drop_34 : decode cX10_drop 34 = .ok (.ixor, 1) := by decide +kernel
theorem dX10_drop_35 : decode cX10_drop 35 = .ok (.iand, 1) := by decide +kernel
theorem dX10_drop_36 : decode cX10_drop 36 = .ok (.invokestatic 138, 3) := by decide +kernel
theorem dX10_drop_39 : decode cX10_drop 39 = .ok (.ifCond .eq 10, 3) := by decide +kernel
theorem dX10_drop_42 : decode cX10_drop 42 = .ok (.iload_n 3, 1) := by decide +kernel
theorem dX10_drop_43 : decode cX10_drop 43 = .ok (.invokestatic 141, 3) := by decide +kernel
theorem dX10_drop_46 : decode cX10_drop 46 = .ok (.ifCond .ne 13, 3) := by decide +kernel
theorem dX10_drop_49 : decode cX10_drop 49 = .ok (.new 44, 3) := by decide +kernel
theorem dX10_drop_52 : decode cX10_drop 52 = .ok (.dup, 1) := by decide +kernel
theorem dX10_drop_53 : decode cX10_drop 53 = .ok (.ldc 144, 2) := by decide +kernel
theorem dX10_drop_55 : decode cX10_drop 55 = .ok (.invokespecial 48, 3) := by decide +kernel
theorem dX10_drop_58 : decode cX10_drop 58 = .ok (.athrow, 1) := by decide +kernel
theorem dX10_drop_59 : decode cX10_drop 59 = .ok (.aload_n 0, 1) := by decide +kernel
theorem dX10_drop_60 : decode cX10_drop 60 = .ok (.getfield 117, 3) := by decide +kernel
theorem dX10_drop_63 : decode cX10_drop 63 = .ok (.bipush 10, 2) := by decide +kernel
theorem dX10_drop_65 : decode cX10_drop 65 = .ok (.if_icmp .lt 13, 3) := by decide +kernel
theorem dX10_drop_68 : decode cX10_drop 68 = .ok (.new 55, 3) := by decide +kernel
theorem dX10_drop_71 : decode cX10_drop 71 = .ok (.dup, 1) := by decide +kernel
theorem dX10_drop_72 : decode cX10_drop 72 = .ok (.ldc 120, 2) := by decide +kernel
theorem dX10_drop_74 : decode cX10_drop 74 = .ok (.invokespecial 59, 3) := by decide +kernel
theorem dX10_drop_77 : decode cX10_drop 77 = .ok (.athrow, 1) := by decide +kernel
theorem dX10_drop_78 : decode cX10_drop 78 = .ok (.aload_n 0, 1) := by decide +kernel
theorem dX10_drop_79 : decode cX10_drop 79 = .ok (.new 152, 3) := by decide +kernel
theorem dX10_drop_82 : decode cX10_drop 82 = .ok (.dup, 1) := by decide +kernel
theorem dX10_drop_83 : decode cX10_drop 83 = .ok (.aload_n 0, 1) := by decide +kernel
theorem dX10_drop_84 : decode cX10_drop 84 = .ok (.getfield 117, 3) := by decide +kernel
theorem dX10_drop_87 : decode cX10_drop 87 = .ok (.aload 4, 2) := by decide +kernel
theorem dX10_drop_89 : decode cX10_drop 89 = .ok (.iload_n 2, 1) := by decide +kernel
theorem dX10_drop_90 : decode cX10_drop 90 = .ok (.iload_n 3, 1) := by decide +kernel
theorem dX10_drop_91 : decode cX10_drop 91 = .ok (.invokespecial 154, 3) := by decide +kernel
theorem dX10_drop_94 : decode cX10_drop 94 = .ok (.invokevirtual 127, 3) := by decide +kernel
theorem dX10_drop_97 : decode cX10_drop 97 = .ok (.ireturn, 1) := by decide +kernel
theorem dX10_join_0 : decode cX10_join 0 = .ok (.aload_n 0, 1) := by decide +kernel
theorem dX10_join_1 : decode cX10_join 1 = .ok (.iload_n 1, 1) := by decide +kernel
theorem dX10_join_2 : decode cX10_join 2 = .ok (.invokevirtual 131, 3) := by decide +kernel
theorem dX10_join_5 : decode cX10_join 5 = .ok (.astore_n 3, 1) := by decide +kernel
theorem dX10_join_6 : decode cX10_join 6 = .ok (.aload_n 0, 1) := by decide +kernel
theorem dX10_join_7 : decode cX10_join 7 = .ok (.iload_n 2, 1) := by decide +kernel
theorem dX10_join_8 : decode cX10_join 8 = .ok (.invokevirtual 131, 3) := by decide +kernel
theorem dX10_join_11 : decode cX10_join 11 = .ok (.astore 4, 2) := by decide +kernel
theorem dX10_join_13 : decode cX10_join 13 = .ok (.aload_n 3, 1) := by decide +kernel
theorem dX10_join_14 : decode cX10_join 14 = .ok (.ifnull 8, 3) := by decide +kernel
theorem dX10_join_17 : decode cX10_join 17 = .ok (.aload 4, 2) := by decide +kernel
theorem dX10_join_19 : decode cX10_join 19 = .ok (.ifnonnull 13, 3) := by decide +kernel
theorem dX10_join_22 : decode cX10_join 22 = .ok (.new 67, 3) := by decide +kernel
theorem dX10_join_25 : decode cX10_join 25 = .ok (.dup, 1) := by decide +kernel
theorem dX10_join_26 : decode cX10_join 26 = .ok (.ldc 135, 2) := by decide +kernel
theorem dX10_join_28 : decode cX10_join 28 = .ok (.invokespecial 71, 3) := by decide +kernel
theorem dX10_join_31 : decode cX10_join 31 = .ok (.athrow, 1) := by decide +kernel
theorem dX10_join_32 : decode cX10_join 32 = .ok (.aload_n 3, 1) := by decide +kernel
theorem dX10_join_33 : decode cX10_join 33 = .ok (.getfield 157, 3) := by decide +kernel
theorem dX10_join_36 : decode cX10_join 36 = .ok (.aload 4, 2) := by decide +kernel
theorem dX10_join_38 : decode cX10_join 38 = .ok (.getfield 157, 3) := by decide +kernel
theorem dX10_join_41 : decode cX10_join 41 = .ok (.iand, 1) := by decide +kernel
theorem dX10_join_42 : decode cX10_join 42 = .ok (.ifCond .ne 18, 3) := by decide +kernel
theorem dX10_join_45 : decode cX10_join 45 = .ok (.aload 4, 2) := by decide +kernel
theorem dX10_join_47 : decode cX10_join 47 = .ok (.getfield 151, 3) := by decide +kernel
theorem dX10_join_50 : decode cX10_join 50 = .ok (.aload_n 3, 1) := by decide +kernel
theorem dX10_join_51 : decode cX10_join 51 = .ok (.getfield 137, 3) := by decide +kernel
theorem dX10_join_54 : decode cX10_join 54 = .ok (.iconst (-1), 1) := by decide +kernel
theorem dX10_join_55 : decode cX10_join 55 = .ok (.ixor, 1) := by decide +kernel
theorem dX10_join_56 : decode cX10_join 56 = .ok (.iand, 1) := by decide +kernel
theorem dX10_join_57 : decode cX10_join 57 = .ok (.ifCond .eq 13, 3) := by decide +kernel
theorem dX10_join_60 : decode cX10_join 60 = .ok (.new 44, 3) := by decide +kernel
theorem dX10_join_63 : decode cX10_join 63 = .ok (.dup, 1) := by decide +kernel
theorem dX10_join_64 : decode cX10_join 64 = .ok (.ldc 159, 2) := by decide +kernel
theorem dX10_join_66 : decode cX10_join 66 = .ok (.invokespecial 48, 3) := by decide +kernel
theorem dX10_join_69 : decode cX10_join 69 = .ok (.athrow, 1) := by decide +kernel
theorem dX10_join_70 : decode cX10_join 70 = .ok (.aload_n 0, 1) := by decide +kernel
theorem dX10_join_71 : decode cX10_join 71 = .ok (.getfield 117, 3) := by decide +kernel
theorem dX10_join_74 : decode cX10_join 74 = .ok (.bipush 10, 2) := by decide +kernel
theorem dX10_join_76 : decode cX10_join 76 = .ok (.if_icmp .lt 13, 3) := by decide +kernel
theorem dX10_join_79 : decode cX10_join 79 = .ok (.new 55, 3) := by decide +kernel
theorem dX10_join_82 : decode cX10_join 82 = .ok (.dup, 1) := by decide +kernel
theorem dX10_join_83 : decode cX10_join 83 = .ok (.ldc 120, 2) := by decide +kernel
theorem dX10_join_85 : decode cX10_join 85 = .ok (.invokespecial 59, 3) := by decide +kernel
theorem dX10_join_88 : decode cX10_join 88 = .ok (.athrow, 1) := by decide +kernel
theorem dX10_join_89 : decode cX10_join 89 = .ok (.aload_n 0, 1) := by decide +kernel
theorem dX10_join_90 : decode cX10_join 90 = .ok (.new 161, 3) := by decide +kernel
theorem dX10_join_93 : decode cX10_join 93 = .ok (.dup, 1) := by decide +kernel
theorem dX10_join_94 : decode cX10_join 94 = .ok (.aload_n 0, 1) := by decide +kernel
theorem dX10_join_95 : decode cX10_join 95 = .ok (.getfield 117, 3) := by decide +kernel
theorem dX10_join_98 : decode cX10_join 98 = .ok (.aload_n 3, 1) := by decide +kernel
theorem dX10_join_99 : decode cX10_join 99 = .ok (.aload 4, 2) := by decide +kernel
theorem dX10_join_101 : decode cX10_join 101 = .ok (.invokespecial 163, 3) := by decide +kernel
theorem dX10_join_104 : decode cX10_join 104 = .ok (.invokevirtual 127, 3) := by decide +kernel
theorem dX10_join_107 : decode cX10_join 107 = .ok (.ireturn, 1) := by decide +kernel
theorem dX10_columns_0 : decode cX10_columns 0 = .ok (.aload_n 0, 1) := by decide +kernel
theorem dX10_columns_1 : decode cX10_columns 1 = .ok (.iload_n 1, 1) := by decide +kernel
theorem dX10_columns_2 : decode cX10_columns 2 = .ok (.invokevirtual 131, 3) := by decide +kernel
theorem dX10_columns_5 : decode cX10_columns 5 = .ok (.astore_n 2, 1) := by decide +kernel
theorem dX10_columns_6 : decode cX10_columns 6 = .ok (.aload_n 2, 1) := by decide +kernel
theorem dX10_columns_7 : decode cX10_columns 7 = .ok (.ifnonnull 13, 3) := by decide +kernel
theorem dX10_columns_10 : decode cX10_columns 10 = .ok (.new 67, 3) := by decide +kernel
theorem dX10_columns_13 : decode cX10_columns 13 = .ok (.dup, 1) := by decide +kernel
theorem dX10_columns_14 : decode cX10_columns 14 = .ok (.ldc 135, 2) := by decide +kernel
theorem dX10_columns_16 : decode cX10_columns 16 = .ok (.invokespecial 71, 3) := by decide +kernel
theorem dX10_columns_19 : decode cX10_columns 19 = .ok (.athrow, 1) := by decide +kernel
theorem dX10_columns_20 : decode cX10_columns 20 = .ok (.aload_n 2, 1) := by decide +kernel
theorem dX10_columns_21 : decode cX10_columns 21 = .ok (.getfield 137, 3) := by decide +kernel
theorem dX10_columns_24 : decode cX10_columns 24 = .ok (.ireturn, 1) := by decide +kernel
theorem dX10_key_0 : decode cX10_key 0 = .ok (.aload_n 0, 1) := by decide +kernel
theorem dX10_key_1 : decode cX10_key 1 = .ok (.iload_n 1, 1) := by decide +kernel
theorem dX10_key_2 : decode cX10_key 2 = .ok (.invokevirtual 131, 3) := by decide +kernel
theorem dX10_key_5 : decode cX10_key 5 = .ok (.astore_n 2, 1) := by decide +kernel
theorem dX10_key_6 : decode cX10_key 6 = .ok (.aload_n 2, 1) := by decide +kernel
theorem dX10_key_7 : decode cX10_key 7 = .ok (.ifnonnull 13, 3) := by decide +kernel
theorem dX10_key_10 : decode cX10_key 10 = .ok (.new 67, 3) := by decide +kernel
theorem dX10_key_13 : decode cX10_key 13 = .ok (.dup, 1) := by decide +kernel
theorem dX10_key_14 : decode cX10_key 14 = .ok (.ldc 135, 2) := by decide +kernel
theorem dX10_key_16 : decode cX10_key 16 = .ok (.invokespecial 71, 3) := by decide +kernel
theorem dX10_key_19 : decode cX10_key 19 = .ok (.athrow, 1) := by decide +kernel
theorem dX10_key_20 : decode cX10_key 20 = .ok (.aload_n 2, 1) := by decide +kernel
theorem dX10_key_21 : decode cX10_key 21 = .ok (.getfield 151, 3) := by decide +kernel
theorem dX10_key_24 : decode cX10_key 24 = .ok (.ireturn, 1) := by decide +kernel
theorem dX10_rows_0 : decode cX10_rows 0 = .ok (.aload_n 0, 1) := by decide +kernel
theorem dX10_rows_1 : decode cX10_rows 1 = .ok (.iload_n 1, 1) := by decide +kernel
theorem dX10_rows_2 : decode cX10_rows 2 = .ok (.invokevirtual 131, 3) := by decide +kernel
theorem dX10_rows_5 : decode cX10_rows 5 = .ok (.astore_n 2, 1) := by decide +kernel
theorem dX10_rows_6 : decode cX10_rows 6 = .ok (.aload_n 2, 1) := by decide +kernel
theorem dX10_rows_7 : decode cX10_rows 7 = .ok (.ifnonnull 13, 3) := by decide +kernel
theorem dX10_rows_10 : decode cX10_rows 10 = .ok (.new 67, 3) := by decide +kernel
theorem dX10_rows_13 : decode cX10_rows 13 = .ok (.dup, 1) := by decide +kernel
theorem dX10_rows_14 : decode cX10_rows 14 = .ok (.ldc 135, 2) := by decide +kernel
theorem dX10_rows_16 : decode cX10_rows 16 = .ok (.invokespecial 71, 3) := by decide +kernel
theorem dX10_rows_19 : decode cX10_rows 19 = .ok (.athrow, 1) := by decide +kernel
theorem dX10_rows_20 : decode cX10_rows 20 = .ok (.aload_n 2, 1) := by decide +kernel
theorem dX10_rows_21 : decode cX10_rows 21 = .ok (.getfield 166, 3) := by decide +kernel
theorem dX10_rows_24 : decode cX10_rows 24 = .ok (.invokevirtual 86, 3) := by decide +kernel
theorem dX10_rows_27 : decode cX10_rows 27 = .ok (.ireturn, 1) := by decide +kernel
theorem dX10_row_0 : decode cX10_row 0 = .ok (.aload_n 0, 1) := by decide +kernel
theorem dX10_row_1 : decode cX10_row 1 = .ok (.iload_n 1, 1) := by decide +kernel
theorem dX10_row_2 : decode cX10_row 2 = .ok (.invokevirtual 131, 3) := by decide +kernel
theorem dX10_row_5 : decode cX10_row 5 = .ok (.astore_n 3, 1) := by decide +kernel
theorem dX10_row_6 : decode cX10_row 6 = .ok (.aload_n 3, 1) := by decide +kernel
theorem dX10_row_7 : decode cX10_row 7 = .ok (.ifnull 18, 3) := by decide +kernel
theorem dX10_row_10 : decode cX10_row 10 = .ok (.iload_n 2, 1) := by decide +kernel
theorem dX10_row_11 : decode cX10_row 11 = .ok (.ifCond .lt 14, 3) := by decide +kernel
theorem dX10_row_14 : decode cX10_row 14 = .ok (.iload_n 2, 1) := by decide +kernel
theorem dX10_row_15 : decode cX10_row 15 = .ok (.aload_n 3, 1) := by decide +kernel
theorem dX10_row_16 : decode cX10_row 16 = .ok (.getfield 166, 3) := by decide +kernel
theorem dX10_row_19 : decode cX10_row 19 = .ok (.invokevirtual 86, 3) := by decide +kernel
theorem dX10_row_22 : decode cX10_row 22 = .ok (.if_icmp .lt 13, 3) := by decide +kernel
theorem dX10_row_25 : decode cX10_row 25 = .ok (.new 67, 3) := by decide +kernel
theorem dX10_row_28 : decode cX10_row 28 = .ok (.dup, 1) := by decide +kernel
theorem dX10_row_29 : decode cX10_row 29 = .ok (.ldc 169, 2) := by decide +kernel
theorem dX10_row_31 : decode cX10_row 31 = .ok (.invokespecial 71, 3) := by decide +kernel
theorem dX10_row_34 : decode cX10_row 34 = .ok (.athrow, 1) := by decide +kernel
theorem dX10_row_35 : decode cX10_row 35 = .ok (.aload_n 3, 1) := by decide +kernel
theorem dX10_row_36 : decode cX10_row 36 = .ok (.getfield 166, 3) := by decide +kernel
theorem dX10_row_39 : decode cX10_row 39 = .ok (.iload_n 2, 1) := by decide +kernel
theorem dX10_row_40 : decode cX10_row 40 = .ok (.invokevirtual 171, 3) := by decide +kernel
theorem dX10_row_43 : decode cX10_row 43 = .ok (.ireturn, 1) := by decide +kernel
theorem dX10_open_0 : decode cX10_open 0 = .ok (.aload_n 0, 1) := by decide +kernel
theorem dX10_open_1 : decode cX10_open 1 = .ok (.iload_n 1, 1) := by decide +kernel
theorem dX10_open_2 : decode cX10_open 2 = .ok (.invokevirtual 131, 3) := by decide +kernel
theorem dX10_open_5 : decode cX10_open 5 = .ok (.astore_n 2, 1) := by decide +kernel
theorem dX10_open_6 : decode cX10_open 6 = .ok (.aload_n 2, 1) := by decide +kernel
theorem dX10_open_7 : decode cX10_open 7 = .ok (.ifnonnull 13, 3) := by decide +kernel
theorem dX10_open_10 : decode cX10_open 10 = .ok (.new 67, 3) := by decide +kernel
theorem dX10_open_13 : decode cX10_open 13 = .ok (.dup, 1) := by decide +kernel
theorem dX10_open_14 : decode cX10_open 14 = .ok (.ldc 135, 2) := by decide +kernel
theorem dX10_open_16 : decode cX10_open 16 = .ok (.invokespecial 71, 3) := by decide +kernel
theorem dX10_open_19 : decode cX10_open 19 = .ok (.athrow, 1) := by decide +kernel
theorem dX10_open_20 : decode cX10_open 20 = .ok (.aload_n 0, 1) := by decide +kernel
theorem dX10_open_21 : decode cX10_open 21 = .ok (.aload_n 2, 1) := by decide +kernel
theorem dX10_open_22 : decode cX10_open 22 = .ok (.putfield 175, 3) := by decide +kernel
theorem dX10_open_25 : decode cX10_open 25 = .ok (.aload_n 0, 1) := by decide +kernel
theorem dX10_open_26 : decode cX10_open 26 = .ok (.getfield 26, 3) := by decide +kernel
theorem dX10_open_29 : decode cX10_open 29 = .ok (.aload_n 2, 1) := by decide +kernel
theorem dX10_open_30 : decode cX10_open 30 = .ok (.getfield 166, 3) := by decide +kernel
theorem dX10_open_33 : decode cX10_open 33 = .ok (.invokevirtual 179, 3) := by decide +kernel
theorem dX10_open_36 : decode cX10_open 36 = .ok (.aload_n 0, 1) := by decide +kernel
theorem dX10_open_37 : decode cX10_open 37 = .ok (.getfield 26, 3) := by decide +kernel
theorem dX10_open_40 : decode cX10_open 40 = .ok (.invokevirtual 86, 3) := by decide +kernel
theorem dX10_open_43 : decode cX10_open 43 = .ok (.ireturn, 1) := by decide +kernel
theorem dX10_add_0 : decode cX10_add 0 = .ok (.aload_n 0, 1) := by decide +kernel
theorem dX10_add_1 : decode cX10_add 1 = .ok (.getfield 175, 3) := by decide +kernel
theorem dX10_add_4 : decode cX10_add 4 = .ok (.ifnull 26, 3) := by decide +kernel
theorem dX10_add_7 : decode cX10_add 7 = .ok (.aload_n 0, 1) := by decide +kernel
theorem dX10_add_8 : decode cX10_add 8 = .ok (.getfield 26, 3) := by decide +kernel
theorem dX10_add_11 : decode cX10_add 11 = .ok (.iload_n 1, 1) := by decide +kernel
theorem dX10_add_12 : decode cX10_add 12 = .ok (.invokevirtual 105, 3) := by decide +kernel
theorem dX10_add_15 : decode cX10_add 15 = .ok (.ifCond .ne 15, 3) := by decide +kernel
theorem dX10_add_18 : decode cX10_add 18 = .ok (.aload_n 0, 1) := by decide +kernel
theorem dX10_add_19 : decode cX10_add 19 = .ok (.getfield 26, 3) := by decide +kernel
theorem dX10_add_22 : decode cX10_add 22 = .ok (.invokevirtual 86, 3) := by decide +kernel
theorem dX10_add_25 : decode cX10_add 25 = .ok (.bipush 20, 2) := by decide +kernel
theorem dX10_add_27 : decode cX10_add 27 = .ok (.if_icmp .lt 13, 3) := by decide +kernel
theorem dX10_add_30 : decode cX10_add 30 = .ok (.new 55, 3) := by decide +kernel
theorem dX10_add_33 : decode cX10_add 33 = .ok (.dup, 1) := by decide +kernel
theorem dX10_add_34 : decode cX10_add 34 = .ok (.ldc 183, 2) := by decide +kernel
theorem dX10_add_36 : decode cX10_add 36 = .ok (.invokespecial 59, 3) := by decide +kernel
theorem dX10_add_39 : decode cX10_add 39 = .ok (.athrow, 1) := by decide +kernel
theorem dX10_add_40 : decode cX10_add 40 = .ok (.iload_n 1, 1) := by decide +kernel
theorem dX10_add_41 : decode cX10_add 41 = .ok (.aload_n 0, 1) := by decide +kernel
theorem dX10_add_42 : decode cX10_add 42 = .ok (.getfield 175, 3) := by decide +kernel
theorem dX10_add_45 : decode cX10_add 45 = .ok (.getfield 137, 3) := by decide +kernel
theorem dX10_add_48 : decode cX10_add 48 = .ok (.invokestatic 75, 3) := by decide +kernel
theorem dX10_add_51 : decode cX10_add 51 = .ok (.ifCond .ne 13, 3) := by decide +kernel
theorem dX10_add_54 : decode cX10_add 54 = .ok (.new 44, 3) := by decide +kernel
theorem dX10_add_57 : decode cX10_add 57 = .ok (.dup, 1) := by decide +kernel
theorem dX10_add_58 : decode cX10_add 58 = .ok (.ldc 81, 2) := by decide +kernel
theorem dX10_add_60 : decode cX10_add 60 = .ok (.invokespecial 48, 3) := by decide +kernel
theorem dX10_add_63 : decode cX10_add 63 = .ok (.athrow, 1) := by decide +kernel
theorem dX10_add_64 : decode cX10_add 64 = .ok (.aload_n 0, 1) := by decide +kernel
theorem dX10_add_65 : decode cX10_add 65 = .ok (.getfield 26, 3) := by decide +kernel
theorem dX10_add_68 : decode cX10_add 68 = .ok (.iload_n 1, 1) := by decide +kernel
theorem dX10_add_69 : decode cX10_add 69 = .ok (.invokevirtual 99, 3) := by decide +kernel
theorem dX10_add_72 : decode cX10_add 72 = .ok (.aload_n 0, 1) := by decide +kernel
theorem dX10_add_73 : decode cX10_add 73 = .ok (.getfield 26, 3) := by decide +kernel
theorem dX10_add_76 : decode cX10_add 76 = .ok (.invokevirtual 86, 3) := by decide +kernel
theorem dX10_add_79 : decode cX10_add 79 = .ok (.ireturn, 1) := by decide +kernel
theorem dX10_takeOut_0 : decode cX10_takeOut 0 = .ok (.aload_n 0, 1) := by decide +kernel
theorem dX10_takeOut_1 : decode cX10_takeOut 1 = .ok (.getfield 175, 3) := by decide +kernel
theorem dX10_takeOut_4 : decode cX10_takeOut 4 = .ok (.ifnonnull 13, 3) := by decide +kernel
theorem dX10_takeOut_7 : decode cX10_takeOut 7 = .ok (.new 55, 3) := by decide +kernel
theorem dX10_takeOut_10 : decode cX10_takeOut 10 = .ok (.dup, 1) := by decide +kernel
theorem dX10_takeOut_11 : decode cX10_takeOut 11 = .ok (.ldc 185, 2) := by decide +kernel
theorem dX10_takeOut_13 : decode cX10_takeOut 13 = .ok (.invokespecial 59, 3) := by decide +kernel
theorem dX10_takeOut_16 : decode cX10_takeOut 16 = .ok (.athrow, 1) := by decide +kernel
theorem dX10_takeOut_17 : decode cX10_takeOut 17 = .ok (.aload_n 0, 1) := by decide +kernel
theorem dX10_takeOut_18 : decode cX10_takeOut 18 = .ok (.getfield 26, 3) := by decide +kernel
theorem dX10_takeOut_21 : decode cX10_takeOut 21 = .ok (.iload_n 1, 1) := by decide +kernel
theorem dX10_takeOut_22 : decode cX10_takeOut 22 = .ok (.invokevirtual 105, 3) := by decide +kernel
theorem dX10_takeOut_25 : decode cX10_takeOut 25 = .ok (.ifCond .ne 13, 3) := by decide +kernel
theorem dX10_takeOut_28 : decode cX10_takeOut 28 = .ok (.new 109, 3) := by decide +kernel
theorem dX10_takeOut_31 : decode cX10_takeOut 31 = .ok (.dup, 1) := by decide +kernel
theorem dX10_takeOut_32 : decode cX10_takeOut 32 = .ok (.ldc 111, 2) := by decide +kernel
theorem dX10_takeOut_34 : decode cX10_takeOut 34 = .ok (.invokespecial 113, 3) := by decide +kernel
theorem dX10_takeOut_37 : decode cX10_takeOut 37 = .ok (.athrow, 1) := by decide +kernel
theorem dX10_takeOut_38 : decode cX10_takeOut 38 = .ok (.aload_n 0, 1) := by decide +kernel
theorem dX10_takeOut_39 : decode cX10_takeOut 39 = .ok (.getfield 26, 3) := by decide +kernel
theorem dX10_takeOut_42 : decode cX10_takeOut 42 = .ok (.iload_n 1, 1) := by decide +kernel
theorem dX10_takeOut_43 : decode cX10_takeOut 43 = .ok (.invokevirtual 114, 3) := by decide +kernel
theorem dX10_takeOut_46 : decode cX10_takeOut 46 = .ok (.aload_n 0, 1) := by decide +kernel
theorem dX10_takeOut_47 : decode cX10_takeOut 47 = .ok (.getfield 26, 3) := by decide +kernel
theorem dX10_takeOut_50 : decode cX10_takeOut 50 = .ok (.invokevirtual 86, 3) := by decide +kernel
theorem dX10_takeOut_53 : decode cX10_takeOut 53 = .ok (.ireturn, 1) := by decide +kernel
theorem dX10_change_0 : decode cX10_change 0 = .ok (.aload_n 0, 1) := by decide +kernel
theorem dX10_change_1 : decode cX10_change 1 = .ok (.getfield 175, 3) := by decide +kernel
theorem dX10_change_4 : decode cX10_change 4 = .ok (.ifnonnull 13, 3) := by decide +kernel
theorem dX10_change_7 : decode cX10_change 7 = .ok (.new 55, 3) := by decide +kernel
theorem dX10_change_10 : decode cX10_change 10 = .ok (.dup, 1) := by decide +kernel
theorem dX10_change_11 : decode cX10_change 11 = .ok (.ldc 185, 2) := by decide +kernel
theorem dX10_change_13 : decode cX10_change 13 = .ok (.invokespecial 59, 3) := by decide +kernel
theorem dX10_change_16 : decode cX10_change 16 = .ok (.athrow, 1) := by decide +kernel
theorem dX10_change_17 : decode cX10_change 17 = .ok (.iload_n 2, 1) := by decide +kernel
theorem dX10_change_18 : decode cX10_change 18 = .ok (.aload_n 0, 1) := by decide +kernel
theorem dX10_change_19 : decode cX10_change 19 = .ok (.getfield 175, 3) := by decide +kernel
theorem dX10_change_22 : decode cX10_change 22 = .ok (.getfield 137, 3) := by decide +kernel
theorem dX10_change_25 : decode cX10_change 25 = .ok (.invokestatic 138, 3) := by decide +kernel
theorem dX10_change_28 : decode cX10_change 28 = .ok (.ifCond .eq 10, 3) := by decide +kernel
theorem dX10_change_31 : decode cX10_change 31 = .ok (.iload_n 3, 1) := by decide +kernel
theorem dX10_change_32 : decode cX10_change 32 = .ok (.invokestatic 141, 3) := by decide +kernel
theorem dX10_change_35 : decode cX10_change 35 = .ok (.ifCond .ne 13, 3) := by decide +kernel
theorem dX10_change_38 : decode cX10_change 38 = .ok (.new 44, 3) := by decide +kernel
theorem dX10_change_41 : decode cX10_change 41 = .ok (.dup, 1) := by decide +kernel
theorem dX10_change_42 : decode cX10_change 42 = .ok (.ldc 144, 2) := by decide +kernel
theorem dX10_change_44 : decode cX10_change 44 = .ok (.invokespecial 48, 3) := by decide +kernel
theorem dX10_change_47 : decode cX10_change 47 = .ok (.athrow, 1) := by decide +kernel
theorem dX10_change_48 : decode cX10_change 48 = .ok (.aload_n 0, 1) := by decide +kernel
theorem dX10_change_49 : decode cX10_change 49 = .ok (.getfield 26, 3) := by decide +kernel
theorem dX10_change_52 : decode cX10_change 52 = .ok (.iload_n 1, 1) := by decide +kernel
theorem dX10_change_53 : decode cX10_change 53 = .ok (.invokevirtual 105, 3) := by decide +kernel
theorem dX10_change_56 : decode cX10_change 56 = .ok (.ifCond .ne 13, 3) := by decide +kernel
theorem dX10_change_59 : decode cX10_change 59 = .ok (.new 109, 3) := by decide +kernel
theorem dX10_change_62 : decode cX10_change 62 = .ok (.dup, 1) := by decide +kernel
theorem dX10_change_63 : decode cX10_change 63 = .ok (.ldc 111, 2) := by decide +kernel
theorem dX10_change_65 : decode cX10_change 65 = .ok (.invokespecial 113, 3) := by decide +kernel
theorem dX10_change_68 : decode cX10_change 68 = .ok (.athrow, 1) := by decide +kernel
theorem dX10_change_69 : decode cX10_change 69 = .ok (.iload_n 1, 1) := by decide +kernel
theorem dX10_change_70 : decode cX10_change 70 = .ok (.iload_n 2, 1) := by decide +kernel
theorem dX10_change_71 : decode cX10_change 71 = .ok (.iload_n 3, 1) := by decide +kernel
theorem dX10_change_72 : decode cX10_change 72 = .ok (.invokestatic 187, 3) := by decide +kernel
theorem dX10_change_75 : decode cX10_change 75 = .ok (.istore 4, 2) := by decide +kernel
theorem dX10_change_77 : decode cX10_change 77 = .ok (.iload 4, 2) := by decide +kernel
theorem dX10_change_79 : decode cX10_change 79 = .ok (.iload_n 1, 1) := by decide +kernel
theorem dX10_change_80 : decode cX10_change 80 = .ok (.if_icmp .eq 25, 3) := by decide +kernel
theorem dX10_change_83 : decode cX10_change 83 = .ok (.aload_n 0, 1) := by decide +kernel
theorem dX10_change_84 : decode cX10_change 84 = .ok (.getfield 26, 3) := by decide +kernel
theorem dX10_change_87 : decode cX10_change 87 = .ok (.iload 4, 2) := by decide +kernel
theorem dX10_change_89 : decode cX10_change 89 = .ok (.invokevirtual 105, 3) := by decide +kernel
theorem dX10_change_92 : decode cX10_change 92 = .ok (.ifCond .eq 13, 3) := by decide +kernel
theorem dX10_change_95 : decode cX10_change 95 = .ok (.new 109, 3) := by decide +kernel
theorem dX10_change_98 : decode cX10_change 98 = .ok (.dup, 1) := by decide +kernel
theorem dX10_change_99 : decode cX10_change 99 = .ok (.ldc 191, 2) := by decide +kernel
theorem dX10_change_101 : decode cX10_change 101 = .ok (.invokespecial 113, 3) := by decide +kernel
theorem dX10_change_104 : decode cX10_change 104 = .ok (.athrow, 1) := by decide +kernel
theorem dX10_change_105 : decode cX10_change 105 = .ok (.aload_n 0, 1) := by decide +kernel
theorem dX10_change_106 : decode cX10_change 106 = .ok (.getfield 26, 3) := by decide +kernel
theorem dX10_change_109 : decode cX10_change 109 = .ok (.iload_n 1, 1) := by decide +kernel
theorem dX10_change_110 : decode cX10_change 110 = .ok (.invokevirtual 114, 3) := by decide +kernel
theorem dX10_change_113 : decode cX10_change 113 = .ok (.aload_n 0, 1) := by decide +kernel
theorem dX10_change_114 : decode cX10_change 114 = .ok (.getfield 26, 3) := by decide +kernel
theorem dX10_change_117 : decode cX10_change 117 = .ok (.iload 4, 2) := by decide +kernel
theorem dX10_change_119 : decode cX10_change 119 = .ok (.invokevirtual 99, 3) := by decide +kernel
theorem dX10_change_122 : decode cX10_change 122 = .ok (.iload 4, 2) := by decide +kernel
theorem dX10_change_124 : decode cX10_change 124 = .ok (.ireturn, 1) := by decide +kernel
theorem dX10_draftRow_0 : decode cX10_draftRow 0 = .ok (.aload_n 0, 1) := by decide +kernel
theorem dX10_draftRow_1 : decode cX10_draftRow 1 = .ok (.getfield 175, 3) := by decide +kernel
theorem dX10_draftRow_4 : decode cX10_draftRow 4 = .ok (.ifnonnull 13, 3) := by decide +kernel
theorem dX10_draftRow_7 : decode cX10_draftRow 7 = .ok (.new 55, 3) := by decide +kernel
theorem dX10_draftRow_10 : decode cX10_draftRow 10 = .ok (.dup, 1) := by decide +kernel
theorem dX10_draftRow_11 : decode cX10_draftRow 11 = .ok (.ldc 185, 2) := by decide +kernel
theorem dX10_draftRow_13 : decode cX10_draftRow 13 = .ok (.invokespecial 59, 3) := by decide +kernel
theorem dX10_draftRow_16 : decode cX10_draftRow 16 = .ok (.athrow, 1) := by decide +kernel
theorem dX10_draftRow_17 : decode cX10_draftRow 17 = .ok (.iload_n 1, 1) := by decide +kernel
theorem dX10_draftRow_18 : decode cX10_draftRow 18 = .ok (.ifCond .ge 13, 3) := by decide +kernel
theorem dX10_draftRow_21 : decode cX10_draftRow 21 = .ok (.new 67, 3) := by decide +kernel
theorem dX10_draftRow_24 : decode cX10_draftRow 24 = .ok (.dup, 1) := by decide +kernel
theorem dX10_draftRow_25 : decode cX10_draftRow 25 = .ok (.ldc 193, 2) := by decide +kernel
theorem dX10_draftRow_27 : decode cX10_draftRow 27 = .ok (.invokespecial 71, 3) := by decide +kernel
theorem dX10_draftRow_30 : decode cX10_draftRow 30 = .ok (.athrow, 1) := by decide +kernel
theorem dX10_draftRow_31 : decode cX10_draftRow 31 = .ok (.aload_n 0, 1) := by decide +kernel
theorem dX10_draftRow_32 : decode cX10_draftRow 32 = .ok (.getfield 26, 3) := by decide +kernel
theorem dX10_draftRow_35 : decode cX10_draftRow 35 = .ok (.iload_n 1, 1) := by decide +kernel
theorem dX10_draftRow_36 : decode cX10_draftRow 36 = .ok (.invokevirtual 171, 3) := by decide +kernel
theorem dX10_draftRow_39 : decode cX10_draftRow 39 = .ok (.ireturn, 1) := by decide +kernel
theorem dX10_conflict_0 : decode cX10_conflict 0 = .ok (.aload_n 0, 1) := by decide +kernel
theorem dX10_conflict_1 : decode cX10_conflict 1 = .ok (.getfield 175, 3) := by decide +kernel
theorem dX10_conflict_4 : decode cX10_conflict 4 = .ok (.ifnonnull 13, 3) := by decide +kernel
theorem dX10_conflict_7 : decode cX10_conflict 7 = .ok (.new 55, 3) := by decide +kernel
theorem dX10_conflict_10 : decode cX10_conflict 10 = .ok (.dup, 1) := by decide +kernel
theorem dX10_conflict_11 : decode cX10_conflict 11 = .ok (.ldc 185, 2) := by decide +kernel
theorem dX10_conflict_13 : decode cX10_conflict 13 = .ok (.invokespecial 59, 3) := by decide +kernel
theorem dX10_conflict_16 : decode cX10_conflict 16 = .ok (.athrow, 1) := by decide +kernel
theorem dX10_conflict_17 : decode cX10_conflict 17 = .ok (.aload_n 0, 1) := by decide +kernel
theorem dX10_conflict_18 : decode cX10_conflict 18 = .ok (.invokevirtual 195, 3) := by decide +kernel
theorem dX10_conflict_21 : decode cX10_conflict 21 = .ok (.aload_n 0, 1) := by decide +kernel
theorem dX10_conflict_22 : decode cX10_conflict 22 = .ok (.getfield 33, 3) := by decide +kernel
theorem dX10_conflict_25 : decode cX10_conflict 25 = .ok (.getfield 198, 3) := by decide +kernel
theorem dX10_conflict_28 : decode cX10_conflict 28 = .ok (.ireturn, 1) := by decide +kernel
theorem dX10_conflictRow_0 : decode cX10_conflictRow 0 = .ok (.aload_n 0, 1) := by decide +kernel
theorem dX10_conflictRow_1 : decode cX10_conflictRow 1 = .ok (.getfield 175, 3) := by decide +kernel
theorem dX10_conflictRow_4 : decode cX10_conflictRow 4 = .ok (.ifnonnull 13, 3) := by decide +kernel
theorem dX10_conflictRow_7 : decode cX10_conflictRow 7 = .ok (.new 55, 3) := by decide +kernel
theorem dX10_conflictRow_10 : decode cX10_conflictRow 10 = .ok (.dup, 1) := by decide +kernel
theorem dX10_conflictRow_11 : decode cX10_conflictRow 11 = .ok (.ldc 185, 2) := by decide +kernel
theorem dX10_conflictRow_13 : decode cX10_conflictRow 13 = .ok (.invokespecial 59, 3) := by decide +kernel
theorem dX10_conflictRow_16 : decode cX10_conflictRow 16 = .ok (.athrow, 1) := by decide +kernel
theorem dX10_conflictRow_17 : decode cX10_conflictRow 17 = .ok (.iload_n 1, 1) := by decide +kernel
theorem dX10_conflictRow_18 : decode cX10_conflictRow 18 = .ok (.ifCond .eq 18, 3) := by decide +kernel
theorem dX10_conflictRow_21 : decode cX10_conflictRow 21 = .ok (.iload_n 1, 1) := by decide +kernel
theorem dX10_conflictRow_22 : decode cX10_conflictRow 22 = .ok (.iconst 1, 1) := by decide +kernel
theorem dX10_conflictRow_23 : decode cX10_conflictRow 23 = .ok (.if_icmp .eq 13, 3) := by decide +kernel
theorem dX10_conflictRow_26 : decode cX10_conflictRow 26 = .ok (.new 44, 3) := by decide +kernel
theorem dX10_conflictRow_29 : decode cX10_conflictRow 29 = .ok (.dup, 1) := by decide +kernel
theorem dX10_conflictRow_30 : decode cX10_conflictRow 30 = .ok (.ldc 201, 2) := by decide +kernel
theorem dX10_conflictRow_32 : decode cX10_conflictRow 32 = .ok (.invokespecial 48, 3) := by decide +kernel
theorem dX10_conflictRow_35 : decode cX10_conflictRow 35 = .ok (.athrow, 1) := by decide +kernel
theorem dX10_conflictRow_36 : decode cX10_conflictRow 36 = .ok (.aload_n 0, 1) := by decide +kernel
theorem dX10_conflictRow_37 : decode cX10_conflictRow 37 = .ok (.invokevirtual 195, 3) := by decide +kernel
theorem dX10_conflictRow_40 : decode cX10_conflictRow 40 = .ok (.iload_n 1, 1) := by decide +kernel
theorem dX10_conflictRow_41 : decode cX10_conflictRow 41 = .ok (.ifCond .ne 13, 3) := by decide +kernel
theorem dX10_conflictRow_44 : decode cX10_conflictRow 44 = .ok (.aload_n 0, 1) := by decide +kernel
theorem dX10_conflictRow_45 : decode cX10_conflictRow 45 = .ok (.getfield 33, 3) := by decide +kernel
theorem dX10_conflictRow_48 : decode cX10_conflictRow 48 = .ok (.getfield 203, 3) := by decide +kernel
theorem dX10_conflictRow_51 : decode cX10_conflictRow 51 = .ok (.goto 10, 3) := by decide +kernel
theorem dX10_conflictRow_54 : decode cX10_conflictRow 54 = .ok (.aload_n 0, 1) := by decide +kernel
theorem dX10_conflictRow_55 : decode cX10_conflictRow 55 = .ok (.getfield 33, 3) := by decide +kernel
theorem dX10_conflictRow_58 : decode cX10_conflictRow 58 = .ok (.getfield 206, 3) := by decide +kernel
theorem dX10_conflictRow_61 : decode cX10_conflictRow 61 = .ok (.ireturn, 1) := by decide +kernel
theorem dX10_changes_0 : decode cX10_changes 0 = .ok (.aload_n 0, 1) := by decide +kernel
theorem dX10_changes_1 : decode cX10_changes 1 = .ok (.getfield 175, 3) := by decide +kernel
theorem dX10_changes_4 : decode cX10_changes 4 = .ok (.ifnonnull 13, 3) := by decide +kernel
theorem dX10_changes_7 : decode cX10_changes 7 = .ok (.new 55, 3) := by decide +kernel
theorem dX10_changes_10 : decode cX10_changes 10 = .ok (.dup, 1) := by decide +kernel
theorem dX10_changes_11 : decode cX10_changes 11 = .ok (.ldc 185, 2) := by decide +kernel
theorem dX10_changes_13 : decode cX10_changes 13 = .ok (.invokespecial 59, 3) := by decide +kernel
theorem dX10_changes_16 : decode cX10_changes 16 = .ok (.athrow, 1) := by decide +kernel
theorem dX10_changes_17 : decode cX10_changes 17 = .ok (.aload_n 0, 1) := by decide +kernel
theorem dX10_changes_18 : decode cX10_changes 18 = .ok (.invokevirtual 195, 3) := by decide +kernel
theorem dX10_changes_21 : decode cX10_changes 21 = .ok (.aload_n 0, 1) := by decide +kernel
theorem dX10_changes_22 : decode cX10_changes 22 = .ok (.getfield 33, 3) := by decide +kernel
theorem dX10_changes_25 : decode cX10_changes 25 = .ok (.invokevirtual 209, 3) := by decide +kernel
theorem dX10_changes_28 : decode cX10_changes 28 = .ok (.ifCond .eq 7, 3) := by decide +kernel
theorem dX10_changes_31 : decode cX10_changes 31 = .ok (.iconst (-1), 1) := by decide +kernel
theorem dX10_changes_32 : decode cX10_changes 32 = .ok (.goto 7, 3) := by decide +kernel
theorem dX10_changes_35 : decode cX10_changes 35 = .ok (.aload_n 0, 1) := by decide +kernel
theorem dX10_changes_36 : decode cX10_changes 36 = .ok (.invokevirtual 213, 3) := by decide +kernel
theorem dX10_changes_39 : decode cX10_changes 39 = .ok (.ireturn, 1) := by decide +kernel
theorem dX10_fewest_0 : decode cX10_fewest 0 = .ok (.aload_n 0, 1) := by decide +kernel
theorem dX10_fewest_1 : decode cX10_fewest 1 = .ok (.getfield 175, 3) := by decide +kernel
theorem dX10_fewest_4 : decode cX10_fewest 4 = .ok (.ifnonnull 13, 3) := by decide +kernel
theorem dX10_fewest_7 : decode cX10_fewest 7 = .ok (.new 55, 3) := by decide +kernel
theorem dX10_fewest_10 : decode cX10_fewest 10 = .ok (.dup, 1) := by decide +kernel
theorem dX10_fewest_11 : decode cX10_fewest 11 = .ok (.ldc 185, 2) := by decide +kernel
theorem dX10_fewest_13 : decode cX10_fewest 13 = .ok (.invokespecial 59, 3) := by decide +kernel
theorem dX10_fewest_16 : decode cX10_fewest 16 = .ok (.athrow, 1) := by decide +kernel
theorem dX10_fewest_17 : decode cX10_fewest 17 = .ok (.aload_n 0, 1) := by decide +kernel
theorem dX10_fewest_18 : decode cX10_fewest 18 = .ok (.aload_n 0, 1) := by decide +kernel
theorem dX10_fewest_19 : decode cX10_fewest 19 = .ok (.getfield 175, 3) := by decide +kernel
theorem dX10_fewest_22 : decode cX10_fewest 22 = .ok (.getfield 157, 3) := by decide +kernel
theorem dX10_fewest_25 : decode cX10_fewest 25 = .ok (.invokevirtual 216, 3) := by decide +kernel
theorem dX10_fewest_28 : decode cX10_fewest 28 = .ok (.astore_n 1, 1) := by decide +kernel
theorem dX10_fewest_29 : decode cX10_fewest 29 = .ok (.aload_n 1, 1) := by decide +kernel
theorem dX10_fewest_30 : decode cX10_fewest 30 = .ok (.ifnull 10, 3) := by decide +kernel
theorem dX10_fewest_33 : decode cX10_fewest 33 = .ok (.aload_n 1, 1) := by decide +kernel
theorem dX10_fewest_34 : decode cX10_fewest 34 = .ok (.invokestatic 219, 3) := by decide +kernel
theorem dX10_fewest_37 : decode cX10_fewest 37 = .ok (.ifCond .ne 13, 3) := by decide +kernel
theorem dX10_fewest_40 : decode cX10_fewest 40 = .ok (.new 55, 3) := by decide +kernel
theorem dX10_fewest_43 : decode cX10_fewest 43 = .ok (.dup, 1) := by decide +kernel
theorem dX10_fewest_44 : decode cX10_fewest 44 = .ok (.ldc 223, 2) := by decide +kernel
theorem dX10_fewest_46 : decode cX10_fewest 46 = .ok (.invokespecial 59, 3) := by decide +kernel
theorem dX10_fewest_49 : decode cX10_fewest 49 = .ok (.athrow, 1) := by decide +kernel
theorem dX10_fewest_50 : decode cX10_fewest 50 = .ok (.aload_n 0, 1) := by decide +kernel
theorem dX10_fewest_51 : decode cX10_fewest 51 = .ok (.getfield 40, 3) := by decide +kernel
theorem dX10_fewest_54 : decode cX10_fewest 54 = .ok (.aload_n 0, 1) := by decide +kernel
theorem dX10_fewest_55 : decode cX10_fewest 55 = .ok (.getfield 175, 3) := by decide +kernel
theorem dX10_fewest_58 : decode cX10_fewest 58 = .ok (.aload_n 1, 1) := by decide +kernel
theorem dX10_fewest_59 : decode cX10_fewest 59 = .ok (.aload_n 0, 1) := by decide +kernel
theorem dX10_fewest_60 : decode cX10_fewest 60 = .ok (.getfield 26, 3) := by decide +kernel
theorem dX10_fewest_63 : decode cX10_fewest 63 = .ok (.invokevirtual 225, 3) := by decide +kernel
theorem dX10_fewest_66 : decode cX10_fewest 66 = .ok (.ireturn, 1) := by decide +kernel
theorem dX10_putBack_0 : decode cX10_putBack 0 = .ok (.aload_n 0, 1) := by decide +kernel
theorem dX10_putBack_1 : decode cX10_putBack 1 = .ok (.getfield 175, 3) := by decide +kernel
theorem dX10_putBack_4 : decode cX10_putBack 4 = .ok (.ifnonnull 13, 3) := by decide +kernel
theorem dX10_putBack_7 : decode cX10_putBack 7 = .ok (.new 55, 3) := by decide +kernel
theorem dX10_putBack_10 : decode cX10_putBack 10 = .ok (.dup, 1) := by decide +kernel
theorem dX10_putBack_11 : decode cX10_putBack 11 = .ok (.ldc 185, 2) := by decide +kernel
theorem dX10_putBack_13 : decode cX10_putBack 13 = .ok (.invokespecial 59, 3) := by decide +kernel
theorem dX10_putBack_16 : decode cX10_putBack 16 = .ok (.athrow, 1) := by decide +kernel
theorem dX10_putBack_17 : decode cX10_putBack 17 = .ok (.aload_n 0, 1) := by decide +kernel
theorem dX10_putBack_18 : decode cX10_putBack 18 = .ok (.invokevirtual 195, 3) := by decide +kernel
theorem dX10_putBack_21 : decode cX10_putBack 21 = .ok (.aload_n 0, 1) := by decide +kernel
theorem dX10_putBack_22 : decode cX10_putBack 22 = .ok (.getfield 33, 3) := by decide +kernel
theorem dX10_putBack_25 : decode cX10_putBack 25 = .ok (.invokevirtual 209, 3) := by decide +kernel
theorem dX10_putBack_28 : decode cX10_putBack 28 = .ok (.ifCond .eq 13, 3) := by decide +kernel
theorem dX10_putBack_31 : decode cX10_putBack 31 = .ok (.new 55, 3) := by decide +kernel
theorem dX10_putBack_34 : decode cX10_putBack 34 = .ok (.dup, 1) := by decide +kernel
theorem dX10_putBack_35 : decode cX10_putBack 35 = .ok (.ldc 229, 2) := by decide +kernel
theorem dX10_putBack_37 : decode cX10_putBack 37 = .ok (.invokespecial 59, 3) := by decide +kernel
theorem dX10_putBack_40 : decode cX10_putBack 40 = .ok (.athrow, 1) := by decide +kernel
theorem dX10_putBack_41 : decode cX10_putBack 41 = .ok (.aload_n 0, 1) := by decide +kernel
theorem dX10_putBack_42 : decode cX10_putBack 42 = .ok (.invokevirtual 213, 3) := by decide +kernel
theorem dX10_putBack_45 : decode cX10_putBack 45 = .ok (.istore_n 1, 1) := by decide +kernel
theorem dX10_putBack_46 : decode cX10_putBack 46 = .ok (.aload_n 0, 1) := by decide +kernel
theorem dX10_putBack_47 : decode cX10_putBack 47 = .ok (.invokevirtual 231, 3) := by decide +kernel
theorem dX10_putBack_50 : decode cX10_putBack 50 = .ok (.aload_n 0, 1) := by decide +kernel
theorem dX10_putBack_51 : decode cX10_putBack 51 = .ok (.aconst_null, 1) := by decide +kernel
theorem dX10_putBack_52 : decode cX10_putBack 52 = .ok (.putfield 175, 3) := by decide +kernel
theorem dX10_putBack_55 : decode cX10_putBack 55 = .ok (.iload_n 1, 1) := by decide +kernel
theorem dX10_putBack_56 : decode cX10_putBack 56 = .ok (.ireturn, 1) := by decide +kernel
theorem dX10_undo_0 : decode cX10_undo 0 = .ok (.aload_n 0, 1) := by decide +kernel
theorem dX10_undo_1 : decode cX10_undo 1 = .ok (.getfield 234, 3) := by decide +kernel
theorem dX10_undo_4 : decode cX10_undo 4 = .ok (.ifCond .gt 13, 3) := by decide +kernel
theorem dX10_undo_7 : decode cX10_undo 7 = .ok (.new 55, 3) := by decide +kernel
theorem dX10_undo_10 : decode cX10_undo 10 = .ok (.dup, 1) := by decide +kernel
theorem dX10_undo_11 : decode cX10_undo 11 = .ok (.ldc 237, 2) := by decide +kernel
theorem dX10_undo_13 : decode cX10_undo 13 = .ok (.invokespecial 59, 3) := by decide +kernel
theorem dX10_undo_16 : decode cX10_undo 16 = .ok (.athrow, 1) := by decide +kernel
theorem dX10_undo_17 : decode cX10_undo 17 = .ok (.aload_n 0, 1) := by decide +kernel
theorem dX10_undo_18 : decode cX10_undo 18 = .ok (.dup, 1) := by decide +kernel
theorem dX10_undo_19 : decode cX10_undo 19 = .ok (.getfield 234, 3) := by decide +kernel
theorem dX10_undo_22 : decode cX10_undo 22 = .ok (.iconst 1, 1) := by decide +kernel
theorem dX10_undo_23 : decode cX10_undo 23 = .ok (.isub, 1) := by decide +kernel
theorem dX10_undo_24 : decode cX10_undo 24 = .ok (.putfield 234, 3) := by decide +kernel
theorem dX10_undo_27 : decode cX10_undo 27 = .ok (.iconst 0, 1) := by decide +kernel
theorem dX10_undo_28 : decode cX10_undo 28 = .ok (.istore_n 1, 1) := by decide +kernel
theorem dX10_undo_29 : decode cX10_undo 29 = .ok (.iload_n 1, 1) := by decide +kernel
theorem dX10_undo_30 : decode cX10_undo 30 = .ok (.aload_n 0, 1) := by decide +kernel
theorem dX10_undo_31 : decode cX10_undo 31 = .ok (.getfield 51, 3) := by decide +kernel
theorem dX10_undo_34 : decode cX10_undo 34 = .ok (.if_icmp .ge 27, 3) := by decide +kernel
theorem dX10_undo_37 : decode cX10_undo 37 = .ok (.aload_n 0, 1) := by decide +kernel
theorem dX10_undo_38 : decode cX10_undo 38 = .ok (.iload_n 1, 1) := by decide +kernel
theorem dX10_undo_39 : decode cX10_undo 39 = .ok (.invokevirtual 63, 3) := by decide +kernel
theorem dX10_undo_42 : decode cX10_undo 42 = .ok (.astore_n 2, 1) := by decide +kernel
theorem dX10_undo_43 : decode cX10_undo 43 = .ok (.aload_n 2, 1) := by decide +kernel
theorem dX10_undo_44 : decode cX10_undo 44 = .ok (.ifnull 11, 3) := by decide +kernel
theorem dX10_undo_47 : decode cX10_undo 47 = .ok (.aload_n 2, 1) := by decide +kernel
theorem dX10_undo_48 : decode cX10_undo 48 = .ok (.aload_n 0, 1) := by decide +kernel
theorem dX10_undo_49 : decode cX10_undo 49 = .ok (.getfield 234, 3) := by decide +kernel
theorem dX10_undo_52 : decode cX10_undo 52 = .ok (.invokevirtual 239, 3) := by decide +kernel
theorem dX10_undo_55 : decode cX10_undo 55 = .ok (.iinc 1 1, 3) := by decide +kernel
theorem dX10_undo_58 : decode cX10_undo 58 = .ok (.goto (-29), 3) := by decide +kernel
theorem dX10_undo_61 : decode cX10_undo 61 = .ok (.aload_n 0, 1) := by decide +kernel
theorem dX10_undo_62 : decode cX10_undo 62 = .ok (.invokevirtual 102, 3) := by decide +kernel
theorem dX10_undo_65 : decode cX10_undo 65 = .ok (.aload_n 0, 1) := by decide +kernel
theorem dX10_undo_66 : decode cX10_undo 66 = .ok (.getfield 234, 3) := by decide +kernel
theorem dX10_undo_69 : decode cX10_undo 69 = .ok (.ireturn, 1) := by decide +kernel
theorem dX10_tableAt_0 : decode cX10_tableAt 0 = .ok (.iload_n 1, 1) := by decide +kernel
theorem dX10_tableAt_1 : decode cX10_tableAt 1 = .ok (.ifCond .lt 20, 3) := by decide +kernel
theorem dX10_tableAt_4 : decode cX10_tableAt 4 = .ok (.iload_n 1, 1) := by decide +kernel
theorem dX10_tableAt_5 : decode cX10_tableAt 5 = .ok (.aload_n 0, 1) := by decide +kernel
theorem dX10_tableAt_6 : decode cX10_tableAt 6 = .ok (.getfield 51, 3) := by decide +kernel
theorem dX10_tableAt_9 : decode cX10_tableAt 9 = .ok (.if_icmp .ge 12, 3) := by decide +kernel
theorem dX10_tableAt_12 : decode cX10_tableAt 12 = .ok (.iload_n 1, 1) := by decide +kernel
theorem dX10_tableAt_13 : decode cX10_tableAt 13 = .ok (.aload_n 0, 1) := by decide +kernel
theorem dX10_tableAt_14 : decode cX10_tableAt 14 = .ok (.getfield 11, 3) := by decide +kernel
theorem dX10_tableAt_17 : decode cX10_tableAt 17 = .ok (.arraylength, 1) := by decide +kernel
theorem dX10_tableAt_18 : decode cX10_tableAt 18 = .ok (.if_icmp .lt 7, 3) := by decide +kernel
theorem dX10_tableAt_21 : decode cX10_tableAt 21 = .ok (.aconst_null, 1) := by decide +kernel
theorem dX10_tableAt_22 : decode cX10_tableAt 22 = .ok (.goto 9, 3) := by decide +kernel
theorem dX10_tableAt_25 : decode cX10_tableAt 25 = .ok (.aload_n 0, 1) := by decide +kernel
theorem dX10_tableAt_26 : decode cX10_tableAt 26 = .ok (.getfield 11, 3) := by decide +kernel
theorem dX10_tableAt_29 : decode cX10_tableAt 29 = .ok (.iload_n 1, 1) := by decide +kernel
theorem dX10_tableAt_30 : decode cX10_tableAt 30 = .ok (.aaload, 1) := by decide +kernel
theorem dX10_tableAt_31 : decode cX10_tableAt 31 = .ok (.areturn, 1) := by decide +kernel
theorem dX10_viewAt_0 : decode cX10_viewAt 0 = .ok (.iload_n 1, 1) := by decide +kernel
theorem dX10_viewAt_1 : decode cX10_viewAt 1 = .ok (.ifCond .lt 20, 3) := by decide +kernel
theorem dX10_viewAt_4 : decode cX10_viewAt 4 = .ok (.iload_n 1, 1) := by decide +kernel
theorem dX10_viewAt_5 : decode cX10_viewAt 5 = .ok (.aload_n 0, 1) := by decide +kernel
theorem dX10_viewAt_6 : decode cX10_viewAt 6 = .ok (.getfield 117, 3) := by decide +kernel
theorem dX10_viewAt_9 : decode cX10_viewAt 9 = .ok (.if_icmp .ge 12, 3) := by decide +kernel
theorem dX10_viewAt_12 : decode cX10_viewAt 12 = .ok (.iload_n 1, 1) := by decide +kernel
theorem dX10_viewAt_13 : decode cX10_viewAt 13 = .ok (.aload_n 0, 1) := by decide +kernel
theorem dX10_viewAt_14 : decode cX10_viewAt 14 = .ok (.getfield 17, 3) := by decide +kernel
theorem dX10_viewAt_17 : decode cX10_viewAt 17 = .ok (.arraylength, 1) := by decide +kernel
theorem dX10_viewAt_18 : decode cX10_viewAt 18 = .ok (.if_icmp .lt 7, 3) := by decide +kernel
theorem dX10_viewAt_21 : decode cX10_viewAt 21 = .ok (.aconst_null, 1) := by decide +kernel
theorem dX10_viewAt_22 : decode cX10_viewAt 22 = .ok (.goto 9, 3) := by decide +kernel
theorem dX10_viewAt_25 : decode cX10_viewAt 25 = .ok (.aload_n 0, 1) := by decide +kernel
theorem dX10_viewAt_26 : decode cX10_viewAt 26 = .ok (.getfield 17, 3) := by decide +kernel
theorem dX10_viewAt_29 : decode cX10_viewAt 29 = .ok (.iload_n 1, 1) := by decide +kernel
theorem dX10_viewAt_30 : decode cX10_viewAt 30 = .ok (.aaload, 1) := by decide +kernel
theorem dX10_viewAt_31 : decode cX10_viewAt 31 = .ok (.areturn, 1) := by decide +kernel
theorem dX10_onlyTable_0 : decode cX10_onlyTable 0 = .ok (.iconst 0, 1) := by decide +kernel
theorem dX10_onlyTable_1 : decode cX10_onlyTable 1 = .ok (.istore_n 2, 1) := by decide +kernel
theorem dX10_onlyTable_2 : decode cX10_onlyTable 2 = .ok (.iload_n 2, 1) := by decide +kernel
theorem dX10_onlyTable_3 : decode cX10_onlyTable 3 = .ok (.aload_n 0, 1) := by decide +kernel
theorem dX10_onlyTable_4 : decode cX10_onlyTable 4 = .ok (.getfield 51, 3) := by decide +kernel
theorem dX10_onlyTable_7 : decode cX10_onlyTable 7 = .ok (.if_icmp .ge 22, 3) := by decide +kernel
theorem dX10_onlyTable_10 : decode cX10_onlyTable 10 = .ok (.iload_n 1, 1) := by decide +kernel
theorem dX10_onlyTable_11 : decode cX10_onlyTable 11 = .ok (.iconst 1, 1) := by decide +kernel
theorem dX10_onlyTable_12 : decode cX10_onlyTable 12 = .ok (.iload_n 2, 1) := by decide +kernel
theorem dX10_onlyTable_13 : decode cX10_onlyTable 13 = .ok (.ishl, 1) := by decide +kernel
theorem dX10_onlyTable_14 : decode cX10_onlyTable 14 = .ok (.if_icmp .ne 9, 3) := by decide +kernel
theorem dX10_onlyTable_17 : decode cX10_onlyTable 17 = .ok (.aload_n 0, 1) := by decide +kernel
theorem dX10_onlyTable_18 : decode cX10_onlyTable 18 = .ok (.iload_n 2, 1) := by decide +kernel
theorem dX10_onlyTable_19 : decode cX10_onlyTable 19 = .ok (.invokevirtual 63, 3) := by decide +kernel
theorem dX10_onlyTable_22 : decode cX10_onlyTable 22 = .ok (.areturn, 1) := by decide +kernel
theorem dX10_onlyTable_23 : decode cX10_onlyTable 23 = .ok (.iinc 2 1, 3) := by decide +kernel
theorem dX10_onlyTable_26 : decode cX10_onlyTable 26 = .ok (.goto (-24), 3) := by decide +kernel
theorem dX10_onlyTable_29 : decode cX10_onlyTable 29 = .ok (.aconst_null, 1) := by decide +kernel
theorem dX10_onlyTable_30 : decode cX10_onlyTable 30 = .ok (.areturn, 1) := by decide +kernel
theorem dX10_keepView_0 : decode cX10_keepView 0 = .ok (.aload_n 1, 1) := by decide +kernel
theorem dX10_keepView_1 : decode cX10_keepView 1 = .ok (.invokevirtual 242, 3) := by decide +kernel
theorem dX10_keepView_4 : decode cX10_keepView 4 = .ok (.aload_n 0, 1) := by decide +kernel
theorem dX10_keepView_5 : decode cX10_keepView 5 = .ok (.getfield 117, 3) := by decide +kernel
theorem dX10_keepView_8 : decode cX10_keepView 8 = .ok (.ifCond .lt 35, 3) := by decide +kernel
theorem dX10_keepView_11 : decode cX10_keepView 11 = .ok (.aload_n 0, 1) := by decide +kernel
theorem dX10_keepView_12 : decode cX10_keepView 12 = .ok (.getfield 117, 3) := by decide +kernel
theorem dX10_keepView_15 : decode cX10_keepView 15 = .ok (.aload_n 0, 1) := by decide +kernel
theorem dX10_keepView_16 : decode cX10_keepView 16 = .ok (.getfield 17, 3) := by decide +kernel
theorem dX10_keepView_19 : decode cX10_keepView 19 = .ok (.arraylength, 1) := by decide +kernel
theorem dX10_keepView_20 : decode cX10_keepView 20 = .ok (.if_icmp .ge 23, 3) := by decide +kernel
theorem dX10_keepView_23 : decode cX10_keepView 23 = .ok (.aload_n 0, 1) := by decide +kernel
theorem dX10_keepView_24 : decode cX10_keepView 24 = .ok (.getfield 17, 3) := by decide +kernel
theorem dX10_keepView_27 : decode cX10_keepView 27 = .ok (.aload_n 0, 1) := by decide +kernel
theorem dX10_keepView_28 : decode cX10_keepView 28 = .ok (.getfield 117, 3) := by decide +kernel
theorem dX10_keepView_31 : decode cX10_keepView 31 = .ok (.aload_n 1, 1) := by decide +kernel
theorem dX10_keepView_32 : decode cX10_keepView 32 = .ok (.aastore, 1) := by decide +kernel
theorem dX10_keepView_33 : decode cX10_keepView 33 = .ok (.aload_n 0, 1) := by decide +kernel
theorem dX10_keepView_34 : decode cX10_keepView 34 = .ok (.dup, 1) := by decide +kernel
theorem dX10_keepView_35 : decode cX10_keepView 35 = .ok (.getfield 117, 3) := by decide +kernel
theorem dX10_keepView_38 : decode cX10_keepView 38 = .ok (.iconst 1, 1) := by decide +kernel
theorem dX10_keepView_39 : decode cX10_keepView 39 = .ok (.iadd, 1) := by decide +kernel
theorem dX10_keepView_40 : decode cX10_keepView 40 = .ok (.putfield 117, 3) := by decide +kernel
theorem dX10_keepView_43 : decode cX10_keepView 43 = .ok (.aload_n 1, 1) := by decide +kernel
theorem dX10_keepView_44 : decode cX10_keepView 44 = .ok (.getfield 245, 3) := by decide +kernel
theorem dX10_keepView_47 : decode cX10_keepView 47 = .ok (.ireturn, 1) := by decide +kernel
theorem dX10_showViews_0 : decode cX10_showViews 0 = .ok (.iconst 0, 1) := by decide +kernel
theorem dX10_showViews_1 : decode cX10_showViews 1 = .ok (.istore_n 1, 1) := by decide +kernel
theorem dX10_showViews_2 : decode cX10_showViews 2 = .ok (.iload_n 1, 1) := by decide +kernel
theorem dX10_showViews_3 : decode cX10_showViews 3 = .ok (.aload_n 0, 1) := by decide +kernel
theorem dX10_showViews_4 : decode cX10_showViews 4 = .ok (.getfield 117, 3) := by decide +kernel
theorem dX10_showViews_7 : decode cX10_showViews 7 = .ok (.if_icmp .ge 23, 3) := by decide +kernel
theorem dX10_showViews_10 : decode cX10_showViews 10 = .ok (.aload_n 0, 1) := by decide +kernel
theorem dX10_showViews_11 : decode cX10_showViews 11 = .ok (.iload_n 1, 1) := by decide +kernel
theorem dX10_showViews_12 : decode cX10_showViews 12 = .ok (.invokevirtual 131, 3) := by decide +kernel
theorem dX10_showViews_15 : decode cX10_showViews 15 = .ok (.astore_n 2, 1) := by decide +kernel
theorem dX10_showViews_16 : decode cX10_showViews 16 = .ok (.aload_n 2, 1) := by decide +kernel
theorem dX10_showViews_17 : decode cX10_showViews 17 = .ok (.ifnull 7, 3) := by decide +kernel
theorem dX10_showViews_20 : decode cX10_showViews 20 = .ok (.aload_n 2, 1) := by decide +kernel
theorem dX10_showViews_21 : decode cX10_showViews 21 = .ok (.invokevirtual 242, 3) := by decide +kernel
theorem dX10_showViews_24 : decode cX10_showViews 24 = .ok (.iinc 1 1, 3) := by decide +kernel
theorem dX10_showViews_27 : decode cX10_showViews 27 = .ok (.goto (-25), 3) := by decide +kernel
theorem dX10_showViews_30 : decode cX10_showViews 30 = .ok (.return_, 1) := by decide +kernel
theorem dX10_planPutBack_0 : decode cX10_planPutBack 0 = .ok (.iconst 0, 1) := by decide +kernel
theorem dX10_planPutBack_1 : decode cX10_planPutBack 1 = .ok (.istore_n 1, 1) := by decide +kernel
theorem dX10_planPutBack_2 : decode cX10_planPutBack 2 = .ok (.iload_n 1, 1) := by decide +kernel
theorem dX10_planPutBack_3 : decode cX10_planPutBack 3 = .ok (.aload_n 0, 1) := by decide +kernel
theorem dX10_planPutBack_4 : decode cX10_planPutBack 4 = .ok (.getfield 51, 3) := by decide +kernel
theorem dX10_planPutBack_7 : decode cX10_planPutBack 7 = .ok (.if_icmp .ge 30, 3) := by decide +kernel
theorem dX10_planPutBack_10 : decode cX10_planPutBack 10 = .ok (.aload_n 0, 1) := by decide +kernel
theorem dX10_planPutBack_11 : decode cX10_planPutBack 11 = .ok (.iload_n 1, 1) := by decide +kernel
theorem dX10_planPutBack_12 : decode cX10_planPutBack 12 = .ok (.invokevirtual 63, 3) := by decide +kernel
theorem dX10_planPutBack_15 : decode cX10_planPutBack 15 = .ok (.astore_n 2, 1) := by decide +kernel
theorem dX10_planPutBack_16 : decode cX10_planPutBack 16 = .ok (.aload_n 2, 1) := by decide +kernel
theorem dX10_planPutBack_17 : decode cX10_planPutBack 17 = .ok (.ifnull 14, 3) := by decide +kernel
theorem dX10_planPutBack_20 : decode cX10_planPutBack 20 = .ok (.aload_n 2, 1) := by decide +kernel
theorem dX10_planPutBack_21 : decode cX10_planPutBack 21 = .ok (.getfield 248, 3) := by decide +kernel
theorem dX10_planPutBack_24 : decode cX10_planPutBack 24 = .ok (.aload_n 2, 1) := by decide +kernel
theorem dX10_planPutBack_25 : decode cX10_planPutBack 25 = .ok (.getfield 83, 3) := by decide +kernel
theorem dX10_planPutBack_28 : decode cX10_planPutBack 28 = .ok (.invokevirtual 179, 3) := by decide +kernel
theorem dX10_planPutBack_31 : decode cX10_planPutBack 31 = .ok (.iinc 1 1, 3) := by decide +kernel
theorem dX10_planPutBack_34 : decode cX10_planPutBack 34 = .ok (.goto (-32), 3) := by decide +kernel
theorem dX10_planPutBack_37 : decode cX10_planPutBack 37 = .ok (.aload_n 0, 1) := by decide +kernel
theorem dX10_planPutBack_38 : decode cX10_planPutBack 38 = .ok (.getfield 33, 3) := by decide +kernel
theorem dX10_planPutBack_41 : decode cX10_planPutBack 41 = .ok (.invokevirtual 251, 3) := by decide +kernel
theorem dX10_planPutBack_44 : decode cX10_planPutBack 44 = .ok (.aload_n 0, 1) := by decide +kernel
theorem dX10_planPutBack_45 : decode cX10_planPutBack 45 = .ok (.getfield 175, 3) := by decide +kernel
theorem dX10_planPutBack_48 : decode cX10_planPutBack 48 = .ok (.ifnull 29, 3) := by decide +kernel
theorem dX10_planPutBack_51 : decode cX10_planPutBack 51 = .ok (.aload_n 0, 1) := by decide +kernel
theorem dX10_planPutBack_52 : decode cX10_planPutBack 52 = .ok (.getfield 175, 3) := by decide +kernel
theorem dX10_planPutBack_55 : decode cX10_planPutBack 55 = .ok (.getfield 254, 3) := by decide +kernel
theorem dX10_planPutBack_58 : decode cX10_planPutBack 58 = .ok (.aload_n 0, 1) := by decide +kernel
theorem dX10_planPutBack_59 : decode cX10_planPutBack 59 = .ok (.getfield 26, 3) := by decide +kernel
theorem dX10_planPutBack_62 : decode cX10_planPutBack 62 = .ok (.invokevirtual 179, 3) := by decide +kernel
theorem dX10_planPutBack_65 : decode cX10_planPutBack 65 = .ok (.aload_n 0, 1) := by decide +kernel
theorem dX10_planPutBack_66 : decode cX10_planPutBack 66 = .ok (.getfield 175, 3) := by decide +kernel
theorem dX10_planPutBack_69 : decode cX10_planPutBack 69 = .ok (.aload_n 0, 1) := by decide +kernel
theorem dX10_planPutBack_70 : decode cX10_planPutBack 70 = .ok (.getfield 33, 3) := by decide +kernel
theorem dX10_planPutBack_73 : decode cX10_planPutBack 73 = .ok (.iconst 0, 1) := by decide +kernel
theorem dX10_planPutBack_74 : decode cX10_planPutBack 74 = .ok (.invokestatic 255, 3) := by decide +kernel
theorem dX10_planPutBack_77 : decode cX10_planPutBack 77 = .ok (.return_, 1) := by decide +kernel
theorem dX10_passDown_0 : decode cX10_passDown 0 = .ok (.aload_n 0, 1) := by decide +kernel
theorem dX10_passDown_1 : decode cX10_passDown 1 = .ok (.ifnull 16, 3) := by decide +kernel
theorem dX10_passDown_4 : decode cX10_passDown 4 = .ok (.iload_n 2, 1) := by decide +kernel
theorem dX10_passDown_5 : decode cX10_passDown 5 = .ok (.bipush 10, 2) := by decide +kernel
theorem dX10_passDown_7 : decode cX10_passDown 7 = .ok (.if_icmp .ge 10, 3) := by decide +kernel
theorem dX10_passDown_10 : decode cX10_passDown 10 = .ok (.aload_n 1, 1) := by decide +kernel
theorem dX10_passDown_11 : decode cX10_passDown 11 = .ok (.invokevirtual 209, 3) := by decide +kernel
theorem dX10_passDown_14 : decode cX10_passDown 14 = .ok (.ifCond .eq 4, 3) := by decide +kernel
theorem dX10_passDown_17 : decode cX10_passDown 17 = .ok (.return_, 1) := by decide +kernel
theorem dX10_passDown_18 : decode cX10_passDown 18 = .ok (.aload_n 0, 1) := by decide +kernel
theorem dX10_passDown_19 : decode cX10_passDown 19 = .ok (.aload_n 1, 1) := by decide +kernel
theorem dX10_passDown_20 : decode cX10_passDown 20 = .ok (.invokevirtual 259, 3) := by decide +kernel
theorem dX10_passDown_23 : decode cX10_passDown 23 = .ok (.aload_n 1, 1) := by decide +kernel
theorem dX10_passDown_24 : decode cX10_passDown 24 = .ok (.invokevirtual 209, 3) := by decide +kernel
theorem dX10_passDown_27 : decode cX10_passDown 27 = .ok (.ifCond .eq 4, 3) := by decide +kernel
theorem dX10_passDown_30 : decode cX10_passDown 30 = .ok (.return_, 1) := by decide +kernel
theorem dX10_passDown_31 : decode cX10_passDown 31 = .ok (.aload_n 0, 1) := by decide +kernel
theorem dX10_passDown_32 : decode cX10_passDown 32 = .ok (.invokevirtual 263, 3) := by decide +kernel
theorem dX10_passDown_35 : decode cX10_passDown 35 = .ok (.aload_n 0, 1) := by decide +kernel
theorem dX10_passDown_36 : decode cX10_passDown 36 = .ok (.getfield 266, 3) := by decide +kernel
theorem dX10_passDown_39 : decode cX10_passDown 39 = .ok (.aload_n 1, 1) := by decide +kernel
theorem dX10_passDown_40 : decode cX10_passDown 40 = .ok (.iload_n 2, 1) := by decide +kernel
theorem dX10_passDown_41 : decode cX10_passDown 41 = .ok (.iconst 1, 1) := by decide +kernel
theorem dX10_passDown_42 : decode cX10_passDown 42 = .ok (.iadd, 1) := by decide +kernel
theorem dX10_passDown_43 : decode cX10_passDown 43 = .ok (.invokestatic 255, 3) := by decide +kernel
theorem dX10_passDown_46 : decode cX10_passDown 46 = .ok (.aload_n 0, 1) := by decide +kernel
theorem dX10_passDown_47 : decode cX10_passDown 47 = .ok (.getfield 269, 3) := by decide +kernel
theorem dX10_passDown_50 : decode cX10_passDown 50 = .ok (.aload_n 1, 1) := by decide +kernel
theorem dX10_passDown_51 : decode cX10_passDown 51 = .ok (.iload_n 2, 1) := by decide +kernel
theorem dX10_passDown_52 : decode cX10_passDown 52 = .ok (.iconst 1, 1) := by decide +kernel
theorem dX10_passDown_53 : decode cX10_passDown 53 = .ok (.iadd, 1) := by decide +kernel
theorem dX10_passDown_54 : decode cX10_passDown 54 = .ok (.invokestatic 255, 3) := by decide +kernel
theorem dX10_passDown_57 : decode cX10_passDown 57 = .ok (.return_, 1) := by decide +kernel
theorem dX10_countPlanned_0 : decode cX10_countPlanned 0 = .ok (.iconst 0, 1) := by decide +kernel
theorem dX10_countPlanned_1 : decode cX10_countPlanned 1 = .ok (.istore_n 1, 1) := by decide +kernel
theorem dX10_countPlanned_2 : decode cX10_countPlanned 2 = .ok (.iconst 0, 1) := by decide +kernel
theorem dX10_countPlanned_3 : decode cX10_countPlanned 3 = .ok (.istore_n 2, 1) := by decide +kernel
theorem dX10_countPlanned_4 : decode cX10_countPlanned 4 = .ok (.iload_n 2, 1) := by decide +kernel
theorem dX10_countPlanned_5 : decode cX10_countPlanned 5 = .ok (.aload_n 0, 1) := by decide +kernel
theorem dX10_countPlanned_6 : decode cX10_countPlanned 6 = .ok (.getfield 51, 3) := by decide +kernel
theorem dX10_countPlanned_9 : decode cX10_countPlanned 9 = .ok (.if_icmp .ge 45, 3) := by decide +kernel
theorem dX10_countPlanned_12 : decode cX10_countPlanned 12 = .ok (.aload_n 0, 1) := by decide +kernel
theorem dX10_countPlanned_13 : decode cX10_countPlanned 13 = .ok (.iload_n 2, 1) := by decide +kernel
theorem dX10_countPlanned_14 : decode cX10_countPlanned 14 = .ok (.invokevirtual 63, 3) := by decide +kernel
theorem dX10_countPlanned_17 : decode cX10_countPlanned 17 = .ok (.astore_n 3, 1) := by decide +kernel
theorem dX10_countPlanned_18 : decode cX10_countPlanned 18 = .ok (.aload_n 3, 1) := by decide +kernel
theorem dX10_countPlanned_19 : decode cX10_countPlanned 19 = .ok (.ifnull 29, 3) := by decide +kernel
theorem dX10_countPlanned_22 : decode cX10_countPlanned 22 = .ok (.iload_n 1, 1) := by decide +kernel
theorem dX10_countPlanned_23 : decode cX10_countPlanned 23 = .ok (.aload_n 3, 1) := by decide +kernel
theorem dX10_countPlanned_24 : decode cX10_countPlanned 24 = .ok (.getfield 83, 3) := by decide +kernel
theorem dX10_countPlanned_27 : decode cX10_countPlanned 27 = .ok (.aload_n 3, 1) := by decide +kernel
theorem dX10_countPlanned_28 : decode cX10_countPlanned 28 = .ok (.getfield 248, 3) := by decide +kernel
theorem dX10_countPlanned_31 : decode cX10_countPlanned 31 = .ok (.invokevirtual 272, 3) := by decide +kernel
theorem dX10_countPlanned_34 : decode cX10_countPlanned 34 = .ok (.aload_n 3, 1) := by decide +kernel
theorem dX10_countPlanned_35 : decode cX10_countPlanned 35 = .ok (.getfield 248, 3) := by decide +kernel
theorem dX10_countPlanned_38 : decode cX10_countPlanned 38 = .ok (.aload_n 3, 1) := by decide +kernel
theorem dX10_countPlanned_39 : decode cX10_countPlanned 39 = .ok (.getfield 83, 3) := by decide +kernel
theorem dX10_countPlanned_42 : decode cX10_countPlanned 42 = .ok (.invokevirtual 272, 3) := by decide +kernel
theorem dX10_countPlanned_45 : decode cX10_countPlanned 45 = .ok (.iadd, 1) := by decide +kernel
theorem dX10_countPlanned_46 : decode cX10_countPlanned 46 = .ok (.iadd, 1) := by decide +kernel
theorem dX10_countPlanned_47 : decode cX10_countPlanned 47 = .ok (.istore_n 1, 1) := by decide +kernel
theorem dX10_countPlanned_48 : decode cX10_countPlanned 48 = .ok (.iinc 2 1, 3) := by decide +kernel
theorem dX10_countPlanned_51 : decode cX10_countPlanned 51 = .ok (.goto (-47), 3) := by decide +kernel
theorem dX10_countPlanned_54 : decode cX10_countPlanned 54 = .ok (.iload_n 1, 1) := by decide +kernel
theorem dX10_countPlanned_55 : decode cX10_countPlanned 55 = .ok (.ireturn, 1) := by decide +kernel
theorem dX10_carryOut_0 : decode cX10_carryOut 0 = .ok (.iconst 0, 1) := by decide +kernel
theorem dX10_carryOut_1 : decode cX10_carryOut 1 = .ok (.istore_n 1, 1) := by decide +kernel
theorem dX10_carryOut_2 : decode cX10_carryOut 2 = .ok (.iload_n 1, 1) := by decide +kernel
theorem dX10_carryOut_3 : decode cX10_carryOut 3 = .ok (.aload_n 0, 1) := by decide +kernel
theorem dX10_carryOut_4 : decode cX10_carryOut 4 = .ok (.getfield 51, 3) := by decide +kernel
theorem dX10_carryOut_7 : decode cX10_carryOut 7 = .ok (.if_icmp .ge 38, 3) := by decide +kernel
theorem dX10_carryOut_10 : decode cX10_carryOut 10 = .ok (.aload_n 0, 1) := by decide +kernel
theorem dX10_carryOut_11 : decode cX10_carryOut 11 = .ok (.iload_n 1, 1) := by decide +kernel
theorem dX10_carryOut_12 : decode cX10_carryOut 12 = .ok (.invokevirtual 63, 3) := by decide +kernel
theorem dX10_carryOut_15 : decode cX10_carryOut 15 = .ok (.astore_n 2, 1) := by decide +kernel
theorem dX10_carryOut_16 : decode cX10_carryOut 16 = .ok (.aload_n 2, 1) := by decide +kernel
theorem dX10_carryOut_17 : decode cX10_carryOut 17 = .ok (.ifnull 22, 3) := by decide +kernel
theorem dX10_carryOut_20 : decode cX10_carryOut 20 = .ok (.aload_n 2, 1) := by decide +kernel
theorem dX10_carryOut_21 : decode cX10_carryOut 21 = .ok (.aload_n 0, 1) := by decide +kernel
theorem dX10_carryOut_22 : decode cX10_carryOut 22 = .ok (.getfield 234, 3) := by decide +kernel
theorem dX10_carryOut_25 : decode cX10_carryOut 25 = .ok (.invokevirtual 276, 3) := by decide +kernel
theorem dX10_carryOut_28 : decode cX10_carryOut 28 = .ok (.aload_n 2, 1) := by decide +kernel
theorem dX10_carryOut_29 : decode cX10_carryOut 29 = .ok (.getfield 83, 3) := by decide +kernel
theorem dX10_carryOut_32 : decode cX10_carryOut 32 = .ok (.aload_n 2, 1) := by decide +kernel
theorem dX10_carryOut_33 : decode cX10_carryOut 33 = .ok (.getfield 248, 3) := by decide +kernel
theorem dX10_carryOut_36 : decode cX10_carryOut 36 = .ok (.invokevirtual 179, 3) := by decide +kernel
theorem dX10_carryOut_39 : decode cX10_carryOut 39 = .ok (.iinc 1 1, 3) := by decide +kernel
theorem dX10_carryOut_42 : decode cX10_carryOut 42 = .ok (.goto (-40), 3) := by decide +kernel
theorem dX10_carryOut_45 : decode cX10_carryOut 45 = .ok (.aload_n 0, 1) := by decide +kernel
theorem dX10_carryOut_46 : decode cX10_carryOut 46 = .ok (.aload_n 0, 1) := by decide +kernel
theorem dX10_carryOut_47 : decode cX10_carryOut 47 = .ok (.getfield 234, 3) := by decide +kernel
theorem dX10_carryOut_50 : decode cX10_carryOut 50 = .ok (.iconst 1, 1) := by decide +kernel
theorem dX10_carryOut_51 : decode cX10_carryOut 51 = .ok (.iadd, 1) := by decide +kernel
theorem dX10_carryOut_52 : decode cX10_carryOut 52 = .ok (.iconst 5, 1) := by decide +kernel
theorem dX10_carryOut_53 : decode cX10_carryOut 53 = .ok (.invokestatic 279, 3) := by decide +kernel
theorem dX10_carryOut_56 : decode cX10_carryOut 56 = .ok (.putfield 234, 3) := by decide +kernel
theorem dX10_carryOut_59 : decode cX10_carryOut 59 = .ok (.aload_n 0, 1) := by decide +kernel
theorem dX10_carryOut_60 : decode cX10_carryOut 60 = .ok (.invokevirtual 102, 3) := by decide +kernel
theorem dX10_carryOut_63 : decode cX10_carryOut 63 = .ok (.return_, 1) := by decide +kernel
theorem dJ6_bitCount_0f7a4_0 : decode cJ6_bitCount_0f7a4 0 = .ok (.iload_n 0, 1) := by decide +kernel
theorem dJ6_bitCount_0f7a4_1 : decode cJ6_bitCount_0f7a4 1 = .ok (.iload_n 0, 1) := by decide +kernel
theorem dJ6_bitCount_0f7a4_2 : decode cJ6_bitCount_0f7a4 2 = .ok (.iconst 1, 1) := by decide +kernel
theorem dJ6_bitCount_0f7a4_3 : decode cJ6_bitCount_0f7a4 3 = .ok (.iushr, 1) := by decide +kernel
theorem dJ6_bitCount_0f7a4_4 : decode cJ6_bitCount_0f7a4 4 = .ok (.ldc_w 265, 3) := by decide +kernel
theorem dJ6_bitCount_0f7a4_7 : decode cJ6_bitCount_0f7a4 7 = .ok (.iand, 1) := by decide +kernel
theorem dJ6_bitCount_0f7a4_8 : decode cJ6_bitCount_0f7a4 8 = .ok (.isub, 1) := by decide +kernel
theorem dJ6_bitCount_0f7a4_9 : decode cJ6_bitCount_0f7a4 9 = .ok (.istore_n 0, 1) := by decide +kernel
theorem dJ6_bitCount_0f7a4_10 : decode cJ6_bitCount_0f7a4 10 = .ok (.iload_n 0, 1) := by decide +kernel
theorem dJ6_bitCount_0f7a4_11 : decode cJ6_bitCount_0f7a4 11 = .ok (.ldc_w 266, 3) := by decide +kernel
theorem dJ6_bitCount_0f7a4_14 : decode cJ6_bitCount_0f7a4 14 = .ok (.iand, 1) := by decide +kernel
theorem dJ6_bitCount_0f7a4_15 : decode cJ6_bitCount_0f7a4 15 = .ok (.iload_n 0, 1) := by decide +kernel
theorem dJ6_bitCount_0f7a4_16 : decode cJ6_bitCount_0f7a4 16 = .ok (.iconst 2, 1) := by decide +kernel
theorem dJ6_bitCount_0f7a4_17 : decode cJ6_bitCount_0f7a4 17 = .ok (.iushr, 1) := by decide +kernel
theorem dJ6_bitCount_0f7a4_18 : decode cJ6_bitCount_0f7a4 18 = .ok (.ldc_w 266, 3) := by decide +kernel
theorem dJ6_bitCount_0f7a4_21 : decode cJ6_bitCount_0f7a4 21 = .ok (.iand, 1) := by decide +kernel
theorem dJ6_bitCount_0f7a4_22 : decode cJ6_bitCount_0f7a4 22 = .ok (.iadd, 1) := by decide +kernel
theorem dJ6_bitCount_0f7a4_23 : decode cJ6_bitCount_0f7a4 23 = .ok (.istore_n 0, 1) := by decide +kernel
theorem dJ6_bitCount_0f7a4_24 : decode cJ6_bitCount_0f7a4 24 = .ok (.iload_n 0, 1) := by decide +kernel
theorem dJ6_bitCount_0f7a4_25 : decode cJ6_bitCount_0f7a4 25 = .ok (.iload_n 0, 1) := by decide +kernel
theorem dJ6_bitCount_0f7a4_26 : decode cJ6_bitCount_0f7a4 26 = .ok (.iconst 4, 1) := by decide +kernel
theorem dJ6_bitCount_0f7a4_27 : decode cJ6_bitCount_0f7a4 27 = .ok (.iushr, 1) := by decide +kernel
theorem dJ6_bitCount_0f7a4_28 : decode cJ6_bitCount_0f7a4 28 = .ok (.iadd, 1) := by decide +kernel
theorem dJ6_bitCount_0f7a4_29 : decode cJ6_bitCount_0f7a4 29 = .ok (.ldc_w 267, 3) := by decide +kernel
theorem dJ6_bitCount_0f7a4_32 : decode cJ6_bitCount_0f7a4 32 = .ok (.iand, 1) := by decide +kernel
theorem dJ6_bitCount_0f7a4_33 : decode cJ6_bitCount_0f7a4 33 = .ok (.istore_n 0, 1) := by decide +kernel
theorem dJ6_bitCount_0f7a4_34 : decode cJ6_bitCount_0f7a4 34 = .ok (.iload_n 0, 1) := by decide +kernel
theorem dJ6_bitCount_0f7a4_35 : decode cJ6_bitCount_0f7a4 35 = .ok (.iload_n 0, 1) := by decide +kernel
theorem dJ6_bitCount_0f7a4_36 : decode cJ6_bitCount_0f7a4 36 = .ok (.bipush 8, 2) := by decide +kernel
theorem dJ6_bitCount_0f7a4_38 : decode cJ6_bitCount_0f7a4 38 = .ok (.iushr, 1) := by decide +kernel
theorem dJ6_bitCount_0f7a4_39 : decode cJ6_bitCount_0f7a4 39 = .ok (.iadd, 1) := by decide +kernel
theorem dJ6_bitCount_0f7a4_40 : decode cJ6_bitCount_0f7a4 40 = .ok (.istore_n 0, 1) := by decide +kernel
theorem dJ6_bitCount_0f7a4_41 : decode cJ6_bitCount_0f7a4 41 = .ok (.iload_n 0, 1) := by decide +kernel
theorem dJ6_bitCount_0f7a4_42 : decode cJ6_bitCount_0f7a4 42 = .ok (.iload_n 0, 1) := by decide +kernel
theorem dJ6_bitCount_0f7a4_43 : decode cJ6_bitCount_0f7a4 43 = .ok (.bipush 16, 2) := by decide +kernel
theorem dJ6_bitCount_0f7a4_45 : decode cJ6_bitCount_0f7a4 45 = .ok (.iushr, 1) := by decide +kernel
theorem dJ6_bitCount_0f7a4_46 : decode cJ6_bitCount_0f7a4 46 = .ok (.iadd, 1) := by decide +kernel
theorem dJ6_bitCount_0f7a4_47 : decode cJ6_bitCount_0f7a4 47 = .ok (.istore_n 0, 1) := by decide +kernel
theorem dJ6_bitCount_0f7a4_48 : decode cJ6_bitCount_0f7a4 48 = .ok (.iload_n 0, 1) := by decide +kernel
theorem dJ6_bitCount_0f7a4_49 : decode cJ6_bitCount_0f7a4 49 = .ok (.bipush 63, 2) := by decide +kernel
theorem dJ6_bitCount_0f7a4_51 : decode cJ6_bitCount_0f7a4 51 = .ok (.iand, 1) := by decide +kernel
theorem dJ6_bitCount_0f7a4_52 : decode cJ6_bitCount_0f7a4 52 = .ok (.ireturn, 1) := by decide +kernel
theorem dJ9_min_7cf53_0 : decode cJ9_min_7cf53 0 = .ok (.iload_n 0, 1) := by decide +kernel
theorem dJ9_min_7cf53_1 : decode cJ9_min_7cf53 1 = .ok (.iload_n 1, 1) := by decide +kernel
theorem dJ9_min_7cf53_2 : decode cJ9_min_7cf53 2 = .ok (.if_icmp .gt 7, 3) := by decide +kernel
theorem dJ9_min_7cf53_5 : decode cJ9_min_7cf53 5 = .ok (.iload_n 0, 1) := by decide +kernel
theorem dJ9_min_7cf53_6 : decode cJ9_min_7cf53 6 = .ok (.goto 4, 3) := by decide +kernel
theorem dJ9_min_7cf53_9 : decode cJ9_min_7cf53 9 = .ok (.iload_n 1, 1) := by decide +kernel
theorem dJ9_min_7cf53_10 : decode cJ9_min_7cf53 10 = .ok (.ireturn, 1) := by decide +kernel
