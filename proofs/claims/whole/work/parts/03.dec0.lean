theorem dX0_hold_0 : decode cX0_hold 0 = .ok (.aload_n 0, 1) := by decide +kernel
theorem dX0_hold_1 : decode cX0_hold 1 = .ok (.invokevirtual 25, 3) := by decide +kernel
theorem dX0_hold_4 : decode cX0_hold 4 = .ok (.iconst 0, 1) := by decide +kernel
theorem dX0_hold_5 : decode cX0_hold 5 = .ok (.istore_n 2, 1) := by decide +kernel
theorem dX0_hold_6 : decode cX0_hold 6 = .ok (.iload_n 2, 1) := by decide +kernel
theorem dX0_hold_7 : decode cX0_hold 7 = .ok (.aload_n 1, 1) := by decide +kernel
theorem dX0_hold_8 : decode cX0_hold 8 = .ok (.getfield 28, 3) := by decide +kernel
theorem dX0_hold_11 : decode cX0_hold 11 = .ok (.if_icmp .ge 78, 3) := by decide +kernel
theorem dX0_hold_14 : decode cX0_hold 14 = .ok (.aload_n 0, 1) := by decide +kernel
theorem dX0_hold_15 : decode cX0_hold 15 = .ok (.getfield 12, 3) := by decide +kernel
theorem dX0_hold_18 : decode cX0_hold 18 = .ok (.getfield 34, 3) := by decide +kernel
theorem dX0_hold_21 : decode cX0_hold 21 = .ok (.istore_n 3, 1) := by decide +kernel
theorem dX0_hold_22 : decode cX0_hold 22 = .ok (.aload_n 0, 1) := by decide +kernel
theorem dX0_hold_23 : decode cX0_hold 23 = .ok (.getfield 12, 3) := by decide +kernel
theorem dX0_hold_26 : decode cX0_hold 26 = .ok (.aload_n 1, 1) := by decide +kernel
theorem dX0_hold_27 : decode cX0_hold 27 = .ok (.iload_n 2, 1) := by decide +kernel
theorem dX0_hold_28 : decode cX0_hold 28 = .ok (.invokevirtual 37, 3) := by decide +kernel
theorem dX0_hold_31 : decode cX0_hold 31 = .ok (.istore 4, 2) := by decide +kernel
theorem dX0_hold_33 : decode cX0_hold 33 = .ok (.aload_n 0, 1) := by decide +kernel
theorem dX0_hold_34 : decode cX0_hold 34 = .ok (.getfield 18, 3) := by decide +kernel
theorem dX0_hold_37 : decode cX0_hold 37 = .ok (.iload_n 2, 1) := by decide +kernel
theorem dX0_hold_38 : decode cX0_hold 38 = .ok (.iload 4, 2) := by decide +kernel
theorem dX0_hold_40 : decode cX0_hold 40 = .ok (.invokestatic 41, 3) := by decide +kernel
theorem dX0_hold_43 : decode cX0_hold 43 = .ok (.aload_n 0, 1) := by decide +kernel
theorem dX0_hold_44 : decode cX0_hold 44 = .ok (.aload_n 0, 1) := by decide +kernel
theorem dX0_hold_45 : decode cX0_hold 45 = .ok (.getfield 45, 3) := by decide +kernel
theorem dX0_hold_48 : decode cX0_hold 48 = .ok (.iload 4, 2) := by decide +kernel
theorem dX0_hold_50 : decode cX0_hold 50 = .ok (.invokestatic 48, 3) := by decide +kernel
theorem dX0_hold_53 : decode cX0_hold 53 = .ok (.putfield 45, 3) := by decide +kernel
theorem dX0_hold_56 : decode cX0_hold 56 = .ok (.aload_n 0, 1) := by decide +kernel
theorem dX0_hold_57 : decode cX0_hold 57 = .ok (.getfield 12, 3) := by decide +kernel
theorem dX0_hold_60 : decode cX0_hold 60 = .ok (.getfield 34, 3) := by decide +kernel
theorem dX0_hold_63 : decode cX0_hold 63 = .ok (.iload_n 3, 1) := by decide +kernel
theorem dX0_hold_64 : decode cX0_hold 64 = .ok (.if_icmp .eq 19, 3) := by decide +kernel
theorem dX0_hold_67 : decode cX0_hold 67 = .ok (.aload_n 0, 1) := by decide +kernel
theorem dX0_hold_68 : decode cX0_hold 68 = .ok (.getfield 22, 3) := by decide +kernel
theorem dX0_hold_71 : decode cX0_hold 71 = .ok (.aload_n 1, 1) := by decide +kernel
theorem dX0_hold_72 : decode cX0_hold 72 = .ok (.getfield 54, 3) := by decide +kernel
theorem dX0_hold_75 : decode cX0_hold 75 = .ok (.iload_n 2, 1) := by decide +kernel
theorem dX0_hold_76 : decode cX0_hold 76 = .ok (.invokestatic 57, 3) := by decide +kernel
theorem dX0_hold_79 : decode cX0_hold 79 = .ok (.iload_n 2, 1) := by decide +kernel
theorem dX0_hold_80 : decode cX0_hold 80 = .ok (.invokestatic 41, 3) := by decide +kernel
theorem dX0_hold_83 : decode cX0_hold 83 = .ok (.iinc 2 1, 3) := by decide +kernel
theorem dX0_hold_86 : decode cX0_hold 86 = .ok (.goto (-80), 3) := by decide +kernel
theorem dX0_hold_89 : decode cX0_hold 89 = .ok (.return_, 1) := by decide +kernel
theorem dX0_begin_0 : decode cX0_begin 0 = .ok (.aload_n 0, 1) := by decide +kernel
theorem dX0_begin_1 : decode cX0_begin 1 = .ok (.getfield 12, 3) := by decide +kernel
theorem dX0_begin_4 : decode cX0_begin 4 = .ok (.invokevirtual 61, 3) := by decide +kernel
theorem dX0_begin_7 : decode cX0_begin 7 = .ok (.aload_n 0, 1) := by decide +kernel
theorem dX0_begin_8 : decode cX0_begin 8 = .ok (.iconst 0, 1) := by decide +kernel
theorem dX0_begin_9 : decode cX0_begin 9 = .ok (.putfield 45, 3) := by decide +kernel
theorem dX0_begin_12 : decode cX0_begin 12 = .ok (.iconst 0, 1) := by decide +kernel
theorem dX0_begin_13 : decode cX0_begin 13 = .ok (.istore_n 1, 1) := by decide +kernel
theorem dX0_begin_14 : decode cX0_begin 14 = .ok (.iload_n 1, 1) := by decide +kernel
theorem dX0_begin_15 : decode cX0_begin 15 = .ok (.iconst 5, 1) := by decide +kernel
theorem dX0_begin_16 : decode cX0_begin 16 = .ok (.if_icmp .ge 19, 3) := by decide +kernel
theorem dX0_begin_19 : decode cX0_begin 19 = .ok (.aload_n 0, 1) := by decide +kernel
theorem dX0_begin_20 : decode cX0_begin 20 = .ok (.getfield 22, 3) := by decide +kernel
theorem dX0_begin_23 : decode cX0_begin 23 = .ok (.iload_n 1, 1) := by decide +kernel
theorem dX0_begin_24 : decode cX0_begin 24 = .ok (.bipush 7, 2) := by decide +kernel
theorem dX0_begin_26 : decode cX0_begin 26 = .ok (.invokestatic 41, 3) := by decide +kernel
theorem dX0_begin_29 : decode cX0_begin 29 = .ok (.iinc 1 1, 3) := by decide +kernel
theorem dX0_begin_32 : decode cX0_begin 32 = .ok (.goto (-18), 3) := by decide +kernel
theorem dX0_begin_35 : decode cX0_begin 35 = .ok (.return_, 1) := by decide +kernel
theorem dX1_cool_0 : decode cX1_cool 0 = .ok (.aload_n 0, 1) := by decide +kernel
theorem dX1_cool_1 : decode cX1_cool 1 = .ok (.iconst 0, 1) := by decide +kernel
theorem dX1_cool_2 : decode cX1_cool 2 = .ok (.putfield 9, 3) := by decide +kernel
theorem dX1_cool_5 : decode cX1_cool 5 = .ok (.aload_n 0, 1) := by decide +kernel
theorem dX1_cool_6 : decode cX1_cool 6 = .ok (.iconst (-1), 1) := by decide +kernel
theorem dX1_cool_7 : decode cX1_cool 7 = .ok (.putfield 15, 3) := by decide +kernel
theorem dX1_cool_10 : decode cX1_cool 10 = .ok (.aload_n 0, 1) := by decide +kernel
theorem dX1_cool_11 : decode cX1_cool 11 = .ok (.iconst 0, 1) := by decide +kernel
theorem dX1_cool_12 : decode cX1_cool 12 = .ok (.putfield 18, 3) := by decide +kernel
theorem dX1_cool_15 : decode cX1_cool 15 = .ok (.aload_n 0, 1) := by decide +kernel
theorem dX1_cool_16 : decode cX1_cool 16 = .ok (.iconst 0, 1) := by decide +kernel
theorem dX1_cool_17 : decode cX1_cool 17 = .ok (.putfield 21, 3) := by decide +kernel
theorem dX1_cool_20 : decode cX1_cool 20 = .ok (.return_, 1) := by decide +kernel
theorem dX1_copyFrom_0 : decode cX1_copyFrom 0 = .ok (.aload_n 0, 1) := by decide +kernel
theorem dX1_copyFrom_1 : decode cX1_copyFrom 1 = .ok (.aload_n 1, 1) := by decide +kernel
theorem dX1_copyFrom_2 : decode cX1_copyFrom 2 = .ok (.getfield 9, 3) := by decide +kernel
theorem dX1_copyFrom_5 : decode cX1_copyFrom 5 = .ok (.putfield 9, 3) := by decide +kernel
theorem dX1_copyFrom_8 : decode cX1_copyFrom 8 = .ok (.aload_n 0, 1) := by decide +kernel
theorem dX1_copyFrom_9 : decode cX1_copyFrom 9 = .ok (.aload_n 1, 1) := by decide +kernel
theorem dX1_copyFrom_10 : decode cX1_copyFrom 10 = .ok (.getfield 15, 3) := by decide +kernel
theorem dX1_copyFrom_13 : decode cX1_copyFrom 13 = .ok (.putfield 15, 3) := by decide +kernel
theorem dX1_copyFrom_16 : decode cX1_copyFrom 16 = .ok (.aload_n 0, 1) := by decide +kernel
theorem dX1_copyFrom_17 : decode cX1_copyFrom 17 = .ok (.aload_n 1, 1) := by decide +kernel
theorem dX1_copyFrom_18 : decode cX1_copyFrom 18 = .ok (.getfield 18, 3) := by decide +kernel
theorem dX1_copyFrom_21 : decode cX1_copyFrom 21 = .ok (.putfield 18, 3) := by decide +kernel
theorem dX1_copyFrom_24 : decode cX1_copyFrom 24 = .ok (.aload_n 0, 1) := by decide +kernel
theorem dX1_copyFrom_25 : decode cX1_copyFrom 25 = .ok (.aload_n 1, 1) := by decide +kernel
theorem dX1_copyFrom_26 : decode cX1_copyFrom 26 = .ok (.getfield 21, 3) := by decide +kernel
theorem dX1_copyFrom_29 : decode cX1_copyFrom 29 = .ok (.putfield 21, 3) := by decide +kernel
theorem dX1_copyFrom_32 : decode cX1_copyFrom 32 = .ok (.return_, 1) := by decide +kernel
theorem dX1_take_0 : decode cX1_take 0 = .ok (.aload_n 1, 1) := by decide +kernel
theorem dX1_take_1 : decode cX1_take 1 = .ok (.getfield 24, 3) := by decide +kernel
theorem dX1_take_4 : decode cX1_take 4 = .ok (.iload_n 2, 1) := by decide +kernel
theorem dX1_take_5 : decode cX1_take 5 = .ok (.invokestatic 30, 3) := by decide +kernel
theorem dX1_take_8 : decode cX1_take 8 = .ok (.istore_n 3, 1) := by decide +kernel
theorem dX1_take_9 : decode cX1_take 9 = .ok (.aload_n 0, 1) := by decide +kernel
theorem dX1_take_10 : decode cX1_take 10 = .ok (.getfield 21, 3) := by decide +kernel
theorem dX1_take_13 : decode cX1_take 13 = .ok (.iload_n 3, 1) := by decide +kernel
theorem dX1_take_14 : decode cX1_take 14 = .ok (.invokestatic 34, 3) := by decide +kernel
theorem dX1_take_17 : decode cX1_take 17 = .ok (.iconst 1, 1) := by decide +kernel
theorem dX1_take_18 : decode cX1_take 18 = .ok (.if_icmp .ne 6, 3) := by decide +kernel
theorem dX1_take_21 : decode cX1_take 21 = .ok (.bipush (-4), 2) := by decide +kernel
theorem dX1_take_23 : decode cX1_take 23 = .ok (.ireturn, 1) := by decide +kernel
theorem dX1_take_24 : decode cX1_take 24 = .ok (.aload_n 0, 1) := by decide +kernel
theorem dX1_take_25 : decode cX1_take 25 = .ok (.getfield 15, 3) := by decide +kernel
theorem dX1_take_28 : decode cX1_take 28 = .ok (.iload_n 3, 1) := by decide +kernel
theorem dX1_take_29 : decode cX1_take 29 = .ok (.if_icmp .eq 13, 3) := by decide +kernel
theorem dX1_take_32 : decode cX1_take 32 = .ok (.aload_n 0, 1) := by decide +kernel
theorem dX1_take_33 : decode cX1_take 33 = .ok (.dup, 1) := by decide +kernel
theorem dX1_take_34 : decode cX1_take 34 = .ok (.getfield 9, 3) := by decide +kernel
theorem dX1_take_37 : decode cX1_take 37 = .ok (.iconst 2, 1) := by decide +kernel
theorem dX1_take_38 : decode cX1_take 38 = .ok (.idiv, 1) := by decide +kernel
theorem dX1_take_39 : decode cX1_take 39 = .ok (.putfield 9, 3) := by decide +kernel
theorem dX1_take_42 : decode cX1_take 42 = .ok (.aload_n 0, 1) := by decide +kernel
theorem dX1_take_43 : decode cX1_take 43 = .ok (.dup, 1) := by decide +kernel
theorem dX1_take_44 : decode cX1_take 44 = .ok (.getfield 9, 3) := by decide +kernel
theorem dX1_take_47 : decode cX1_take 47 = .ok (.aload_n 1, 1) := by decide +kernel
theorem dX1_take_48 : decode cX1_take 48 = .ok (.getfield 38, 3) := by decide +kernel
theorem dX1_take_51 : decode cX1_take 51 = .ok (.iload_n 3, 1) := by decide +kernel
theorem dX1_take_52 : decode cX1_take 52 = .ok (.invokestatic 30, 3) := by decide +kernel
theorem dX1_take_55 : decode cX1_take 55 = .ok (.aload_n 1, 1) := by decide +kernel
theorem dX1_take_56 : decode cX1_take 56 = .ok (.iload_n 2, 1) := by decide +kernel
theorem dX1_take_57 : decode cX1_take 57 = .ok (.invokevirtual 41, 3) := by decide +kernel
theorem dX1_take_60 : decode cX1_take 60 = .ok (.aload_n 1, 1) := by decide +kernel
theorem dX1_take_61 : decode cX1_take 61 = .ok (.getfield 45, 3) := by decide +kernel
theorem dX1_take_64 : decode cX1_take 64 = .ok (.iload_n 2, 1) := by decide +kernel
theorem dX1_take_65 : decode cX1_take 65 = .ok (.invokestatic 30, 3) := by decide +kernel
theorem dX1_take_68 : decode cX1_take 68 = .ok (.invokestatic 48, 3) := by decide +kernel
theorem dX1_take_71 : decode cX1_take 71 = .ok (.iadd, 1) := by decide +kernel
theorem dX1_take_72 : decode cX1_take 72 = .ok (.putfield 9, 3) := by decide +kernel
theorem dX1_take_75 : decode cX1_take 75 = .ok (.aload_n 0, 1) := by decide +kernel
theorem dX1_take_76 : decode cX1_take 76 = .ok (.iload_n 3, 1) := by decide +kernel
theorem dX1_take_77 : decode cX1_take 77 = .ok (.putfield 15, 3) := by decide +kernel
theorem dX1_take_80 : decode cX1_take 80 = .ok (.aload_n 0, 1) := by decide +kernel
theorem dX1_take_81 : decode cX1_take 81 = .ok (.dup, 1) := by decide +kernel
theorem dX1_take_82 : decode cX1_take 82 = .ok (.getfield 18, 3) := by decide +kernel
theorem dX1_take_85 : decode cX1_take 85 = .ok (.iconst 1, 1) := by decide +kernel
theorem dX1_take_86 : decode cX1_take 86 = .ok (.iload_n 2, 1) := by decide +kernel
theorem dX1_take_87 : decode cX1_take 87 = .ok (.ishl, 1) := by decide +kernel
theorem dX1_take_88 : decode cX1_take 88 = .ok (.ior, 1) := by decide +kernel
theorem dX1_take_89 : decode cX1_take 89 = .ok (.putfield 18, 3) := by decide +kernel
theorem dX1_take_92 : decode cX1_take 92 = .ok (.aload_n 0, 1) := by decide +kernel
theorem dX1_take_93 : decode cX1_take 93 = .ok (.getfield 9, 3) := by decide +kernel
theorem dX1_take_96 : decode cX1_take 96 = .ok (.istore 4, 2) := by decide +kernel
theorem dX1_take_98 : decode cX1_take 98 = .ok (.iload 4, 2) := by decide +kernel
theorem dX1_take_100 : decode cX1_take 100 = .ok (.aload_n 1, 1) := by decide +kernel
theorem dX1_take_101 : decode cX1_take 101 = .ok (.getfield 52, 3) := by decide +kernel
theorem dX1_take_104 : decode cX1_take 104 = .ok (.iload_n 3, 1) := by decide +kernel
theorem dX1_take_105 : decode cX1_take 105 = .ok (.invokestatic 30, 3) := by decide +kernel
theorem dX1_take_108 : decode cX1_take 108 = .ok (.if_icmp .le 20, 3) := by decide +kernel
theorem dX1_take_111 : decode cX1_take 111 = .ok (.aload_n 0, 1) := by decide +kernel
theorem dX1_take_112 : decode cX1_take 112 = .ok (.dup, 1) := by decide +kernel
theorem dX1_take_113 : decode cX1_take 113 = .ok (.getfield 21, 3) := by decide +kernel
theorem dX1_take_116 : decode cX1_take 116 = .ok (.iconst 1, 1) := by decide +kernel
theorem dX1_take_117 : decode cX1_take 117 = .ok (.iload_n 3, 1) := by decide +kernel
theorem dX1_take_118 : decode cX1_take 118 = .ok (.ishl, 1) := by decide +kernel
theorem dX1_take_119 : decode cX1_take 119 = .ok (.ior, 1) := by decide +kernel
theorem dX1_take_120 : decode cX1_take 120 = .ok (.putfield 21, 3) := by decide +kernel
theorem dX1_take_123 : decode cX1_take 123 = .ok (.aload_n 0, 1) := by decide +kernel
theorem dX1_take_124 : decode cX1_take 124 = .ok (.iconst 0, 1) := by decide +kernel
theorem dX1_take_125 : decode cX1_take 125 = .ok (.putfield 9, 3) := by decide +kernel
theorem dX1_take_128 : decode cX1_take 128 = .ok (.iload 4, 2) := by decide +kernel
theorem dX1_take_130 : decode cX1_take 130 = .ok (.ireturn, 1) := by decide +kernel
theorem dX1_heating_0 : decode cX1_heating 0 = .ok (.iload_n 1, 1) := by decide +kernel
theorem dX1_heating_1 : decode cX1_heating 1 = .ok (.ifCond .eq 7, 3) := by decide +kernel
theorem dX1_heating_4 : decode cX1_heating 4 = .ok (.iload_n 2, 1) := by decide +kernel
theorem dX1_heating_5 : decode cX1_heating 5 = .ok (.goto 4, 3) := by decide +kernel
theorem dX1_heating_8 : decode cX1_heating 8 = .ok (.iconst 1, 1) := by decide +kernel
theorem dX1_heating_9 : decode cX1_heating 9 = .ok (.istore_n 3, 1) := by decide +kernel
theorem dX1_heating_10 : decode cX1_heating 10 = .ok (.iload_n 0, 1) := by decide +kernel
theorem dX1_heating_11 : decode cX1_heating 11 = .ok (.tableswitch 45 1 3 #[25, 29, 41], 25) := by decide +kernel
theorem dX1_heating_36 : decode cX1_heating 36 = .ok (.iload_n 3, 1) := by decide +kernel
theorem dX1_heating_37 : decode cX1_heating 37 = .ok (.iconst 2, 1) := by decide +kernel
theorem dX1_heating_38 : decode cX1_heating 38 = .ok (.idiv, 1) := by decide +kernel
theorem dX1_heating_39 : decode cX1_heating 39 = .ok (.ireturn, 1) := by decide +kernel
theorem dX1_heating_40 : decode cX1_heating 40 = .ok (.iload_n 1, 1) := by decide +kernel
theorem dX1_heating_41 : decode cX1_heating 41 = .ok (.ifCond .eq 9, 3) := by decide +kernel
theorem dX1_heating_44 : decode cX1_heating 44 = .ok (.iconst 2, 1) := by decide +kernel
theorem dX1_heating_45 : decode cX1_heating 45 = .ok (.iload_n 3, 1) := by decide +kernel
theorem dX1_heating_46 : decode cX1_heating 46 = .ok (.imul, 1) := by decide +kernel
theorem dX1_heating_47 : decode cX1_heating 47 = .ok (.goto 4, 3) := by decide +kernel
theorem dX1_heating_50 : decode cX1_heating 50 = .ok (.iload_n 3, 1) := by decide +kernel
theorem dX1_heating_51 : decode cX1_heating 51 = .ok (.ireturn, 1) := by decide +kernel
theorem dX1_heating_52 : decode cX1_heating 52 = .ok (.iload_n 3, 1) := by decide +kernel
theorem dX1_heating_53 : decode cX1_heating 53 = .ok (.iconst 1, 1) := by decide +kernel
theorem dX1_heating_54 : decode cX1_heating 54 = .ok (.iadd, 1) := by decide +kernel
theorem dX1_heating_55 : decode cX1_heating 55 = .ok (.ireturn, 1) := by decide +kernel
theorem dX1_heating_56 : decode cX1_heating 56 = .ok (.iload_n 3, 1) := by decide +kernel
theorem dX1_heating_57 : decode cX1_heating 57 = .ok (.ireturn, 1) := by decide +kernel
theorem dX2_clear_0 : decode cX2_clear 0 = .ok (.aload_n 0, 1) := by decide +kernel
theorem dX2_clear_1 : decode cX2_clear 1 = .ok (.iconst 0, 1) := by decide +kernel
theorem dX2_clear_2 : decode cX2_clear 2 = .ok (.putfield 30, 3) := by decide +kernel
theorem dX2_clear_5 : decode cX2_clear 5 = .ok (.aload_n 0, 1) := by decide +kernel
theorem dX2_clear_6 : decode cX2_clear 6 = .ok (.iconst 0, 1) := by decide +kernel
theorem dX2_clear_7 : decode cX2_clear 7 = .ok (.putfield 34, 3) := by decide +kernel
theorem dX2_clear_10 : decode cX2_clear 10 = .ok (.aload_n 0, 1) := by decide +kernel
theorem dX2_clear_11 : decode cX2_clear 11 = .ok (.iconst 0, 1) := by decide +kernel
theorem dX2_clear_12 : decode cX2_clear 12 = .ok (.putfield 37, 3) := by decide +kernel
theorem dX2_clear_15 : decode cX2_clear 15 = .ok (.aload_n 0, 1) := by decide +kernel
theorem dX2_clear_16 : decode cX2_clear 16 = .ok (.iconst 0, 1) := by decide +kernel
theorem dX2_clear_17 : decode cX2_clear 17 = .ok (.putfield 40, 3) := by decide +kernel
theorem dX2_clear_20 : decode cX2_clear 20 = .ok (.return_, 1) := by decide +kernel
theorem dX2_copyFrom_0 : decode cX2_copyFrom 0 = .ok (.aload_n 1, 1) := by decide +kernel
theorem dX2_copyFrom_1 : decode cX2_copyFrom 1 = .ok (.getfield 9, 3) := by decide +kernel
theorem dX2_copyFrom_4 : decode cX2_copyFrom 4 = .ok (.aload_n 0, 1) := by decide +kernel
theorem dX2_copyFrom_5 : decode cX2_copyFrom 5 = .ok (.getfield 9, 3) := by decide +kernel
theorem dX2_copyFrom_8 : decode cX2_copyFrom 8 = .ok (.invokestatic 43, 3) := by decide +kernel
theorem dX2_copyFrom_11 : decode cX2_copyFrom 11 = .ok (.aload_n 1, 1) := by decide +kernel
theorem dX2_copyFrom_12 : decode cX2_copyFrom 12 = .ok (.getfield 15, 3) := by decide +kernel
theorem dX2_copyFrom_15 : decode cX2_copyFrom 15 = .ok (.aload_n 0, 1) := by decide +kernel
theorem dX2_copyFrom_16 : decode cX2_copyFrom 16 = .ok (.getfield 15, 3) := by decide +kernel
theorem dX2_copyFrom_19 : decode cX2_copyFrom 19 = .ok (.invokestatic 43, 3) := by decide +kernel
theorem dX2_copyFrom_22 : decode cX2_copyFrom 22 = .ok (.aload_n 1, 1) := by decide +kernel
theorem dX2_copyFrom_23 : decode cX2_copyFrom 23 = .ok (.getfield 18, 3) := by decide +kernel
theorem dX2_copyFrom_26 : decode cX2_copyFrom 26 = .ok (.aload_n 0, 1) := by decide +kernel
theorem dX2_copyFrom_27 : decode cX2_copyFrom 27 = .ok (.getfield 18, 3) := by decide +kernel
theorem dX2_copyFrom_30 : decode cX2_copyFrom 30 = .ok (.invokestatic 43, 3) := by decide +kernel
theorem dX2_copyFrom_33 : decode cX2_copyFrom 33 = .ok (.aload_n 1, 1) := by decide +kernel
theorem dX2_copyFrom_34 : decode cX2_copyFrom 34 = .ok (.getfield 21, 3) := by decide +kernel
theorem dX2_copyFrom_37 : decode cX2_copyFrom 37 = .ok (.aload_n 0, 1) := by decide +kernel
theorem dX2_copyFrom_38 : decode cX2_copyFrom 38 = .ok (.getfield 21, 3) := by decide +kernel
theorem dX2_copyFrom_41 : decode cX2_copyFrom 41 = .ok (.invokestatic 43, 3) := by decide +kernel
theorem dX2_copyFrom_44 : decode cX2_copyFrom 44 = .ok (.aload_n 1, 1) := by decide +kernel
theorem dX2_copyFrom_45 : decode cX2_copyFrom 45 = .ok (.getfield 24, 3) := by decide +kernel
theorem dX2_copyFrom_48 : decode cX2_copyFrom 48 = .ok (.aload_n 0, 1) := by decide +kernel
theorem dX2_copyFrom_49 : decode cX2_copyFrom 49 = .ok (.getfield 24, 3) := by decide +kernel
theorem dX2_copyFrom_52 : decode cX2_copyFrom 52 = .ok (.invokestatic 43, 3) := by decide +kernel
theorem dX2_copyFrom_55 : decode cX2_copyFrom 55 = .ok (.aload_n 1, 1) := by decide +kernel
theorem dX2_copyFrom_56 : decode cX2_copyFrom 56 = .ok (.getfield 27, 3) := by decide +kernel
theorem dX2_copyFrom_59 : decode cX2_copyFrom 59 = .ok (.aload_n 0, 1) := by decide +kernel
theorem dX2_copyFrom_60 : decode cX2_copyFrom 60 = .ok (.getfield 27, 3) := by decide +kernel
theorem dX2_copyFrom_63 : decode cX2_copyFrom 63 = .ok (.invokestatic 43, 3) := by decide +kernel
theorem dX2_copyFrom_66 : decode cX2_copyFrom 66 = .ok (.aload_n 0, 1) := by decide +kernel
theorem dX2_copyFrom_67 : decode cX2_copyFrom 67 = .ok (.aload_n 1, 1) := by decide +kernel
theorem dX2_copyFrom_68 : decode cX2_copyFrom 68 = .ok (.getfield 30, 3) := by decide +kernel
theorem dX2_copyFrom_71 : decode cX2_copyFrom 71 = .ok (.putfield 30, 3) := by decide +kernel
theorem dX2_copyFrom_74 : decode cX2_copyFrom 74 = .ok (.aload_n 0, 1) := by decide +kernel
theorem dX2_copyFrom_75 : decode cX2_copyFrom 75 = .ok (.aload_n 1, 1) := by decide +kernel
theorem dX2_copyFrom_76 : decode cX2_copyFrom 76 = .ok (.getfield 34, 3) := by decide +kernel
theorem dX2_copyFrom_79 : decode cX2_copyFrom 79 = .ok (.putfield 34, 3) := by decide +kernel
theorem dX2_copyFrom_82 : decode cX2_copyFrom 82 = .ok (.aload_n 0, 1) := by decide +kernel
theorem dX2_copyFrom_83 : decode cX2_copyFrom 83 = .ok (.aload_n 1, 1) := by decide +kernel
theorem dX2_copyFrom_84 : decode cX2_copyFrom 84 = .ok (.getfield 37, 3) := by decide +kernel
theorem dX2_copyFrom_87 : decode cX2_copyFrom 87 = .ok (.putfield 37, 3) := by decide +kernel
theorem dX2_copyFrom_90 : decode cX2_copyFrom 90 = .ok (.aload_n 0, 1) := by decide +kernel
theorem dX2_copyFrom_91 : decode cX2_copyFrom 91 = .ok (.aload_n 1, 1) := by decide +kernel
theorem dX2_copyFrom_92 : decode cX2_copyFrom 92 = .ok (.getfield 40, 3) := by decide +kernel
theorem dX2_copyFrom_95 : decode cX2_copyFrom 95 = .ok (.putfield 40, 3) := by decide +kernel
theorem dX2_copyFrom_98 : decode cX2_copyFrom 98 = .ok (.return_, 1) := by decide +kernel
theorem dX2_isTeller_0 : decode cX2_isTeller 0 = .ok (.iload_n 1, 1) := by decide +kernel
theorem dX2_isTeller_1 : decode cX2_isTeller 1 = .ok (.ifCond .lt 15, 3) := by decide +kernel
theorem dX2_isTeller_4 : decode cX2_isTeller 4 = .ok (.iload_n 1, 1) := by decide +kernel
theorem dX2_isTeller_5 : decode cX2_isTeller 5 = .ok (.aload_n 0, 1) := by decide +kernel
theorem dX2_isTeller_6 : decode cX2_isTeller 6 = .ok (.getfield 30, 3) := by decide +kernel
theorem dX2_isTeller_9 : decode cX2_isTeller 9 = .ok (.if_icmp .ge 7, 3) := by decide +kernel
theorem dX2_isTeller_12 : decode cX2_isTeller 12 = .ok (.iconst 1, 1) := by decide +kernel
theorem dX2_isTeller_13 : decode cX2_isTeller 13 = .ok (.goto 4, 3) := by decide +kernel
theorem dX2_isTeller_16 : decode cX2_isTeller 16 = .ok (.iconst 0, 1) := by decide +kernel
theorem dX2_isTeller_17 : decode cX2_isTeller 17 = .ok (.ireturn, 1) := by decide +kernel
theorem dX2_isFact_0 : decode cX2_isFact 0 = .ok (.iload_n 1, 1) := by decide +kernel
theorem dX2_isFact_1 : decode cX2_isFact 1 = .ok (.ifCond .lt 15, 3) := by decide +kernel
theorem dX2_isFact_4 : decode cX2_isFact 4 = .ok (.iload_n 1, 1) := by decide +kernel
theorem dX2_isFact_5 : decode cX2_isFact 5 = .ok (.aload_n 0, 1) := by decide +kernel
theorem dX2_isFact_6 : decode cX2_isFact 6 = .ok (.getfield 34, 3) := by decide +kernel
theorem dX2_isFact_9 : decode cX2_isFact 9 = .ok (.if_icmp .ge 7, 3) := by decide +kernel
theorem dX2_isFact_12 : decode cX2_isFact 12 = .ok (.iconst 1, 1) := by decide +kernel
theorem dX2_isFact_13 : decode cX2_isFact 13 = .ok (.goto 4, 3) := by decide +kernel
theorem dX2_isFact_16 : decode cX2_isFact 16 = .ok (.iconst 0, 1) := by decide +kernel
theorem dX2_isFact_17 : decode cX2_isFact 17 = .ok (.ireturn, 1) := by decide +kernel
theorem dX2_isClaim_0 : decode cX2_isClaim 0 = .ok (.iload_n 1, 1) := by decide +kernel
theorem dX2_isClaim_1 : decode cX2_isClaim 1 = .ok (.ifCond .lt 15, 3) := by decide +kernel
theorem dX2_isClaim_4 : decode cX2_isClaim 4 = .ok (.iload_n 1, 1) := by decide +kernel
theorem dX2_isClaim_5 : decode cX2_isClaim 5 = .ok (.aload_n 0, 1) := by decide +kernel
theorem dX2_isClaim_6 : decode cX2_isClaim 6 = .ok (.getfield 37, 3) := by decide +kernel
theorem dX2_isClaim_9 : decode cX2_isClaim 9 = .ok (.if_icmp .ge 7, 3) := by decide +kernel
theorem dX2_isClaim_12 : decode cX2_isClaim 12 = .ok (.iconst 1, 1) := by decide +kernel
theorem dX2_isClaim_13 : decode cX2_isClaim 13 = .ok (.goto 4, 3) := by decide +kernel
theorem dX2_isClaim_16 : decode cX2_isClaim 16 = .ok (.iconst 0, 1) := by decide +kernel
theorem dX2_isClaim_17 : decode cX2_isClaim 17 = .ok (.ireturn, 1) := by decide +kernel
theorem dX2_allowsClaim_0 : decode cX2_allowsClaim 0 = .ok (.aload_n 0, 1) := by decide +kernel
theorem dX2_allowsClaim_1 : decode cX2_allowsClaim 1 = .ok (.iload_n 1, 1) := by decide +kernel
theorem dX2_allowsClaim_2 : decode cX2_allowsClaim 2 = .ok (.invokevirtual 47, 3) := by decide +kernel
theorem dX2_allowsClaim_5 : decode cX2_allowsClaim 5 = .ok (.ifCond .eq 35, 3) := by decide +kernel
theorem dX2_allowsClaim_8 : decode cX2_allowsClaim 8 = .ok (.aload_n 0, 1) := by decide +kernel
theorem dX2_allowsClaim_9 : decode cX2_allowsClaim 9 = .ok (.iload_n 2, 1) := by decide +kernel
theorem dX2_allowsClaim_10 : decode cX2_allowsClaim 10 = .ok (.invokevirtual 51, 3) := by decide +kernel
theorem dX2_allowsClaim_13 : decode cX2_allowsClaim 13 = .ok (.ifCond .eq 27, 3) := by decide +kernel
theorem dX2_allowsClaim_16 : decode cX2_allowsClaim 16 = .ok (.iload_n 3, 1) := by decide +kernel
theorem dX2_allowsClaim_17 : decode cX2_allowsClaim 17 = .ok (.iconst 0, 1) := by decide +kernel
theorem dX2_allowsClaim_18 : decode cX2_allowsClaim 18 = .ok (.iconst 1, 1) := by decide +kernel
theorem dX2_allowsClaim_19 : decode cX2_allowsClaim 19 = .ok (.invokestatic 54, 3) := by decide +kernel
theorem dX2_allowsClaim_22 : decode cX2_allowsClaim 22 = .ok (.ifCond .eq 18, 3) := by decide +kernel
theorem dX2_allowsClaim_25 : decode cX2_allowsClaim 25 = .ok (.iload 4, 2) := by decide +kernel
theorem dX2_allowsClaim_27 : decode cX2_allowsClaim 27 = .ok (.iconst 1, 1) := by decide +kernel
theorem dX2_allowsClaim_28 : decode cX2_allowsClaim 28 = .ok (.bipush 20, 2) := by decide +kernel
theorem dX2_allowsClaim_30 : decode cX2_allowsClaim 30 = .ok (.invokestatic 54, 3) := by decide +kernel
theorem dX2_allowsClaim_33 : decode cX2_allowsClaim 33 = .ok (.ifCond .eq 7, 3) := by decide +kernel
theorem dX2_allowsClaim_36 : decode cX2_allowsClaim 36 = .ok (.iconst 1, 1) := by decide +kernel
theorem dX2_allowsClaim_37 : decode cX2_allowsClaim 37 = .ok (.goto 4, 3) := by decide +kernel
theorem dX2_allowsClaim_40 : decode cX2_allowsClaim 40 = .ok (.iconst 0, 1) := by decide +kernel
theorem dX2_allowsClaim_41 : decode cX2_allowsClaim 41 = .ok (.ireturn, 1) := by decide +kernel
theorem dX2_worldCount_0 : decode cX2_worldCount 0 = .ok (.iconst 1, 1) := by decide +kernel
theorem dX2_worldCount_1 : decode cX2_worldCount 1 = .ok (.aload_n 0, 1) := by decide +kernel
theorem dX2_worldCount_2 : decode cX2_worldCount 2 = .ok (.getfield 34, 3) := by decide +kernel
theorem dX2_worldCount_5 : decode cX2_worldCount 5 = .ok (.ishl, 1) := by decide +kernel
theorem dX2_worldCount_6 : decode cX2_worldCount 6 = .ok (.ireturn, 1) := by decide +kernel
theorem dX2_addTeller_0 : decode cX2_addTeller 0 = .ok (.aload_n 0, 1) := by decide +kernel
theorem dX2_addTeller_1 : decode cX2_addTeller 1 = .ok (.getfield 30, 3) := by decide +kernel
theorem dX2_addTeller_4 : decode cX2_addTeller 4 = .ok (.iconst 5, 1) := by decide +kernel
theorem dX2_addTeller_5 : decode cX2_addTeller 5 = .ok (.if_icmp .ge 22, 3) := by decide +kernel
theorem dX2_addTeller_8 : decode cX2_addTeller 8 = .ok (.iload_n 1, 1) := by decide +kernel
theorem dX2_addTeller_9 : decode cX2_addTeller 9 = .ok (.iconst 0, 1) := by decide +kernel
theorem dX2_addTeller_10 : decode cX2_addTeller 10 = .ok (.iconst 3, 1) := by decide +kernel
theorem dX2_addTeller_11 : decode cX2_addTeller 11 = .ok (.invokestatic 54, 3) := by decide +kernel
theorem dX2_addTeller_14 : decode cX2_addTeller 14 = .ok (.ifCond .eq 13, 3) := by decide +kernel
theorem dX2_addTeller_17 : decode cX2_addTeller 17 = .ok (.iload_n 2, 1) := by decide +kernel
theorem dX2_addTeller_18 : decode cX2_addTeller 18 = .ok (.iconst 1, 1) := by decide +kernel
theorem dX2_addTeller_19 : decode cX2_addTeller 19 = .ok (.bipush 40, 2) := by decide +kernel
theorem dX2_addTeller_21 : decode cX2_addTeller 21 = .ok (.invokestatic 54, 3) := by decide +kernel
theorem dX2_addTeller_24 : decode cX2_addTeller 24 = .ok (.ifCond .ne 5, 3) := by decide +kernel
theorem dX2_addTeller_27 : decode cX2_addTeller 27 = .ok (.iconst 0, 1) := by decide +kernel
theorem dX2_addTeller_28 : decode cX2_addTeller 28 = .ok (.ireturn, 1) := by decide +kernel
theorem dX2_addTeller_29 : decode cX2_addTeller 29 = .ok (.aload_n 0, 1) := by decide +kernel
theorem dX2_addTeller_30 : decode cX2_addTeller 30 = .ok (.getfield 9, 3) := by decide +kernel
theorem dX2_addTeller_33 : decode cX2_addTeller 33 = .ok (.aload_n 0, 1) := by decide +kernel
theorem dX2_addTeller_34 : decode cX2_addTeller 34 = .ok (.getfield 30, 3) := by decide +kernel
theorem dX2_addTeller_37 : decode cX2_addTeller 37 = .ok (.iload_n 1, 1) := by decide +kernel
theorem dX2_addTeller_38 : decode cX2_addTeller 38 = .ok (.invokestatic 58, 3) := by decide +kernel
theorem dX2_addTeller_41 : decode cX2_addTeller 41 = .ok (.aload_n 0, 1) := by decide +kernel
theorem dX2_addTeller_42 : decode cX2_addTeller 42 = .ok (.getfield 15, 3) := by decide +kernel
theorem dX2_addTeller_45 : decode cX2_addTeller 45 = .ok (.aload_n 0, 1) := by decide +kernel
theorem dX2_addTeller_46 : decode cX2_addTeller 46 = .ok (.getfield 30, 3) := by decide +kernel
theorem dX2_addTeller_49 : decode cX2_addTeller 49 = .ok (.iload_n 2, 1) := by decide +kernel
theorem dX2_addTeller_50 : decode cX2_addTeller 50 = .ok (.invokestatic 58, 3) := by decide +kernel
theorem dX2_addTeller_53 : decode cX2_addTeller 53 = .ok (.aload_n 0, 1) := by decide +kernel
theorem dX2_addTeller_54 : decode cX2_addTeller 54 = .ok (.dup, 1) := by decide +kernel
theorem dX2_addTeller_55 : decode cX2_addTeller 55 = .ok (.getfield 30, 3) := by decide +kernel
theorem dX2_addTeller_58 : decode cX2_addTeller 58 = .ok (.iconst 1, 1) := by decide +kernel
theorem dX2_addTeller_59 : decode cX2_addTeller 59 = .ok (.iadd, 1) := by decide +kernel
theorem dX2_addTeller_60 : decode cX2_addTeller 60 = .ok (.putfield 30, 3) := by decide +kernel
theorem dX2_addTeller_63 : decode cX2_addTeller 63 = .ok (.iconst 1, 1) := by decide +kernel
theorem dX2_addTeller_64 : decode cX2_addTeller 64 = .ok (.ireturn, 1) := by decide +kernel
theorem dX2_addFact_0 : decode cX2_addFact 0 = .ok (.aload_n 0, 1) := by decide +kernel
theorem dX2_addFact_1 : decode cX2_addFact 1 = .ok (.getfield 34, 3) := by decide +kernel
theorem dX2_addFact_4 : decode cX2_addFact 4 = .ok (.bipush 6, 2) := by decide +kernel
theorem dX2_addFact_6 : decode cX2_addFact 6 = .ok (.if_icmp .ge 12, 3) := by decide +kernel
theorem dX2_addFact_9 : decode cX2_addFact 9 = .ok (.iload_n 1, 1) := by decide +kernel
theorem dX2_addFact_10 : decode cX2_addFact 10 = .ok (.iconst 0, 1) := by decide +kernel
theorem dX2_addFact_11 : decode cX2_addFact 11 = .ok (.iconst 1, 1) := by decide +kernel
theorem dX2_addFact_12 : decode cX2_addFact 12 = .ok (.invokestatic 54, 3) := by decide +kernel
theorem dX2_addFact_15 : decode cX2_addFact 15 = .ok (.ifCond .ne 5, 3) := by decide +kernel
theorem dX2_addFact_18 : decode cX2_addFact 18 = .ok (.iconst 0, 1) := by decide +kernel
theorem dX2_addFact_19 : decode cX2_addFact 19 = .ok (.ireturn, 1) := by decide +kernel
theorem dX2_addFact_20 : decode cX2_addFact 20 = .ok (.aload_n 0, 1) := by decide +kernel
theorem dX2_addFact_21 : decode cX2_addFact 21 = .ok (.dup, 1) := by decide +kernel
theorem dX2_addFact_22 : decode cX2_addFact 22 = .ok (.getfield 40, 3) := by decide +kernel
theorem dX2_addFact_25 : decode cX2_addFact 25 = .ok (.iload_n 1, 1) := by decide +kernel
theorem dX2_addFact_26 : decode cX2_addFact 26 = .ok (.aload_n 0, 1) := by decide +kernel
theorem dX2_addFact_27 : decode cX2_addFact 27 = .ok (.getfield 34, 3) := by decide +kernel
theorem dX2_addFact_30 : decode cX2_addFact 30 = .ok (.ishl, 1) := by decide +kernel
theorem dX2_addFact_31 : decode cX2_addFact 31 = .ok (.ior, 1) := by decide +kernel
theorem dX2_addFact_32 : decode cX2_addFact 32 = .ok (.putfield 40, 3) := by decide +kernel
theorem dX2_addFact_35 : decode cX2_addFact 35 = .ok (.aload_n 0, 1) := by decide +kernel
theorem dX2_addFact_36 : decode cX2_addFact 36 = .ok (.dup, 1) := by decide +kernel
theorem dX2_addFact_37 : decode cX2_addFact 37 = .ok (.getfield 34, 3) := by decide +kernel
theorem dX2_addFact_40 : decode cX2_addFact 40 = .ok (.iconst 1, 1) := by decide +kernel
theorem dX2_addFact_41 : decode cX2_addFact 41 = .ok (.iadd, 1) := by decide +kernel
theorem dX2_addFact_42 : decode cX2_addFact 42 = .ok (.putfield 34, 3) := by decide +kernel
theorem dX2_addFact_45 : decode cX2_addFact 45 = .ok (.iconst 1, 1) := by decide +kernel
theorem dX2_addFact_46 : decode cX2_addFact 46 = .ok (.ireturn, 1) := by decide +kernel
theorem dX2_addClaim_0 : decode cX2_addClaim 0 = .ok (.aload_n 0, 1) := by decide +kernel
theorem dX2_addClaim_1 : decode cX2_addClaim 1 = .ok (.getfield 37, 3) := by decide +kernel
theorem dX2_addClaim_4 : decode cX2_addClaim 4 = .ok (.bipush 7, 2) := by decide +kernel
theorem dX2_addClaim_6 : decode cX2_addClaim 6 = .ok (.if_icmp .ge 15, 3) := by decide +kernel
theorem dX2_addClaim_9 : decode cX2_addClaim 9 = .ok (.aload_n 0, 1) := by decide +kernel
theorem dX2_addClaim_10 : decode cX2_addClaim 10 = .ok (.iload_n 1, 1) := by decide +kernel
theorem dX2_addClaim_11 : decode cX2_addClaim 11 = .ok (.iload_n 2, 1) := by decide +kernel
theorem dX2_addClaim_12 : decode cX2_addClaim 12 = .ok (.iload_n 3, 1) := by decide +kernel
theorem dX2_addClaim_13 : decode cX2_addClaim 13 = .ok (.iload 4, 2) := by decide +kernel
theorem dX2_addClaim_15 : decode cX2_addClaim 15 = .ok (.invokevirtual 62, 3) := by decide +kernel
theorem dX2_addClaim_18 : decode cX2_addClaim 18 = .ok (.ifCond .ne 5, 3) := by decide +kernel
theorem dX2_addClaim_21 : decode cX2_addClaim 21 = .ok (.iconst 0, 1) := by decide +kernel
theorem dX2_addClaim_22 : decode cX2_addClaim 22 = .ok (.ireturn, 1) := by decide +kernel
theorem dX2_addClaim_23 : decode cX2_addClaim 23 = .ok (.aload_n 0, 1) := by decide +kernel
theorem dX2_addClaim_24 : decode cX2_addClaim 24 = .ok (.getfield 18, 3) := by decide +kernel
theorem dX2_addClaim_27 : decode cX2_addClaim 27 = .ok (.aload_n 0, 1) := by decide +kernel
theorem dX2_addClaim_28 : decode cX2_addClaim 28 = .ok (.getfield 37, 3) := by decide +kernel
theorem dX2_addClaim_31 : decode cX2_addClaim 31 = .ok (.iload_n 1, 1) := by decide +kernel
theorem dX2_addClaim_32 : decode cX2_addClaim 32 = .ok (.invokestatic 58, 3) := by decide +kernel
theorem dX2_addClaim_35 : decode cX2_addClaim 35 = .ok (.aload_n 0, 1) := by decide +kernel
theorem dX2_addClaim_36 : decode cX2_addClaim 36 = .ok (.getfield 21, 3) := by decide +kernel
theorem dX2_addClaim_39 : decode cX2_addClaim 39 = .ok (.aload_n 0, 1) := by decide +kernel
theorem dX2_addClaim_40 : decode cX2_addClaim 40 = .ok (.getfield 37, 3) := by decide +kernel
theorem dX2_addClaim_43 : decode cX2_addClaim 43 = .ok (.iload_n 2, 1) := by decide +kernel
theorem dX2_addClaim_44 : decode cX2_addClaim 44 = .ok (.invokestatic 58, 3) := by decide +kernel
theorem dX2_addClaim_47 : decode cX2_addClaim 47 = .ok (.aload_n 0, 1) := by decide +kernel
theorem dX2_addClaim_48 : decode cX2_addClaim 48 = .ok (.getfield 24, 3) := by decide +kernel
theorem dX2_addClaim_51 : decode cX2_addClaim 51 = .ok (.aload_n 0, 1) := by decide +kernel
theorem dX2_addClaim_52 : decode cX2_addClaim 52 = .ok (.getfield 37, 3) := by decide +kernel
theorem dX2_addClaim_55 : decode cX2_addClaim 55 = .ok (.iload_n 3, 1) := by decide +kernel
theorem dX2_addClaim_56 : decode cX2_addClaim 56 = .ok (.invokestatic 58, 3) := by decide +kernel
theorem dX2_addClaim_59 : decode cX2_addClaim 59 = .ok (.aload_n 0, 1) := by decide +kernel
theorem dX2_addClaim_60 : decode cX2_addClaim 60 = .ok (.getfield 27, 3) := by decide +kernel
theorem dX2_addClaim_63 : decode cX2_addClaim 63 = .ok (.aload_n 0, 1) := by decide +kernel
theorem dX2_addClaim_64 : decode cX2_addClaim 64 = .ok (.getfield 37, 3) := by decide +kernel
theorem dX2_addClaim_67 : decode cX2_addClaim 67 = .ok (.iload 4, 2) := by decide +kernel
theorem dX2_addClaim_69 : decode cX2_addClaim 69 = .ok (.invokestatic 58, 3) := by decide +kernel
theorem dX2_addClaim_72 : decode cX2_addClaim 72 = .ok (.aload_n 0, 1) := by decide +kernel
theorem dX2_addClaim_73 : decode cX2_addClaim 73 = .ok (.dup, 1) := by decide +kernel
theorem dX2_addClaim_74 : decode cX2_addClaim 74 = .ok (.getfield 37, 3) := by decide +kernel
theorem dX2_addClaim_77 : decode cX2_addClaim 77 = .ok (.iconst 1, 1) := by decide +kernel
theorem dX2_addClaim_78 : decode cX2_addClaim 78 = .ok (.iadd, 1) := by decide +kernel
theorem dX2_addClaim_79 : decode cX2_addClaim 79 = .ok (.putfield 37, 3) := by decide +kernel
theorem dX2_addClaim_82 : decode cX2_addClaim 82 = .ok (.iconst 1, 1) := by decide +kernel
theorem dX2_addClaim_83 : decode cX2_addClaim 83 = .ok (.ireturn, 1) := by decide +kernel
theorem dX2_turnFact_0 : decode cX2_turnFact 0 = .ok (.aload_n 0, 1) := by decide +kernel
theorem dX2_turnFact_1 : decode cX2_turnFact 1 = .ok (.dup, 1) := by decide +kernel
theorem dX2_turnFact_2 : decode cX2_turnFact 2 = .ok (.getfield 40, 3) := by decide +kernel
theorem dX2_turnFact_5 : decode cX2_turnFact 5 = .ok (.iconst 1, 1) := by decide +kernel
theorem dX2_turnFact_6 : decode cX2_turnFact 6 = .ok (.iload_n 1, 1) := by decide +kernel
theorem dX2_turnFact_7 : decode cX2_turnFact 7 = .ok (.ishl, 1) := by decide +kernel
theorem dX2_turnFact_8 : decode cX2_turnFact 8 = .ok (.ixor, 1) := by decide +kernel
theorem dX2_turnFact_9 : decode cX2_turnFact 9 = .ok (.putfield 40, 3) := by decide +kernel
theorem dX2_turnFact_12 : decode cX2_turnFact 12 = .ok (.return_, 1) := by decide +kernel
theorem dX2_moveClaim_0 : decode cX2_moveClaim 0 = .ok (.aload_n 0, 1) := by decide +kernel
theorem dX2_moveClaim_1 : decode cX2_moveClaim 1 = .ok (.getfield 18, 3) := by decide +kernel
theorem dX2_moveClaim_4 : decode cX2_moveClaim 4 = .ok (.iload_n 1, 1) := by decide +kernel
theorem dX2_moveClaim_5 : decode cX2_moveClaim 5 = .ok (.iload_n 2, 1) := by decide +kernel
theorem dX2_moveClaim_6 : decode cX2_moveClaim 6 = .ok (.invokestatic 66, 3) := by decide +kernel
theorem dX2_moveClaim_9 : decode cX2_moveClaim 9 = .ok (.aload_n 0, 1) := by decide +kernel
theorem dX2_moveClaim_10 : decode cX2_moveClaim 10 = .ok (.getfield 21, 3) := by decide +kernel
theorem dX2_moveClaim_13 : decode cX2_moveClaim 13 = .ok (.iload_n 1, 1) := by decide +kernel
theorem dX2_moveClaim_14 : decode cX2_moveClaim 14 = .ok (.iload_n 2, 1) := by decide +kernel
theorem dX2_moveClaim_15 : decode cX2_moveClaim 15 = .ok (.invokestatic 66, 3) := by decide +kernel
theorem dX2_moveClaim_18 : decode cX2_moveClaim 18 = .ok (.aload_n 0, 1) := by decide +kernel
theorem dX2_moveClaim_19 : decode cX2_moveClaim 19 = .ok (.getfield 24, 3) := by decide +kernel
theorem dX2_moveClaim_22 : decode cX2_moveClaim 22 = .ok (.iload_n 1, 1) := by decide +kernel
theorem dX2_moveClaim_23 : decode cX2_moveClaim 23 = .ok (.iload_n 2, 1) := by decide +kernel
theorem dX2_moveClaim_24 : decode cX2_moveClaim 24 = .ok (.invokestatic 66, 3) := by decide +kernel
theorem dX2_moveClaim_27 : decode cX2_moveClaim 27 = .ok (.aload_n 0, 1) := by decide +kernel
theorem dX2_moveClaim_28 : decode cX2_moveClaim 28 = .ok (.getfield 27, 3) := by decide +kernel
theorem dX2_moveClaim_31 : decode cX2_moveClaim 31 = .ok (.iload_n 1, 1) := by decide +kernel
theorem dX2_moveClaim_32 : decode cX2_moveClaim 32 = .ok (.iload_n 2, 1) := by decide +kernel
theorem dX2_moveClaim_33 : decode cX2_moveClaim 33 = .ok (.invokestatic 66, 3) := by decide +kernel
theorem dX2_moveClaim_36 : decode cX2_moveClaim 36 = .ok (.return_, 1) := by decide +kernel
theorem dX2_removeClaim_0 : decode cX2_removeClaim 0 = .ok (.aload_n 0, 1) := by decide +kernel
theorem dX2_removeClaim_1 : decode cX2_removeClaim 1 = .ok (.iload_n 1, 1) := by decide +kernel
theorem dX2_removeClaim_2 : decode cX2_removeClaim 2 = .ok (.aload_n 0, 1) := by decide +kernel
theorem dX2_removeClaim_3 : decode cX2_removeClaim 3 = .ok (.getfield 37, 3) := by decide +kernel
theorem dX2_removeClaim_6 : decode cX2_removeClaim 6 = .ok (.iconst 1, 1) := by decide +kernel
theorem dX2_removeClaim_7 : decode cX2_removeClaim 7 = .ok (.isub, 1) := by decide +kernel
theorem dX2_removeClaim_8 : decode cX2_removeClaim 8 = .ok (.invokevirtual 69, 3) := by decide +kernel
theorem dX2_removeClaim_11 : decode cX2_removeClaim 11 = .ok (.aload_n 0, 1) := by decide +kernel
theorem dX2_removeClaim_12 : decode cX2_removeClaim 12 = .ok (.dup, 1) := by decide +kernel
theorem dX2_removeClaim_13 : decode cX2_removeClaim 13 = .ok (.getfield 37, 3) := by decide +kernel
theorem dX2_removeClaim_16 : decode cX2_removeClaim 16 = .ok (.iconst 1, 1) := by decide +kernel
theorem dX2_removeClaim_17 : decode cX2_removeClaim 17 = .ok (.isub, 1) := by decide +kernel
theorem dX2_removeClaim_18 : decode cX2_removeClaim 18 = .ok (.putfield 37, 3) := by decide +kernel
theorem dX2_removeClaim_21 : decode cX2_removeClaim 21 = .ok (.return_, 1) := by decide +kernel
theorem dX2_isFalse_0 : decode cX2_isFalse 0 = .ok (.aload_n 0, 1) := by decide +kernel
theorem dX2_isFalse_1 : decode cX2_isFalse 1 = .ok (.getfield 40, 3) := by decide +kernel
theorem dX2_isFalse_4 : decode cX2_isFalse 4 = .ok (.aload_n 0, 1) := by decide +kernel
theorem dX2_isFalse_5 : decode cX2_isFalse 5 = .ok (.getfield 21, 3) := by decide +kernel
theorem dX2_isFalse_8 : decode cX2_isFalse 8 = .ok (.iload_n 1, 1) := by decide +kernel
theorem dX2_isFalse_9 : decode cX2_isFalse 9 = .ok (.invokestatic 73, 3) := by decide +kernel
theorem dX2_isFalse_12 : decode cX2_isFalse 12 = .ok (.invokestatic 77, 3) := by decide +kernel
theorem dX2_isFalse_15 : decode cX2_isFalse 15 = .ok (.aload_n 0, 1) := by decide +kernel
theorem dX2_isFalse_16 : decode cX2_isFalse 16 = .ok (.getfield 24, 3) := by decide +kernel
theorem dX2_isFalse_19 : decode cX2_isFalse 19 = .ok (.iload_n 1, 1) := by decide +kernel
theorem dX2_isFalse_20 : decode cX2_isFalse 20 = .ok (.invokestatic 73, 3) := by decide +kernel
theorem dX2_isFalse_23 : decode cX2_isFalse 23 = .ok (.if_icmp .eq 7, 3) := by decide +kernel
theorem dX2_isFalse_26 : decode cX2_isFalse 26 = .ok (.iconst 1, 1) := by decide +kernel
theorem dX2_isFalse_27 : decode cX2_isFalse 27 = .ok (.goto 4, 3) := by decide +kernel
theorem dX2_isFalse_30 : decode cX2_isFalse 30 = .ok (.iconst 0, 1) := by decide +kernel
theorem dX2_isFalse_31 : decode cX2_isFalse 31 = .ok (.ireturn, 1) := by decide +kernel
theorem dX2_falseClaims_0 : decode cX2_falseClaims 0 = .ok (.iconst 0, 1) := by decide +kernel
theorem dX2_falseClaims_1 : decode cX2_falseClaims 1 = .ok (.istore_n 1, 1) := by decide +kernel
theorem dX2_falseClaims_2 : decode cX2_falseClaims 2 = .ok (.iconst 0, 1) := by decide +kernel
theorem dX2_falseClaims_3 : decode cX2_falseClaims 3 = .ok (.istore_n 2, 1) := by decide +kernel
theorem dX2_falseClaims_4 : decode cX2_falseClaims 4 = .ok (.iload_n 2, 1) := by decide +kernel
theorem dX2_falseClaims_5 : decode cX2_falseClaims 5 = .ok (.aload_n 0, 1) := by decide +kernel
theorem dX2_falseClaims_6 : decode cX2_falseClaims 6 = .ok (.getfield 37, 3) := by decide +kernel
theorem dX2_falseClaims_9 : decode cX2_falseClaims 9 = .ok (.if_icmp .ge 20, 3) := by decide +kernel
theorem dX2_falseClaims_12 : decode cX2_falseClaims 12 = .ok (.aload_n 0, 1) := by decide +kernel
theorem dX2_falseClaims_13 : decode cX2_falseClaims 13 = .ok (.iload_n 2, 1) := by decide +kernel
theorem dX2_falseClaims_14 : decode cX2_falseClaims 14 = .ok (.invokevirtual 81, 3) := by decide +kernel
theorem dX2_falseClaims_17 : decode cX2_falseClaims 17 = .ok (.ifCond .eq 6, 3) := by decide +kernel
theorem dX2_falseClaims_20 : decode cX2_falseClaims 20 = .ok (.iinc 1 1, 3) := by decide +kernel
theorem dX2_falseClaims_23 : decode cX2_falseClaims 23 = .ok (.iinc 2 1, 3) := by decide +kernel
theorem dX2_falseClaims_26 : decode cX2_falseClaims 26 = .ok (.goto (-22), 3) := by decide +kernel
theorem dX2_falseClaims_29 : decode cX2_falseClaims 29 = .ok (.iload_n 1, 1) := by decide +kernel
theorem dX2_falseClaims_30 : decode cX2_falseClaims 30 = .ok (.ireturn, 1) := by decide +kernel
theorem dX3_run_0 : decode cX3_run 0 = .ok (.aload_n 0, 1) := by decide +kernel
theorem dX3_run_1 : decode cX3_run 1 = .ok (.iconst (-1), 1) := by decide +kernel
theorem dX3_run_2 : decode cX3_run 2 = .ok (.putfield 25, 3) := by decide +kernel
theorem dX3_run_5 : decode cX3_run 5 = .ok (.aload_n 0, 1) := by decide +kernel
theorem dX3_run_6 : decode cX3_run 6 = .ok (.iconst 0, 1) := by decide +kernel
theorem dX3_run_7 : decode cX3_run 7 = .ok (.invokevirtual 29, 3) := by decide +kernel
theorem dX3_run_10 : decode cX3_run 10 = .ok (.astore_n 2, 1) := by decide +kernel
theorem dX3_run_11 : decode cX3_run 11 = .ok (.aload_n 2, 1) := by decide +kernel
theorem dX3_run_12 : decode cX3_run 12 = .ok (.ifnull 14, 3) := by decide +kernel
theorem dX3_run_15 : decode cX3_run 15 = .ok (.aload_n 2, 1) := by decide +kernel
theorem dX3_run_16 : decode cX3_run 16 = .ok (.invokevirtual 33, 3) := by decide +kernel
theorem dX3_run_19 : decode cX3_run 19 = .ok (.aload_n 0, 1) := by decide +kernel
theorem dX3_run_20 : decode cX3_run 20 = .ok (.aload_n 1, 1) := by decide +kernel
theorem dX3_run_21 : decode cX3_run 21 = .ok (.iconst 0, 1) := by decide +kernel
theorem dX3_run_22 : decode cX3_run 22 = .ok (.iconst 0, 1) := by decide +kernel
theorem dX3_run_23 : decode cX3_run 23 = .ok (.invokevirtual 36, 3) := by decide +kernel
theorem dX3_run_26 : decode cX3_run 26 = .ok (.return_, 1) := by decide +kernel
theorem dX3_look_0 : decode cX3_look 0 = .ok (.aload_n 0, 1) := by decide +kernel
theorem dX3_look_1 : decode cX3_look 1 = .ok (.iload_n 2, 1) := by decide +kernel
theorem dX3_look_2 : decode cX3_look 2 = .ok (.invokevirtual 29, 3) := by decide +kernel
theorem dX3_look_5 : decode cX3_look 5 = .ok (.astore 4, 2) := by decide +kernel
theorem dX3_look_7 : decode cX3_look 7 = .ok (.aload 4, 2) := by decide +kernel
theorem dX3_look_9 : decode cX3_look 9 = .ok (.ifnull 29, 3) := by decide +kernel
theorem dX3_look_12 : decode cX3_look 12 = .ok (.aload 4, 2) := by decide +kernel
theorem dX3_look_14 : decode cX3_look 14 = .ok (.getfield 40, 3) := by decide +kernel
theorem dX3_look_17 : decode cX3_look 17 = .ok (.invokestatic 43, 3) := by decide +kernel
theorem dX3_look_20 : decode cX3_look 20 = .ok (.aload_n 1, 1) := by decide +kernel
theorem dX3_look_21 : decode cX3_look 21 = .ok (.iload_n 3, 1) := by decide +kernel
theorem dX3_look_22 : decode cX3_look 22 = .ok (.aload 4, 2) := by decide +kernel
theorem dX3_look_24 : decode cX3_look 24 = .ok (.getfield 49, 3) := by decide +kernel
theorem dX3_look_27 : decode cX3_look 27 = .ok (.invokestatic 52, 3) := by decide +kernel
theorem dX3_look_30 : decode cX3_look 30 = .ok (.iadd, 1) := by decide +kernel
theorem dX3_look_31 : decode cX3_look 31 = .ok (.aload_n 0, 1) := by decide +kernel
theorem dX3_look_32 : decode cX3_look 32 = .ok (.getfield 25, 3) := by decide +kernel
theorem dX3_look_35 : decode cX3_look 35 = .ok (.if_icmp .gt 4, 3) := by decide +kernel
theorem dX3_look_38 : decode cX3_look 38 = .ok (.return_, 1) := by decide +kernel
theorem dX3_look_39 : decode cX3_look 39 = .ok (.iload_n 2, 1) := by decide +kernel
theorem dX3_look_40 : decode cX3_look 40 = .ok (.aload_n 1, 1) := by decide +kernel
theorem dX3_look_41 : decode cX3_look 41 = .ok (.getfield 56, 3) := by decide +kernel
theorem dX3_look_44 : decode cX3_look 44 = .ok (.if_icmp .ne 27, 3) := by decide +kernel
theorem dX3_look_47 : decode cX3_look 47 = .ok (.aload_n 0, 1) := by decide +kernel
theorem dX3_look_48 : decode cX3_look 48 = .ok (.aload 4, 2) := by decide +kernel
theorem dX3_look_50 : decode cX3_look 50 = .ok (.getfield 40, 3) := by decide +kernel
theorem dX3_look_53 : decode cX3_look 53 = .ok (.invokestatic 43, 3) := by decide +kernel
theorem dX3_look_56 : decode cX3_look 56 = .ok (.putfield 25, 3) := by decide +kernel
theorem dX3_look_59 : decode cX3_look 59 = .ok (.aload_n 0, 1) := by decide +kernel
theorem dX3_look_60 : decode cX3_look 60 = .ok (.getfield 17, 3) := by decide +kernel
theorem dX3_look_63 : decode cX3_look 63 = .ok (.aload_n 0, 1) := by decide +kernel
theorem dX3_look_64 : decode cX3_look 64 = .ok (.getfield 21, 3) := by decide +kernel
theorem dX3_look_67 : decode cX3_look 67 = .ok (.invokestatic 61, 3) := by decide +kernel
theorem dX3_look_70 : decode cX3_look 70 = .ok (.return_, 1) := by decide +kernel
theorem dX3_look_71 : decode cX3_look 71 = .ok (.aload_n 0, 1) := by decide +kernel
theorem dX3_look_72 : decode cX3_look 72 = .ok (.iload_n 2, 1) := by decide +kernel
theorem dX3_look_73 : decode cX3_look 73 = .ok (.iconst 1, 1) := by decide +kernel
theorem dX3_look_74 : decode cX3_look 74 = .ok (.iadd, 1) := by decide +kernel
theorem dX3_look_75 : decode cX3_look 75 = .ok (.invokevirtual 29, 3) := by decide +kernel
theorem dX3_look_78 : decode cX3_look 78 = .ok (.astore 5, 2) := by decide +kernel
theorem dX3_look_80 : decode cX3_look 80 = .ok (.iconst 0, 1) := by decide +kernel
theorem dX3_look_81 : decode cX3_look 81 = .ok (.istore 6, 2) := by decide +kernel
theorem dX3_look_83 : decode cX3_look 83 = .ok (.aload 5, 2) := by decide +kernel
theorem dX3_look_85 : decode cX3_look 85 = .ok (.ifnull 67, 3) := by decide +kernel
theorem dX3_look_88 : decode cX3_look 88 = .ok (.iload 6, 2) := by decide +kernel
theorem dX3_look_90 : decode cX3_look 90 = .ok (.aload_n 1, 1) := by decide +kernel
theorem dX3_look_91 : decode cX3_look 91 = .ok (.getfield 56, 3) := by decide +kernel
theorem dX3_look_94 : decode cX3_look 94 = .ok (.if_icmp .ge 58, 3) := by decide +kernel
theorem dX3_look_97 : decode cX3_look 97 = .ok (.iload_n 3, 1) := by decide +kernel
theorem dX3_look_98 : decode cX3_look 98 = .ok (.iload 6, 2) := by decide +kernel
theorem dX3_look_100 : decode cX3_look 100 = .ok (.invokestatic 65, 3) := by decide +kernel
theorem dX3_look_103 : decode cX3_look 103 = .ok (.ifCond .ne 43, 3) := by decide +kernel
theorem dX3_look_106 : decode cX3_look 106 = .ok (.aload_n 0, 1) := by decide +kernel
theorem dX3_look_107 : decode cX3_look 107 = .ok (.getfield 17, 3) := by decide +kernel
theorem dX3_look_110 : decode cX3_look 110 = .ok (.iload_n 2, 1) := by decide +kernel
theorem dX3_look_111 : decode cX3_look 111 = .ok (.iload 6, 2) := by decide +kernel
theorem dX3_look_113 : decode cX3_look 113 = .ok (.invokestatic 69, 3) := by decide +kernel
theorem dX3_look_116 : decode cX3_look 116 = .ok (.aload 5, 2) := by decide +kernel
theorem dX3_look_118 : decode cX3_look 118 = .ok (.aload 4, 2) := by decide +kernel
theorem dX3_look_120 : decode cX3_look 120 = .ok (.invokevirtual 73, 3) := by decide +kernel
theorem dX3_look_123 : decode cX3_look 123 = .ok (.aload 5, 2) := by decide +kernel
theorem dX3_look_125 : decode cX3_look 125 = .ok (.aload_n 1, 1) := by decide +kernel
theorem dX3_look_126 : decode cX3_look 126 = .ok (.iload 6, 2) := by decide +kernel
theorem dX3_look_128 : decode cX3_look 128 = .ok (.invokevirtual 77, 3) := by decide +kernel
theorem dX3_look_131 : decode cX3_look 131 = .ok (.pop, 1) := by decide +kernel
theorem dX3_look_132 : decode cX3_look 132 = .ok (.aload_n 0, 1) := by decide +kernel
theorem dX3_look_133 : decode cX3_look 133 = .ok (.aload_n 1, 1) := by decide +kernel
theorem dX3_look_134 : decode cX3_look 134 = .ok (.iload_n 2, 1) := by decide +kernel
theorem dX3_look_135 : decode cX3_look 135 = .ok (.iconst 1, 1) := by decide +kernel
theorem dX3_look_136 : decode cX3_look 136 = .ok (.iadd, 1) := by decide +kernel
theorem dX3_look_137 : decode cX3_look 137 = .ok (.iload_n 3, 1) := by decide +kernel
theorem dX3_look_138 : decode cX3_look 138 = .ok (.iconst 1, 1) := by decide +kernel
theorem dX3_look_139 : decode cX3_look 139 = .ok (.iload 6, 2) := by decide +kernel
theorem dX3_look_141 : decode cX3_look 141 = .ok (.ishl, 1) := by decide +kernel
theorem dX3_look_142 : decode cX3_look 142 = .ok (.ior, 1) := by decide +kernel
theorem dX3_look_143 : decode cX3_look 143 = .ok (.invokevirtual 36, 3) := by decide +kernel
theorem dX3_look_146 : decode cX3_look 146 = .ok (.iinc 6 1, 3) := by decide +kernel
theorem dX3_look_149 : decode cX3_look 149 = .ok (.goto (-66), 3) := by decide +kernel
theorem dX3_look_152 : decode cX3_look 152 = .ok (.return_, 1) := by decide +kernel
theorem dX3_tellable_0 : decode cX3_tellable 0 = .ok (.iconst 0, 1) := by decide +kernel
theorem dX3_tellable_1 : decode cX3_tellable 1 = .ok (.istore_n 3, 1) := by decide +kernel
theorem dX3_tellable_2 : decode cX3_tellable 2 = .ok (.iconst 0, 1) := by decide +kernel
theorem dX3_tellable_3 : decode cX3_tellable 3 = .ok (.istore 4, 2) := by decide +kernel
theorem dX3_tellable_5 : decode cX3_tellable 5 = .ok (.iload 4, 2) := by decide +kernel
theorem dX3_tellable_7 : decode cX3_tellable 7 = .ok (.aload_n 0, 1) := by decide +kernel
theorem dX3_tellable_8 : decode cX3_tellable 8 = .ok (.getfield 56, 3) := by decide +kernel
theorem dX3_tellable_11 : decode cX3_tellable 11 = .ok (.if_icmp .ge 37, 3) := by decide +kernel
theorem dX3_tellable_14 : decode cX3_tellable 14 = .ok (.iload_n 1, 1) := by decide +kernel
theorem dX3_tellable_15 : decode cX3_tellable 15 = .ok (.iload 4, 2) := by decide +kernel
theorem dX3_tellable_17 : decode cX3_tellable 17 = .ok (.invokestatic 65, 3) := by decide +kernel
theorem dX3_tellable_20 : decode cX3_tellable 20 = .ok (.ifCond .ne 22, 3) := by decide +kernel
theorem dX3_tellable_23 : decode cX3_tellable 23 = .ok (.iload_n 2, 1) := by decide +kernel
theorem dX3_tellable_24 : decode cX3_tellable 24 = .ok (.aload_n 0, 1) := by decide +kernel
theorem dX3_tellable_25 : decode cX3_tellable 25 = .ok (.getfield 81, 3) := by decide +kernel
theorem dX3_tellable_28 : decode cX3_tellable 28 = .ok (.iload 4, 2) := by decide +kernel
theorem dX3_tellable_30 : decode cX3_tellable 30 = .ok (.invokestatic 84, 3) := by decide +kernel
theorem dX3_tellable_33 : decode cX3_tellable 33 = .ok (.invokestatic 65, 3) := by decide +kernel
theorem dX3_tellable_36 : decode cX3_tellable 36 = .ok (.ifCond .ne 6, 3) := by decide +kernel
theorem dX3_tellable_39 : decode cX3_tellable 39 = .ok (.iinc 3 1, 3) := by decide +kernel
theorem dX3_tellable_42 : decode cX3_tellable 42 = .ok (.iinc 4 1, 3) := by decide +kernel
theorem dX3_tellable_45 : decode cX3_tellable 45 = .ok (.goto (-40), 3) := by decide +kernel
theorem dX3_tellable_48 : decode cX3_tellable 48 = .ok (.iload_n 3, 1) := by decide +kernel
theorem dX3_tellable_49 : decode cX3_tellable 49 = .ok (.ireturn, 1) := by decide +kernel
theorem dX3_stageAt_0 : decode cX3_stageAt 0 = .ok (.iload_n 1, 1) := by decide +kernel
theorem dX3_stageAt_1 : decode cX3_stageAt 1 = .ok (.ifCond .lt 21, 3) := by decide +kernel
theorem dX3_stageAt_4 : decode cX3_stageAt 4 = .ok (.iload_n 1, 1) := by decide +kernel
theorem dX3_stageAt_5 : decode cX3_stageAt 5 = .ok (.aload_n 0, 1) := by decide +kernel
theorem dX3_stageAt_6 : decode cX3_stageAt 6 = .ok (.getfield 11, 3) := by decide +kernel
theorem dX3_stageAt_9 : decode cX3_stageAt 9 = .ok (.arraylength, 1) := by decide +kernel
theorem dX3_stageAt_10 : decode cX3_stageAt 10 = .ok (.if_icmp .ge 12, 3) := by decide +kernel
theorem dX3_stageAt_13 : decode cX3_stageAt 13 = .ok (.aload_n 0, 1) := by decide +kernel
theorem dX3_stageAt_14 : decode cX3_stageAt 14 = .ok (.getfield 11, 3) := by decide +kernel
theorem dX3_stageAt_17 : decode cX3_stageAt 17 = .ok (.iload_n 1, 1) := by decide +kernel
theorem dX3_stageAt_18 : decode cX3_stageAt 18 = .ok (.aaload, 1) := by decide +kernel
theorem dX3_stageAt_19 : decode cX3_stageAt 19 = .ok (.goto 4, 3) := by decide +kernel
theorem dX3_stageAt_22 : decode cX3_stageAt 22 = .ok (.aconst_null, 1) := by decide +kernel
theorem dX3_stageAt_23 : decode cX3_stageAt 23 = .ok (.areturn, 1) := by decide +kernel
theorem dX4_clear_0 : decode cX4_clear 0 = .ok (.aload_n 0, 1) := by decide +kernel
theorem dX4_clear_1 : decode cX4_clear 1 = .ok (.iconst 0, 1) := by decide +kernel
theorem dX4_clear_2 : decode cX4_clear 2 = .ok (.putfield 22, 3) := by decide +kernel
theorem dX4_clear_5 : decode cX4_clear 5 = .ok (.return_, 1) := by decide +kernel
theorem dX4_push_0 : decode cX4_push 0 = .ok (.aload_n 0, 1) := by decide +kernel
theorem dX4_push_1 : decode cX4_push 1 = .ok (.getfield 22, 3) := by decide +kernel
theorem dX4_push_4 : decode cX4_push 4 = .ok (.aload_n 0, 1) := by decide +kernel
theorem dX4_push_5 : decode cX4_push 5 = .ok (.getfield 15, 3) := by decide +kernel
theorem dX4_push_8 : decode cX4_push 8 = .ok (.arraylength, 1) := by decide +kernel
theorem dX4_push_9 : decode cX4_push 9 = .ok (.if_icmp .lt 7, 3) := by decide +kernel
theorem dX4_push_12 : decode cX4_push 12 = .ok (.aload_n 0, 1) := by decide +kernel
theorem dX4_push_13 : decode cX4_push 13 = .ok (.invokevirtual 26, 3) := by decide +kernel
theorem dX4_push_16 : decode cX4_push 16 = .ok (.aload_n 0, 1) := by decide +kernel
theorem dX4_push_17 : decode cX4_push 17 = .ok (.aload_n 0, 1) := by decide +kernel
theorem dX4_push_18 : decode cX4_push 18 = .ok (.getfield 22, 3) := by decide +kernel
theorem dX4_push_21 : decode cX4_push 21 = .ok (.invokevirtual 29, 3) := by decide +kernel
theorem dX4_push_24 : decode cX4_push 24 = .ok (.astore_n 2, 1) := by decide +kernel
theorem dX4_push_25 : decode cX4_push 25 = .ok (.aload_n 2, 1) := by decide +kernel
theorem dX4_push_26 : decode cX4_push 26 = .ok (.ifnull 18, 3) := by decide +kernel
theorem dX4_push_29 : decode cX4_push 29 = .ok (.aload_n 2, 1) := by decide +kernel
theorem dX4_push_30 : decode cX4_push 30 = .ok (.aload_n 1, 1) := by decide +kernel
theorem dX4_push_31 : decode cX4_push 31 = .ok (.invokevirtual 33, 3) := by decide +kernel
theorem dX4_push_34 : decode cX4_push 34 = .ok (.aload_n 0, 1) := by decide +kernel
theorem dX4_push_35 : decode cX4_push 35 = .ok (.dup, 1) := by decide +kernel
theorem dX4_push_36 : decode cX4_push 36 = .ok (.getfield 22, 3) := by decide +kernel
theorem dX4_push_39 : decode cX4_push 39 = .ok (.iconst 1, 1) := by decide +kernel
theorem dX4_push_40 : decode cX4_push 40 = .ok (.iadd, 1) := by decide +kernel
theorem dX4_push_41 : decode cX4_push 41 = .ok (.putfield 22, 3) := by decide +kernel
theorem dX4_push_44 : decode cX4_push 44 = .ok (.return_, 1) := by decide +kernel
theorem dX4_popInto_0 : decode cX4_popInto 0 = .ok (.aload_n 0, 1) := by decide +kernel
theorem dX4_popInto_1 : decode cX4_popInto 1 = .ok (.aload_n 0, 1) := by decide +kernel
theorem dX4_popInto_2 : decode cX4_popInto 2 = .ok (.getfield 22, 3) := by decide +kernel
theorem dX4_popInto_5 : decode cX4_popInto 5 = .ok (.iconst 1, 1) := by decide +kernel
theorem dX4_popInto_6 : decode cX4_popInto 6 = .ok (.isub, 1) := by decide +kernel
theorem dX4_popInto_7 : decode cX4_popInto 7 = .ok (.invokevirtual 29, 3) := by decide +kernel
theorem dX4_popInto_10 : decode cX4_popInto 10 = .ok (.astore_n 2, 1) := by decide +kernel
theorem dX4_popInto_11 : decode cX4_popInto 11 = .ok (.aload_n 2, 1) := by decide +kernel
theorem dX4_popInto_12 : decode cX4_popInto 12 = .ok (.ifnonnull 5, 3) := by decide +kernel
theorem dX4_popInto_15 : decode cX4_popInto 15 = .ok (.iconst 0, 1) := by decide +kernel
theorem dX4_popInto_16 : decode cX4_popInto 16 = .ok (.ireturn, 1) := by decide +kernel
theorem dX4_popInto_17 : decode cX4_popInto 17 = .ok (.aload_n 1, 1) := by decide +kernel
theorem dX4_popInto_18 : decode cX4_popInto 18 = .ok (.aload_n 2, 1) := by decide +kernel
theorem dX4_popInto_19 : decode cX4_popInto 19 = .ok (.invokevirtual 33, 3) := by decide +kernel
theorem dX4_popInto_22 : decode cX4_popInto 22 = .ok (.aload_n 0, 1) := by decide +kernel
theorem dX4_popInto_23 : decode cX4_popInto 23 = .ok (.dup, 1) := by decide +kernel
theorem dX4_popInto_24 : decode cX4_popInto 24 = .ok (.getfield 22, 3) := by decide +kernel
theorem dX4_popInto_27 : decode cX4_popInto 27 = .ok (.iconst 1, 1) := by decide +kernel
theorem dX4_popInto_28 : decode cX4_popInto 28 = .ok (.isub, 1) := by decide +kernel
theorem dX4_popInto_29 : decode cX4_popInto 29 = .ok (.putfield 22, 3) := by decide +kernel
theorem dX4_popInto_32 : decode cX4_popInto 32 = .ok (.iconst 1, 1) := by decide +kernel
theorem dX4_popInto_33 : decode cX4_popInto 33 = .ok (.ireturn, 1) := by decide +kernel
theorem dX4_dropOldest_0 : decode cX4_dropOldest 0 = .ok (.aload_n 0, 1) := by decide +kernel
theorem dX4_dropOldest_1 : decode cX4_dropOldest 1 = .ok (.iconst 0, 1) := by decide +kernel
theorem dX4_dropOldest_2 : decode cX4_dropOldest 2 = .ok (.invokevirtual 29, 3) := by decide +kernel
theorem dX4_dropOldest_5 : decode cX4_dropOldest 5 = .ok (.astore_n 1, 1) := by decide +kernel
theorem dX4_dropOldest_6 : decode cX4_dropOldest 6 = .ok (.iconst 1, 1) := by decide +kernel
theorem dX4_dropOldest_7 : decode cX4_dropOldest 7 = .ok (.istore_n 2, 1) := by decide +kernel
theorem dX4_dropOldest_8 : decode cX4_dropOldest 8 = .ok (.iload_n 2, 1) := by decide +kernel
theorem dX4_dropOldest_9 : decode cX4_dropOldest 9 = .ok (.aload_n 0, 1) := by decide +kernel
theorem dX4_dropOldest_10 : decode cX4_dropOldest 10 = .ok (.getfield 15, 3) := by decide +kernel
theorem dX4_dropOldest_13 : decode cX4_dropOldest 13 = .ok (.arraylength, 1) := by decide +kernel
theorem dX4_dropOldest_14 : decode cX4_dropOldest 14 = .ok (.if_icmp .ge 23, 3) := by decide +kernel
theorem dX4_dropOldest_17 : decode cX4_dropOldest 17 = .ok (.aload_n 0, 1) := by decide +kernel
theorem dX4_dropOldest_18 : decode cX4_dropOldest 18 = .ok (.getfield 15, 3) := by decide +kernel
theorem dX4_dropOldest_21 : decode cX4_dropOldest 21 = .ok (.iload_n 2, 1) := by decide +kernel
theorem dX4_dropOldest_22 : decode cX4_dropOldest 22 = .ok (.iconst 1, 1) := by decide +kernel
theorem dX4_dropOldest_23 : decode cX4_dropOldest 23 = .ok (.isub, 1) := by decide +kernel
theorem dX4_dropOldest_24 : decode cX4_dropOldest 24 = .ok (.aload_n 0, 1) := by decide +kernel
theorem dX4_dropOldest_25 : decode cX4_dropOldest 25 = .ok (.getfield 15, 3) := by decide +kernel
theorem dX4_dropOldest_28 : decode cX4_dropOldest 28 = .ok (.iload_n 2, 1) := by decide +kernel
theorem dX4_dropOldest_29 : decode cX4_dropOldest 29 = .ok (.aaload, 1) := by decide +kernel
theorem dX4_dropOldest_30 : decode cX4_dropOldest 30 = .ok (.aastore, 1) := by decide +kernel
theorem dX4_dropOldest_31 : decode cX4_dropOldest 31 = .ok (.iinc 2 1, 3) := by decide +kernel
theorem dX4_dropOldest_34 : decode cX4_dropOldest 34 = .ok (.goto (-26), 3) := by decide +kernel
theorem dX4_dropOldest_37 : decode cX4_dropOldest 37 = .ok (.aload_n 0, 1) := by decide +kernel
theorem dX4_dropOldest_38 : decode cX4_dropOldest 38 = .ok (.getfield 15, 3) := by decide +kernel
theorem dX4_dropOldest_41 : decode cX4_dropOldest 41 = .ok (.arraylength, 1) := by decide +kernel
theorem dX4_dropOldest_42 : decode cX4_dropOldest 42 = .ok (.ifCond .le 16, 3) := by decide +kernel
theorem dX4_dropOldest_45 : decode cX4_dropOldest 45 = .ok (.aload_n 0, 1) := by decide +kernel
theorem dX4_dropOldest_46 : decode cX4_dropOldest 46 = .ok (.getfield 15, 3) := by decide +kernel
theorem dX4_dropOldest_49 : decode cX4_dropOldest 49 = .ok (.aload_n 0, 1) := by decide +kernel
theorem dX4_dropOldest_50 : decode cX4_dropOldest 50 = .ok (.getfield 15, 3) := by decide +kernel
theorem dX4_dropOldest_53 : decode cX4_dropOldest 53 = .ok (.arraylength, 1) := by decide +kernel
theorem dX4_dropOldest_54 : decode cX4_dropOldest 54 = .ok (.iconst 1, 1) := by decide +kernel
theorem dX4_dropOldest_55 : decode cX4_dropOldest 55 = .ok (.isub, 1) := by decide +kernel
theorem dX4_dropOldest_56 : decode cX4_dropOldest 56 = .ok (.aload_n 1, 1) := by decide +kernel
theorem dX4_dropOldest_57 : decode cX4_dropOldest 57 = .ok (.aastore, 1) := by decide +kernel
theorem dX4_dropOldest_58 : decode cX4_dropOldest 58 = .ok (.aload_n 0, 1) := by decide +kernel
theorem dX4_dropOldest_59 : decode cX4_dropOldest 59 = .ok (.dup, 1) := by decide +kernel
theorem dX4_dropOldest_60 : decode cX4_dropOldest 60 = .ok (.getfield 22, 3) := by decide +kernel
theorem dX4_dropOldest_63 : decode cX4_dropOldest 63 = .ok (.iconst 1, 1) := by decide +kernel
theorem dX4_dropOldest_64 : decode cX4_dropOldest 64 = .ok (.isub, 1) := by decide +kernel
theorem dX4_dropOldest_65 : decode cX4_dropOldest 65 = .ok (.putfield 22, 3) := by decide +kernel
theorem dX4_dropOldest_68 : decode cX4_dropOldest 68 = .ok (.return_, 1) := by decide +kernel
theorem dX4_roomAt_0 : decode cX4_roomAt 0 = .ok (.iload_n 1, 1) := by decide +kernel
theorem dX4_roomAt_1 : decode cX4_roomAt 1 = .ok (.ifCond .lt 21, 3) := by decide +kernel
theorem dX4_roomAt_4 : decode cX4_roomAt 4 = .ok (.iload_n 1, 1) := by decide +kernel
theorem dX4_roomAt_5 : decode cX4_roomAt 5 = .ok (.aload_n 0, 1) := by decide +kernel
theorem dX4_roomAt_6 : decode cX4_roomAt 6 = .ok (.getfield 15, 3) := by decide +kernel
theorem dX4_roomAt_9 : decode cX4_roomAt 9 = .ok (.arraylength, 1) := by decide +kernel
theorem dX4_roomAt_10 : decode cX4_roomAt 10 = .ok (.if_icmp .ge 12, 3) := by decide +kernel
theorem dX4_roomAt_13 : decode cX4_roomAt 13 = .ok (.aload_n 0, 1) := by decide +kernel
theorem dX4_roomAt_14 : decode cX4_roomAt 14 = .ok (.getfield 15, 3) := by decide +kernel
theorem dX4_roomAt_17 : decode cX4_roomAt 17 = .ok (.iload_n 1, 1) := by decide +kernel
theorem dX4_roomAt_18 : decode cX4_roomAt 18 = .ok (.aaload, 1) := by decide +kernel
theorem dX4_roomAt_19 : decode cX4_roomAt 19 = .ok (.goto 4, 3) := by decide +kernel
theorem dX4_roomAt_22 : decode cX4_roomAt 22 = .ok (.aconst_null, 1) := by decide +kernel
theorem dX4_roomAt_23 : decode cX4_roomAt 23 = .ok (.areturn, 1) := by decide +kernel
theorem dX5_clear_0 : decode cX5_clear 0 = .ok (.aload_n 0, 1) := by decide +kernel
theorem dX5_clear_1 : decode cX5_clear 1 = .ok (.iconst 0, 1) := by decide +kernel
theorem dX5_clear_2 : decode cX5_clear 2 = .ok (.putfield 18, 3) := by decide +kernel
theorem dX5_clear_5 : decode cX5_clear 5 = .ok (.return_, 1) := by decide +kernel
theorem dX5_note_0 : decode cX5_note 0 = .ok (.aload_n 0, 1) := by decide +kernel
theorem dX5_note_1 : decode cX5_note 1 = .ok (.getfield 18, 3) := by decide +kernel
theorem dX5_note_4 : decode cX5_note 4 = .ok (.bipush 6, 2) := by decide +kernel
theorem dX5_note_6 : decode cX5_note 6 = .ok (.if_icmp .lt 5, 3) := by decide +kernel
theorem dX5_note_9 : decode cX5_note 9 = .ok (.iconst 0, 1) := by decide +kernel
theorem dX5_note_10 : decode cX5_note 10 = .ok (.ireturn, 1) := by decide +kernel
theorem dX5_note_11 : decode cX5_note 11 = .ok (.aload_n 0, 1) := by decide +kernel
theorem dX5_note_12 : decode cX5_note 12 = .ok (.getfield 9, 3) := by decide +kernel
theorem dX5_note_15 : decode cX5_note 15 = .ok (.aload_n 0, 1) := by decide +kernel
theorem dX5_note_16 : decode cX5_note 16 = .ok (.getfield 18, 3) := by decide +kernel
theorem dX5_note_19 : decode cX5_note 19 = .ok (.iload_n 1, 1) := by decide +kernel
theorem dX5_note_20 : decode cX5_note 20 = .ok (.invokestatic 22, 3) := by decide +kernel
theorem dX5_note_23 : decode cX5_note 23 = .ok (.aload_n 0, 1) := by decide +kernel
theorem dX5_note_24 : decode cX5_note 24 = .ok (.getfield 15, 3) := by decide +kernel
theorem dX5_note_27 : decode cX5_note 27 = .ok (.aload_n 0, 1) := by decide +kernel
theorem dX5_note_28 : decode cX5_note 28 = .ok (.getfield 18, 3) := by decide +kernel
theorem dX5_note_31 : decode cX5_note 31 = .ok (.iload_n 2, 1) := by decide +kernel
theorem dX5_note_32 : decode cX5_note 32 = .ok (.invokestatic 22, 3) := by decide +kernel
theorem dX5_note_35 : decode cX5_note 35 = .ok (.aload_n 0, 1) := by decide +kernel
theorem dX5_note_36 : decode cX5_note 36 = .ok (.dup, 1) := by decide +kernel
theorem dX5_note_37 : decode cX5_note 37 = .ok (.getfield 18, 3) := by decide +kernel
theorem dX5_note_40 : decode cX5_note 40 = .ok (.iconst 1, 1) := by decide +kernel
theorem dX5_note_41 : decode cX5_note 41 = .ok (.iadd, 1) := by decide +kernel
theorem dX5_note_42 : decode cX5_note 42 = .ok (.putfield 18, 3) := by decide +kernel
theorem dX5_note_45 : decode cX5_note 45 = .ok (.iconst 1, 1) := by decide +kernel
theorem dX5_note_46 : decode cX5_note 46 = .ok (.ireturn, 1) := by decide +kernel
theorem dX5_agreeWith_0 : decode cX5_agreeWith 0 = .ok (.iconst 0, 1) := by decide +kernel
theorem dX5_agreeWith_1 : decode cX5_agreeWith 1 = .ok (.istore_n 2, 1) := by decide +kernel
theorem dX5_agreeWith_2 : decode cX5_agreeWith 2 = .ok (.iload_n 2, 1) := by decide +kernel
theorem dX5_agreeWith_3 : decode cX5_agreeWith 3 = .ok (.aload_n 0, 1) := by decide +kernel
theorem dX5_agreeWith_4 : decode cX5_agreeWith 4 = .ok (.getfield 18, 3) := by decide +kernel
theorem dX5_agreeWith_7 : decode cX5_agreeWith 7 = .ok (.if_icmp .ge 37, 3) := by decide +kernel
theorem dX5_agreeWith_10 : decode cX5_agreeWith 10 = .ok (.aload_n 1, 1) := by decide +kernel
theorem dX5_agreeWith_11 : decode cX5_agreeWith 11 = .ok (.getfield 26, 3) := by decide +kernel
theorem dX5_agreeWith_14 : decode cX5_agreeWith 14 = .ok (.aload_n 0, 1) := by decide +kernel
theorem dX5_agreeWith_15 : decode cX5_agreeWith 15 = .ok (.getfield 9, 3) := by decide +kernel
theorem dX5_agreeWith_18 : decode cX5_agreeWith 18 = .ok (.iload_n 2, 1) := by decide +kernel
theorem dX5_agreeWith_19 : decode cX5_agreeWith 19 = .ok (.invokestatic 29, 3) := by decide +kernel
theorem dX5_agreeWith_22 : decode cX5_agreeWith 22 = .ok (.invokestatic 29, 3) := by decide +kernel
theorem dX5_agreeWith_25 : decode cX5_agreeWith 25 = .ok (.aload_n 0, 1) := by decide +kernel
theorem dX5_agreeWith_26 : decode cX5_agreeWith 26 = .ok (.getfield 15, 3) := by decide +kernel
theorem dX5_agreeWith_29 : decode cX5_agreeWith 29 = .ok (.iload_n 2, 1) := by decide +kernel
theorem dX5_agreeWith_30 : decode cX5_agreeWith 30 = .ok (.invokestatic 29, 3) := by decide +kernel
theorem dX5_agreeWith_33 : decode cX5_agreeWith 33 = .ok (.if_icmp .eq 5, 3) := by decide +kernel
theorem dX5_agreeWith_36 : decode cX5_agreeWith 36 = .ok (.iconst 0, 1) := by decide +kernel
theorem dX5_agreeWith_37 : decode cX5_agreeWith 37 = .ok (.ireturn, 1) := by decide +kernel
theorem dX5_agreeWith_38 : decode cX5_agreeWith 38 = .ok (.iinc 2 1, 3) := by decide +kernel
theorem dX5_agreeWith_41 : decode cX5_agreeWith 41 = .ok (.goto (-39), 3) := by decide +kernel
theorem dX5_agreeWith_44 : decode cX5_agreeWith 44 = .ok (.iconst 1, 1) := by decide +kernel
theorem dX5_agreeWith_45 : decode cX5_agreeWith 45 = .ok (.ireturn, 1) := by decide +kernel
theorem dX6_clear_0 : decode cX6_clear 0 = .ok (.aload_n 0, 1) := by decide +kernel
theorem dX6_clear_1 : decode cX6_clear 1 = .ok (.iconst 0, 1) := by decide +kernel
theorem dX6_clear_2 : decode cX6_clear 2 = .ok (.putfield 18, 3) := by decide +kernel
theorem dX6_clear_5 : decode cX6_clear 5 = .ok (.return_, 1) := by decide +kernel
theorem dX6_append_0 : decode cX6_append 0 = .ok (.aload_n 0, 1) := by decide +kernel
theorem dX6_append_1 : decode cX6_append 1 = .ok (.getfield 18, 3) := by decide +kernel
theorem dX6_append_4 : decode cX6_append 4 = .ok (.sipush 200, 3) := by decide +kernel
theorem dX6_append_7 : decode cX6_append 7 = .ok (.if_icmp .lt 5, 3) := by decide +kernel
theorem dX6_append_10 : decode cX6_append 10 = .ok (.iconst 0, 1) := by decide +kernel
theorem dX6_append_11 : decode cX6_append 11 = .ok (.ireturn, 1) := by decide +kernel
theorem dX6_append_12 : decode cX6_append 12 = .ok (.aload_n 0, 1) := by decide +kernel
theorem dX6_append_13 : decode cX6_append 13 = .ok (.getfield 9, 3) := by decide +kernel
theorem dX6_append_16 : decode cX6_append 16 = .ok (.aload_n 0, 1) := by decide +kernel
theorem dX6_append_17 : decode cX6_append 17 = .ok (.getfield 18, 3) := by decide +kernel
theorem dX6_append_20 : decode cX6_append 20 = .ok (.iload_n 1, 1) := by decide +kernel
theorem dX6_append_21 : decode cX6_append 21 = .ok (.invokestatic 22, 3) := by decide +kernel
theorem dX6_append_24 : decode cX6_append 24 = .ok (.aload_n 0, 1) := by decide +kernel
theorem dX6_append_25 : decode cX6_append 25 = .ok (.dup, 1) := by decide +kernel
theorem dX6_append_26 : decode cX6_append 26 = .ok (.getfield 18, 3) := by decide +kernel
theorem dX6_append_29 : decode cX6_append 29 = .ok (.iconst 1, 1) := by decide +kernel
theorem dX6_append_30 : decode cX6_append 30 = .ok (.iadd, 1) := by decide +kernel
theorem dX6_append_31 : decode cX6_append 31 = .ok (.putfield 18, 3) := by decide +kernel
theorem dX6_append_34 : decode cX6_append 34 = .ok (.iconst 1, 1) := by decide +kernel
theorem dX6_append_35 : decode cX6_append 35 = .ok (.ireturn, 1) := by decide +kernel
theorem dX6_readInto_0 : decode cX6_readInto 0 = .ok (.aload_n 1, 1) := by decide +kernel
theorem dX6_readInto_1 : decode cX6_readInto 1 = .ok (.invokevirtual 26, 3) := by decide +kernel
theorem dX6_readInto_4 : decode cX6_readInto 4 = .ok (.aload_n 0, 1) := by decide +kernel
theorem dX6_readInto_5 : decode cX6_readInto 5 = .ok (.iconst 0, 1) := by decide +kernel
theorem dX6_readInto_6 : decode cX6_readInto 6 = .ok (.putfield 31, 3) := by decide +kernel
theorem dX6_readInto_9 : decode cX6_readInto 9 = .ok (.iconst 0, 1) := by decide +kernel
theorem dX6_readInto_10 : decode cX6_readInto 10 = .ok (.istore_n 2, 1) := by decide +kernel
theorem dX6_readInto_11 : decode cX6_readInto 11 = .ok (.iload_n 2, 1) := by decide +kernel
theorem dX6_readInto_12 : decode cX6_readInto 12 = .ok (.sipush 200, 3) := by decide +kernel
theorem dX6_readInto_15 : decode cX6_readInto 15 = .ok (.if_icmp .ge 35, 3) := by decide +kernel
theorem dX6_readInto_18 : decode cX6_readInto 18 = .ok (.aload_n 0, 1) := by decide +kernel
theorem dX6_readInto_19 : decode cX6_readInto 19 = .ok (.getfield 31, 3) := by decide +kernel
theorem dX6_readInto_22 : decode cX6_readInto 22 = .ok (.aload_n 0, 1) := by decide +kernel
theorem dX6_readInto_23 : decode cX6_readInto 23 = .ok (.getfield 18, 3) := by decide +kernel
theorem dX6_readInto_26 : decode cX6_readInto 26 = .ok (.if_icmp .ge 24, 3) := by decide +kernel
theorem dX6_readInto_29 : decode cX6_readInto 29 = .ok (.aload_n 0, 1) := by decide +kernel
theorem dX6_readInto_30 : decode cX6_readInto 30 = .ok (.getfield 31, 3) := by decide +kernel
theorem dX6_readInto_33 : decode cX6_readInto 33 = .ok (.istore_n 3, 1) := by decide +kernel
theorem dX6_readInto_34 : decode cX6_readInto 34 = .ok (.aload_n 0, 1) := by decide +kernel
theorem dX6_readInto_35 : decode cX6_readInto 35 = .ok (.aload_n 1, 1) := by decide +kernel
theorem dX6_readInto_36 : decode cX6_readInto 36 = .ok (.invokevirtual 34, 3) := by decide +kernel
theorem dX6_readInto_39 : decode cX6_readInto 39 = .ok (.ifCond .ne 5, 3) := by decide +kernel
theorem dX6_readInto_42 : decode cX6_readInto 42 = .ok (.iload_n 3, 1) := by decide +kernel
theorem dX6_readInto_43 : decode cX6_readInto 43 = .ok (.ireturn, 1) := by decide +kernel
theorem dX6_readInto_44 : decode cX6_readInto 44 = .ok (.iinc 2 1, 3) := by decide +kernel
theorem dX6_readInto_47 : decode cX6_readInto 47 = .ok (.goto (-36), 3) := by decide +kernel
theorem dX6_readInto_50 : decode cX6_readInto 50 = .ok (.bipush (-4), 2) := by decide +kernel
theorem dX6_readInto_52 : decode cX6_readInto 52 = .ok (.ireturn, 1) := by decide +kernel
theorem dX6_readItem_0 : decode cX6_readItem 0 = .ok (.aload_n 0, 1) := by decide +kernel
theorem dX6_readItem_1 : decode cX6_readItem 1 = .ok (.invokevirtual 38, 3) := by decide +kernel
theorem dX6_readItem_4 : decode cX6_readItem 4 = .ok (.lookupswitch 155 #[(99, 102), (102, 73), (116, 36)], 36) := by decide +kernel
theorem dX6_readItem_40 : decode cX6_readItem 40 = .ok (.aload_n 0, 1) := by decide +kernel
theorem dX6_readItem_41 : decode cX6_readItem 41 = .ok (.iconst 2, 1) := by decide +kernel
theorem dX6_readItem_42 : decode cX6_readItem 42 = .ok (.invokevirtual 42, 3) := by decide +kernel
theorem dX6_readItem_45 : decode cX6_readItem 45 = .ok (.ifCond .eq 30, 3) := by decide +kernel
theorem dX6_readItem_48 : decode cX6_readItem 48 = .ok (.aload_n 1, 1) := by decide +kernel
theorem dX6_readItem_49 : decode cX6_readItem 49 = .ok (.aload_n 0, 1) := by decide +kernel
theorem dX6_readItem_50 : decode cX6_readItem 50 = .ok (.getfield 15, 3) := by decide +kernel
theorem dX6_readItem_53 : decode cX6_readItem 53 = .ok (.iconst 0, 1) := by decide +kernel
theorem dX6_readItem_54 : decode cX6_readItem 54 = .ok (.invokestatic 46, 3) := by decide +kernel
theorem dX6_readItem_57 : decode cX6_readItem 57 = .ok (.aload_n 0, 1) := by decide +kernel
theorem dX6_readItem_58 : decode cX6_readItem 58 = .ok (.getfield 15, 3) := by decide +kernel
theorem dX6_readItem_61 : decode cX6_readItem 61 = .ok (.iconst 1, 1) := by decide +kernel
theorem dX6_readItem_62 : decode cX6_readItem 62 = .ok (.invokestatic 46, 3) := by decide +kernel
theorem dX6_readItem_65 : decode cX6_readItem 65 = .ok (.invokevirtual 50, 3) := by decide +kernel
theorem dX6_readItem_68 : decode cX6_readItem 68 = .ok (.ifCond .eq 7, 3) := by decide +kernel
theorem dX6_readItem_71 : decode cX6_readItem 71 = .ok (.iconst 1, 1) := by decide +kernel
theorem dX6_readItem_72 : decode cX6_readItem 72 = .ok (.goto 4, 3) := by decide +kernel
theorem dX6_readItem_75 : decode cX6_readItem 75 = .ok (.iconst 0, 1) := by decide +kernel
theorem dX6_readItem_76 : decode cX6_readItem 76 = .ok (.ireturn, 1) := by decide +kernel
theorem dX6_readItem_77 : decode cX6_readItem 77 = .ok (.aload_n 0, 1) := by decide +kernel
theorem dX6_readItem_78 : decode cX6_readItem 78 = .ok (.iconst 1, 1) := by decide +kernel
theorem dX6_readItem_79 : decode cX6_readItem 79 = .ok (.invokevirtual 42, 3) := by decide +kernel
theorem dX6_readItem_82 : decode cX6_readItem 82 = .ok (.ifCond .eq 22, 3) := by decide +kernel
theorem dX6_readItem_85 : decode cX6_readItem 85 = .ok (.aload_n 1, 1) := by decide +kernel
theorem dX6_readItem_86 : decode cX6_readItem 86 = .ok (.aload_n 0, 1) := by decide +kernel
theorem dX6_readItem_87 : decode cX6_readItem 87 = .ok (.getfield 15, 3) := by decide +kernel
theorem dX6_readItem_90 : decode cX6_readItem 90 = .ok (.iconst 0, 1) := by decide +kernel
theorem dX6_readItem_91 : decode cX6_readItem 91 = .ok (.invokestatic 46, 3) := by decide +kernel
theorem dX6_readItem_94 : decode cX6_readItem 94 = .ok (.invokevirtual 54, 3) := by decide +kernel
theorem dX6_readItem_97 : decode cX6_readItem 97 = .ok (.ifCond .eq 7, 3) := by decide +kernel
theorem dX6_readItem_100 : decode cX6_readItem 100 = .ok (.iconst 1, 1) := by decide +kernel
theorem dX6_readItem_101 : decode cX6_readItem 101 = .ok (.goto 4, 3) := by decide +kernel
theorem dX6_readItem_104 : decode cX6_readItem 104 = .ok (.iconst 0, 1) := by decide +kernel
theorem dX6_readItem_105 : decode cX6_readItem 105 = .ok (.ireturn, 1) := by decide +kernel
theorem dX6_readItem_106 : decode cX6_readItem 106 = .ok (.aload_n 0, 1) := by decide +kernel
theorem dX6_readItem_107 : decode cX6_readItem 107 = .ok (.iconst 4, 1) := by decide +kernel
theorem dX6_readItem_108 : decode cX6_readItem 108 = .ok (.invokevirtual 42, 3) := by decide +kernel
theorem dX6_readItem_111 : decode cX6_readItem 111 = .ok (.ifCond .eq 46, 3) := by decide +kernel
theorem dX6_readItem_114 : decode cX6_readItem 114 = .ok (.aload_n 1, 1) := by decide +kernel
theorem dX6_readItem_115 : decode cX6_readItem 115 = .ok (.aload_n 0, 1) := by decide +kernel
theorem dX6_readItem_116 : decode cX6_readItem 116 = .ok (.getfield 15, 3) := by decide +kernel
theorem dX6_readItem_119 : decode cX6_readItem 119 = .ok (.iconst 0, 1) := by decide +kernel
theorem dX6_readItem_120 : decode cX6_readItem 120 = .ok (.invokestatic 46, 3) := by decide +kernel
theorem dX6_readItem_123 : decode cX6_readItem 123 = .ok (.aload_n 0, 1) := by decide +kernel
theorem dX6_readItem_124 : decode cX6_readItem 124 = .ok (.getfield 15, 3) := by decide +kernel
theorem dX6_readItem_127 : decode cX6_readItem 127 = .ok (.iconst 1, 1) := by decide +kernel
theorem dX6_readItem_128 : decode cX6_readItem 128 = .ok (.invokestatic 46, 3) := by decide +kernel
theorem dX6_readItem_131 : decode cX6_readItem 131 = .ok (.aload_n 0, 1) := by decide +kernel
theorem dX6_readItem_132 : decode cX6_readItem 132 = .ok (.getfield 15, 3) := by decide +kernel
theorem dX6_readItem_135 : decode cX6_readItem 135 = .ok (.iconst 2, 1) := by decide +kernel
theorem dX6_readItem_136 : decode cX6_readItem 136 = .ok (.invokestatic 46, 3) := by decide +kernel
theorem dX6_readItem_139 : decode cX6_readItem 139 = .ok (.aload_n 0, 1) := by decide +kernel
theorem dX6_readItem_140 : decode cX6_readItem 140 = .ok (.getfield 15, 3) := by decide +kernel
theorem dX6_readItem_143 : decode cX6_readItem 143 = .ok (.iconst 3, 1) := by decide +kernel
theorem dX6_readItem_144 : decode cX6_readItem 144 = .ok (.invokestatic 46, 3) := by decide +kernel
theorem dX6_readItem_147 : decode cX6_readItem 147 = .ok (.invokevirtual 57, 3) := by decide +kernel
theorem dX6_readItem_150 : decode cX6_readItem 150 = .ok (.ifCond .eq 7, 3) := by decide +kernel
theorem dX6_readItem_153 : decode cX6_readItem 153 = .ok (.iconst 1, 1) := by decide +kernel
theorem dX6_readItem_154 : decode cX6_readItem 154 = .ok (.goto 4, 3) := by decide +kernel
theorem dX6_readItem_157 : decode cX6_readItem 157 = .ok (.iconst 0, 1) := by decide +kernel
theorem dX6_readItem_158 : decode cX6_readItem 158 = .ok (.ireturn, 1) := by decide +kernel
theorem dX6_readItem_159 : decode cX6_readItem 159 = .ok (.iconst 0, 1) := by decide +kernel
theorem dX6_readItem_160 : decode cX6_readItem 160 = .ok (.ireturn, 1) := by decide +kernel
theorem dX6_readNumbers_0 : decode cX6_readNumbers 0 = .ok (.iconst 0, 1) := by decide +kernel
theorem dX6_readNumbers_1 : decode cX6_readNumbers 1 = .ok (.istore_n 2, 1) := by decide +kernel
theorem dX6_readNumbers_2 : decode cX6_readNumbers 2 = .ok (.iload_n 2, 1) := by decide +kernel
theorem dX6_readNumbers_3 : decode cX6_readNumbers 3 = .ok (.iload_n 1, 1) := by decide +kernel
theorem dX6_readNumbers_4 : decode cX6_readNumbers 4 = .ok (.if_icmp .ge 84, 3) := by decide +kernel
theorem dX6_readNumbers_7 : decode cX6_readNumbers 7 = .ok (.aload_n 0, 1) := by decide +kernel
theorem dX6_readNumbers_8 : decode cX6_readNumbers 8 = .ok (.invokevirtual 61, 3) := by decide +kernel
theorem dX6_readNumbers_11 : decode cX6_readNumbers 11 = .ok (.invokestatic 64, 3) := by decide +kernel
theorem dX6_readNumbers_14 : decode cX6_readNumbers 14 = .ok (.ifCond .ne 5, 3) := by decide +kernel
theorem dX6_readNumbers_17 : decode cX6_readNumbers 17 = .ok (.iconst 0, 1) := by decide +kernel
theorem dX6_readNumbers_18 : decode cX6_readNumbers 18 = .ok (.ireturn, 1) := by decide +kernel
theorem dX6_readNumbers_19 : decode cX6_readNumbers 19 = .ok (.aload_n 0, 1) := by decide +kernel
theorem dX6_readNumbers_20 : decode cX6_readNumbers 20 = .ok (.invokevirtual 38, 3) := by decide +kernel
theorem dX6_readNumbers_23 : decode cX6_readNumbers 23 = .ok (.bipush 48, 2) := by decide +kernel
theorem dX6_readNumbers_25 : decode cX6_readNumbers 25 = .ok (.isub, 1) := by decide +kernel
theorem dX6_readNumbers_26 : decode cX6_readNumbers 26 = .ok (.istore_n 3, 1) := by decide +kernel
theorem dX6_readNumbers_27 : decode cX6_readNumbers 27 = .ok (.aload_n 0, 1) := by decide +kernel
theorem dX6_readNumbers_28 : decode cX6_readNumbers 28 = .ok (.invokevirtual 61, 3) := by decide +kernel
theorem dX6_readNumbers_31 : decode cX6_readNumbers 31 = .ok (.invokestatic 64, 3) := by decide +kernel
theorem dX6_readNumbers_34 : decode cX6_readNumbers 34 = .ok (.ifCond .eq 16, 3) := by decide +kernel
theorem dX6_readNumbers_37 : decode cX6_readNumbers 37 = .ok (.bipush 10, 2) := by decide +kernel
theorem dX6_readNumbers_39 : decode cX6_readNumbers 39 = .ok (.iload_n 3, 1) := by decide +kernel
theorem dX6_readNumbers_40 : decode cX6_readNumbers 40 = .ok (.imul, 1) := by decide +kernel
theorem dX6_readNumbers_41 : decode cX6_readNumbers 41 = .ok (.aload_n 0, 1) := by decide +kernel
theorem dX6_readNumbers_42 : decode cX6_readNumbers 42 = .ok (.invokevirtual 38, 3) := by decide +kernel
theorem dX6_readNumbers_45 : decode cX6_readNumbers 45 = .ok (.iadd, 1) := by decide +kernel
theorem dX6_readNumbers_46 : decode cX6_readNumbers 46 = .ok (.bipush 48, 2) := by decide +kernel
theorem dX6_readNumbers_48 : decode cX6_readNumbers 48 = .ok (.isub, 1) := by decide +kernel
theorem dX6_readNumbers_49 : decode cX6_readNumbers 49 = .ok (.istore_n 3, 1) := by decide +kernel
theorem dX6_readNumbers_50 : decode cX6_readNumbers 50 = .ok (.aload_n 0, 1) := by decide +kernel
theorem dX6_readNumbers_51 : decode cX6_readNumbers 51 = .ok (.getfield 15, 3) := by decide +kernel
theorem dX6_readNumbers_54 : decode cX6_readNumbers 54 = .ok (.iload_n 2, 1) := by decide +kernel
theorem dX6_readNumbers_55 : decode cX6_readNumbers 55 = .ok (.iload_n 3, 1) := by decide +kernel
theorem dX6_readNumbers_56 : decode cX6_readNumbers 56 = .ok (.invokestatic 22, 3) := by decide +kernel
theorem dX6_readNumbers_59 : decode cX6_readNumbers 59 = .ok (.aload_n 0, 1) := by decide +kernel
theorem dX6_readNumbers_60 : decode cX6_readNumbers 60 = .ok (.invokevirtual 38, 3) := by decide +kernel
theorem dX6_readNumbers_63 : decode cX6_readNumbers 63 = .ok (.iload_n 2, 1) := by decide +kernel
theorem dX6_readNumbers_64 : decode cX6_readNumbers 64 = .ok (.iconst 1, 1) := by decide +kernel
theorem dX6_readNumbers_65 : decode cX6_readNumbers 65 = .ok (.iadd, 1) := by decide +kernel
theorem dX6_readNumbers_66 : decode cX6_readNumbers 66 = .ok (.iload_n 1, 1) := by decide +kernel
theorem dX6_readNumbers_67 : decode cX6_readNumbers 67 = .ok (.if_icmp .ge 8, 3) := by decide +kernel
theorem dX6_readNumbers_70 : decode cX6_readNumbers 70 = .ok (.bipush 44, 2) := by decide +kernel
theorem dX6_readNumbers_72 : decode cX6_readNumbers 72 = .ok (.goto 5, 3) := by decide +kernel
theorem dX6_readNumbers_75 : decode cX6_readNumbers 75 = .ok (.bipush 59, 2) := by decide +kernel
theorem dX6_readNumbers_77 : decode cX6_readNumbers 77 = .ok (.if_icmp .eq 5, 3) := by decide +kernel
theorem dX6_readNumbers_80 : decode cX6_readNumbers 80 = .ok (.iconst 0, 1) := by decide +kernel
theorem dX6_readNumbers_81 : decode cX6_readNumbers 81 = .ok (.ireturn, 1) := by decide +kernel
theorem dX6_readNumbers_82 : decode cX6_readNumbers 82 = .ok (.iinc 2 1, 3) := by decide +kernel
theorem dX6_readNumbers_85 : decode cX6_readNumbers 85 = .ok (.goto (-83), 3) := by decide +kernel
theorem dX6_readNumbers_88 : decode cX6_readNumbers 88 = .ok (.iconst 1, 1) := by decide +kernel
theorem dX6_readNumbers_89 : decode cX6_readNumbers 89 = .ok (.ireturn, 1) := by decide +kernel
theorem dX6_isFigure_0 : decode cX6_isFigure 0 = .ok (.iload_n 0, 1) := by decide +kernel
theorem dX6_isFigure_1 : decode cX6_isFigure 1 = .ok (.bipush 48, 2) := by decide +kernel
theorem dX6_isFigure_3 : decode cX6_isFigure 3 = .ok (.if_icmp .lt 13, 3) := by decide +kernel
theorem dX6_isFigure_6 : decode cX6_isFigure 6 = .ok (.iload_n 0, 1) := by decide +kernel
theorem dX6_isFigure_7 : decode cX6_isFigure 7 = .ok (.bipush 57, 2) := by decide +kernel
theorem dX6_isFigure_9 : decode cX6_isFigure 9 = .ok (.if_icmp .gt 7, 3) := by decide +kernel
theorem dX6_isFigure_12 : decode cX6_isFigure 12 = .ok (.iconst 1, 1) := by decide +kernel
theorem dX6_isFigure_13 : decode cX6_isFigure 13 = .ok (.goto 4, 3) := by decide +kernel
theorem dX6_isFigure_16 : decode cX6_isFigure 16 = .ok (.iconst 0, 1) := by decide +kernel
theorem dX6_isFigure_17 : decode cX6_isFigure 17 = .ok (.ireturn, 1) := by decide +kernel
theorem dX6_peek_0 : decode cX6_peek 0 = .ok (.aload_n 0, 1) := by decide +kernel
theorem dX6_peek_1 : decode cX6_peek 1 = .ok (.getfield 31, 3) := by decide +kernel
theorem dX6_peek_4 : decode cX6_peek 4 = .ok (.aload_n 0, 1) := by decide +kernel
theorem dX6_peek_5 : decode cX6_peek 5 = .ok (.getfield 18, 3) := by decide +kernel
theorem dX6_peek_8 : decode cX6_peek 8 = .ok (.if_icmp .ge 17, 3) := by decide +kernel
theorem dX6_peek_11 : decode cX6_peek 11 = .ok (.aload_n 0, 1) := by decide +kernel
theorem dX6_peek_12 : decode cX6_peek 12 = .ok (.getfield 9, 3) := by decide +kernel
theorem dX6_peek_15 : decode cX6_peek 15 = .ok (.aload_n 0, 1) := by decide +kernel
theorem dX6_peek_16 : decode cX6_peek 16 = .ok (.getfield 31, 3) := by decide +kernel
theorem dX6_peek_19 : decode cX6_peek 19 = .ok (.invokestatic 46, 3) := by decide +kernel
theorem dX6_peek_22 : decode cX6_peek 22 = .ok (.goto 4, 3) := by decide +kernel
theorem dX6_peek_25 : decode cX6_peek 25 = .ok (.iconst 0, 1) := by decide +kernel
theorem dX6_peek_26 : decode cX6_peek 26 = .ok (.ireturn, 1) := by decide +kernel
theorem dX6_take_0 : decode cX6_take 0 = .ok (.aload_n 0, 1) := by decide +kernel
theorem dX6_take_1 : decode cX6_take 1 = .ok (.invokevirtual 61, 3) := by decide +kernel
theorem dX6_take_4 : decode cX6_take 4 = .ok (.istore_n 1, 1) := by decide +kernel
theorem dX6_take_5 : decode cX6_take 5 = .ok (.aload_n 0, 1) := by decide +kernel
theorem dX6_take_6 : decode cX6_take 6 = .ok (.dup, 1) := by decide +kernel
theorem dX6_take_7 : decode cX6_take 7 = .ok (.getfield 31, 3) := by decide +kernel
theorem dX6_take_10 : decode cX6_take 10 = .ok (.iconst 1, 1) := by decide +kernel
theorem dX6_take_11 : decode cX6_take 11 = .ok (.iadd, 1) := by decide +kernel
theorem dX6_take_12 : decode cX6_take 12 = .ok (.putfield 31, 3) := by decide +kernel
theorem dX6_take_15 : decode cX6_take 15 = .ok (.iload_n 1, 1) := by decide +kernel
theorem dX6_take_16 : decode cX6_take 16 = .ok (.ireturn, 1) := by decide +kernel
theorem dX7_write_0 : decode cX7_write 0 = .ok (.iload_n 1, 1) := by decide +kernel
theorem dX7_write_1 : decode cX7_write 1 = .ok (.bipush 32, 2) := by decide +kernel
theorem dX7_write_3 : decode cX7_write 3 = .ok (.bipush 126, 2) := by decide +kernel
theorem dX7_write_5 : decode cX7_write 5 = .ok (.invokestatic 82, 3) := by decide +kernel
theorem dX7_write_8 : decode cX7_write 8 = .ok (.ifCond .ne 5, 3) := by decide +kernel
theorem dX7_write_11 : decode cX7_write 11 = .ok (.iconst (-1), 1) := by decide +kernel
theorem dX7_write_12 : decode cX7_write 12 = .ok (.ireturn, 1) := by decide +kernel
theorem dX7_write_13 : decode cX7_write 13 = .ok (.aload_n 0, 1) := by decide +kernel
theorem dX7_write_14 : decode cX7_write 14 = .ok (.getfield 10, 3) := by decide +kernel
theorem dX7_write_17 : decode cX7_write 17 = .ok (.iload_n 1, 1) := by decide +kernel
theorem dX7_write_18 : decode cX7_write 18 = .ok (.invokevirtual 71, 3) := by decide +kernel
theorem dX7_write_21 : decode cX7_write 21 = .ok (.ifCond .eq 13, 3) := by decide +kernel
theorem dX7_write_24 : decode cX7_write 24 = .ok (.aload_n 0, 1) := by decide +kernel
theorem dX7_write_25 : decode cX7_write 25 = .ok (.getfield 10, 3) := by decide +kernel
theorem dX7_write_28 : decode cX7_write 28 = .ok (.getfield 86, 3) := by decide +kernel
theorem dX7_write_31 : decode cX7_write 31 = .ok (.goto 5, 3) := by decide +kernel
theorem dX7_write_34 : decode cX7_write 34 = .ok (.bipush (-3), 2) := by decide +kernel
theorem dX7_write_36 : decode cX7_write 36 = .ok (.ireturn, 1) := by decide +kernel
theorem dX7_wipe_0 : decode cX7_wipe 0 = .ok (.aload_n 0, 1) := by decide +kernel
theorem dX7_wipe_1 : decode cX7_wipe 1 = .ok (.getfield 10, 3) := by decide +kernel
theorem dX7_wipe_4 : decode cX7_wipe 4 = .ok (.getfield 86, 3) := by decide +kernel
theorem dX7_wipe_7 : decode cX7_wipe 7 = .ok (.istore_n 1, 1) := by decide +kernel
theorem dX7_wipe_8 : decode cX7_wipe 8 = .ok (.aload_n 0, 1) := by decide +kernel
theorem dX7_wipe_9 : decode cX7_wipe 9 = .ok (.getfield 10, 3) := by decide +kernel
theorem dX7_wipe_12 : decode cX7_wipe 12 = .ok (.invokevirtual 79, 3) := by decide +kernel
theorem dX7_wipe_15 : decode cX7_wipe 15 = .ok (.iload_n 1, 1) := by decide +kernel
theorem dX7_wipe_16 : decode cX7_wipe 16 = .ok (.ireturn, 1) := by decide +kernel
theorem dX7_fault_0 : decode cX7_fault 0 = .ok (.aload_n 0, 1) := by decide +kernel
theorem dX7_fault_1 : decode cX7_fault 1 = .ok (.getfield 10, 3) := by decide +kernel
theorem dX7_fault_4 : decode cX7_fault 4 = .ok (.aload_n 0, 1) := by decide +kernel
theorem dX7_fault_5 : decode cX7_fault 5 = .ok (.getfield 23, 3) := by decide +kernel
theorem dX7_fault_8 : decode cX7_fault 8 = .ok (.invokevirtual 75, 3) := by decide +kernel
theorem dX7_fault_11 : decode cX7_fault 11 = .ok (.ireturn, 1) := by decide +kernel
theorem dX7_lay_0 : decode cX7_lay 0 = .ok (.aload_n 0, 1) := by decide +kernel
theorem dX7_lay_1 : decode cX7_lay 1 = .ok (.getfield 10, 3) := by decide +kernel
theorem dX7_lay_4 : decode cX7_lay 4 = .ok (.aload_n 0, 1) := by decide +kernel
theorem dX7_lay_5 : decode cX7_lay 5 = .ok (.getfield 23, 3) := by decide +kernel
theorem dX7_lay_8 : decode cX7_lay 8 = .ok (.invokevirtual 75, 3) := by decide +kernel
theorem dX7_lay_11 : decode cX7_lay 11 = .ok (.bipush (-4), 2) := by decide +kernel
theorem dX7_lay_13 : decode cX7_lay 13 = .ok (.if_icmp .ne 23, 3) := by decide +kernel
theorem dX7_lay_16 : decode cX7_lay 16 = .ok (.aload_n 0, 1) := by decide +kernel
theorem dX7_lay_17 : decode cX7_lay 17 = .ok (.getfield 23, 3) := by decide +kernel
theorem dX7_lay_20 : decode cX7_lay 20 = .ok (.getfield 89, 3) := by decide +kernel
theorem dX7_lay_23 : decode cX7_lay 23 = .ok (.ifCond .eq 13, 3) := by decide +kernel
theorem dX7_lay_26 : decode cX7_lay 26 = .ok (.aload_n 0, 1) := by decide +kernel
theorem dX7_lay_27 : decode cX7_lay 27 = .ok (.getfield 23, 3) := by decide +kernel
theorem dX7_lay_30 : decode cX7_lay 30 = .ok (.getfield 92, 3) := by decide +kernel
theorem dX7_lay_33 : decode cX7_lay 33 = .ok (.ifCond .ne 6, 3) := by decide +kernel
theorem dX7_lay_36 : decode cX7_lay 36 = .ok (.bipush (-2), 2) := by decide +kernel
theorem dX7_lay_38 : decode cX7_lay 38 = .ok (.ireturn, 1) := by decide +kernel
theorem dX7_lay_39 : decode cX7_lay 39 = .ok (.aload_n 0, 1) := by decide +kernel
theorem dX7_lay_40 : decode cX7_lay 40 = .ok (.getfield 19, 3) := by decide +kernel
theorem dX7_lay_43 : decode cX7_lay 43 = .ok (.aload_n 0, 1) := by decide +kernel
theorem dX7_lay_44 : decode cX7_lay 44 = .ok (.getfield 23, 3) := by decide +kernel
theorem dX7_lay_47 : decode cX7_lay 47 = .ok (.invokevirtual 95, 3) := by decide +kernel
theorem dX7_lay_50 : decode cX7_lay 50 = .ok (.aload_n 0, 1) := by decide +kernel
theorem dX7_lay_51 : decode cX7_lay 51 = .ok (.getfield 43, 3) := by decide +kernel
theorem dX7_lay_54 : decode cX7_lay 54 = .ok (.invokevirtual 99, 3) := by decide +kernel
theorem dX7_lay_57 : decode cX7_lay 57 = .ok (.aload_n 0, 1) := by decide +kernel
theorem dX7_lay_58 : decode cX7_lay 58 = .ok (.getfield 52, 3) := by decide +kernel
theorem dX7_lay_61 : decode cX7_lay 61 = .ok (.invokevirtual 100, 3) := by decide +kernel
theorem dX7_lay_64 : decode cX7_lay 64 = .ok (.aload_n 0, 1) := by decide +kernel
theorem dX7_lay_65 : decode cX7_lay 65 = .ok (.getfield 56, 3) := by decide +kernel
theorem dX7_lay_68 : decode cX7_lay 68 = .ok (.invokevirtual 100, 3) := by decide +kernel
theorem dX7_lay_71 : decode cX7_lay 71 = .ok (.aload_n 0, 1) := by decide +kernel
theorem dX7_lay_72 : decode cX7_lay 72 = .ok (.getfield 19, 3) := by decide +kernel
theorem dX7_lay_75 : decode cX7_lay 75 = .ok (.getfield 89, 3) := by decide +kernel
theorem dX7_lay_78 : decode cX7_lay 78 = .ok (.ireturn, 1) := by decide +kernel
theorem dX7_teller_0 : decode cX7_teller 0 = .ok (.aload_n 0, 1) := by decide +kernel
theorem dX7_teller_1 : decode cX7_teller 1 = .ok (.getfield 19, 3) := by decide +kernel
theorem dX7_teller_4 : decode cX7_teller 4 = .ok (.iload_n 1, 1) := by decide +kernel
theorem dX7_teller_5 : decode cX7_teller 5 = .ok (.invokevirtual 101, 3) := by decide +kernel
theorem dX7_teller_8 : decode cX7_teller 8 = .ok (.ifCond .ne 5, 3) := by decide +kernel
theorem dX7_teller_11 : decode cX7_teller 11 = .ok (.iconst (-1), 1) := by decide +kernel
theorem dX7_teller_12 : decode cX7_teller 12 = .ok (.ireturn, 1) := by decide +kernel
theorem dX7_teller_13 : decode cX7_teller 13 = .ok (.iload_n 2, 1) := by decide +kernel
theorem dX7_teller_14 : decode cX7_teller 14 = .ok (.lookupswitch 50 #[(0, 26), (1, 38)], 26) := by decide +kernel
theorem dX7_teller_40 : decode cX7_teller 40 = .ok (.aload_n 0, 1) := by decide +kernel
theorem dX7_teller_41 : decode cX7_teller 41 = .ok (.getfield 19, 3) := by decide +kernel
theorem dX7_teller_44 : decode cX7_teller 44 = .ok (.getfield 104, 3) := by decide +kernel
theorem dX7_teller_47 : decode cX7_teller 47 = .ok (.iload_n 1, 1) := by decide +kernel
theorem dX7_teller_48 : decode cX7_teller 48 = .ok (.invokestatic 108, 3) := by decide +kernel
theorem dX7_teller_51 : decode cX7_teller 51 = .ok (.ireturn, 1) := by decide +kernel
theorem dX7_teller_52 : decode cX7_teller 52 = .ok (.aload_n 0, 1) := by decide +kernel
theorem dX7_teller_53 : decode cX7_teller 53 = .ok (.getfield 19, 3) := by decide +kernel
theorem dX7_teller_56 : decode cX7_teller 56 = .ok (.getfield 112, 3) := by decide +kernel
theorem dX7_teller_59 : decode cX7_teller 59 = .ok (.iload_n 1, 1) := by decide +kernel
theorem dX7_teller_60 : decode cX7_teller 60 = .ok (.invokestatic 108, 3) := by decide +kernel
theorem dX7_teller_63 : decode cX7_teller 63 = .ok (.ireturn, 1) := by decide +kernel
theorem dX7_teller_64 : decode cX7_teller 64 = .ok (.iconst (-1), 1) := by decide +kernel
theorem dX7_teller_65 : decode cX7_teller 65 = .ok (.ireturn, 1) := by decide +kernel
theorem dX7_fact_0 : decode cX7_fact 0 = .ok (.aload_n 0, 1) := by decide +kernel
theorem dX7_fact_1 : decode cX7_fact 1 = .ok (.getfield 19, 3) := by decide +kernel
theorem dX7_fact_4 : decode cX7_fact 4 = .ok (.iload_n 1, 1) := by decide +kernel
theorem dX7_fact_5 : decode cX7_fact 5 = .ok (.invokevirtual 115, 3) := by decide +kernel
theorem dX7_fact_8 : decode cX7_fact 8 = .ok (.ifCond .eq 17, 3) := by decide +kernel
theorem dX7_fact_11 : decode cX7_fact 11 = .ok (.aload_n 0, 1) := by decide +kernel
theorem dX7_fact_12 : decode cX7_fact 12 = .ok (.getfield 19, 3) := by decide +kernel
theorem dX7_fact_15 : decode cX7_fact 15 = .ok (.getfield 118, 3) := by decide +kernel
theorem dX7_fact_18 : decode cX7_fact 18 = .ok (.iload_n 1, 1) := by decide +kernel
theorem dX7_fact_19 : decode cX7_fact 19 = .ok (.invokestatic 121, 3) := by decide +kernel
theorem dX7_fact_22 : decode cX7_fact 22 = .ok (.goto 4, 3) := by decide +kernel
theorem dX7_fact_25 : decode cX7_fact 25 = .ok (.iconst (-1), 1) := by decide +kernel
theorem dX7_fact_26 : decode cX7_fact 26 = .ok (.ireturn, 1) := by decide +kernel
theorem dX7_claim_0 : decode cX7_claim 0 = .ok (.aload_n 0, 1) := by decide +kernel
