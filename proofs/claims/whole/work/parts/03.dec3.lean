theorem dX8_lays_70 : decode cX8_lays 70 = .ok (.iload_n 3, 1) := by decide +kernel
theorem dX8_lays_71 : decode cX8_lays 71 = .ok (.iadd, 1) := by decide +kernel
theorem dX8_lays_72 : decode cX8_lays 72 = .ok (.aload_n 0, 1) := by decide +kernel
theorem dX8_lays_73 : decode cX8_lays 73 = .ok (.getfield 25, 3) := by decide +kernel
theorem dX8_lays_76 : decode cX8_lays 76 = .ok (.iload_n 3, 1) := by decide +kernel
theorem dX8_lays_77 : decode cX8_lays 77 = .ok (.iaload, 1) := by decide +kernel
theorem dX8_lays_78 : decode cX8_lays 78 = .ok (.iastore, 1) := by decide +kernel
theorem dX8_lays_79 : decode cX8_lays 79 = .ok (.iinc 3 1, 3) := by decide +kernel
theorem dX8_lays_82 : decode cX8_lays 82 = .ok (.goto (-64), 3) := by decide +kernel
theorem dX8_lays_85 : decode cX8_lays 85 = .ok (.iconst 0, 1) := by decide +kernel
theorem dX8_lays_86 : decode cX8_lays 86 = .ok (.istore_n 3, 1) := by decide +kernel
theorem dX8_lays_87 : decode cX8_lays 87 = .ok (.iload_n 3, 1) := by decide +kernel
theorem dX8_lays_88 : decode cX8_lays 88 = .ok (.iconst 5, 1) := by decide +kernel
theorem dX8_lays_89 : decode cX8_lays 89 = .ok (.if_icmp .ge 23, 3) := by decide +kernel
theorem dX8_lays_92 : decode cX8_lays 92 = .ok (.aload_n 1, 1) := by decide +kernel
theorem dX8_lays_93 : decode cX8_lays 93 = .ok (.iload_n 2, 1) := by decide +kernel
theorem dX8_lays_94 : decode cX8_lays 94 = .ok (.bipush 30, 2) := by decide +kernel
theorem dX8_lays_96 : decode cX8_lays 96 = .ok (.iadd, 1) := by decide +kernel
theorem dX8_lays_97 : decode cX8_lays 97 = .ok (.iload_n 3, 1) := by decide +kernel
theorem dX8_lays_98 : decode cX8_lays 98 = .ok (.iadd, 1) := by decide +kernel
theorem dX8_lays_99 : decode cX8_lays 99 = .ok (.aload_n 0, 1) := by decide +kernel
theorem dX8_lays_100 : decode cX8_lays 100 = .ok (.getfield 13, 3) := by decide +kernel
theorem dX8_lays_103 : decode cX8_lays 103 = .ok (.iload_n 3, 1) := by decide +kernel
theorem dX8_lays_104 : decode cX8_lays 104 = .ok (.iaload, 1) := by decide +kernel
theorem dX8_lays_105 : decode cX8_lays 105 = .ok (.iastore, 1) := by decide +kernel
theorem dX8_lays_106 : decode cX8_lays 106 = .ok (.iinc 3 1, 3) := by decide +kernel
theorem dX8_lays_109 : decode cX8_lays 109 = .ok (.goto (-22), 3) := by decide +kernel
theorem dX8_lays_112 : decode cX8_lays 112 = .ok (.return_, 1) := by decide +kernel
theorem dX8_takes_0 : decode cX8_takes 0 = .ok (.aload_n 0, 1) := by decide +kernel
theorem dX8_takes_1 : decode cX8_takes 1 = .ok (.aload_n 1, 1) := by decide +kernel
theorem dX8_takes_2 : decode cX8_takes 2 = .ok (.iload_n 2, 1) := by decide +kernel
theorem dX8_takes_3 : decode cX8_takes 3 = .ok (.iaload, 1) := by decide +kernel
theorem dX8_takes_4 : decode cX8_takes 4 = .ok (.putfield 78, 3) := by decide +kernel
theorem dX8_takes_7 : decode cX8_takes 7 = .ok (.aload_n 0, 1) := by decide +kernel
theorem dX8_takes_8 : decode cX8_takes 8 = .ok (.aload_n 1, 1) := by decide +kernel
theorem dX8_takes_9 : decode cX8_takes 9 = .ok (.iload_n 2, 1) := by decide +kernel
theorem dX8_takes_10 : decode cX8_takes 10 = .ok (.iconst 1, 1) := by decide +kernel
theorem dX8_takes_11 : decode cX8_takes 11 = .ok (.iadd, 1) := by decide +kernel
theorem dX8_takes_12 : decode cX8_takes 12 = .ok (.iaload, 1) := by decide +kernel
theorem dX8_takes_13 : decode cX8_takes 13 = .ok (.putfield 85, 3) := by decide +kernel
theorem dX8_takes_16 : decode cX8_takes 16 = .ok (.iconst 0, 1) := by decide +kernel
theorem dX8_takes_17 : decode cX8_takes 17 = .ok (.istore_n 3, 1) := by decide +kernel
theorem dX8_takes_18 : decode cX8_takes 18 = .ok (.iload_n 3, 1) := by decide +kernel
theorem dX8_takes_19 : decode cX8_takes 19 = .ok (.bipush 7, 2) := by decide +kernel
theorem dX8_takes_21 : decode cX8_takes 21 = .ok (.if_icmp .ge 45, 3) := by decide +kernel
theorem dX8_takes_24 : decode cX8_takes 24 = .ok (.aload_n 0, 1) := by decide +kernel
theorem dX8_takes_25 : decode cX8_takes 25 = .ok (.iload_n 3, 1) := by decide +kernel
theorem dX8_takes_26 : decode cX8_takes 26 = .ok (.aload_n 1, 1) := by decide +kernel
theorem dX8_takes_27 : decode cX8_takes 27 = .ok (.iload_n 2, 1) := by decide +kernel
theorem dX8_takes_28 : decode cX8_takes 28 = .ok (.iconst 2, 1) := by decide +kernel
theorem dX8_takes_29 : decode cX8_takes 29 = .ok (.iadd, 1) := by decide +kernel
theorem dX8_takes_30 : decode cX8_takes 30 = .ok (.iload_n 3, 1) := by decide +kernel
theorem dX8_takes_31 : decode cX8_takes 31 = .ok (.iadd, 1) := by decide +kernel
theorem dX8_takes_32 : decode cX8_takes 32 = .ok (.iaload, 1) := by decide +kernel
theorem dX8_takes_33 : decode cX8_takes 33 = .ok (.aload_n 1, 1) := by decide +kernel
theorem dX8_takes_34 : decode cX8_takes 34 = .ok (.iload_n 2, 1) := by decide +kernel
theorem dX8_takes_35 : decode cX8_takes 35 = .ok (.bipush 9, 2) := by decide +kernel
theorem dX8_takes_37 : decode cX8_takes 37 = .ok (.iadd, 1) := by decide +kernel
theorem dX8_takes_38 : decode cX8_takes 38 = .ok (.iload_n 3, 1) := by decide +kernel
theorem dX8_takes_39 : decode cX8_takes 39 = .ok (.iadd, 1) := by decide +kernel
theorem dX8_takes_40 : decode cX8_takes 40 = .ok (.iaload, 1) := by decide +kernel
theorem dX8_takes_41 : decode cX8_takes 41 = .ok (.aload_n 1, 1) := by decide +kernel
theorem dX8_takes_42 : decode cX8_takes 42 = .ok (.iload_n 2, 1) := by decide +kernel
theorem dX8_takes_43 : decode cX8_takes 43 = .ok (.bipush 16, 2) := by decide +kernel
theorem dX8_takes_45 : decode cX8_takes 45 = .ok (.iadd, 1) := by decide +kernel
theorem dX8_takes_46 : decode cX8_takes 46 = .ok (.iload_n 3, 1) := by decide +kernel
theorem dX8_takes_47 : decode cX8_takes 47 = .ok (.iadd, 1) := by decide +kernel
theorem dX8_takes_48 : decode cX8_takes 48 = .ok (.iaload, 1) := by decide +kernel
theorem dX8_takes_49 : decode cX8_takes 49 = .ok (.aload_n 1, 1) := by decide +kernel
theorem dX8_takes_50 : decode cX8_takes 50 = .ok (.iload_n 2, 1) := by decide +kernel
theorem dX8_takes_51 : decode cX8_takes 51 = .ok (.bipush 23, 2) := by decide +kernel
theorem dX8_takes_53 : decode cX8_takes 53 = .ok (.iadd, 1) := by decide +kernel
theorem dX8_takes_54 : decode cX8_takes 54 = .ok (.iload_n 3, 1) := by decide +kernel
theorem dX8_takes_55 : decode cX8_takes 55 = .ok (.iadd, 1) := by decide +kernel
theorem dX8_takes_56 : decode cX8_takes 56 = .ok (.iaload, 1) := by decide +kernel
theorem dX8_takes_57 : decode cX8_takes 57 = .ok (.invokevirtual 81, 3) := by decide +kernel
theorem dX8_takes_60 : decode cX8_takes 60 = .ok (.iinc 3 1, 3) := by decide +kernel
theorem dX8_takes_63 : decode cX8_takes 63 = .ok (.goto (-45), 3) := by decide +kernel
theorem dX8_takes_66 : decode cX8_takes 66 = .ok (.iconst 0, 1) := by decide +kernel
theorem dX8_takes_67 : decode cX8_takes 67 = .ok (.istore_n 3, 1) := by decide +kernel
theorem dX8_takes_68 : decode cX8_takes 68 = .ok (.iload_n 3, 1) := by decide +kernel
theorem dX8_takes_69 : decode cX8_takes 69 = .ok (.iconst 5, 1) := by decide +kernel
theorem dX8_takes_70 : decode cX8_takes 70 = .ok (.if_icmp .ge 23, 3) := by decide +kernel
theorem dX8_takes_73 : decode cX8_takes 73 = .ok (.aload_n 0, 1) := by decide +kernel
theorem dX8_takes_74 : decode cX8_takes 74 = .ok (.getfield 13, 3) := by decide +kernel
theorem dX8_takes_77 : decode cX8_takes 77 = .ok (.iload_n 3, 1) := by decide +kernel
theorem dX8_takes_78 : decode cX8_takes 78 = .ok (.aload_n 1, 1) := by decide +kernel
theorem dX8_takes_79 : decode cX8_takes 79 = .ok (.iload_n 2, 1) := by decide +kernel
theorem dX8_takes_80 : decode cX8_takes 80 = .ok (.bipush 30, 2) := by decide +kernel
theorem dX8_takes_82 : decode cX8_takes 82 = .ok (.iadd, 1) := by decide +kernel
theorem dX8_takes_83 : decode cX8_takes 83 = .ok (.iload_n 3, 1) := by decide +kernel
theorem dX8_takes_84 : decode cX8_takes 84 = .ok (.iadd, 1) := by decide +kernel
theorem dX8_takes_85 : decode cX8_takes 85 = .ok (.iaload, 1) := by decide +kernel
theorem dX8_takes_86 : decode cX8_takes 86 = .ok (.iastore, 1) := by decide +kernel
theorem dX8_takes_87 : decode cX8_takes 87 = .ok (.iinc 3 1, 3) := by decide +kernel
theorem dX8_takes_90 : decode cX8_takes 90 = .ok (.goto (-22), 3) := by decide +kernel
theorem dX8_takes_93 : decode cX8_takes 93 = .ok (.return_, 1) := by decide +kernel
theorem dX8_notes_0 : decode cX8_notes 0 = .ok (.aload_n 0, 1) := by decide +kernel
theorem dX8_notes_1 : decode cX8_notes 1 = .ok (.getfield 142, 3) := by decide +kernel
theorem dX8_notes_4 : decode cX8_notes 4 = .ok (.bipush 8, 2) := by decide +kernel
theorem dX8_notes_6 : decode cX8_notes 6 = .ok (.if_icmp .ne 43, 3) := by decide +kernel
theorem dX8_notes_9 : decode cX8_notes 9 = .ok (.iconst 0, 1) := by decide +kernel
theorem dX8_notes_10 : decode cX8_notes 10 = .ok (.istore_n 1, 1) := by decide +kernel
theorem dX8_notes_11 : decode cX8_notes 11 = .ok (.iload_n 1, 1) := by decide +kernel
theorem dX8_notes_12 : decode cX8_notes 12 = .ok (.sipush 245, 3) := by decide +kernel
theorem dX8_notes_15 : decode cX8_notes 15 = .ok (.if_icmp .ge 24, 3) := by decide +kernel
theorem dX8_notes_18 : decode cX8_notes 18 = .ok (.aload_n 0, 1) := by decide +kernel
theorem dX8_notes_19 : decode cX8_notes 19 = .ok (.getfield 58, 3) := by decide +kernel
theorem dX8_notes_22 : decode cX8_notes 22 = .ok (.iload_n 1, 1) := by decide +kernel
theorem dX8_notes_23 : decode cX8_notes 23 = .ok (.aload_n 0, 1) := by decide +kernel
theorem dX8_notes_24 : decode cX8_notes 24 = .ok (.getfield 58, 3) := by decide +kernel
theorem dX8_notes_27 : decode cX8_notes 27 = .ok (.iload_n 1, 1) := by decide +kernel
theorem dX8_notes_28 : decode cX8_notes 28 = .ok (.bipush 35, 2) := by decide +kernel
theorem dX8_notes_30 : decode cX8_notes 30 = .ok (.iadd, 1) := by decide +kernel
theorem dX8_notes_31 : decode cX8_notes 31 = .ok (.iaload, 1) := by decide +kernel
theorem dX8_notes_32 : decode cX8_notes 32 = .ok (.iastore, 1) := by decide +kernel
theorem dX8_notes_33 : decode cX8_notes 33 = .ok (.iinc 1 1, 3) := by decide +kernel
theorem dX8_notes_36 : decode cX8_notes 36 = .ok (.goto (-25), 3) := by decide +kernel
theorem dX8_notes_39 : decode cX8_notes 39 = .ok (.aload_n 0, 1) := by decide +kernel
theorem dX8_notes_40 : decode cX8_notes 40 = .ok (.dup, 1) := by decide +kernel
theorem dX8_notes_41 : decode cX8_notes 41 = .ok (.getfield 142, 3) := by decide +kernel
theorem dX8_notes_44 : decode cX8_notes 44 = .ok (.iconst 1, 1) := by decide +kernel
theorem dX8_notes_45 : decode cX8_notes 45 = .ok (.isub, 1) := by decide +kernel
theorem dX8_notes_46 : decode cX8_notes 46 = .ok (.putfield 142, 3) := by decide +kernel
theorem dX8_notes_49 : decode cX8_notes 49 = .ok (.aload_n 0, 1) := by decide +kernel
theorem dX8_notes_50 : decode cX8_notes 50 = .ok (.aload_n 0, 1) := by decide +kernel
theorem dX8_notes_51 : decode cX8_notes 51 = .ok (.getfield 58, 3) := by decide +kernel
theorem dX8_notes_54 : decode cX8_notes 54 = .ok (.bipush 35, 2) := by decide +kernel
theorem dX8_notes_56 : decode cX8_notes 56 = .ok (.aload_n 0, 1) := by decide +kernel
theorem dX8_notes_57 : decode cX8_notes 57 = .ok (.getfield 142, 3) := by decide +kernel
theorem dX8_notes_60 : decode cX8_notes 60 = .ok (.imul, 1) := by decide +kernel
theorem dX8_notes_61 : decode cX8_notes 61 = .ok (.invokevirtual 179, 3) := by decide +kernel
theorem dX8_notes_64 : decode cX8_notes 64 = .ok (.aload_n 0, 1) := by decide +kernel
theorem dX8_notes_65 : decode cX8_notes 65 = .ok (.dup, 1) := by decide +kernel
theorem dX8_notes_66 : decode cX8_notes 66 = .ok (.getfield 142, 3) := by decide +kernel
theorem dX8_notes_69 : decode cX8_notes 69 = .ok (.iconst 1, 1) := by decide +kernel
theorem dX8_notes_70 : decode cX8_notes 70 = .ok (.iadd, 1) := by decide +kernel
theorem dX8_notes_71 : decode cX8_notes 71 = .ok (.putfield 142, 3) := by decide +kernel
theorem dX8_notes_74 : decode cX8_notes 74 = .ok (.return_, 1) := by decide +kernel
theorem dX8_turn_0 : decode cX8_turn 0 = .ok (.aload_n 0, 1) := by decide +kernel
theorem dX8_turn_1 : decode cX8_turn 1 = .ok (.iload_n 1, 1) := by decide +kernel
theorem dX8_turn_2 : decode cX8_turn 2 = .ok (.invokevirtual 173, 3) := by decide +kernel
theorem dX8_turn_5 : decode cX8_turn 5 = .ok (.ifCond .ne 5, 3) := by decide +kernel
theorem dX8_turn_8 : decode cX8_turn 8 = .ok (.iconst (-1), 1) := by decide +kernel
theorem dX8_turn_9 : decode cX8_turn 9 = .ok (.ireturn, 1) := by decide +kernel
theorem dX8_turn_10 : decode cX8_turn 10 = .ok (.aload_n 0, 1) := by decide +kernel
theorem dX8_turn_11 : decode cX8_turn 11 = .ok (.invokevirtual 183, 3) := by decide +kernel
theorem dX8_turn_14 : decode cX8_turn 14 = .ok (.aload_n 0, 1) := by decide +kernel
theorem dX8_turn_15 : decode cX8_turn 15 = .ok (.dup, 1) := by decide +kernel
theorem dX8_turn_16 : decode cX8_turn 16 = .ok (.getfield 78, 3) := by decide +kernel
theorem dX8_turn_19 : decode cX8_turn 19 = .ok (.iconst 1, 1) := by decide +kernel
theorem dX8_turn_20 : decode cX8_turn 20 = .ok (.iload_n 1, 1) := by decide +kernel
theorem dX8_turn_21 : decode cX8_turn 21 = .ok (.ishl, 1) := by decide +kernel
theorem dX8_turn_22 : decode cX8_turn 22 = .ok (.ixor, 1) := by decide +kernel
theorem dX8_turn_23 : decode cX8_turn 23 = .ok (.putfield 78, 3) := by decide +kernel
theorem dX8_turn_26 : decode cX8_turn 26 = .ok (.aload_n 0, 1) := by decide +kernel
theorem dX8_turn_27 : decode cX8_turn 27 = .ok (.getfield 78, 3) := by decide +kernel
theorem dX8_turn_30 : decode cX8_turn 30 = .ok (.iload_n 1, 1) := by decide +kernel
theorem dX8_turn_31 : decode cX8_turn 31 = .ok (.ishr, 1) := by decide +kernel
theorem dX8_turn_32 : decode cX8_turn 32 = .ok (.iconst 1, 1) := by decide +kernel
theorem dX8_turn_33 : decode cX8_turn 33 = .ok (.iand, 1) := by decide +kernel
theorem dX8_turn_34 : decode cX8_turn 34 = .ok (.ireturn, 1) := by decide +kernel
theorem dX8_add_0 : decode cX8_add 0 = .ok (.aload_n 0, 1) := by decide +kernel
theorem dX8_add_1 : decode cX8_add 1 = .ok (.iload_n 1, 1) := by decide +kernel
theorem dX8_add_2 : decode cX8_add 2 = .ok (.invokevirtual 170, 3) := by decide +kernel
theorem dX8_add_5 : decode cX8_add 5 = .ok (.ifCond .eq 31, 3) := by decide +kernel
theorem dX8_add_8 : decode cX8_add 8 = .ok (.aload_n 0, 1) := by decide +kernel
theorem dX8_add_9 : decode cX8_add 9 = .ok (.iload_n 2, 1) := by decide +kernel
theorem dX8_add_10 : decode cX8_add 10 = .ok (.invokevirtual 173, 3) := by decide +kernel
theorem dX8_add_13 : decode cX8_add 13 = .ok (.ifCond .eq 23, 3) := by decide +kernel
theorem dX8_add_16 : decode cX8_add 16 = .ok (.iload_n 3, 1) := by decide +kernel
theorem dX8_add_17 : decode cX8_add 17 = .ok (.iconst 0, 1) := by decide +kernel
theorem dX8_add_18 : decode cX8_add 18 = .ok (.iconst 1, 1) := by decide +kernel
theorem dX8_add_19 : decode cX8_add 19 = .ok (.invokestatic 91, 3) := by decide +kernel
theorem dX8_add_22 : decode cX8_add 22 = .ok (.ifCond .eq 14, 3) := by decide +kernel
theorem dX8_add_25 : decode cX8_add 25 = .ok (.iload 4, 2) := by decide +kernel
theorem dX8_add_27 : decode cX8_add 27 = .ok (.iconst 1, 1) := by decide +kernel
theorem dX8_add_28 : decode cX8_add 28 = .ok (.bipush 20, 2) := by decide +kernel
theorem dX8_add_30 : decode cX8_add 30 = .ok (.invokestatic 91, 3) := by decide +kernel
theorem dX8_add_33 : decode cX8_add 33 = .ok (.ifCond .ne 5, 3) := by decide +kernel
theorem dX8_add_36 : decode cX8_add 36 = .ok (.iconst (-1), 1) := by decide +kernel
theorem dX8_add_37 : decode cX8_add 37 = .ok (.ireturn, 1) := by decide +kernel
theorem dX8_add_38 : decode cX8_add 38 = .ok (.aload_n 0, 1) := by decide +kernel
theorem dX8_add_39 : decode cX8_add 39 = .ok (.getfield 85, 3) := by decide +kernel
theorem dX8_add_42 : decode cX8_add 42 = .ok (.bipush 7, 2) := by decide +kernel
theorem dX8_add_44 : decode cX8_add 44 = .ok (.if_icmp .ne 6, 3) := by decide +kernel
theorem dX8_add_47 : decode cX8_add 47 = .ok (.bipush (-3), 2) := by decide +kernel
theorem dX8_add_49 : decode cX8_add 49 = .ok (.ireturn, 1) := by decide +kernel
theorem dX8_add_50 : decode cX8_add 50 = .ok (.aload_n 0, 1) := by decide +kernel
theorem dX8_add_51 : decode cX8_add 51 = .ok (.invokevirtual 183, 3) := by decide +kernel
theorem dX8_add_54 : decode cX8_add 54 = .ok (.aload_n 0, 1) := by decide +kernel
theorem dX8_add_55 : decode cX8_add 55 = .ok (.aload_n 0, 1) := by decide +kernel
theorem dX8_add_56 : decode cX8_add 56 = .ok (.getfield 85, 3) := by decide +kernel
theorem dX8_add_59 : decode cX8_add 59 = .ok (.iload_n 1, 1) := by decide +kernel
theorem dX8_add_60 : decode cX8_add 60 = .ok (.iload_n 2, 1) := by decide +kernel
theorem dX8_add_61 : decode cX8_add 61 = .ok (.iload_n 3, 1) := by decide +kernel
theorem dX8_add_62 : decode cX8_add 62 = .ok (.iload 4, 2) := by decide +kernel
theorem dX8_add_64 : decode cX8_add 64 = .ok (.invokevirtual 81, 3) := by decide +kernel
theorem dX8_add_67 : decode cX8_add 67 = .ok (.aload_n 0, 1) := by decide +kernel
theorem dX8_add_68 : decode cX8_add 68 = .ok (.dup, 1) := by decide +kernel
theorem dX8_add_69 : decode cX8_add 69 = .ok (.getfield 85, 3) := by decide +kernel
theorem dX8_add_72 : decode cX8_add 72 = .ok (.iconst 1, 1) := by decide +kernel
theorem dX8_add_73 : decode cX8_add 73 = .ok (.iadd, 1) := by decide +kernel
theorem dX8_add_74 : decode cX8_add 74 = .ok (.putfield 85, 3) := by decide +kernel
theorem dX8_add_77 : decode cX8_add 77 = .ok (.aload_n 0, 1) := by decide +kernel
theorem dX8_add_78 : decode cX8_add 78 = .ok (.getfield 85, 3) := by decide +kernel
theorem dX8_add_81 : decode cX8_add 81 = .ok (.iconst 1, 1) := by decide +kernel
theorem dX8_add_82 : decode cX8_add 82 = .ok (.isub, 1) := by decide +kernel
theorem dX8_add_83 : decode cX8_add 83 = .ok (.ireturn, 1) := by decide +kernel
theorem dX8_strike_0 : decode cX8_strike 0 = .ok (.aload_n 0, 1) := by decide +kernel
theorem dX8_strike_1 : decode cX8_strike 1 = .ok (.iload_n 1, 1) := by decide +kernel
theorem dX8_strike_2 : decode cX8_strike 2 = .ok (.invokevirtual 176, 3) := by decide +kernel
theorem dX8_strike_5 : decode cX8_strike 5 = .ok (.ifCond .ne 5, 3) := by decide +kernel
theorem dX8_strike_8 : decode cX8_strike 8 = .ok (.iconst (-1), 1) := by decide +kernel
theorem dX8_strike_9 : decode cX8_strike 9 = .ok (.ireturn, 1) := by decide +kernel
theorem dX8_strike_10 : decode cX8_strike 10 = .ok (.aload_n 0, 1) := by decide +kernel
theorem dX8_strike_11 : decode cX8_strike 11 = .ok (.invokevirtual 183, 3) := by decide +kernel
theorem dX8_strike_14 : decode cX8_strike 14 = .ok (.iload_n 1, 1) := by decide +kernel
theorem dX8_strike_15 : decode cX8_strike 15 = .ok (.iconst 1, 1) := by decide +kernel
theorem dX8_strike_16 : decode cX8_strike 16 = .ok (.iadd, 1) := by decide +kernel
theorem dX8_strike_17 : decode cX8_strike 17 = .ok (.istore_n 2, 1) := by decide +kernel
theorem dX8_strike_18 : decode cX8_strike 18 = .ok (.iload_n 2, 1) := by decide +kernel
theorem dX8_strike_19 : decode cX8_strike 19 = .ok (.aload_n 0, 1) := by decide +kernel
theorem dX8_strike_20 : decode cX8_strike 20 = .ok (.getfield 85, 3) := by decide +kernel
theorem dX8_strike_23 : decode cX8_strike 23 = .ok (.if_icmp .ge 17, 3) := by decide +kernel
theorem dX8_strike_26 : decode cX8_strike 26 = .ok (.aload_n 0, 1) := by decide +kernel
theorem dX8_strike_27 : decode cX8_strike 27 = .ok (.iload_n 2, 1) := by decide +kernel
theorem dX8_strike_28 : decode cX8_strike 28 = .ok (.iload_n 2, 1) := by decide +kernel
theorem dX8_strike_29 : decode cX8_strike 29 = .ok (.iconst 1, 1) := by decide +kernel
theorem dX8_strike_30 : decode cX8_strike 30 = .ok (.isub, 1) := by decide +kernel
theorem dX8_strike_31 : decode cX8_strike 31 = .ok (.invokevirtual 186, 3) := by decide +kernel
theorem dX8_strike_34 : decode cX8_strike 34 = .ok (.iinc 2 1, 3) := by decide +kernel
theorem dX8_strike_37 : decode cX8_strike 37 = .ok (.goto (-19), 3) := by decide +kernel
theorem dX8_strike_40 : decode cX8_strike 40 = .ok (.aload_n 0, 1) := by decide +kernel
theorem dX8_strike_41 : decode cX8_strike 41 = .ok (.dup, 1) := by decide +kernel
theorem dX8_strike_42 : decode cX8_strike 42 = .ok (.getfield 85, 3) := by decide +kernel
theorem dX8_strike_45 : decode cX8_strike 45 = .ok (.iconst 1, 1) := by decide +kernel
theorem dX8_strike_46 : decode cX8_strike 46 = .ok (.isub, 1) := by decide +kernel
theorem dX8_strike_47 : decode cX8_strike 47 = .ok (.putfield 85, 3) := by decide +kernel
theorem dX8_strike_50 : decode cX8_strike 50 = .ok (.aload_n 0, 1) := by decide +kernel
theorem dX8_strike_51 : decode cX8_strike 51 = .ok (.getfield 85, 3) := by decide +kernel
theorem dX8_strike_54 : decode cX8_strike 54 = .ok (.ireturn, 1) := by decide +kernel
theorem dX8_shifts_0 : decode cX8_shifts 0 = .ok (.aload_n 0, 1) := by decide +kernel
theorem dX8_shifts_1 : decode cX8_shifts 1 = .ok (.getfield 16, 3) := by decide +kernel
theorem dX8_shifts_4 : decode cX8_shifts 4 = .ok (.iload_n 1, 1) := by decide +kernel
theorem dX8_shifts_5 : decode cX8_shifts 5 = .ok (.iaload, 1) := by decide +kernel
theorem dX8_shifts_6 : decode cX8_shifts 6 = .ok (.istore_n 3, 1) := by decide +kernel
theorem dX8_shifts_7 : decode cX8_shifts 7 = .ok (.aload_n 0, 1) := by decide +kernel
theorem dX8_shifts_8 : decode cX8_shifts 8 = .ok (.getfield 19, 3) := by decide +kernel
theorem dX8_shifts_11 : decode cX8_shifts 11 = .ok (.iload_n 1, 1) := by decide +kernel
theorem dX8_shifts_12 : decode cX8_shifts 12 = .ok (.iaload, 1) := by decide +kernel
theorem dX8_shifts_13 : decode cX8_shifts 13 = .ok (.istore 4, 2) := by decide +kernel
theorem dX8_shifts_15 : decode cX8_shifts 15 = .ok (.aload_n 0, 1) := by decide +kernel
theorem dX8_shifts_16 : decode cX8_shifts 16 = .ok (.getfield 22, 3) := by decide +kernel
theorem dX8_shifts_19 : decode cX8_shifts 19 = .ok (.iload_n 1, 1) := by decide +kernel
theorem dX8_shifts_20 : decode cX8_shifts 20 = .ok (.iaload, 1) := by decide +kernel
theorem dX8_shifts_21 : decode cX8_shifts 21 = .ok (.istore 5, 2) := by decide +kernel
theorem dX8_shifts_23 : decode cX8_shifts 23 = .ok (.aload_n 0, 1) := by decide +kernel
theorem dX8_shifts_24 : decode cX8_shifts 24 = .ok (.getfield 25, 3) := by decide +kernel
theorem dX8_shifts_27 : decode cX8_shifts 27 = .ok (.iload_n 1, 1) := by decide +kernel
theorem dX8_shifts_28 : decode cX8_shifts 28 = .ok (.iaload, 1) := by decide +kernel
theorem dX8_shifts_29 : decode cX8_shifts 29 = .ok (.istore 6, 2) := by decide +kernel
theorem dX8_shifts_31 : decode cX8_shifts 31 = .ok (.iload_n 1, 1) := by decide +kernel
theorem dX8_shifts_32 : decode cX8_shifts 32 = .ok (.istore 7, 2) := by decide +kernel
theorem dX8_shifts_34 : decode cX8_shifts 34 = .ok (.iload 7, 2) := by decide +kernel
theorem dX8_shifts_36 : decode cX8_shifts 36 = .ok (.iload_n 2, 1) := by decide +kernel
theorem dX8_shifts_37 : decode cX8_shifts 37 = .ok (.if_icmp .ge 19, 3) := by decide +kernel
theorem dX8_shifts_40 : decode cX8_shifts 40 = .ok (.aload_n 0, 1) := by decide +kernel
theorem dX8_shifts_41 : decode cX8_shifts 41 = .ok (.iload 7, 2) := by decide +kernel
theorem dX8_shifts_43 : decode cX8_shifts 43 = .ok (.iconst 1, 1) := by decide +kernel
theorem dX8_shifts_44 : decode cX8_shifts 44 = .ok (.iadd, 1) := by decide +kernel
theorem dX8_shifts_45 : decode cX8_shifts 45 = .ok (.iload 7, 2) := by decide +kernel
theorem dX8_shifts_47 : decode cX8_shifts 47 = .ok (.invokevirtual 186, 3) := by decide +kernel
theorem dX8_shifts_50 : decode cX8_shifts 50 = .ok (.iinc 7 1, 3) := by decide +kernel
theorem dX8_shifts_53 : decode cX8_shifts 53 = .ok (.goto (-19), 3) := by decide +kernel
theorem dX8_shifts_56 : decode cX8_shifts 56 = .ok (.iload_n 1, 1) := by decide +kernel
theorem dX8_shifts_57 : decode cX8_shifts 57 = .ok (.istore 7, 2) := by decide +kernel
theorem dX8_shifts_59 : decode cX8_shifts 59 = .ok (.iload 7, 2) := by decide +kernel
theorem dX8_shifts_61 : decode cX8_shifts 61 = .ok (.iload_n 2, 1) := by decide +kernel
theorem dX8_shifts_62 : decode cX8_shifts 62 = .ok (.if_icmp .le 19, 3) := by decide +kernel
theorem dX8_shifts_65 : decode cX8_shifts 65 = .ok (.aload_n 0, 1) := by decide +kernel
theorem dX8_shifts_66 : decode cX8_shifts 66 = .ok (.iload 7, 2) := by decide +kernel
theorem dX8_shifts_68 : decode cX8_shifts 68 = .ok (.iconst 1, 1) := by decide +kernel
theorem dX8_shifts_69 : decode cX8_shifts 69 = .ok (.isub, 1) := by decide +kernel
theorem dX8_shifts_70 : decode cX8_shifts 70 = .ok (.iload 7, 2) := by decide +kernel
theorem dX8_shifts_72 : decode cX8_shifts 72 = .ok (.invokevirtual 186, 3) := by decide +kernel
theorem dX8_shifts_75 : decode cX8_shifts 75 = .ok (.iinc 7 (-1), 3) := by decide +kernel
theorem dX8_shifts_78 : decode cX8_shifts 78 = .ok (.goto (-19), 3) := by decide +kernel
theorem dX8_shifts_81 : decode cX8_shifts 81 = .ok (.aload_n 0, 1) := by decide +kernel
theorem dX8_shifts_82 : decode cX8_shifts 82 = .ok (.iload_n 2, 1) := by decide +kernel
theorem dX8_shifts_83 : decode cX8_shifts 83 = .ok (.iload_n 3, 1) := by decide +kernel
theorem dX8_shifts_84 : decode cX8_shifts 84 = .ok (.iload 4, 2) := by decide +kernel
theorem dX8_shifts_86 : decode cX8_shifts 86 = .ok (.iload 5, 2) := by decide +kernel
theorem dX8_shifts_88 : decode cX8_shifts 88 = .ok (.iload 6, 2) := by decide +kernel
theorem dX8_shifts_90 : decode cX8_shifts 90 = .ok (.invokevirtual 81, 3) := by decide +kernel
theorem dX8_shifts_93 : decode cX8_shifts 93 = .ok (.return_, 1) := by decide +kernel
theorem dX8_shift_0 : decode cX8_shift 0 = .ok (.aload_n 0, 1) := by decide +kernel
theorem dX8_shift_1 : decode cX8_shift 1 = .ok (.iload_n 1, 1) := by decide +kernel
theorem dX8_shift_2 : decode cX8_shift 2 = .ok (.invokevirtual 176, 3) := by decide +kernel
theorem dX8_shift_5 : decode cX8_shift 5 = .ok (.ifCond .eq 11, 3) := by decide +kernel
theorem dX8_shift_8 : decode cX8_shift 8 = .ok (.aload_n 0, 1) := by decide +kernel
theorem dX8_shift_9 : decode cX8_shift 9 = .ok (.iload_n 2, 1) := by decide +kernel
theorem dX8_shift_10 : decode cX8_shift 10 = .ok (.invokevirtual 176, 3) := by decide +kernel
theorem dX8_shift_13 : decode cX8_shift 13 = .ok (.ifCond .ne 5, 3) := by decide +kernel
theorem dX8_shift_16 : decode cX8_shift 16 = .ok (.iconst (-1), 1) := by decide +kernel
theorem dX8_shift_17 : decode cX8_shift 17 = .ok (.ireturn, 1) := by decide +kernel
theorem dX8_shift_18 : decode cX8_shift 18 = .ok (.iload_n 1, 1) := by decide +kernel
theorem dX8_shift_19 : decode cX8_shift 19 = .ok (.iload_n 2, 1) := by decide +kernel
theorem dX8_shift_20 : decode cX8_shift 20 = .ok (.if_icmp .ne 6, 3) := by decide +kernel
theorem dX8_shift_23 : decode cX8_shift 23 = .ok (.bipush (-2), 2) := by decide +kernel
theorem dX8_shift_25 : decode cX8_shift 25 = .ok (.ireturn, 1) := by decide +kernel
theorem dX8_shift_26 : decode cX8_shift 26 = .ok (.aload_n 0, 1) := by decide +kernel
theorem dX8_shift_27 : decode cX8_shift 27 = .ok (.invokevirtual 183, 3) := by decide +kernel
theorem dX8_shift_30 : decode cX8_shift 30 = .ok (.aload_n 0, 1) := by decide +kernel
theorem dX8_shift_31 : decode cX8_shift 31 = .ok (.iload_n 1, 1) := by decide +kernel
theorem dX8_shift_32 : decode cX8_shift 32 = .ok (.iload_n 2, 1) := by decide +kernel
theorem dX8_shift_33 : decode cX8_shift 33 = .ok (.invokevirtual 189, 3) := by decide +kernel
theorem dX8_shift_36 : decode cX8_shift 36 = .ok (.iload_n 1, 1) := by decide +kernel
theorem dX8_shift_37 : decode cX8_shift 37 = .ok (.iload_n 2, 1) := by decide +kernel
theorem dX8_shift_38 : decode cX8_shift 38 = .ok (.isub, 1) := by decide +kernel
theorem dX8_shift_39 : decode cX8_shift 39 = .ok (.bipush 10, 2) := by decide +kernel
theorem dX8_shift_41 : decode cX8_shift 41 = .ok (.iadd, 1) := by decide +kernel
theorem dX8_shift_42 : decode cX8_shift 42 = .ok (.ireturn, 1) := by decide +kernel
theorem dX8_grip_0 : decode cX8_grip 0 = .ok (.aload_n 0, 1) := by decide +kernel
theorem dX8_grip_1 : decode cX8_grip 1 = .ok (.iload_n 1, 1) := by decide +kernel
theorem dX8_grip_2 : decode cX8_grip 2 = .ok (.invokevirtual 170, 3) := by decide +kernel
theorem dX8_grip_5 : decode cX8_grip 5 = .ok (.ifCond .eq 13, 3) := by decide +kernel
theorem dX8_grip_8 : decode cX8_grip 8 = .ok (.iload_n 2, 1) := by decide +kernel
theorem dX8_grip_9 : decode cX8_grip 9 = .ok (.iconst 1, 1) := by decide +kernel
theorem dX8_grip_10 : decode cX8_grip 10 = .ok (.bipush 40, 2) := by decide +kernel
theorem dX8_grip_12 : decode cX8_grip 12 = .ok (.invokestatic 91, 3) := by decide +kernel
theorem dX8_grip_15 : decode cX8_grip 15 = .ok (.ifCond .ne 5, 3) := by decide +kernel
theorem dX8_grip_18 : decode cX8_grip 18 = .ok (.iconst (-1), 1) := by decide +kernel
theorem dX8_grip_19 : decode cX8_grip 19 = .ok (.ireturn, 1) := by decide +kernel
theorem dX8_grip_20 : decode cX8_grip 20 = .ok (.aload_n 0, 1) := by decide +kernel
theorem dX8_grip_21 : decode cX8_grip 21 = .ok (.getfield 13, 3) := by decide +kernel
theorem dX8_grip_24 : decode cX8_grip 24 = .ok (.iload_n 1, 1) := by decide +kernel
theorem dX8_grip_25 : decode cX8_grip 25 = .ok (.iaload, 1) := by decide +kernel
theorem dX8_grip_26 : decode cX8_grip 26 = .ok (.istore_n 3, 1) := by decide +kernel
theorem dX8_grip_27 : decode cX8_grip 27 = .ok (.iload_n 3, 1) := by decide +kernel
theorem dX8_grip_28 : decode cX8_grip 28 = .ok (.iload_n 2, 1) := by decide +kernel
theorem dX8_grip_29 : decode cX8_grip 29 = .ok (.if_icmp .ne 6, 3) := by decide +kernel
theorem dX8_grip_32 : decode cX8_grip 32 = .ok (.bipush (-2), 2) := by decide +kernel
theorem dX8_grip_34 : decode cX8_grip 34 = .ok (.ireturn, 1) := by decide +kernel
theorem dX8_grip_35 : decode cX8_grip 35 = .ok (.aload_n 0, 1) := by decide +kernel
theorem dX8_grip_36 : decode cX8_grip 36 = .ok (.invokevirtual 183, 3) := by decide +kernel
theorem dX8_grip_39 : decode cX8_grip 39 = .ok (.aload_n 0, 1) := by decide +kernel
theorem dX8_grip_40 : decode cX8_grip 40 = .ok (.getfield 13, 3) := by decide +kernel
theorem dX8_grip_43 : decode cX8_grip 43 = .ok (.iload_n 1, 1) := by decide +kernel
theorem dX8_grip_44 : decode cX8_grip 44 = .ok (.iload_n 2, 1) := by decide +kernel
theorem dX8_grip_45 : decode cX8_grip 45 = .ok (.iastore, 1) := by decide +kernel
theorem dX8_grip_46 : decode cX8_grip 46 = .ok (.iload_n 3, 1) := by decide +kernel
theorem dX8_grip_47 : decode cX8_grip 47 = .ok (.ireturn, 1) := by decide +kernel
theorem dX8_undo_0 : decode cX8_undo 0 = .ok (.aload_n 0, 1) := by decide +kernel
theorem dX8_undo_1 : decode cX8_undo 1 = .ok (.getfield 142, 3) := by decide +kernel
theorem dX8_undo_4 : decode cX8_undo 4 = .ok (.ifCond .ne 6, 3) := by decide +kernel
theorem dX8_undo_7 : decode cX8_undo 7 = .ok (.bipush (-2), 2) := by decide +kernel
theorem dX8_undo_9 : decode cX8_undo 9 = .ok (.ireturn, 1) := by decide +kernel
theorem dX8_undo_10 : decode cX8_undo 10 = .ok (.aload_n 0, 1) := by decide +kernel
theorem dX8_undo_11 : decode cX8_undo 11 = .ok (.dup, 1) := by decide +kernel
theorem dX8_undo_12 : decode cX8_undo 12 = .ok (.getfield 142, 3) := by decide +kernel
theorem dX8_undo_15 : decode cX8_undo 15 = .ok (.iconst 1, 1) := by decide +kernel
theorem dX8_undo_16 : decode cX8_undo 16 = .ok (.isub, 1) := by decide +kernel
theorem dX8_undo_17 : decode cX8_undo 17 = .ok (.putfield 142, 3) := by decide +kernel
theorem dX8_undo_20 : decode cX8_undo 20 = .ok (.aload_n 0, 1) := by decide +kernel
theorem dX8_undo_21 : decode cX8_undo 21 = .ok (.aload_n 0, 1) := by decide +kernel
theorem dX8_undo_22 : decode cX8_undo 22 = .ok (.getfield 58, 3) := by decide +kernel
theorem dX8_undo_25 : decode cX8_undo 25 = .ok (.bipush 35, 2) := by decide +kernel
theorem dX8_undo_27 : decode cX8_undo 27 = .ok (.aload_n 0, 1) := by decide +kernel
theorem dX8_undo_28 : decode cX8_undo 28 = .ok (.getfield 142, 3) := by decide +kernel
theorem dX8_undo_31 : decode cX8_undo 31 = .ok (.imul, 1) := by decide +kernel
theorem dX8_undo_32 : decode cX8_undo 32 = .ok (.invokevirtual 192, 3) := by decide +kernel
theorem dX8_undo_35 : decode cX8_undo 35 = .ok (.aload_n 0, 1) := by decide +kernel
theorem dX8_undo_36 : decode cX8_undo 36 = .ok (.getfield 142, 3) := by decide +kernel
theorem dX8_undo_39 : decode cX8_undo 39 = .ok (.ireturn, 1) := by decide +kernel
theorem dX8_drops_0 : decode cX8_drops 0 = .ok (.aload_n 0, 1) := by decide +kernel
theorem dX8_drops_1 : decode cX8_drops 1 = .ok (.iload_n 1, 1) := by decide +kernel
theorem dX8_drops_2 : decode cX8_drops 2 = .ok (.invokevirtual 170, 3) := by decide +kernel
theorem dX8_drops_5 : decode cX8_drops 5 = .ok (.ifCond .ne 5, 3) := by decide +kernel
theorem dX8_drops_8 : decode cX8_drops 8 = .ok (.iconst (-1), 1) := by decide +kernel
theorem dX8_drops_9 : decode cX8_drops 9 = .ok (.ireturn, 1) := by decide +kernel
theorem dX8_drops_10 : decode cX8_drops 10 = .ok (.aload_n 0, 1) := by decide +kernel
theorem dX8_drops_11 : decode cX8_drops 11 = .ok (.iconst 0, 1) := by decide +kernel
theorem dX8_drops_12 : decode cX8_drops 12 = .ok (.invokevirtual 195, 3) := by decide +kernel
theorem dX8_drops_15 : decode cX8_drops 15 = .ok (.aload_n 0, 1) := by decide +kernel
theorem dX8_drops_16 : decode cX8_drops 16 = .ok (.getfield 52, 3) := by decide +kernel
theorem dX8_drops_19 : decode cX8_drops 19 = .ok (.iload_n 1, 1) := by decide +kernel
theorem dX8_drops_20 : decode cX8_drops 20 = .ok (.iaload, 1) := by decide +kernel
theorem dX8_drops_21 : decode cX8_drops 21 = .ok (.ireturn, 1) := by decide +kernel
theorem dX8_told_0 : decode cX8_told 0 = .ok (.aload_n 0, 1) := by decide +kernel
theorem dX8_told_1 : decode cX8_told 1 = .ok (.iconst 0, 1) := by decide +kernel
theorem dX8_told_2 : decode cX8_told 2 = .ok (.invokevirtual 195, 3) := by decide +kernel
theorem dX8_told_5 : decode cX8_told 5 = .ok (.aload_n 0, 1) := by decide +kernel
theorem dX8_told_6 : decode cX8_told 6 = .ok (.getfield 148, 3) := by decide +kernel
theorem dX8_told_9 : decode cX8_told 9 = .ok (.ireturn, 1) := by decide +kernel
theorem dX8_hot_0 : decode cX8_hot 0 = .ok (.aload_n 0, 1) := by decide +kernel
theorem dX8_hot_1 : decode cX8_hot 1 = .ok (.iload_n 1, 1) := by decide +kernel
theorem dX8_hot_2 : decode cX8_hot 2 = .ok (.invokevirtual 176, 3) := by decide +kernel
theorem dX8_hot_5 : decode cX8_hot 5 = .ok (.ifCond .ne 5, 3) := by decide +kernel
theorem dX8_hot_8 : decode cX8_hot 8 = .ok (.iconst (-1), 1) := by decide +kernel
theorem dX8_hot_9 : decode cX8_hot 9 = .ok (.ireturn, 1) := by decide +kernel
theorem dX8_hot_10 : decode cX8_hot 10 = .ok (.aload_n 0, 1) := by decide +kernel
theorem dX8_hot_11 : decode cX8_hot 11 = .ok (.iconst 0, 1) := by decide +kernel
theorem dX8_hot_12 : decode cX8_hot 12 = .ok (.invokevirtual 195, 3) := by decide +kernel
theorem dX8_hot_15 : decode cX8_hot 15 = .ok (.aload_n 0, 1) := by decide +kernel
theorem dX8_hot_16 : decode cX8_hot 16 = .ok (.getfield 55, 3) := by decide +kernel
theorem dX8_hot_19 : decode cX8_hot 19 = .ok (.iload_n 1, 1) := by decide +kernel
theorem dX8_hot_20 : decode cX8_hot 20 = .ok (.iaload, 1) := by decide +kernel
theorem dX8_hot_21 : decode cX8_hot 21 = .ok (.ireturn, 1) := by decide +kernel
theorem dX8_hottest_0 : decode cX8_hottest 0 = .ok (.aload_n 0, 1) := by decide +kernel
theorem dX8_hottest_1 : decode cX8_hottest 1 = .ok (.iconst 0, 1) := by decide +kernel
theorem dX8_hottest_2 : decode cX8_hottest 2 = .ok (.invokevirtual 195, 3) := by decide +kernel
theorem dX8_hottest_5 : decode cX8_hottest 5 = .ok (.aload_n 0, 1) := by decide +kernel
theorem dX8_hottest_6 : decode cX8_hottest 6 = .ok (.getfield 151, 3) := by decide +kernel
theorem dX8_hottest_9 : decode cX8_hottest 9 = .ok (.ireturn, 1) := by decide +kernel
theorem dX8_nextRow_0 : decode cX8_nextRow 0 = .ok (.aload_n 0, 1) := by decide +kernel
theorem dX8_nextRow_1 : decode cX8_nextRow 1 = .ok (.getfield 85, 3) := by decide +kernel
theorem dX8_nextRow_4 : decode cX8_nextRow 4 = .ok (.iconst 2, 1) := by decide +kernel
theorem dX8_nextRow_5 : decode cX8_nextRow 5 = .ok (.isub, 1) := by decide +kernel
theorem dX8_nextRow_6 : decode cX8_nextRow 6 = .ok (.istore_n 1, 1) := by decide +kernel
theorem dX8_nextRow_7 : decode cX8_nextRow 7 = .ok (.iload_n 1, 1) := by decide +kernel
theorem dX8_nextRow_8 : decode cX8_nextRow 8 = .ok (.ifCond .lt 26, 3) := by decide +kernel
theorem dX8_nextRow_11 : decode cX8_nextRow 11 = .ok (.aload_n 0, 1) := by decide +kernel
theorem dX8_nextRow_12 : decode cX8_nextRow 12 = .ok (.getfield 49, 3) := by decide +kernel
theorem dX8_nextRow_15 : decode cX8_nextRow 15 = .ok (.iload_n 1, 1) := by decide +kernel
theorem dX8_nextRow_16 : decode cX8_nextRow 16 = .ok (.iaload, 1) := by decide +kernel
theorem dX8_nextRow_17 : decode cX8_nextRow 17 = .ok (.aload_n 0, 1) := by decide +kernel
theorem dX8_nextRow_18 : decode cX8_nextRow 18 = .ok (.getfield 49, 3) := by decide +kernel
theorem dX8_nextRow_21 : decode cX8_nextRow 21 = .ok (.iload_n 1, 1) := by decide +kernel
theorem dX8_nextRow_22 : decode cX8_nextRow 22 = .ok (.iconst 1, 1) := by decide +kernel
theorem dX8_nextRow_23 : decode cX8_nextRow 23 = .ok (.iadd, 1) := by decide +kernel
theorem dX8_nextRow_24 : decode cX8_nextRow 24 = .ok (.iaload, 1) := by decide +kernel
theorem dX8_nextRow_25 : decode cX8_nextRow 25 = .ok (.if_icmp .le 9, 3) := by decide +kernel
theorem dX8_nextRow_28 : decode cX8_nextRow 28 = .ok (.iinc 1 (-1), 3) := by decide +kernel
theorem dX8_nextRow_31 : decode cX8_nextRow 31 = .ok (.goto (-24), 3) := by decide +kernel
theorem dX8_nextRow_34 : decode cX8_nextRow 34 = .ok (.iload_n 1, 1) := by decide +kernel
theorem dX8_nextRow_35 : decode cX8_nextRow 35 = .ok (.ifCond .ge 5, 3) := by decide +kernel
theorem dX8_nextRow_38 : decode cX8_nextRow 38 = .ok (.iconst 0, 1) := by decide +kernel
theorem dX8_nextRow_39 : decode cX8_nextRow 39 = .ok (.ireturn, 1) := by decide +kernel
theorem dX8_nextRow_40 : decode cX8_nextRow 40 = .ok (.aload_n 0, 1) := by decide +kernel
theorem dX8_nextRow_41 : decode cX8_nextRow 41 = .ok (.getfield 85, 3) := by decide +kernel
theorem dX8_nextRow_44 : decode cX8_nextRow 44 = .ok (.iconst 1, 1) := by decide +kernel
theorem dX8_nextRow_45 : decode cX8_nextRow 45 = .ok (.isub, 1) := by decide +kernel
theorem dX8_nextRow_46 : decode cX8_nextRow 46 = .ok (.istore_n 2, 1) := by decide +kernel
theorem dX8_nextRow_47 : decode cX8_nextRow 47 = .ok (.aload_n 0, 1) := by decide +kernel
theorem dX8_nextRow_48 : decode cX8_nextRow 48 = .ok (.getfield 49, 3) := by decide +kernel
theorem dX8_nextRow_51 : decode cX8_nextRow 51 = .ok (.iload_n 2, 1) := by decide +kernel
theorem dX8_nextRow_52 : decode cX8_nextRow 52 = .ok (.iaload, 1) := by decide +kernel
theorem dX8_nextRow_53 : decode cX8_nextRow 53 = .ok (.aload_n 0, 1) := by decide +kernel
theorem dX8_nextRow_54 : decode cX8_nextRow 54 = .ok (.getfield 49, 3) := by decide +kernel
theorem dX8_nextRow_57 : decode cX8_nextRow 57 = .ok (.iload_n 1, 1) := by decide +kernel
theorem dX8_nextRow_58 : decode cX8_nextRow 58 = .ok (.iaload, 1) := by decide +kernel
theorem dX8_nextRow_59 : decode cX8_nextRow 59 = .ok (.if_icmp .ge 9, 3) := by decide +kernel
theorem dX8_nextRow_62 : decode cX8_nextRow 62 = .ok (.iinc 2 (-1), 3) := by decide +kernel
theorem dX8_nextRow_65 : decode cX8_nextRow 65 = .ok (.goto (-18), 3) := by decide +kernel
theorem dX8_nextRow_68 : decode cX8_nextRow 68 = .ok (.aload_n 0, 1) := by decide +kernel
theorem dX8_nextRow_69 : decode cX8_nextRow 69 = .ok (.getfield 49, 3) := by decide +kernel
theorem dX8_nextRow_72 : decode cX8_nextRow 72 = .ok (.iload_n 1, 1) := by decide +kernel
theorem dX8_nextRow_73 : decode cX8_nextRow 73 = .ok (.iaload, 1) := by decide +kernel
theorem dX8_nextRow_74 : decode cX8_nextRow 74 = .ok (.istore_n 3, 1) := by decide +kernel
theorem dX8_nextRow_75 : decode cX8_nextRow 75 = .ok (.aload_n 0, 1) := by decide +kernel
theorem dX8_nextRow_76 : decode cX8_nextRow 76 = .ok (.getfield 49, 3) := by decide +kernel
theorem dX8_nextRow_79 : decode cX8_nextRow 79 = .ok (.iload_n 1, 1) := by decide +kernel
theorem dX8_nextRow_80 : decode cX8_nextRow 80 = .ok (.aload_n 0, 1) := by decide +kernel
theorem dX8_nextRow_81 : decode cX8_nextRow 81 = .ok (.getfield 49, 3) := by decide +kernel
theorem dX8_nextRow_84 : decode cX8_nextRow 84 = .ok (.iload_n 2, 1) := by decide +kernel
theorem dX8_nextRow_85 : decode cX8_nextRow 85 = .ok (.iaload, 1) := by decide +kernel
theorem dX8_nextRow_86 : decode cX8_nextRow 86 = .ok (.iastore, 1) := by decide +kernel
theorem dX8_nextRow_87 : decode cX8_nextRow 87 = .ok (.aload_n 0, 1) := by decide +kernel
theorem dX8_nextRow_88 : decode cX8_nextRow 88 = .ok (.getfield 49, 3) := by decide +kernel
theorem dX8_nextRow_91 : decode cX8_nextRow 91 = .ok (.iload_n 2, 1) := by decide +kernel
theorem dX8_nextRow_92 : decode cX8_nextRow 92 = .ok (.iload_n 3, 1) := by decide +kernel
theorem dX8_nextRow_93 : decode cX8_nextRow 93 = .ok (.iastore, 1) := by decide +kernel
theorem dX8_nextRow_94 : decode cX8_nextRow 94 = .ok (.aload_n 0, 1) := by decide +kernel
theorem dX8_nextRow_95 : decode cX8_nextRow 95 = .ok (.getfield 85, 3) := by decide +kernel
theorem dX8_nextRow_98 : decode cX8_nextRow 98 = .ok (.iconst 1, 1) := by decide +kernel
theorem dX8_nextRow_99 : decode cX8_nextRow 99 = .ok (.isub, 1) := by decide +kernel
theorem dX8_nextRow_100 : decode cX8_nextRow 100 = .ok (.istore 4, 2) := by decide +kernel
theorem dX8_nextRow_102 : decode cX8_nextRow 102 = .ok (.iload_n 1, 1) := by decide +kernel
theorem dX8_nextRow_103 : decode cX8_nextRow 103 = .ok (.iconst 1, 1) := by decide +kernel
theorem dX8_nextRow_104 : decode cX8_nextRow 104 = .ok (.iadd, 1) := by decide +kernel
theorem dX8_nextRow_105 : decode cX8_nextRow 105 = .ok (.istore 5, 2) := by decide +kernel
theorem dX8_nextRow_107 : decode cX8_nextRow 107 = .ok (.iload 5, 2) := by decide +kernel
theorem dX8_nextRow_109 : decode cX8_nextRow 109 = .ok (.iload 4, 2) := by decide +kernel
theorem dX8_nextRow_111 : decode cX8_nextRow 111 = .ok (.if_icmp .ge 44, 3) := by decide +kernel
theorem dX8_nextRow_114 : decode cX8_nextRow 114 = .ok (.aload_n 0, 1) := by decide +kernel
theorem dX8_nextRow_115 : decode cX8_nextRow 115 = .ok (.getfield 49, 3) := by decide +kernel
theorem dX8_nextRow_118 : decode cX8_nextRow 118 = .ok (.iload 5, 2) := by decide +kernel
theorem dX8_nextRow_120 : decode cX8_nextRow 120 = .ok (.iaload, 1) := by decide +kernel
theorem dX8_nextRow_121 : decode cX8_nextRow 121 = .ok (.istore 6, 2) := by decide +kernel
theorem dX8_nextRow_123 : decode cX8_nextRow 123 = .ok (.aload_n 0, 1) := by decide +kernel
theorem dX8_nextRow_124 : decode cX8_nextRow 124 = .ok (.getfield 49, 3) := by decide +kernel
theorem dX8_nextRow_127 : decode cX8_nextRow 127 = .ok (.iload 5, 2) := by decide +kernel
theorem dX8_nextRow_129 : decode cX8_nextRow 129 = .ok (.aload_n 0, 1) := by decide +kernel
theorem dX8_nextRow_130 : decode cX8_nextRow 130 = .ok (.getfield 49, 3) := by decide +kernel
theorem dX8_nextRow_133 : decode cX8_nextRow 133 = .ok (.iload 4, 2) := by decide +kernel
theorem dX8_nextRow_135 : decode cX8_nextRow 135 = .ok (.iaload, 1) := by decide +kernel
theorem dX8_nextRow_136 : decode cX8_nextRow 136 = .ok (.iastore, 1) := by decide +kernel
theorem dX8_nextRow_137 : decode cX8_nextRow 137 = .ok (.aload_n 0, 1) := by decide +kernel
theorem dX8_nextRow_138 : decode cX8_nextRow 138 = .ok (.getfield 49, 3) := by decide +kernel
theorem dX8_nextRow_141 : decode cX8_nextRow 141 = .ok (.iload 4, 2) := by decide +kernel
theorem dX8_nextRow_143 : decode cX8_nextRow 143 = .ok (.iload 6, 2) := by decide +kernel
theorem dX8_nextRow_145 : decode cX8_nextRow 145 = .ok (.iastore, 1) := by decide +kernel
theorem dX8_nextRow_146 : decode cX8_nextRow 146 = .ok (.iinc 4 (-1), 3) := by decide +kernel
theorem dX8_nextRow_149 : decode cX8_nextRow 149 = .ok (.iinc 5 1, 3) := by decide +kernel
theorem dX8_nextRow_152 : decode cX8_nextRow 152 = .ok (.goto (-45), 3) := by decide +kernel
theorem dX8_nextRow_155 : decode cX8_nextRow 155 = .ok (.iconst 1, 1) := by decide +kernel
theorem dX8_nextRow_156 : decode cX8_nextRow 156 = .ok (.ireturn, 1) := by decide +kernel
theorem dX8_order_0 : decode cX8_order 0 = .ok (.iload_n 1, 1) := by decide +kernel
theorem dX8_order_1 : decode cX8_order 1 = .ok (.iconst (-1), 1) := by decide +kernel
theorem dX8_order_2 : decode cX8_order 2 = .ok (.aload_n 0, 1) := by decide +kernel
theorem dX8_order_3 : decode cX8_order 3 = .ok (.getfield 85, 3) := by decide +kernel
theorem dX8_order_6 : decode cX8_order 6 = .ok (.iconst 1, 1) := by decide +kernel
theorem dX8_order_7 : decode cX8_order 7 = .ok (.isub, 1) := by decide +kernel
theorem dX8_order_8 : decode cX8_order 8 = .ok (.invokestatic 91, 3) := by decide +kernel
theorem dX8_order_11 : decode cX8_order 11 = .ok (.ifCond .ne 5, 3) := by decide +kernel
theorem dX8_order_14 : decode cX8_order 14 = .ok (.iconst (-1), 1) := by decide +kernel
theorem dX8_order_15 : decode cX8_order 15 = .ok (.ireturn, 1) := by decide +kernel
theorem dX8_order_16 : decode cX8_order 16 = .ok (.iconst 0, 1) := by decide +kernel
theorem dX8_order_17 : decode cX8_order 17 = .ok (.istore_n 2, 1) := by decide +kernel
theorem dX8_order_18 : decode cX8_order 18 = .ok (.iload_n 2, 1) := by decide +kernel
theorem dX8_order_19 : decode cX8_order 19 = .ok (.aload_n 0, 1) := by decide +kernel
theorem dX8_order_20 : decode cX8_order 20 = .ok (.getfield 85, 3) := by decide +kernel
theorem dX8_order_23 : decode cX8_order 23 = .ok (.if_icmp .ge 16, 3) := by decide +kernel
theorem dX8_order_26 : decode cX8_order 26 = .ok (.aload_n 0, 1) := by decide +kernel
theorem dX8_order_27 : decode cX8_order 27 = .ok (.getfield 49, 3) := by decide +kernel
theorem dX8_order_30 : decode cX8_order 30 = .ok (.iload_n 2, 1) := by decide +kernel
theorem dX8_order_31 : decode cX8_order 31 = .ok (.iload_n 2, 1) := by decide +kernel
theorem dX8_order_32 : decode cX8_order 32 = .ok (.iastore, 1) := by decide +kernel
theorem dX8_order_33 : decode cX8_order 33 = .ok (.iinc 2 1, 3) := by decide +kernel
theorem dX8_order_36 : decode cX8_order 36 = .ok (.goto (-18), 3) := by decide +kernel
theorem dX8_order_39 : decode cX8_order 39 = .ok (.iconst (-1), 1) := by decide +kernel
theorem dX8_order_40 : decode cX8_order 40 = .ok (.istore_n 2, 1) := by decide +kernel
theorem dX8_order_41 : decode cX8_order 41 = .ok (.iconst 1, 1) := by decide +kernel
theorem dX8_order_42 : decode cX8_order 42 = .ok (.istore_n 3, 1) := by decide +kernel
theorem dX8_order_43 : decode cX8_order 43 = .ok (.iload_n 3, 1) := by decide +kernel
theorem dX8_order_44 : decode cX8_order 44 = .ok (.ifCond .eq 70, 3) := by decide +kernel
theorem dX8_order_47 : decode cX8_order 47 = .ok (.aload_n 0, 1) := by decide +kernel
theorem dX8_order_48 : decode cX8_order 48 = .ok (.aload_n 0, 1) := by decide +kernel
theorem dX8_order_49 : decode cX8_order 49 = .ok (.getfield 85, 3) := by decide +kernel
theorem dX8_order_52 : decode cX8_order 52 = .ok (.invokevirtual 166, 3) := by decide +kernel
theorem dX8_order_55 : decode cX8_order 55 = .ok (.aload_n 0, 1) := by decide +kernel
theorem dX8_order_56 : decode cX8_order 56 = .ok (.getfield 148, 3) := by decide +kernel
theorem dX8_order_59 : decode cX8_order 59 = .ok (.invokestatic 198, 3) := by decide +kernel
theorem dX8_order_62 : decode cX8_order 62 = .ok (.iload_n 2, 1) := by decide +kernel
theorem dX8_order_63 : decode cX8_order 63 = .ok (.if_icmp .le 43, 3) := by decide +kernel
theorem dX8_order_66 : decode cX8_order 66 = .ok (.aload_n 0, 1) := by decide +kernel
theorem dX8_order_67 : decode cX8_order 67 = .ok (.getfield 148, 3) := by decide +kernel
theorem dX8_order_70 : decode cX8_order 70 = .ok (.invokestatic 198, 3) := by decide +kernel
theorem dX8_order_73 : decode cX8_order 73 = .ok (.istore_n 2, 1) := by decide +kernel
theorem dX8_order_74 : decode cX8_order 74 = .ok (.iconst 0, 1) := by decide +kernel
theorem dX8_order_75 : decode cX8_order 75 = .ok (.istore 4, 2) := by decide +kernel
theorem dX8_order_77 : decode cX8_order 77 = .ok (.iload 4, 2) := by decide +kernel
theorem dX8_order_79 : decode cX8_order 79 = .ok (.aload_n 0, 1) := by decide +kernel
theorem dX8_order_80 : decode cX8_order 80 = .ok (.getfield 85, 3) := by decide +kernel
theorem dX8_order_83 : decode cX8_order 83 = .ok (.if_icmp .ge 23, 3) := by decide +kernel
theorem dX8_order_86 : decode cX8_order 86 = .ok (.aload_n 0, 1) := by decide +kernel
theorem dX8_order_87 : decode cX8_order 87 = .ok (.getfield 61, 3) := by decide +kernel
theorem dX8_order_90 : decode cX8_order 90 = .ok (.iload 4, 2) := by decide +kernel
theorem dX8_order_92 : decode cX8_order 92 = .ok (.aload_n 0, 1) := by decide +kernel
theorem dX8_order_93 : decode cX8_order 93 = .ok (.getfield 49, 3) := by decide +kernel
theorem dX8_order_96 : decode cX8_order 96 = .ok (.iload 4, 2) := by decide +kernel
theorem dX8_order_98 : decode cX8_order 98 = .ok (.iaload, 1) := by decide +kernel
theorem dX8_order_99 : decode cX8_order 99 = .ok (.iastore, 1) := by decide +kernel
theorem dX8_order_100 : decode cX8_order 100 = .ok (.iinc 4 1, 3) := by decide +kernel
theorem dX8_order_103 : decode cX8_order 103 = .ok (.goto (-26), 3) := by decide +kernel
theorem dX8_order_106 : decode cX8_order 106 = .ok (.aload_n 0, 1) := by decide +kernel
theorem dX8_order_107 : decode cX8_order 107 = .ok (.invokevirtual 202, 3) := by decide +kernel
theorem dX8_order_110 : decode cX8_order 110 = .ok (.istore_n 3, 1) := by decide +kernel
theorem dX8_order_111 : decode cX8_order 111 = .ok (.goto (-68), 3) := by decide +kernel
theorem dX8_order_114 : decode cX8_order 114 = .ok (.iload_n 1, 1) := by decide +kernel
theorem dX8_order_115 : decode cX8_order 115 = .ok (.ifCond .ge 7, 3) := by decide +kernel
theorem dX8_order_118 : decode cX8_order 118 = .ok (.iload_n 2, 1) := by decide +kernel
theorem dX8_order_119 : decode cX8_order 119 = .ok (.goto 9, 3) := by decide +kernel
theorem dX8_order_122 : decode cX8_order 122 = .ok (.aload_n 0, 1) := by decide +kernel
theorem dX8_order_123 : decode cX8_order 123 = .ok (.getfield 61, 3) := by decide +kernel
theorem dX8_order_126 : decode cX8_order 126 = .ok (.iload_n 1, 1) := by decide +kernel
theorem dX8_order_127 : decode cX8_order 127 = .ok (.iaload, 1) := by decide +kernel
theorem dX8_order_128 : decode cX8_order 128 = .ok (.ireturn, 1) := by decide +kernel
theorem dX8_leave_0 : decode cX8_leave 0 = .ok (.aload_n 0, 1) := by decide +kernel
theorem dX8_leave_1 : decode cX8_leave 1 = .ok (.iload_n 1, 1) := by decide +kernel
theorem dX8_leave_2 : decode cX8_leave 2 = .ok (.invokevirtual 170, 3) := by decide +kernel
theorem dX8_leave_5 : decode cX8_leave 5 = .ok (.ifCond .eq 12, 3) := by decide +kernel
theorem dX8_leave_8 : decode cX8_leave 8 = .ok (.iload_n 2, 1) := by decide +kernel
theorem dX8_leave_9 : decode cX8_leave 9 = .ok (.iconst 0, 1) := by decide +kernel
theorem dX8_leave_10 : decode cX8_leave 10 = .ok (.iconst 1, 1) := by decide +kernel
theorem dX8_leave_11 : decode cX8_leave 11 = .ok (.invokestatic 91, 3) := by decide +kernel
theorem dX8_leave_14 : decode cX8_leave 14 = .ok (.ifCond .ne 5, 3) := by decide +kernel
theorem dX8_leave_17 : decode cX8_leave 17 = .ok (.iconst (-1), 1) := by decide +kernel
theorem dX8_leave_18 : decode cX8_leave 18 = .ok (.ireturn, 1) := by decide +kernel
theorem dX8_leave_19 : decode cX8_leave 19 = .ok (.bipush (-4), 2) := by decide +kernel
theorem dX8_leave_21 : decode cX8_leave 21 = .ok (.istore_n 3, 1) := by decide +kernel
theorem dX8_leave_22 : decode cX8_leave 22 = .ok (.ldc 205, 2) := by decide +kernel
theorem dX8_leave_24 : decode cX8_leave 24 = .ok (.istore 4, 2) := by decide +kernel
theorem dX8_leave_26 : decode cX8_leave 26 = .ok (.iconst 0, 1) := by decide +kernel
theorem dX8_leave_27 : decode cX8_leave 27 = .ok (.istore 5, 2) := by decide +kernel
theorem dX8_leave_29 : decode cX8_leave 29 = .ok (.iload 5, 2) := by decide +kernel
theorem dX8_leave_31 : decode cX8_leave 31 = .ok (.iconst 1, 1) := by decide +kernel
theorem dX8_leave_32 : decode cX8_leave 32 = .ok (.aload_n 0, 1) := by decide +kernel
theorem dX8_leave_33 : decode cX8_leave 33 = .ok (.getfield 85, 3) := by decide +kernel
theorem dX8_leave_36 : decode cX8_leave 36 = .ok (.ishl, 1) := by decide +kernel
theorem dX8_leave_37 : decode cX8_leave 37 = .ok (.if_icmp .ge 46, 3) := by decide +kernel
theorem dX8_leave_40 : decode cX8_leave 40 = .ok (.iload 5, 2) := by decide +kernel
theorem dX8_leave_42 : decode cX8_leave 42 = .ok (.invokestatic 198, 3) := by decide +kernel
theorem dX8_leave_45 : decode cX8_leave 45 = .ok (.iload 4, 2) := by decide +kernel
theorem dX8_leave_47 : decode cX8_leave 47 = .ok (.if_icmp .ge 30, 3) := by decide +kernel
theorem dX8_leave_50 : decode cX8_leave 50 = .ok (.aload_n 0, 1) := by decide +kernel
theorem dX8_leave_51 : decode cX8_leave 51 = .ok (.iload 5, 2) := by decide +kernel
theorem dX8_leave_53 : decode cX8_leave 53 = .ok (.invokevirtual 195, 3) := by decide +kernel
theorem dX8_leave_56 : decode cX8_leave 56 = .ok (.aload_n 0, 1) := by decide +kernel
theorem dX8_leave_57 : decode cX8_leave 57 = .ok (.getfield 52, 3) := by decide +kernel
theorem dX8_leave_60 : decode cX8_leave 60 = .ok (.iload_n 1, 1) := by decide +kernel
theorem dX8_leave_61 : decode cX8_leave 61 = .ok (.iaload, 1) := by decide +kernel
theorem dX8_leave_62 : decode cX8_leave 62 = .ok (.bipush (-4), 2) := by decide +kernel
theorem dX8_leave_64 : decode cX8_leave 64 = .ok (.if_icmp .ne 13, 3) := by decide +kernel
theorem dX8_leave_67 : decode cX8_leave 67 = .ok (.iload 5, 2) := by decide +kernel
theorem dX8_leave_69 : decode cX8_leave 69 = .ok (.istore_n 3, 1) := by decide +kernel
theorem dX8_leave_70 : decode cX8_leave 70 = .ok (.iload 5, 2) := by decide +kernel
theorem dX8_leave_72 : decode cX8_leave 72 = .ok (.invokestatic 198, 3) := by decide +kernel
theorem dX8_leave_75 : decode cX8_leave 75 = .ok (.istore 4, 2) := by decide +kernel
theorem dX8_leave_77 : decode cX8_leave 77 = .ok (.iinc 5 1, 3) := by decide +kernel
theorem dX8_leave_80 : decode cX8_leave 80 = .ok (.goto (-51), 3) := by decide +kernel
theorem dX8_leave_83 : decode cX8_leave 83 = .ok (.iload_n 2, 1) := by decide +kernel
theorem dX8_leave_84 : decode cX8_leave 84 = .ok (.ifCond .ne 8, 3) := by decide +kernel
theorem dX8_leave_87 : decode cX8_leave 87 = .ok (.iload 4, 2) := by decide +kernel
theorem dX8_leave_89 : decode cX8_leave 89 = .ok (.goto 4, 3) := by decide +kernel
theorem dX8_leave_92 : decode cX8_leave 92 = .ok (.iload_n 3, 1) := by decide +kernel
theorem dX8_leave_93 : decode cX8_leave 93 = .ok (.ireturn, 1) := by decide +kernel
theorem dX8_goneBy_0 : decode cX8_goneBy 0 = .ok (.iconst 0, 1) := by decide +kernel
theorem dX8_goneBy_1 : decode cX8_goneBy 1 = .ok (.istore_n 3, 1) := by decide +kernel
theorem dX8_goneBy_2 : decode cX8_goneBy 2 = .ok (.iconst 0, 1) := by decide +kernel
theorem dX8_goneBy_3 : decode cX8_goneBy 3 = .ok (.istore 4, 2) := by decide +kernel
theorem dX8_goneBy_5 : decode cX8_goneBy 5 = .ok (.iload 4, 2) := by decide +kernel
theorem dX8_goneBy_7 : decode cX8_goneBy 7 = .ok (.aload_n 0, 1) := by decide +kernel
theorem dX8_goneBy_8 : decode cX8_goneBy 8 = .ok (.getfield 85, 3) := by decide +kernel
theorem dX8_goneBy_11 : decode cX8_goneBy 11 = .ok (.if_icmp .ge 35, 3) := by decide +kernel
theorem dX8_goneBy_14 : decode cX8_goneBy 14 = .ok (.aload_n 0, 1) := by decide +kernel
theorem dX8_goneBy_15 : decode cX8_goneBy 15 = .ok (.getfield 16, 3) := by decide +kernel
theorem dX8_goneBy_18 : decode cX8_goneBy 18 = .ok (.iload 4, 2) := by decide +kernel
theorem dX8_goneBy_20 : decode cX8_goneBy 20 = .ok (.iaload, 1) := by decide +kernel
theorem dX8_goneBy_21 : decode cX8_goneBy 21 = .ok (.iload_n 1, 1) := by decide +kernel
theorem dX8_goneBy_22 : decode cX8_goneBy 22 = .ok (.if_icmp .ne 18, 3) := by decide +kernel
theorem dX8_goneBy_25 : decode cX8_goneBy 25 = .ok (.iload_n 3, 1) := by decide +kernel
theorem dX8_goneBy_26 : decode cX8_goneBy 26 = .ok (.iconst 1, 1) := by decide +kernel
theorem dX8_goneBy_27 : decode cX8_goneBy 27 = .ok (.iload 4, 2) := by decide +kernel
theorem dX8_goneBy_29 : decode cX8_goneBy 29 = .ok (.ishl, 1) := by decide +kernel
theorem dX8_goneBy_30 : decode cX8_goneBy 30 = .ok (.ior, 1) := by decide +kernel
theorem dX8_goneBy_31 : decode cX8_goneBy 31 = .ok (.istore_n 3, 1) := by decide +kernel
theorem dX8_goneBy_32 : decode cX8_goneBy 32 = .ok (.aload_n 0, 1) := by decide +kernel
theorem dX8_goneBy_33 : decode cX8_goneBy 33 = .ok (.getfield 16, 3) := by decide +kernel
theorem dX8_goneBy_36 : decode cX8_goneBy 36 = .ok (.iload 4, 2) := by decide +kernel
theorem dX8_goneBy_38 : decode cX8_goneBy 38 = .ok (.iload_n 2, 1) := by decide +kernel
theorem dX8_goneBy_39 : decode cX8_goneBy 39 = .ok (.iastore, 1) := by decide +kernel
theorem dX8_goneBy_40 : decode cX8_goneBy 40 = .ok (.iinc 4 1, 3) := by decide +kernel
theorem dX8_goneBy_43 : decode cX8_goneBy 43 = .ok (.goto (-38), 3) := by decide +kernel
theorem dX8_goneBy_46 : decode cX8_goneBy 46 = .ok (.aload_n 0, 1) := by decide +kernel
theorem dX8_goneBy_47 : decode cX8_goneBy 47 = .ok (.iconst 0, 1) := by decide +kernel
theorem dX8_goneBy_48 : decode cX8_goneBy 48 = .ok (.invokevirtual 195, 3) := by decide +kernel
theorem dX8_goneBy_51 : decode cX8_goneBy 51 = .ok (.iconst 0, 1) := by decide +kernel
theorem dX8_goneBy_52 : decode cX8_goneBy 52 = .ok (.istore 4, 2) := by decide +kernel
theorem dX8_goneBy_54 : decode cX8_goneBy 54 = .ok (.iload 4, 2) := by decide +kernel
theorem dX8_goneBy_56 : decode cX8_goneBy 56 = .ok (.aload_n 0, 1) := by decide +kernel
theorem dX8_goneBy_57 : decode cX8_goneBy 57 = .ok (.getfield 85, 3) := by decide +kernel
theorem dX8_goneBy_60 : decode cX8_goneBy 60 = .ok (.if_icmp .ge 36, 3) := by decide +kernel
theorem dX8_goneBy_63 : decode cX8_goneBy 63 = .ok (.aload_n 0, 1) := by decide +kernel
theorem dX8_goneBy_64 : decode cX8_goneBy 64 = .ok (.getfield 16, 3) := by decide +kernel
theorem dX8_goneBy_67 : decode cX8_goneBy 67 = .ok (.iload 4, 2) := by decide +kernel
theorem dX8_goneBy_69 : decode cX8_goneBy 69 = .ok (.iload_n 3, 1) := by decide +kernel
theorem dX8_goneBy_70 : decode cX8_goneBy 70 = .ok (.iload 4, 2) := by decide +kernel
theorem dX8_goneBy_72 : decode cX8_goneBy 72 = .ok (.invokestatic 162, 3) := by decide +kernel
theorem dX8_goneBy_75 : decode cX8_goneBy 75 = .ok (.ifCond .eq 7, 3) := by decide +kernel
theorem dX8_goneBy_78 : decode cX8_goneBy 78 = .ok (.iload_n 1, 1) := by decide +kernel
theorem dX8_goneBy_79 : decode cX8_goneBy 79 = .ok (.goto 10, 3) := by decide +kernel
theorem dX8_goneBy_82 : decode cX8_goneBy 82 = .ok (.aload_n 0, 1) := by decide +kernel
theorem dX8_goneBy_83 : decode cX8_goneBy 83 = .ok (.getfield 16, 3) := by decide +kernel
theorem dX8_goneBy_86 : decode cX8_goneBy 86 = .ok (.iload 4, 2) := by decide +kernel
theorem dX8_goneBy_88 : decode cX8_goneBy 88 = .ok (.iaload, 1) := by decide +kernel
theorem dX8_goneBy_89 : decode cX8_goneBy 89 = .ok (.iastore, 1) := by decide +kernel
theorem dX8_goneBy_90 : decode cX8_goneBy 90 = .ok (.iinc 4 1, 3) := by decide +kernel
theorem dX8_goneBy_93 : decode cX8_goneBy 93 = .ok (.goto (-39), 3) := by decide +kernel
theorem dX8_goneBy_96 : decode cX8_goneBy 96 = .ok (.aload_n 0, 1) := by decide +kernel
theorem dX8_goneBy_97 : decode cX8_goneBy 97 = .ok (.invokevirtual 206, 3) := by decide +kernel
theorem dX8_goneBy_100 : decode cX8_goneBy 100 = .ok (.ireturn, 1) := by decide +kernel
theorem dX8_holds_0 : decode cX8_holds 0 = .ok (.aload_n 0, 1) := by decide +kernel
theorem dX8_holds_1 : decode cX8_holds 1 = .ok (.iload_n 1, 1) := by decide +kernel
theorem dX8_holds_2 : decode cX8_holds 2 = .ok (.invokevirtual 170, 3) := by decide +kernel
theorem dX8_holds_5 : decode cX8_holds 5 = .ok (.ifCond .eq 12, 3) := by decide +kernel
theorem dX8_holds_8 : decode cX8_holds 8 = .ok (.iload_n 2, 1) := by decide +kernel
theorem dX8_holds_9 : decode cX8_holds 9 = .ok (.iconst 0, 1) := by decide +kernel
theorem dX8_holds_10 : decode cX8_holds 10 = .ok (.iconst 1, 1) := by decide +kernel
theorem dX8_holds_11 : decode cX8_holds 11 = .ok (.invokestatic 91, 3) := by decide +kernel
theorem dX8_holds_14 : decode cX8_holds 14 = .ok (.ifCond .ne 5, 3) := by decide +kernel
theorem dX8_holds_17 : decode cX8_holds 17 = .ok (.iconst (-1), 1) := by decide +kernel
theorem dX8_holds_18 : decode cX8_holds 18 = .ok (.ireturn, 1) := by decide +kernel
theorem dX8_holds_19 : decode cX8_holds 19 = .ok (.bipush (-4), 2) := by decide +kernel
theorem dX8_holds_21 : decode cX8_holds 21 = .ok (.istore_n 3, 1) := by decide +kernel
theorem dX8_holds_22 : decode cX8_holds 22 = .ok (.ldc 205, 2) := by decide +kernel
theorem dX8_holds_24 : decode cX8_holds 24 = .ok (.istore 4, 2) := by decide +kernel
theorem dX8_holds_26 : decode cX8_holds 26 = .ok (.iconst 0, 1) := by decide +kernel
theorem dX8_holds_27 : decode cX8_holds 27 = .ok (.istore 5, 2) := by decide +kernel
theorem dX8_holds_29 : decode cX8_holds 29 = .ok (.iload 5, 2) := by decide +kernel
theorem dX8_holds_31 : decode cX8_holds 31 = .ok (.aload_n 0, 1) := by decide +kernel
theorem dX8_holds_32 : decode cX8_holds 32 = .ok (.getfield 88, 3) := by decide +kernel
theorem dX8_holds_35 : decode cX8_holds 35 = .ok (.if_icmp .ge 48, 3) := by decide +kernel
theorem dX8_holds_38 : decode cX8_holds 38 = .ok (.aload_n 0, 1) := by decide +kernel
theorem dX8_holds_39 : decode cX8_holds 39 = .ok (.iload_n 1, 1) := by decide +kernel
theorem dX8_holds_40 : decode cX8_holds 40 = .ok (.iload 5, 2) := by decide +kernel
theorem dX8_holds_42 : decode cX8_holds 42 = .ok (.invokevirtual 209, 3) := by decide +kernel
theorem dX8_holds_45 : decode cX8_holds 45 = .ok (.istore 6, 2) := by decide +kernel
theorem dX8_holds_47 : decode cX8_holds 47 = .ok (.iload 6, 2) := by decide +kernel
theorem dX8_holds_49 : decode cX8_holds 49 = .ok (.iload 4, 2) := by decide +kernel
theorem dX8_holds_51 : decode cX8_holds 51 = .ok (.if_icmp .ge 8, 3) := by decide +kernel
theorem dX8_holds_54 : decode cX8_holds 54 = .ok (.iload 5, 2) := by decide +kernel
theorem dX8_holds_56 : decode cX8_holds 56 = .ok (.goto 4, 3) := by decide +kernel
theorem dX8_holds_59 : decode cX8_holds 59 = .ok (.iload_n 3, 1) := by decide +kernel
theorem dX8_holds_60 : decode cX8_holds 60 = .ok (.istore_n 3, 1) := by decide +kernel
theorem dX8_holds_61 : decode cX8_holds 61 = .ok (.iload 6, 2) := by decide +kernel
theorem dX8_holds_63 : decode cX8_holds 63 = .ok (.iload 4, 2) := by decide +kernel
theorem dX8_holds_65 : decode cX8_holds 65 = .ok (.if_icmp .ge 8, 3) := by decide +kernel
theorem dX8_holds_68 : decode cX8_holds 68 = .ok (.iload 6, 2) := by decide +kernel
theorem dX8_holds_70 : decode cX8_holds 70 = .ok (.goto 5, 3) := by decide +kernel
theorem dX8_holds_73 : decode cX8_holds 73 = .ok (.iload 4, 2) := by decide +kernel
theorem dX8_holds_75 : decode cX8_holds 75 = .ok (.istore 4, 2) := by decide +kernel
theorem dX8_holds_77 : decode cX8_holds 77 = .ok (.iinc 5 1, 3) := by decide +kernel
theorem dX8_holds_80 : decode cX8_holds 80 = .ok (.goto (-51), 3) := by decide +kernel
theorem dX8_holds_83 : decode cX8_holds 83 = .ok (.iload_n 2, 1) := by decide +kernel
theorem dX8_holds_84 : decode cX8_holds 84 = .ok (.ifCond .ne 7, 3) := by decide +kernel
theorem dX8_holds_87 : decode cX8_holds 87 = .ok (.iload_n 3, 1) := by decide +kernel
theorem dX8_holds_88 : decode cX8_holds 88 = .ok (.goto 5, 3) := by decide +kernel
theorem dX8_holds_91 : decode cX8_holds 91 = .ok (.iload 4, 2) := by decide +kernel
theorem dX8_holds_93 : decode cX8_holds 93 = .ok (.ireturn, 1) := by decide +kernel
theorem dX8_seen_0 : decode cX8_seen 0 = .ok (.aload_n 0, 1) := by decide +kernel
theorem dX8_seen_1 : decode cX8_seen 1 = .ok (.iload_n 1, 1) := by decide +kernel
theorem dX8_seen_2 : decode cX8_seen 2 = .ok (.invokevirtual 170, 3) := by decide +kernel
theorem dX8_seen_5 : decode cX8_seen 5 = .ok (.ifCond .eq 13, 3) := by decide +kernel
theorem dX8_seen_8 : decode cX8_seen 8 = .ok (.iload_n 2, 1) := by decide +kernel
theorem dX8_seen_9 : decode cX8_seen 9 = .ok (.iconst 0, 1) := by decide +kernel
theorem dX8_seen_10 : decode cX8_seen 10 = .ok (.bipush 7, 2) := by decide +kernel
theorem dX8_seen_12 : decode cX8_seen 12 = .ok (.invokestatic 91, 3) := by decide +kernel
theorem dX8_seen_15 : decode cX8_seen 15 = .ok (.ifCond .ne 5, 3) := by decide +kernel
theorem dX8_seen_18 : decode cX8_seen 18 = .ok (.iconst (-1), 1) := by decide +kernel
theorem dX8_seen_19 : decode cX8_seen 19 = .ok (.ireturn, 1) := by decide +kernel
theorem dX8_seen_20 : decode cX8_seen 20 = .ok (.aload_n 0, 1) := by decide +kernel
theorem dX8_seen_21 : decode cX8_seen 21 = .ok (.getfield 139, 3) := by decide +kernel
theorem dX8_seen_24 : decode cX8_seen 24 = .ok (.bipush 6, 2) := by decide +kernel
theorem dX8_seen_26 : decode cX8_seen 26 = .ok (.if_icmp .ne 6, 3) := by decide +kernel
theorem dX8_seen_29 : decode cX8_seen 29 = .ok (.bipush (-3), 2) := by decide +kernel
theorem dX8_seen_31 : decode cX8_seen 31 = .ok (.ireturn, 1) := by decide +kernel
theorem dX8_seen_32 : decode cX8_seen 32 = .ok (.aload_n 0, 1) := by decide +kernel
theorem dX8_seen_33 : decode cX8_seen 33 = .ok (.getfield 28, 3) := by decide +kernel
theorem dX8_seen_36 : decode cX8_seen 36 = .ok (.aload_n 0, 1) := by decide +kernel
theorem dX8_seen_37 : decode cX8_seen 37 = .ok (.getfield 139, 3) := by decide +kernel
theorem dX8_seen_40 : decode cX8_seen 40 = .ok (.iload_n 1, 1) := by decide +kernel
theorem dX8_seen_41 : decode cX8_seen 41 = .ok (.iastore, 1) := by decide +kernel
theorem dX8_seen_42 : decode cX8_seen 42 = .ok (.aload_n 0, 1) := by decide +kernel
theorem dX8_seen_43 : decode cX8_seen 43 = .ok (.getfield 31, 3) := by decide +kernel
theorem dX8_seen_46 : decode cX8_seen 46 = .ok (.aload_n 0, 1) := by decide +kernel
theorem dX8_seen_47 : decode cX8_seen 47 = .ok (.getfield 139, 3) := by decide +kernel
theorem dX8_seen_50 : decode cX8_seen 50 = .ok (.iload_n 2, 1) := by decide +kernel
theorem dX8_seen_51 : decode cX8_seen 51 = .ok (.iastore, 1) := by decide +kernel
theorem dX8_seen_52 : decode cX8_seen 52 = .ok (.aload_n 0, 1) := by decide +kernel
theorem dX8_seen_53 : decode cX8_seen 53 = .ok (.dup, 1) := by decide +kernel
theorem dX8_seen_54 : decode cX8_seen 54 = .ok (.getfield 139, 3) := by decide +kernel
theorem dX8_seen_57 : decode cX8_seen 57 = .ok (.iconst 1, 1) := by decide +kernel
theorem dX8_seen_58 : decode cX8_seen 58 = .ok (.iadd, 1) := by decide +kernel
theorem dX8_seen_59 : decode cX8_seen 59 = .ok (.putfield 139, 3) := by decide +kernel
theorem dX8_seen_62 : decode cX8_seen 62 = .ok (.aload_n 0, 1) := by decide +kernel
theorem dX8_seen_63 : decode cX8_seen 63 = .ok (.getfield 139, 3) := by decide +kernel
theorem dX8_seen_66 : decode cX8_seen 66 = .ok (.ireturn, 1) := by decide +kernel
theorem dX8_forget_0 : decode cX8_forget 0 = .ok (.aload_n 0, 1) := by decide +kernel
theorem dX8_forget_1 : decode cX8_forget 1 = .ok (.getfield 139, 3) := by decide +kernel
theorem dX8_forget_4 : decode cX8_forget 4 = .ok (.istore_n 1, 1) := by decide +kernel
theorem dX8_forget_5 : decode cX8_forget 5 = .ok (.aload_n 0, 1) := by decide +kernel
theorem dX8_forget_6 : decode cX8_forget 6 = .ok (.iconst 0, 1) := by decide +kernel
theorem dX8_forget_7 : decode cX8_forget 7 = .ok (.putfield 139, 3) := by decide +kernel
theorem dX8_forget_10 : decode cX8_forget 10 = .ok (.iload_n 1, 1) := by decide +kernel
theorem dX8_forget_11 : decode cX8_forget 11 = .ok (.ireturn, 1) := by decide +kernel
theorem dX8_isSo_0 : decode cX8_isSo 0 = .ok (.aload_n 0, 1) := by decide +kernel
theorem dX8_isSo_1 : decode cX8_isSo 1 = .ok (.iconst 0, 1) := by decide +kernel
theorem dX8_isSo_2 : decode cX8_isSo 2 = .ok (.invokevirtual 195, 3) := by decide +kernel
theorem dX8_isSo_5 : decode cX8_isSo 5 = .ok (.iconst 1, 1) := by decide +kernel
theorem dX8_isSo_6 : decode cX8_isSo 6 = .ok (.istore_n 1, 1) := by decide +kernel
theorem dX8_isSo_7 : decode cX8_isSo 7 = .ok (.iconst 0, 1) := by decide +kernel
theorem dX8_isSo_8 : decode cX8_isSo 8 = .ok (.istore_n 2, 1) := by decide +kernel
theorem dX8_isSo_9 : decode cX8_isSo 9 = .ok (.iload_n 2, 1) := by decide +kernel
theorem dX8_isSo_10 : decode cX8_isSo 10 = .ok (.aload_n 0, 1) := by decide +kernel
theorem dX8_isSo_11 : decode cX8_isSo 11 = .ok (.getfield 139, 3) := by decide +kernel
theorem dX8_isSo_14 : decode cX8_isSo 14 = .ok (.if_icmp .ge 61, 3) := by decide +kernel
theorem dX8_isSo_17 : decode cX8_isSo 17 = .ok (.aload_n 0, 1) := by decide +kernel
theorem dX8_isSo_18 : decode cX8_isSo 18 = .ok (.getfield 52, 3) := by decide +kernel
theorem dX8_isSo_21 : decode cX8_isSo 21 = .ok (.aload_n 0, 1) := by decide +kernel
theorem dX8_isSo_22 : decode cX8_isSo 22 = .ok (.getfield 28, 3) := by decide +kernel
theorem dX8_isSo_25 : decode cX8_isSo 25 = .ok (.iload_n 2, 1) := by decide +kernel
theorem dX8_isSo_26 : decode cX8_isSo 26 = .ok (.iaload, 1) := by decide +kernel
theorem dX8_isSo_27 : decode cX8_isSo 27 = .ok (.iaload, 1) := by decide +kernel
theorem dX8_isSo_28 : decode cX8_isSo 28 = .ok (.istore_n 3, 1) := by decide +kernel
theorem dX8_isSo_29 : decode cX8_isSo 29 = .ok (.iload_n 1, 1) := by decide +kernel
theorem dX8_isSo_30 : decode cX8_isSo 30 = .ok (.ifCond .eq 37, 3) := by decide +kernel
theorem dX8_isSo_33 : decode cX8_isSo 33 = .ok (.iload_n 3, 1) := by decide +kernel
theorem dX8_isSo_34 : decode cX8_isSo 34 = .ok (.bipush (-4), 2) := by decide +kernel
theorem dX8_isSo_36 : decode cX8_isSo 36 = .ok (.if_icmp .ne 17, 3) := by decide +kernel
theorem dX8_isSo_39 : decode cX8_isSo 39 = .ok (.aload_n 0, 1) := by decide +kernel
theorem dX8_isSo_40 : decode cX8_isSo 40 = .ok (.getfield 31, 3) := by decide +kernel
theorem dX8_isSo_43 : decode cX8_isSo 43 = .ok (.iload_n 2, 1) := by decide +kernel
theorem dX8_isSo_44 : decode cX8_isSo 44 = .ok (.iaload, 1) := by decide +kernel
theorem dX8_isSo_45 : decode cX8_isSo 45 = .ok (.bipush 7, 2) := by decide +kernel
theorem dX8_isSo_47 : decode cX8_isSo 47 = .ok (.if_icmp .ne 20, 3) := by decide +kernel
theorem dX8_isSo_50 : decode cX8_isSo 50 = .ok (.goto 13, 3) := by decide +kernel
theorem dX8_isSo_53 : decode cX8_isSo 53 = .ok (.aload_n 0, 1) := by decide +kernel
theorem dX8_isSo_54 : decode cX8_isSo 54 = .ok (.getfield 31, 3) := by decide +kernel
theorem dX8_isSo_57 : decode cX8_isSo 57 = .ok (.iload_n 2, 1) := by decide +kernel
theorem dX8_isSo_58 : decode cX8_isSo 58 = .ok (.iaload, 1) := by decide +kernel
theorem dX8_isSo_59 : decode cX8_isSo 59 = .ok (.iload_n 3, 1) := by decide +kernel
theorem dX8_isSo_60 : decode cX8_isSo 60 = .ok (.if_icmp .ne 7, 3) := by decide +kernel
theorem dX8_isSo_63 : decode cX8_isSo 63 = .ok (.iconst 1, 1) := by decide +kernel
theorem dX8_isSo_64 : decode cX8_isSo 64 = .ok (.goto 4, 3) := by decide +kernel
theorem dX8_isSo_67 : decode cX8_isSo 67 = .ok (.iconst 0, 1) := by decide +kernel
theorem dX8_isSo_68 : decode cX8_isSo 68 = .ok (.istore_n 1, 1) := by decide +kernel
theorem dX8_isSo_69 : decode cX8_isSo 69 = .ok (.iinc 2 1, 3) := by decide +kernel
theorem dX8_isSo_72 : decode cX8_isSo 72 = .ok (.goto (-63), 3) := by decide +kernel
theorem dX8_isSo_75 : decode cX8_isSo 75 = .ok (.iload_n 1, 1) := by decide +kernel
theorem dX8_isSo_76 : decode cX8_isSo 76 = .ok (.ireturn, 1) := by decide +kernel
theorem dX8_worlds_0 : decode cX8_worlds 0 = .ok (.iload_n 1, 1) := by decide +kernel
theorem dX8_worlds_1 : decode cX8_worlds 1 = .ok (.iconst 0, 1) := by decide +kernel
theorem dX8_worlds_2 : decode cX8_worlds 2 = .ok (.iconst 3, 1) := by decide +kernel
theorem dX8_worlds_3 : decode cX8_worlds 3 = .ok (.invokestatic 91, 3) := by decide +kernel
theorem dX8_worlds_6 : decode cX8_worlds 6 = .ok (.ifCond .ne 5, 3) := by decide +kernel
theorem dX8_worlds_9 : decode cX8_worlds 9 = .ok (.iconst (-1), 1) := by decide +kernel
theorem dX8_worlds_10 : decode cX8_worlds 10 = .ok (.ireturn, 1) := by decide +kernel
theorem dX8_worlds_11 : decode cX8_worlds 11 = .ok (.aload_n 0, 1) := by decide +kernel
theorem dX8_worlds_12 : decode cX8_worlds 12 = .ok (.getfield 78, 3) := by decide +kernel
theorem dX8_worlds_15 : decode cX8_worlds 15 = .ok (.istore_n 2, 1) := by decide +kernel
theorem dX8_worlds_16 : decode cX8_worlds 16 = .ok (.iconst 1, 1) := by decide +kernel
theorem dX8_worlds_17 : decode cX8_worlds 17 = .ok (.aload_n 0, 1) := by decide +kernel
theorem dX8_worlds_18 : decode cX8_worlds 18 = .ok (.getfield 74, 3) := by decide +kernel
theorem dX8_worlds_21 : decode cX8_worlds 21 = .ok (.ishl, 1) := by decide +kernel
theorem dX8_worlds_22 : decode cX8_worlds 22 = .ok (.iconst 1, 1) := by decide +kernel
theorem dX8_worlds_23 : decode cX8_worlds 23 = .ok (.isub, 1) := by decide +kernel
theorem dX8_worlds_24 : decode cX8_worlds 24 = .ok (.istore_n 3, 1) := by decide +kernel
theorem dX8_worlds_25 : decode cX8_worlds 25 = .ok (.iconst 0, 1) := by decide +kernel
theorem dX8_worlds_26 : decode cX8_worlds 26 = .ok (.istore 4, 2) := by decide +kernel
theorem dX8_worlds_28 : decode cX8_worlds 28 = .ok (.bipush (-4), 2) := by decide +kernel
theorem dX8_worlds_30 : decode cX8_worlds 30 = .ok (.istore 5, 2) := by decide +kernel
theorem dX8_worlds_32 : decode cX8_worlds 32 = .ok (.iload_n 3, 1) := by decide +kernel
theorem dX8_worlds_33 : decode cX8_worlds 33 = .ok (.istore 6, 2) := by decide +kernel
theorem dX8_worlds_35 : decode cX8_worlds 35 = .ok (.iconst 0, 1) := by decide +kernel
theorem dX8_worlds_36 : decode cX8_worlds 36 = .ok (.istore 7, 2) := by decide +kernel
theorem dX8_worlds_38 : decode cX8_worlds 38 = .ok (.iconst 0, 1) := by decide +kernel
theorem dX8_worlds_39 : decode cX8_worlds 39 = .ok (.istore 8, 2) := by decide +kernel
theorem dX8_worlds_41 : decode cX8_worlds 41 = .ok (.iload 8, 2) := by decide +kernel
theorem dX8_worlds_43 : decode cX8_worlds 43 = .ok (.iload_n 3, 1) := by decide +kernel
theorem dX8_worlds_44 : decode cX8_worlds 44 = .ok (.if_icmp .gt 53, 3) := by decide +kernel
theorem dX8_worlds_47 : decode cX8_worlds 47 = .ok (.aload_n 0, 1) := by decide +kernel
theorem dX8_worlds_48 : decode cX8_worlds 48 = .ok (.iload 8, 2) := by decide +kernel
theorem dX8_worlds_50 : decode cX8_worlds 50 = .ok (.putfield 78, 3) := by decide +kernel
theorem dX8_worlds_53 : decode cX8_worlds 53 = .ok (.aload_n 0, 1) := by decide +kernel
theorem dX8_worlds_54 : decode cX8_worlds 54 = .ok (.invokevirtual 213, 3) := by decide +kernel
theorem dX8_worlds_57 : decode cX8_worlds 57 = .ok (.ifCond .eq 34, 3) := by decide +kernel
theorem dX8_worlds_60 : decode cX8_worlds 60 = .ok (.iload 4, 2) := by decide +kernel
theorem dX8_worlds_62 : decode cX8_worlds 62 = .ok (.ifCond .ne 8, 3) := by decide +kernel
theorem dX8_worlds_65 : decode cX8_worlds 65 = .ok (.iload 8, 2) := by decide +kernel
theorem dX8_worlds_67 : decode cX8_worlds 67 = .ok (.goto 5, 3) := by decide +kernel
theorem dX8_worlds_70 : decode cX8_worlds 70 = .ok (.iload 5, 2) := by decide +kernel
theorem dX8_worlds_72 : decode cX8_worlds 72 = .ok (.istore 5, 2) := by decide +kernel
theorem dX8_worlds_74 : decode cX8_worlds 74 = .ok (.iinc 4 1, 3) := by decide +kernel
theorem dX8_worlds_77 : decode cX8_worlds 77 = .ok (.iload 6, 2) := by decide +kernel
theorem dX8_worlds_79 : decode cX8_worlds 79 = .ok (.iload 8, 2) := by decide +kernel
theorem dX8_worlds_81 : decode cX8_worlds 81 = .ok (.iand, 1) := by decide +kernel
theorem dX8_worlds_82 : decode cX8_worlds 82 = .ok (.istore 6, 2) := by decide +kernel
theorem dX8_worlds_84 : decode cX8_worlds 84 = .ok (.iload 7, 2) := by decide +kernel
theorem dX8_worlds_86 : decode cX8_worlds 86 = .ok (.iload 8, 2) := by decide +kernel
theorem dX8_worlds_88 : decode cX8_worlds 88 = .ok (.ior, 1) := by decide +kernel
theorem dX8_worlds_89 : decode cX8_worlds 89 = .ok (.istore 7, 2) := by decide +kernel
theorem dX8_worlds_91 : decode cX8_worlds 91 = .ok (.iinc 8 1, 3) := by decide +kernel
theorem dX8_worlds_94 : decode cX8_worlds 94 = .ok (.goto (-53), 3) := by decide +kernel
theorem dX8_worlds_97 : decode cX8_worlds 97 = .ok (.aload_n 0, 1) := by decide +kernel
theorem dX8_worlds_98 : decode cX8_worlds 98 = .ok (.iload_n 2, 1) := by decide +kernel
theorem dX8_worlds_99 : decode cX8_worlds 99 = .ok (.putfield 78, 3) := by decide +kernel
theorem dX8_worlds_102 : decode cX8_worlds 102 = .ok (.iload_n 1, 1) := by decide +kernel
theorem dX8_worlds_103 : decode cX8_worlds 103 = .ok (.ifCond .eq 8, 3) := by decide +kernel
theorem dX8_worlds_106 : decode cX8_worlds 106 = .ok (.iload 4, 2) := by decide +kernel
theorem dX8_worlds_108 : decode cX8_worlds 108 = .ok (.ifCond .ne 15, 3) := by decide +kernel
theorem dX8_worlds_111 : decode cX8_worlds 111 = .ok (.iload_n 1, 1) := by decide +kernel
theorem dX8_worlds_112 : decode cX8_worlds 112 = .ok (.ifCond .ne 8, 3) := by decide +kernel
theorem dX8_worlds_115 : decode cX8_worlds 115 = .ok (.iload 4, 2) := by decide +kernel
theorem dX8_worlds_117 : decode cX8_worlds 117 = .ok (.goto 5, 3) := by decide +kernel
theorem dX8_worlds_120 : decode cX8_worlds 120 = .ok (.bipush (-4), 2) := by decide +kernel
theorem dX8_worlds_122 : decode cX8_worlds 122 = .ok (.ireturn, 1) := by decide +kernel
theorem dX8_worlds_123 : decode cX8_worlds 123 = .ok (.iload_n 1, 1) := by decide +kernel
theorem dX8_worlds_124 : decode cX8_worlds 124 = .ok (.iconst 1, 1) := by decide +kernel
theorem dX8_worlds_125 : decode cX8_worlds 125 = .ok (.if_icmp .ne 8, 3) := by decide +kernel
theorem dX8_worlds_128 : decode cX8_worlds 128 = .ok (.iload 5, 2) := by decide +kernel
theorem dX8_worlds_130 : decode cX8_worlds 130 = .ok (.goto 19, 3) := by decide +kernel
theorem dX8_worlds_133 : decode cX8_worlds 133 = .ok (.iload_n 1, 1) := by decide +kernel
theorem dX8_worlds_134 : decode cX8_worlds 134 = .ok (.iconst 2, 1) := by decide +kernel
theorem dX8_worlds_135 : decode cX8_worlds 135 = .ok (.if_icmp .ne 8, 3) := by decide +kernel
theorem dX8_worlds_138 : decode cX8_worlds 138 = .ok (.iload 6, 2) := by decide +kernel
theorem dX8_worlds_140 : decode cX8_worlds 140 = .ok (.goto 9, 3) := by decide +kernel
theorem dX8_worlds_143 : decode cX8_worlds 143 = .ok (.iload_n 3, 1) := by decide +kernel
theorem dX8_worlds_144 : decode cX8_worlds 144 = .ok (.iload 7, 2) := by decide +kernel
theorem dX8_worlds_146 : decode cX8_worlds 146 = .ok (.iconst (-1), 1) := by decide +kernel
theorem dX8_worlds_147 : decode cX8_worlds 147 = .ok (.ixor, 1) := by decide +kernel
theorem dX8_worlds_148 : decode cX8_worlds 148 = .ok (.iand, 1) := by decide +kernel
theorem dX8_worlds_149 : decode cX8_worlds 149 = .ok (.ireturn, 1) := by decide +kernel
theorem dX8_next_0 : decode cX8_next 0 = .ok (.aload_n 0, 1) := by decide +kernel
theorem dX8_next_1 : decode cX8_next 1 = .ok (.iload_n 1, 1) := by decide +kernel
theorem dX8_next_2 : decode cX8_next 2 = .ok (.invokevirtual 170, 3) := by decide +kernel
theorem dX8_next_5 : decode cX8_next 5 = .ok (.ifCond .eq 13, 3) := by decide +kernel
theorem dX8_next_8 : decode cX8_next 8 = .ok (.iload_n 2, 1) := by decide +kernel
theorem dX8_next_9 : decode cX8_next 9 = .ok (.iconst 1, 1) := by decide +kernel
theorem dX8_next_10 : decode cX8_next 10 = .ok (.bipush 20, 2) := by decide +kernel
theorem dX8_next_12 : decode cX8_next 12 = .ok (.invokestatic 91, 3) := by decide +kernel
theorem dX8_next_15 : decode cX8_next 15 = .ok (.ifCond .ne 5, 3) := by decide +kernel
theorem dX8_next_18 : decode cX8_next 18 = .ok (.iconst (-1), 1) := by decide +kernel
theorem dX8_next_19 : decode cX8_next 19 = .ok (.ireturn, 1) := by decide +kernel
theorem dX8_next_20 : decode cX8_next 20 = .ok (.aload_n 0, 1) := by decide +kernel
theorem dX8_next_21 : decode cX8_next 21 = .ok (.getfield 85, 3) := by decide +kernel
theorem dX8_next_24 : decode cX8_next 24 = .ok (.bipush 7, 2) := by decide +kernel
theorem dX8_next_26 : decode cX8_next 26 = .ok (.if_icmp .ne 6, 3) := by decide +kernel
theorem dX8_next_29 : decode cX8_next 29 = .ok (.bipush (-4), 2) := by decide +kernel
theorem dX8_next_31 : decode cX8_next 31 = .ok (.ireturn, 1) := by decide +kernel
theorem dX8_next_32 : decode cX8_next 32 = .ok (.aload_n 0, 1) := by decide +kernel
theorem dX8_next_33 : decode cX8_next 33 = .ok (.getfield 78, 3) := by decide +kernel
theorem dX8_next_36 : decode cX8_next 36 = .ok (.istore_n 3, 1) := by decide +kernel
theorem dX8_next_37 : decode cX8_next 37 = .ok (.bipush (-4), 2) := by decide +kernel
theorem dX8_next_39 : decode cX8_next 39 = .ok (.istore 4, 2) := by decide +kernel
theorem dX8_next_41 : decode cX8_next 41 = .ok (.ldc 205, 2) := by decide +kernel
theorem dX8_next_43 : decode cX8_next 43 = .ok (.istore 5, 2) := by decide +kernel
theorem dX8_next_45 : decode cX8_next 45 = .ok (.iconst 0, 1) := by decide +kernel
theorem dX8_next_46 : decode cX8_next 46 = .ok (.istore 6, 2) := by decide +kernel
theorem dX8_next_48 : decode cX8_next 48 = .ok (.iload 6, 2) := by decide +kernel
theorem dX8_next_50 : decode cX8_next 50 = .ok (.aload_n 0, 1) := by decide +kernel
theorem dX8_next_51 : decode cX8_next 51 = .ok (.getfield 74, 3) := by decide +kernel
theorem dX8_next_54 : decode cX8_next 54 = .ok (.if_icmp .ge 181, 3) := by decide +kernel
theorem dX8_next_57 : decode cX8_next 57 = .ok (.iconst 0, 1) := by decide +kernel
theorem dX8_next_58 : decode cX8_next 58 = .ok (.istore 7, 2) := by decide +kernel
theorem dX8_next_60 : decode cX8_next 60 = .ok (.iconst 0, 1) := by decide +kernel
theorem dX8_next_61 : decode cX8_next 61 = .ok (.istore 8, 2) := by decide +kernel
theorem dX8_next_63 : decode cX8_next 63 = .ok (.iconst 0, 1) := by decide +kernel
theorem dX8_next_64 : decode cX8_next 64 = .ok (.istore 9, 2) := by decide +kernel
theorem dX8_next_66 : decode cX8_next 66 = .ok (.iload 9, 2) := by decide +kernel
theorem dX8_next_68 : decode cX8_next 68 = .ok (.iconst 1, 1) := by decide +kernel
theorem dX8_next_69 : decode cX8_next 69 = .ok (.aload_n 0, 1) := by decide +kernel
theorem dX8_next_70 : decode cX8_next 70 = .ok (.getfield 74, 3) := by decide +kernel
theorem dX8_next_73 : decode cX8_next 73 = .ok (.ishl, 1) := by decide +kernel
theorem dX8_next_74 : decode cX8_next 74 = .ok (.if_icmp .ge 86, 3) := by decide +kernel
theorem dX8_next_77 : decode cX8_next 77 = .ok (.aload_n 0, 1) := by decide +kernel
theorem dX8_next_78 : decode cX8_next 78 = .ok (.iload 9, 2) := by decide +kernel
theorem dX8_next_80 : decode cX8_next 80 = .ok (.putfield 78, 3) := by decide +kernel
theorem dX8_next_83 : decode cX8_next 83 = .ok (.aload_n 0, 1) := by decide +kernel
theorem dX8_next_84 : decode cX8_next 84 = .ok (.invokevirtual 213, 3) := by decide +kernel
theorem dX8_next_87 : decode cX8_next 87 = .ok (.ifCond .eq 67, 3) := by decide +kernel
theorem dX8_next_90 : decode cX8_next 90 = .ok (.iinc 8 1, 3) := by decide +kernel
theorem dX8_next_93 : decode cX8_next 93 = .ok (.aload_n 0, 1) := by decide +kernel
theorem dX8_next_94 : decode cX8_next 94 = .ok (.aload_n 0, 1) := by decide +kernel
theorem dX8_next_95 : decode cX8_next 95 = .ok (.getfield 85, 3) := by decide +kernel
theorem dX8_next_98 : decode cX8_next 98 = .ok (.iload_n 1, 1) := by decide +kernel
theorem dX8_next_99 : decode cX8_next 99 = .ok (.iload 6, 2) := by decide +kernel
theorem dX8_next_101 : decode cX8_next 101 = .ok (.iconst 1, 1) := by decide +kernel
theorem dX8_next_102 : decode cX8_next 102 = .ok (.iload_n 2, 1) := by decide +kernel
theorem dX8_next_103 : decode cX8_next 103 = .ok (.invokevirtual 81, 3) := by decide +kernel
theorem dX8_next_106 : decode cX8_next 106 = .ok (.aload_n 0, 1) := by decide +kernel
theorem dX8_next_107 : decode cX8_next 107 = .ok (.dup, 1) := by decide +kernel
theorem dX8_next_108 : decode cX8_next 108 = .ok (.getfield 85, 3) := by decide +kernel
theorem dX8_next_111 : decode cX8_next 111 = .ok (.iconst 1, 1) := by decide +kernel
theorem dX8_next_112 : decode cX8_next 112 = .ok (.iadd, 1) := by decide +kernel
theorem dX8_next_113 : decode cX8_next 113 = .ok (.putfield 85, 3) := by decide +kernel
theorem dX8_next_116 : decode cX8_next 116 = .ok (.aload_n 0, 1) := by decide +kernel
theorem dX8_next_117 : decode cX8_next 117 = .ok (.iconst 0, 1) := by decide +kernel
theorem dX8_next_118 : decode cX8_next 118 = .ok (.invokevirtual 195, 3) := by decide +kernel
theorem dX8_next_121 : decode cX8_next 121 = .ok (.aload_n 0, 1) := by decide +kernel
theorem dX8_next_122 : decode cX8_next 122 = .ok (.dup, 1) := by decide +kernel
theorem dX8_next_123 : decode cX8_next 123 = .ok (.getfield 85, 3) := by decide +kernel
theorem dX8_next_126 : decode cX8_next 126 = .ok (.iconst 1, 1) := by decide +kernel
theorem dX8_next_127 : decode cX8_next 127 = .ok (.isub, 1) := by decide +kernel
theorem dX8_next_128 : decode cX8_next 128 = .ok (.putfield 85, 3) := by decide +kernel
theorem dX8_next_131 : decode cX8_next 131 = .ok (.iload 7, 2) := by decide +kernel
theorem dX8_next_133 : decode cX8_next 133 = .ok (.aload_n 0, 1) := by decide +kernel
theorem dX8_next_134 : decode cX8_next 134 = .ok (.getfield 52, 3) := by decide +kernel
theorem dX8_next_137 : decode cX8_next 137 = .ok (.iload_n 1, 1) := by decide +kernel
theorem dX8_next_138 : decode cX8_next 138 = .ok (.iaload, 1) := by decide +kernel
theorem dX8_next_139 : decode cX8_next 139 = .ok (.aload_n 0, 1) := by decide +kernel
theorem dX8_next_140 : decode cX8_next 140 = .ok (.getfield 85, 3) := by decide +kernel
theorem dX8_next_143 : decode cX8_next 143 = .ok (.if_icmp .ne 7, 3) := by decide +kernel
theorem dX8_next_146 : decode cX8_next 146 = .ok (.iconst 1, 1) := by decide +kernel
theorem dX8_next_147 : decode cX8_next 147 = .ok (.goto 4, 3) := by decide +kernel
theorem dX8_next_150 : decode cX8_next 150 = .ok (.iconst 0, 1) := by decide +kernel
theorem dX8_next_151 : decode cX8_next 151 = .ok (.iadd, 1) := by decide +kernel
theorem dX8_next_152 : decode cX8_next 152 = .ok (.istore 7, 2) := by decide +kernel
theorem dX8_next_154 : decode cX8_next 154 = .ok (.iinc 9 1, 3) := by decide +kernel
theorem dX8_next_157 : decode cX8_next 157 = .ok (.goto (-91), 3) := by decide +kernel
theorem dX8_next_160 : decode cX8_next 160 = .ok (.iload 7, 2) := by decide +kernel
theorem dX8_next_162 : decode cX8_next 162 = .ok (.iload 8, 2) := by decide +kernel
theorem dX8_next_164 : decode cX8_next 164 = .ok (.iload 7, 2) := by decide +kernel
theorem dX8_next_166 : decode cX8_next 166 = .ok (.isub, 1) := by decide +kernel
theorem dX8_next_167 : decode cX8_next 167 = .ok (.if_icmp .le 8, 3) := by decide +kernel
theorem dX8_next_170 : decode cX8_next 170 = .ok (.iload 7, 2) := by decide +kernel
theorem dX8_next_172 : decode cX8_next 172 = .ok (.goto 8, 3) := by decide +kernel
theorem dX8_next_175 : decode cX8_next 175 = .ok (.iload 8, 2) := by decide +kernel
theorem dX8_next_177 : decode cX8_next 177 = .ok (.iload 7, 2) := by decide +kernel
theorem dX8_next_179 : decode cX8_next 179 = .ok (.isub, 1) := by decide +kernel
theorem dX8_next_180 : decode cX8_next 180 = .ok (.istore 9, 2) := by decide +kernel
theorem dX8_next_182 : decode cX8_next 182 = .ok (.iload 8, 2) := by decide +kernel
theorem dX8_next_184 : decode cX8_next 184 = .ok (.ifCond .le 14, 3) := by decide +kernel
theorem dX8_next_187 : decode cX8_next 187 = .ok (.iload 9, 2) := by decide +kernel
theorem dX8_next_189 : decode cX8_next 189 = .ok (.iload 5, 2) := by decide +kernel
theorem dX8_next_191 : decode cX8_next 191 = .ok (.if_icmp .ge 7, 3) := by decide +kernel
theorem dX8_next_194 : decode cX8_next 194 = .ok (.iconst 1, 1) := by decide +kernel
theorem dX8_next_195 : decode cX8_next 195 = .ok (.goto 4, 3) := by decide +kernel
theorem dX8_next_198 : decode cX8_next 198 = .ok (.iconst 0, 1) := by decide +kernel
theorem dX8_next_199 : decode cX8_next 199 = .ok (.istore 10, 2) := by decide +kernel
theorem dX8_next_201 : decode cX8_next 201 = .ok (.iload 10, 2) := by decide +kernel
theorem dX8_next_203 : decode cX8_next 203 = .ok (.ifCond .eq 8, 3) := by decide +kernel
theorem dX8_next_206 : decode cX8_next 206 = .ok (.iload 6, 2) := by decide +kernel
theorem dX8_next_208 : decode cX8_next 208 = .ok (.goto 5, 3) := by decide +kernel
theorem dX8_next_211 : decode cX8_next 211 = .ok (.iload 4, 2) := by decide +kernel
theorem dX8_next_213 : decode cX8_next 213 = .ok (.istore 4, 2) := by decide +kernel
theorem dX8_next_215 : decode cX8_next 215 = .ok (.iload 10, 2) := by decide +kernel
theorem dX8_next_217 : decode cX8_next 217 = .ok (.ifCond .eq 8, 3) := by decide +kernel
theorem dX8_next_220 : decode cX8_next 220 = .ok (.iload 9, 2) := by decide +kernel
theorem dX8_next_222 : decode cX8_next 222 = .ok (.goto 5, 3) := by decide +kernel
theorem dX8_next_225 : decode cX8_next 225 = .ok (.iload 5, 2) := by decide +kernel
theorem dX8_next_227 : decode cX8_next 227 = .ok (.istore 5, 2) := by decide +kernel
theorem dX8_next_229 : decode cX8_next 229 = .ok (.iinc 6 1, 3) := by decide +kernel
theorem dX8_next_232 : decode cX8_next 232 = .ok (.goto (-184), 3) := by decide +kernel
theorem dX8_next_235 : decode cX8_next 235 = .ok (.aload_n 0, 1) := by decide +kernel
theorem dX8_next_236 : decode cX8_next 236 = .ok (.iload_n 3, 1) := by decide +kernel
theorem dX8_next_237 : decode cX8_next 237 = .ok (.putfield 78, 3) := by decide +kernel
theorem dX8_next_240 : decode cX8_next 240 = .ok (.iload 4, 2) := by decide +kernel
theorem dX8_next_242 : decode cX8_next 242 = .ok (.ireturn, 1) := by decide +kernel
theorem dX8_kinds_0 : decode cX8_kinds 0 = .ok (.aload_n 0, 1) := by decide +kernel
theorem dX8_kinds_1 : decode cX8_kinds 1 = .ok (.iload_n 1, 1) := by decide +kernel
theorem dX8_kinds_2 : decode cX8_kinds 2 = .ok (.invokevirtual 170, 3) := by decide +kernel
theorem dX8_kinds_5 : decode cX8_kinds 5 = .ok (.ifCond .ne 5, 3) := by decide +kernel
theorem dX8_kinds_8 : decode cX8_kinds 8 = .ok (.iconst (-1), 1) := by decide +kernel
theorem dX8_kinds_9 : decode cX8_kinds 9 = .ok (.ireturn, 1) := by decide +kernel
theorem dX8_kinds_10 : decode cX8_kinds 10 = .ok (.aload_n 0, 1) := by decide +kernel
theorem dX8_kinds_11 : decode cX8_kinds 11 = .ok (.getfield 9, 3) := by decide +kernel
theorem dX8_kinds_14 : decode cX8_kinds 14 = .ok (.iload_n 1, 1) := by decide +kernel
theorem dX8_kinds_15 : decode cX8_kinds 15 = .ok (.iaload, 1) := by decide +kernel
theorem dX8_kinds_16 : decode cX8_kinds 16 = .ok (.istore_n 2, 1) := by decide +kernel
theorem dX8_kinds_17 : decode cX8_kinds 17 = .ok (.iconst 0, 1) := by decide +kernel
theorem dX8_kinds_18 : decode cX8_kinds 18 = .ok (.istore_n 3, 1) := by decide +kernel
theorem dX8_kinds_19 : decode cX8_kinds 19 = .ok (.iconst 0, 1) := by decide +kernel
theorem dX8_kinds_20 : decode cX8_kinds 20 = .ok (.istore 4, 2) := by decide +kernel
theorem dX8_kinds_22 : decode cX8_kinds 22 = .ok (.iload 4, 2) := by decide +kernel
theorem dX8_kinds_24 : decode cX8_kinds 24 = .ok (.iconst 3, 1) := by decide +kernel
theorem dX8_kinds_25 : decode cX8_kinds 25 = .ok (.if_icmp .gt 35, 3) := by decide +kernel
theorem dX8_kinds_28 : decode cX8_kinds 28 = .ok (.aload_n 0, 1) := by decide +kernel
theorem dX8_kinds_29 : decode cX8_kinds 29 = .ok (.getfield 9, 3) := by decide +kernel
theorem dX8_kinds_32 : decode cX8_kinds 32 = .ok (.iload_n 1, 1) := by decide +kernel
theorem dX8_kinds_33 : decode cX8_kinds 33 = .ok (.iload 4, 2) := by decide +kernel
theorem dX8_kinds_35 : decode cX8_kinds 35 = .ok (.iastore, 1) := by decide +kernel
theorem dX8_kinds_36 : decode cX8_kinds 36 = .ok (.iload_n 3, 1) := by decide +kernel
theorem dX8_kinds_37 : decode cX8_kinds 37 = .ok (.aload_n 0, 1) := by decide +kernel
theorem dX8_kinds_38 : decode cX8_kinds 38 = .ok (.invokevirtual 213, 3) := by decide +kernel
theorem dX8_kinds_41 : decode cX8_kinds 41 = .ok (.ifCond .eq 10, 3) := by decide +kernel
theorem dX8_kinds_44 : decode cX8_kinds 44 = .ok (.iconst 1, 1) := by decide +kernel
theorem dX8_kinds_45 : decode cX8_kinds 45 = .ok (.iload 4, 2) := by decide +kernel
theorem dX8_kinds_47 : decode cX8_kinds 47 = .ok (.ishl, 1) := by decide +kernel
theorem dX8_kinds_48 : decode cX8_kinds 48 = .ok (.goto 4, 3) := by decide +kernel
theorem dX8_kinds_51 : decode cX8_kinds 51 = .ok (.iconst 0, 1) := by decide +kernel
theorem dX8_kinds_52 : decode cX8_kinds 52 = .ok (.ior, 1) := by decide +kernel
theorem dX8_kinds_53 : decode cX8_kinds 53 = .ok (.istore_n 3, 1) := by decide +kernel
theorem dX8_kinds_54 : decode cX8_kinds 54 = .ok (.iinc 4 1, 3) := by decide +kernel
theorem dX8_kinds_57 : decode cX8_kinds 57 = .ok (.goto (-35), 3) := by decide +kernel
theorem dX8_kinds_60 : decode cX8_kinds 60 = .ok (.aload_n 0, 1) := by decide +kernel
theorem dX8_kinds_61 : decode cX8_kinds 61 = .ok (.getfield 9, 3) := by decide +kernel
theorem dX8_kinds_64 : decode cX8_kinds 64 = .ok (.iload_n 1, 1) := by decide +kernel
theorem dX8_kinds_65 : decode cX8_kinds 65 = .ok (.iload_n 2, 1) := by decide +kernel
theorem dX8_kinds_66 : decode cX8_kinds 66 = .ok (.iastore, 1) := by decide +kernel
theorem dX8_kinds_67 : decode cX8_kinds 67 = .ok (.iload_n 3, 1) := by decide +kernel
theorem dX8_kinds_68 : decode cX8_kinds 68 = .ok (.ireturn, 1) := by decide +kernel
theorem dX8_grips_0 : decode cX8_grips 0 = .ok (.aload_n 0, 1) := by decide +kernel
theorem dX8_grips_1 : decode cX8_grips 1 = .ok (.iload_n 1, 1) := by decide +kernel
theorem dX8_grips_2 : decode cX8_grips 2 = .ok (.invokevirtual 170, 3) := by decide +kernel
theorem dX8_grips_5 : decode cX8_grips 5 = .ok (.ifCond .eq 12, 3) := by decide +kernel
theorem dX8_grips_8 : decode cX8_grips 8 = .ok (.iload_n 2, 1) := by decide +kernel
theorem dX8_grips_9 : decode cX8_grips 9 = .ok (.iconst 0, 1) := by decide +kernel
theorem dX8_grips_10 : decode cX8_grips 10 = .ok (.iconst 1, 1) := by decide +kernel
theorem dX8_grips_11 : decode cX8_grips 11 = .ok (.invokestatic 91, 3) := by decide +kernel
theorem dX8_grips_14 : decode cX8_grips 14 = .ok (.ifCond .ne 5, 3) := by decide +kernel
theorem dX8_grips_17 : decode cX8_grips 17 = .ok (.iconst (-1), 1) := by decide +kernel
theorem dX8_grips_18 : decode cX8_grips 18 = .ok (.ireturn, 1) := by decide +kernel
theorem dX8_grips_19 : decode cX8_grips 19 = .ok (.aload_n 0, 1) := by decide +kernel
theorem dX8_grips_20 : decode cX8_grips 20 = .ok (.getfield 13, 3) := by decide +kernel
theorem dX8_grips_23 : decode cX8_grips 23 = .ok (.iload_n 1, 1) := by decide +kernel
theorem dX8_grips_24 : decode cX8_grips 24 = .ok (.iaload, 1) := by decide +kernel
theorem dX8_grips_25 : decode cX8_grips 25 = .ok (.istore_n 3, 1) := by decide +kernel
theorem dX8_grips_26 : decode cX8_grips 26 = .ok (.iconst 0, 1) := by decide +kernel
theorem dX8_grips_27 : decode cX8_grips 27 = .ok (.istore 4, 2) := by decide +kernel
theorem dX8_grips_29 : decode cX8_grips 29 = .ok (.bipush (-4), 2) := by decide +kernel
theorem dX8_grips_31 : decode cX8_grips 31 = .ok (.istore 5, 2) := by decide +kernel
theorem dX8_grips_33 : decode cX8_grips 33 = .ok (.iconst 1, 1) := by decide +kernel
theorem dX8_grips_34 : decode cX8_grips 34 = .ok (.istore 6, 2) := by decide +kernel
theorem dX8_grips_36 : decode cX8_grips 36 = .ok (.iload 6, 2) := by decide +kernel
theorem dX8_grips_38 : decode cX8_grips 38 = .ok (.bipush 40, 2) := by decide +kernel
theorem dX8_grips_40 : decode cX8_grips 40 = .ok (.if_icmp .gt 57, 3) := by decide +kernel
theorem dX8_grips_43 : decode cX8_grips 43 = .ok (.aload_n 0, 1) := by decide +kernel
theorem dX8_grips_44 : decode cX8_grips 44 = .ok (.getfield 13, 3) := by decide +kernel
