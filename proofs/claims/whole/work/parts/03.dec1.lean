theorem dX7_claim_1 : decode cX7_claim 1 = .ok (.getfield 19, 3) := by decide +kernel
theorem dX7_claim_4 : decode cX7_claim 4 = .ok (.iload_n 1, 1) := by decide +kernel
theorem dX7_claim_5 : decode cX7_claim 5 = .ok (.invokevirtual 125, 3) := by decide +kernel
theorem dX7_claim_8 : decode cX7_claim 8 = .ok (.ifCond .ne 5, 3) := by decide +kernel
theorem dX7_claim_11 : decode cX7_claim 11 = .ok (.iconst (-1), 1) := by decide +kernel
theorem dX7_claim_12 : decode cX7_claim 12 = .ok (.ireturn, 1) := by decide +kernel
theorem dX7_claim_13 : decode cX7_claim 13 = .ok (.iload_n 2, 1) := by decide +kernel
theorem dX7_claim_14 : decode cX7_claim 14 = .ok (.tableswitch 99 0 4 #[34, 46, 58, 70, 82], 34) := by decide +kernel
theorem dX7_claim_48 : decode cX7_claim 48 = .ok (.aload_n 0, 1) := by decide +kernel
theorem dX7_claim_49 : decode cX7_claim 49 = .ok (.getfield 19, 3) := by decide +kernel
theorem dX7_claim_52 : decode cX7_claim 52 = .ok (.getfield 128, 3) := by decide +kernel
theorem dX7_claim_55 : decode cX7_claim 55 = .ok (.iload_n 1, 1) := by decide +kernel
theorem dX7_claim_56 : decode cX7_claim 56 = .ok (.invokestatic 108, 3) := by decide +kernel
theorem dX7_claim_59 : decode cX7_claim 59 = .ok (.ireturn, 1) := by decide +kernel
theorem dX7_claim_60 : decode cX7_claim 60 = .ok (.aload_n 0, 1) := by decide +kernel
theorem dX7_claim_61 : decode cX7_claim 61 = .ok (.getfield 19, 3) := by decide +kernel
theorem dX7_claim_64 : decode cX7_claim 64 = .ok (.getfield 131, 3) := by decide +kernel
theorem dX7_claim_67 : decode cX7_claim 67 = .ok (.iload_n 1, 1) := by decide +kernel
theorem dX7_claim_68 : decode cX7_claim 68 = .ok (.invokestatic 108, 3) := by decide +kernel
theorem dX7_claim_71 : decode cX7_claim 71 = .ok (.ireturn, 1) := by decide +kernel
theorem dX7_claim_72 : decode cX7_claim 72 = .ok (.aload_n 0, 1) := by decide +kernel
theorem dX7_claim_73 : decode cX7_claim 73 = .ok (.getfield 19, 3) := by decide +kernel
theorem dX7_claim_76 : decode cX7_claim 76 = .ok (.getfield 134, 3) := by decide +kernel
theorem dX7_claim_79 : decode cX7_claim 79 = .ok (.iload_n 1, 1) := by decide +kernel
theorem dX7_claim_80 : decode cX7_claim 80 = .ok (.invokestatic 108, 3) := by decide +kernel
theorem dX7_claim_83 : decode cX7_claim 83 = .ok (.ireturn, 1) := by decide +kernel
theorem dX7_claim_84 : decode cX7_claim 84 = .ok (.aload_n 0, 1) := by decide +kernel
theorem dX7_claim_85 : decode cX7_claim 85 = .ok (.getfield 19, 3) := by decide +kernel
theorem dX7_claim_88 : decode cX7_claim 88 = .ok (.getfield 137, 3) := by decide +kernel
theorem dX7_claim_91 : decode cX7_claim 91 = .ok (.iload_n 1, 1) := by decide +kernel
theorem dX7_claim_92 : decode cX7_claim 92 = .ok (.invokestatic 108, 3) := by decide +kernel
theorem dX7_claim_95 : decode cX7_claim 95 = .ok (.ireturn, 1) := by decide +kernel
theorem dX7_claim_96 : decode cX7_claim 96 = .ok (.aload_n 0, 1) := by decide +kernel
theorem dX7_claim_97 : decode cX7_claim 97 = .ok (.getfield 19, 3) := by decide +kernel
theorem dX7_claim_100 : decode cX7_claim 100 = .ok (.iload_n 1, 1) := by decide +kernel
theorem dX7_claim_101 : decode cX7_claim 101 = .ok (.invokevirtual 140, 3) := by decide +kernel
theorem dX7_claim_104 : decode cX7_claim 104 = .ok (.ifCond .eq 7, 3) := by decide +kernel
theorem dX7_claim_107 : decode cX7_claim 107 = .ok (.iconst 1, 1) := by decide +kernel
theorem dX7_claim_108 : decode cX7_claim 108 = .ok (.goto 4, 3) := by decide +kernel
theorem dX7_claim_111 : decode cX7_claim 111 = .ok (.iconst 0, 1) := by decide +kernel
theorem dX7_claim_112 : decode cX7_claim 112 = .ok (.ireturn, 1) := by decide +kernel
theorem dX7_claim_113 : decode cX7_claim 113 = .ok (.iconst (-1), 1) := by decide +kernel
theorem dX7_claim_114 : decode cX7_claim 114 = .ok (.ireturn, 1) := by decide +kernel
theorem dX7_turn_0 : decode cX7_turn 0 = .ok (.aload_n 0, 1) := by decide +kernel
theorem dX7_turn_1 : decode cX7_turn 1 = .ok (.getfield 19, 3) := by decide +kernel
theorem dX7_turn_4 : decode cX7_turn 4 = .ok (.iload_n 1, 1) := by decide +kernel
theorem dX7_turn_5 : decode cX7_turn 5 = .ok (.invokevirtual 115, 3) := by decide +kernel
theorem dX7_turn_8 : decode cX7_turn 8 = .ok (.ifCond .ne 5, 3) := by decide +kernel
theorem dX7_turn_11 : decode cX7_turn 11 = .ok (.iconst (-1), 1) := by decide +kernel
theorem dX7_turn_12 : decode cX7_turn 12 = .ok (.ireturn, 1) := by decide +kernel
theorem dX7_turn_13 : decode cX7_turn 13 = .ok (.aload_n 0, 1) := by decide +kernel
theorem dX7_turn_14 : decode cX7_turn 14 = .ok (.getfield 52, 3) := by decide +kernel
theorem dX7_turn_17 : decode cX7_turn 17 = .ok (.aload_n 0, 1) := by decide +kernel
theorem dX7_turn_18 : decode cX7_turn 18 = .ok (.getfield 19, 3) := by decide +kernel
theorem dX7_turn_21 : decode cX7_turn 21 = .ok (.invokevirtual 143, 3) := by decide +kernel
theorem dX7_turn_24 : decode cX7_turn 24 = .ok (.aload_n 0, 1) := by decide +kernel
theorem dX7_turn_25 : decode cX7_turn 25 = .ok (.getfield 19, 3) := by decide +kernel
theorem dX7_turn_28 : decode cX7_turn 28 = .ok (.iload_n 1, 1) := by decide +kernel
theorem dX7_turn_29 : decode cX7_turn 29 = .ok (.invokevirtual 146, 3) := by decide +kernel
theorem dX7_turn_32 : decode cX7_turn 32 = .ok (.aload_n 0, 1) := by decide +kernel
theorem dX7_turn_33 : decode cX7_turn 33 = .ok (.getfield 19, 3) := by decide +kernel
theorem dX7_turn_36 : decode cX7_turn 36 = .ok (.getfield 118, 3) := by decide +kernel
theorem dX7_turn_39 : decode cX7_turn 39 = .ok (.iload_n 1, 1) := by decide +kernel
theorem dX7_turn_40 : decode cX7_turn 40 = .ok (.invokestatic 121, 3) := by decide +kernel
theorem dX7_turn_43 : decode cX7_turn 43 = .ok (.ireturn, 1) := by decide +kernel
theorem dX7_add_0 : decode cX7_add 0 = .ok (.aload_n 0, 1) := by decide +kernel
theorem dX7_add_1 : decode cX7_add 1 = .ok (.getfield 19, 3) := by decide +kernel
theorem dX7_add_4 : decode cX7_add 4 = .ok (.iload_n 1, 1) := by decide +kernel
theorem dX7_add_5 : decode cX7_add 5 = .ok (.iload_n 2, 1) := by decide +kernel
theorem dX7_add_6 : decode cX7_add 6 = .ok (.iload_n 3, 1) := by decide +kernel
theorem dX7_add_7 : decode cX7_add 7 = .ok (.iload 4, 2) := by decide +kernel
theorem dX7_add_9 : decode cX7_add 9 = .ok (.invokevirtual 149, 3) := by decide +kernel
theorem dX7_add_12 : decode cX7_add 12 = .ok (.ifCond .ne 5, 3) := by decide +kernel
theorem dX7_add_15 : decode cX7_add 15 = .ok (.iconst (-1), 1) := by decide +kernel
theorem dX7_add_16 : decode cX7_add 16 = .ok (.ireturn, 1) := by decide +kernel
theorem dX7_add_17 : decode cX7_add 17 = .ok (.aload_n 0, 1) := by decide +kernel
theorem dX7_add_18 : decode cX7_add 18 = .ok (.getfield 19, 3) := by decide +kernel
theorem dX7_add_21 : decode cX7_add 21 = .ok (.getfield 153, 3) := by decide +kernel
theorem dX7_add_24 : decode cX7_add 24 = .ok (.bipush 7, 2) := by decide +kernel
theorem dX7_add_26 : decode cX7_add 26 = .ok (.if_icmp .lt 6, 3) := by decide +kernel
theorem dX7_add_29 : decode cX7_add 29 = .ok (.bipush (-3), 2) := by decide +kernel
theorem dX7_add_31 : decode cX7_add 31 = .ok (.ireturn, 1) := by decide +kernel
theorem dX7_add_32 : decode cX7_add 32 = .ok (.aload_n 0, 1) := by decide +kernel
theorem dX7_add_33 : decode cX7_add 33 = .ok (.getfield 52, 3) := by decide +kernel
theorem dX7_add_36 : decode cX7_add 36 = .ok (.aload_n 0, 1) := by decide +kernel
theorem dX7_add_37 : decode cX7_add 37 = .ok (.getfield 19, 3) := by decide +kernel
theorem dX7_add_40 : decode cX7_add 40 = .ok (.invokevirtual 143, 3) := by decide +kernel
theorem dX7_add_43 : decode cX7_add 43 = .ok (.aload_n 0, 1) := by decide +kernel
theorem dX7_add_44 : decode cX7_add 44 = .ok (.getfield 19, 3) := by decide +kernel
theorem dX7_add_47 : decode cX7_add 47 = .ok (.iload_n 1, 1) := by decide +kernel
theorem dX7_add_48 : decode cX7_add 48 = .ok (.iload_n 2, 1) := by decide +kernel
theorem dX7_add_49 : decode cX7_add 49 = .ok (.iload_n 3, 1) := by decide +kernel
theorem dX7_add_50 : decode cX7_add 50 = .ok (.iload 4, 2) := by decide +kernel
theorem dX7_add_52 : decode cX7_add 52 = .ok (.invokevirtual 156, 3) := by decide +kernel
theorem dX7_add_55 : decode cX7_add 55 = .ok (.pop, 1) := by decide +kernel
theorem dX7_add_56 : decode cX7_add 56 = .ok (.aload_n 0, 1) := by decide +kernel
theorem dX7_add_57 : decode cX7_add 57 = .ok (.getfield 19, 3) := by decide +kernel
theorem dX7_add_60 : decode cX7_add 60 = .ok (.getfield 153, 3) := by decide +kernel
theorem dX7_add_63 : decode cX7_add 63 = .ok (.iconst 1, 1) := by decide +kernel
theorem dX7_add_64 : decode cX7_add 64 = .ok (.isub, 1) := by decide +kernel
theorem dX7_add_65 : decode cX7_add 65 = .ok (.ireturn, 1) := by decide +kernel
theorem dX7_strike_0 : decode cX7_strike 0 = .ok (.aload_n 0, 1) := by decide +kernel
theorem dX7_strike_1 : decode cX7_strike 1 = .ok (.getfield 19, 3) := by decide +kernel
theorem dX7_strike_4 : decode cX7_strike 4 = .ok (.iload_n 1, 1) := by decide +kernel
theorem dX7_strike_5 : decode cX7_strike 5 = .ok (.invokevirtual 125, 3) := by decide +kernel
theorem dX7_strike_8 : decode cX7_strike 8 = .ok (.ifCond .ne 5, 3) := by decide +kernel
theorem dX7_strike_11 : decode cX7_strike 11 = .ok (.iconst (-1), 1) := by decide +kernel
theorem dX7_strike_12 : decode cX7_strike 12 = .ok (.ireturn, 1) := by decide +kernel
theorem dX7_strike_13 : decode cX7_strike 13 = .ok (.aload_n 0, 1) := by decide +kernel
theorem dX7_strike_14 : decode cX7_strike 14 = .ok (.getfield 52, 3) := by decide +kernel
theorem dX7_strike_17 : decode cX7_strike 17 = .ok (.aload_n 0, 1) := by decide +kernel
theorem dX7_strike_18 : decode cX7_strike 18 = .ok (.getfield 19, 3) := by decide +kernel
theorem dX7_strike_21 : decode cX7_strike 21 = .ok (.invokevirtual 143, 3) := by decide +kernel
theorem dX7_strike_24 : decode cX7_strike 24 = .ok (.aload_n 0, 1) := by decide +kernel
theorem dX7_strike_25 : decode cX7_strike 25 = .ok (.getfield 19, 3) := by decide +kernel
theorem dX7_strike_28 : decode cX7_strike 28 = .ok (.iload_n 1, 1) := by decide +kernel
theorem dX7_strike_29 : decode cX7_strike 29 = .ok (.invokevirtual 159, 3) := by decide +kernel
theorem dX7_strike_32 : decode cX7_strike 32 = .ok (.aload_n 0, 1) := by decide +kernel
theorem dX7_strike_33 : decode cX7_strike 33 = .ok (.getfield 19, 3) := by decide +kernel
theorem dX7_strike_36 : decode cX7_strike 36 = .ok (.getfield 153, 3) := by decide +kernel
theorem dX7_strike_39 : decode cX7_strike 39 = .ok (.ireturn, 1) := by decide +kernel
theorem dX7_shift_0 : decode cX7_shift 0 = .ok (.aload_n 0, 1) := by decide +kernel
theorem dX7_shift_1 : decode cX7_shift 1 = .ok (.getfield 19, 3) := by decide +kernel
theorem dX7_shift_4 : decode cX7_shift 4 = .ok (.iload_n 1, 1) := by decide +kernel
theorem dX7_shift_5 : decode cX7_shift 5 = .ok (.invokevirtual 125, 3) := by decide +kernel
theorem dX7_shift_8 : decode cX7_shift 8 = .ok (.ifCond .eq 14, 3) := by decide +kernel
theorem dX7_shift_11 : decode cX7_shift 11 = .ok (.aload_n 0, 1) := by decide +kernel
theorem dX7_shift_12 : decode cX7_shift 12 = .ok (.getfield 19, 3) := by decide +kernel
theorem dX7_shift_15 : decode cX7_shift 15 = .ok (.iload_n 2, 1) := by decide +kernel
theorem dX7_shift_16 : decode cX7_shift 16 = .ok (.invokevirtual 125, 3) := by decide +kernel
theorem dX7_shift_19 : decode cX7_shift 19 = .ok (.ifCond .ne 5, 3) := by decide +kernel
theorem dX7_shift_22 : decode cX7_shift 22 = .ok (.iconst (-1), 1) := by decide +kernel
theorem dX7_shift_23 : decode cX7_shift 23 = .ok (.ireturn, 1) := by decide +kernel
theorem dX7_shift_24 : decode cX7_shift 24 = .ok (.iload_n 1, 1) := by decide +kernel
theorem dX7_shift_25 : decode cX7_shift 25 = .ok (.iload_n 2, 1) := by decide +kernel
theorem dX7_shift_26 : decode cX7_shift 26 = .ok (.if_icmp .ne 6, 3) := by decide +kernel
theorem dX7_shift_29 : decode cX7_shift 29 = .ok (.bipush (-2), 2) := by decide +kernel
theorem dX7_shift_31 : decode cX7_shift 31 = .ok (.ireturn, 1) := by decide +kernel
theorem dX7_shift_32 : decode cX7_shift 32 = .ok (.aload_n 0, 1) := by decide +kernel
theorem dX7_shift_33 : decode cX7_shift 33 = .ok (.getfield 52, 3) := by decide +kernel
theorem dX7_shift_36 : decode cX7_shift 36 = .ok (.aload_n 0, 1) := by decide +kernel
theorem dX7_shift_37 : decode cX7_shift 37 = .ok (.getfield 19, 3) := by decide +kernel
theorem dX7_shift_40 : decode cX7_shift 40 = .ok (.invokevirtual 143, 3) := by decide +kernel
theorem dX7_shift_43 : decode cX7_shift 43 = .ok (.aload_n 0, 1) := by decide +kernel
theorem dX7_shift_44 : decode cX7_shift 44 = .ok (.getfield 19, 3) := by decide +kernel
theorem dX7_shift_47 : decode cX7_shift 47 = .ok (.iload_n 1, 1) := by decide +kernel
theorem dX7_shift_48 : decode cX7_shift 48 = .ok (.iload_n 2, 1) := by decide +kernel
theorem dX7_shift_49 : decode cX7_shift 49 = .ok (.invokevirtual 162, 3) := by decide +kernel
theorem dX7_shift_52 : decode cX7_shift 52 = .ok (.iload_n 1, 1) := by decide +kernel
theorem dX7_shift_53 : decode cX7_shift 53 = .ok (.iload_n 2, 1) := by decide +kernel
theorem dX7_shift_54 : decode cX7_shift 54 = .ok (.isub, 1) := by decide +kernel
theorem dX7_shift_55 : decode cX7_shift 55 = .ok (.bipush 10, 2) := by decide +kernel
theorem dX7_shift_57 : decode cX7_shift 57 = .ok (.iadd, 1) := by decide +kernel
theorem dX7_shift_58 : decode cX7_shift 58 = .ok (.ireturn, 1) := by decide +kernel
theorem dX7_grip_0 : decode cX7_grip 0 = .ok (.aload_n 0, 1) := by decide +kernel
theorem dX7_grip_1 : decode cX7_grip 1 = .ok (.getfield 19, 3) := by decide +kernel
theorem dX7_grip_4 : decode cX7_grip 4 = .ok (.iload_n 1, 1) := by decide +kernel
theorem dX7_grip_5 : decode cX7_grip 5 = .ok (.invokevirtual 101, 3) := by decide +kernel
theorem dX7_grip_8 : decode cX7_grip 8 = .ok (.ifCond .eq 13, 3) := by decide +kernel
theorem dX7_grip_11 : decode cX7_grip 11 = .ok (.iload_n 2, 1) := by decide +kernel
theorem dX7_grip_12 : decode cX7_grip 12 = .ok (.iconst 1, 1) := by decide +kernel
theorem dX7_grip_13 : decode cX7_grip 13 = .ok (.bipush 40, 2) := by decide +kernel
theorem dX7_grip_15 : decode cX7_grip 15 = .ok (.invokestatic 82, 3) := by decide +kernel
theorem dX7_grip_18 : decode cX7_grip 18 = .ok (.ifCond .ne 5, 3) := by decide +kernel
theorem dX7_grip_21 : decode cX7_grip 21 = .ok (.iconst (-1), 1) := by decide +kernel
theorem dX7_grip_22 : decode cX7_grip 22 = .ok (.ireturn, 1) := by decide +kernel
theorem dX7_grip_23 : decode cX7_grip 23 = .ok (.aload_n 0, 1) := by decide +kernel
theorem dX7_grip_24 : decode cX7_grip 24 = .ok (.getfield 19, 3) := by decide +kernel
theorem dX7_grip_27 : decode cX7_grip 27 = .ok (.getfield 112, 3) := by decide +kernel
theorem dX7_grip_30 : decode cX7_grip 30 = .ok (.iload_n 1, 1) := by decide +kernel
theorem dX7_grip_31 : decode cX7_grip 31 = .ok (.invokestatic 108, 3) := by decide +kernel
theorem dX7_grip_34 : decode cX7_grip 34 = .ok (.istore_n 3, 1) := by decide +kernel
theorem dX7_grip_35 : decode cX7_grip 35 = .ok (.iload_n 3, 1) := by decide +kernel
theorem dX7_grip_36 : decode cX7_grip 36 = .ok (.iload_n 2, 1) := by decide +kernel
theorem dX7_grip_37 : decode cX7_grip 37 = .ok (.if_icmp .ne 6, 3) := by decide +kernel
theorem dX7_grip_40 : decode cX7_grip 40 = .ok (.bipush (-2), 2) := by decide +kernel
theorem dX7_grip_42 : decode cX7_grip 42 = .ok (.ireturn, 1) := by decide +kernel
theorem dX7_grip_43 : decode cX7_grip 43 = .ok (.aload_n 0, 1) := by decide +kernel
theorem dX7_grip_44 : decode cX7_grip 44 = .ok (.getfield 52, 3) := by decide +kernel
theorem dX7_grip_47 : decode cX7_grip 47 = .ok (.aload_n 0, 1) := by decide +kernel
theorem dX7_grip_48 : decode cX7_grip 48 = .ok (.getfield 19, 3) := by decide +kernel
theorem dX7_grip_51 : decode cX7_grip 51 = .ok (.invokevirtual 143, 3) := by decide +kernel
theorem dX7_grip_54 : decode cX7_grip 54 = .ok (.aload_n 0, 1) := by decide +kernel
theorem dX7_grip_55 : decode cX7_grip 55 = .ok (.getfield 19, 3) := by decide +kernel
theorem dX7_grip_58 : decode cX7_grip 58 = .ok (.getfield 112, 3) := by decide +kernel
theorem dX7_grip_61 : decode cX7_grip 61 = .ok (.iload_n 1, 1) := by decide +kernel
theorem dX7_grip_62 : decode cX7_grip 62 = .ok (.iload_n 2, 1) := by decide +kernel
theorem dX7_grip_63 : decode cX7_grip 63 = .ok (.invokestatic 166, 3) := by decide +kernel
theorem dX7_grip_66 : decode cX7_grip 66 = .ok (.iload_n 3, 1) := by decide +kernel
theorem dX7_grip_67 : decode cX7_grip 67 = .ok (.ireturn, 1) := by decide +kernel
theorem dX7_undo_0 : decode cX7_undo 0 = .ok (.aload_n 0, 1) := by decide +kernel
theorem dX7_undo_1 : decode cX7_undo 1 = .ok (.getfield 52, 3) := by decide +kernel
theorem dX7_undo_4 : decode cX7_undo 4 = .ok (.aload_n 0, 1) := by decide +kernel
theorem dX7_undo_5 : decode cX7_undo 5 = .ok (.getfield 19, 3) := by decide +kernel
theorem dX7_undo_8 : decode cX7_undo 8 = .ok (.invokevirtual 170, 3) := by decide +kernel
theorem dX7_undo_11 : decode cX7_undo 11 = .ok (.ifCond .eq 13, 3) := by decide +kernel
theorem dX7_undo_14 : decode cX7_undo 14 = .ok (.aload_n 0, 1) := by decide +kernel
theorem dX7_undo_15 : decode cX7_undo 15 = .ok (.getfield 52, 3) := by decide +kernel
theorem dX7_undo_18 : decode cX7_undo 18 = .ok (.getfield 174, 3) := by decide +kernel
theorem dX7_undo_21 : decode cX7_undo 21 = .ok (.goto 5, 3) := by decide +kernel
theorem dX7_undo_24 : decode cX7_undo 24 = .ok (.bipush (-2), 2) := by decide +kernel
theorem dX7_undo_26 : decode cX7_undo 26 = .ok (.ireturn, 1) := by decide +kernel
theorem dX7_drops_0 : decode cX7_drops 0 = .ok (.aload_n 0, 1) := by decide +kernel
theorem dX7_drops_1 : decode cX7_drops 1 = .ok (.getfield 19, 3) := by decide +kernel
theorem dX7_drops_4 : decode cX7_drops 4 = .ok (.iload_n 1, 1) := by decide +kernel
theorem dX7_drops_5 : decode cX7_drops 5 = .ok (.invokevirtual 101, 3) := by decide +kernel
theorem dX7_drops_8 : decode cX7_drops 8 = .ok (.ifCond .ne 5, 3) := by decide +kernel
theorem dX7_drops_11 : decode cX7_drops 11 = .ok (.iconst (-1), 1) := by decide +kernel
theorem dX7_drops_12 : decode cX7_drops 12 = .ok (.ireturn, 1) := by decide +kernel
theorem dX7_drops_13 : decode cX7_drops 13 = .ok (.aload_n 0, 1) := by decide +kernel
theorem dX7_drops_14 : decode cX7_drops 14 = .ok (.getfield 29, 3) := by decide +kernel
theorem dX7_drops_17 : decode cX7_drops 17 = .ok (.aload_n 0, 1) := by decide +kernel
theorem dX7_drops_18 : decode cX7_drops 18 = .ok (.getfield 19, 3) := by decide +kernel
theorem dX7_drops_21 : decode cX7_drops 21 = .ok (.invokevirtual 177, 3) := by decide +kernel
theorem dX7_drops_24 : decode cX7_drops 24 = .ok (.aload_n 0, 1) := by decide +kernel
theorem dX7_drops_25 : decode cX7_drops 25 = .ok (.getfield 29, 3) := by decide +kernel
theorem dX7_drops_28 : decode cX7_drops 28 = .ok (.getfield 180, 3) := by decide +kernel
theorem dX7_drops_31 : decode cX7_drops 31 = .ok (.iload_n 1, 1) := by decide +kernel
theorem dX7_drops_32 : decode cX7_drops 32 = .ok (.invokestatic 108, 3) := by decide +kernel
theorem dX7_drops_35 : decode cX7_drops 35 = .ok (.istore_n 2, 1) := by decide +kernel
theorem dX7_drops_36 : decode cX7_drops 36 = .ok (.iload_n 2, 1) := by decide +kernel
theorem dX7_drops_37 : decode cX7_drops 37 = .ok (.bipush 7, 2) := by decide +kernel
theorem dX7_drops_39 : decode cX7_drops 39 = .ok (.if_icmp .ne 8, 3) := by decide +kernel
theorem dX7_drops_42 : decode cX7_drops 42 = .ok (.bipush (-4), 2) := by decide +kernel
theorem dX7_drops_44 : decode cX7_drops 44 = .ok (.goto 4, 3) := by decide +kernel
theorem dX7_drops_47 : decode cX7_drops 47 = .ok (.iload_n 2, 1) := by decide +kernel
theorem dX7_drops_48 : decode cX7_drops 48 = .ok (.ireturn, 1) := by decide +kernel
theorem dX7_told_0 : decode cX7_told 0 = .ok (.aload_n 0, 1) := by decide +kernel
theorem dX7_told_1 : decode cX7_told 1 = .ok (.getfield 29, 3) := by decide +kernel
theorem dX7_told_4 : decode cX7_told 4 = .ok (.aload_n 0, 1) := by decide +kernel
theorem dX7_told_5 : decode cX7_told 5 = .ok (.getfield 19, 3) := by decide +kernel
theorem dX7_told_8 : decode cX7_told 8 = .ok (.invokevirtual 177, 3) := by decide +kernel
theorem dX7_told_11 : decode cX7_told 11 = .ok (.aload_n 0, 1) := by decide +kernel
theorem dX7_told_12 : decode cX7_told 12 = .ok (.getfield 29, 3) := by decide +kernel
theorem dX7_told_15 : decode cX7_told 15 = .ok (.getfield 183, 3) := by decide +kernel
theorem dX7_told_18 : decode cX7_told 18 = .ok (.getfield 187, 3) := by decide +kernel
theorem dX7_told_21 : decode cX7_told 21 = .ok (.ireturn, 1) := by decide +kernel
theorem dX7_hot_0 : decode cX7_hot 0 = .ok (.aload_n 0, 1) := by decide +kernel
theorem dX7_hot_1 : decode cX7_hot 1 = .ok (.getfield 19, 3) := by decide +kernel
theorem dX7_hot_4 : decode cX7_hot 4 = .ok (.iload_n 1, 1) := by decide +kernel
theorem dX7_hot_5 : decode cX7_hot 5 = .ok (.invokevirtual 125, 3) := by decide +kernel
theorem dX7_hot_8 : decode cX7_hot 8 = .ok (.ifCond .ne 5, 3) := by decide +kernel
theorem dX7_hot_11 : decode cX7_hot 11 = .ok (.iconst (-1), 1) := by decide +kernel
theorem dX7_hot_12 : decode cX7_hot 12 = .ok (.ireturn, 1) := by decide +kernel
theorem dX7_hot_13 : decode cX7_hot 13 = .ok (.aload_n 0, 1) := by decide +kernel
theorem dX7_hot_14 : decode cX7_hot 14 = .ok (.getfield 29, 3) := by decide +kernel
theorem dX7_hot_17 : decode cX7_hot 17 = .ok (.aload_n 0, 1) := by decide +kernel
theorem dX7_hot_18 : decode cX7_hot 18 = .ok (.getfield 19, 3) := by decide +kernel
theorem dX7_hot_21 : decode cX7_hot 21 = .ok (.invokevirtual 177, 3) := by decide +kernel
theorem dX7_hot_24 : decode cX7_hot 24 = .ok (.aload_n 0, 1) := by decide +kernel
theorem dX7_hot_25 : decode cX7_hot 25 = .ok (.getfield 29, 3) := by decide +kernel
theorem dX7_hot_28 : decode cX7_hot 28 = .ok (.getfield 192, 3) := by decide +kernel
theorem dX7_hot_31 : decode cX7_hot 31 = .ok (.iload_n 1, 1) := by decide +kernel
theorem dX7_hot_32 : decode cX7_hot 32 = .ok (.invokestatic 108, 3) := by decide +kernel
theorem dX7_hot_35 : decode cX7_hot 35 = .ok (.ireturn, 1) := by decide +kernel
theorem dX7_hottest_0 : decode cX7_hottest 0 = .ok (.aload_n 0, 1) := by decide +kernel
theorem dX7_hottest_1 : decode cX7_hottest 1 = .ok (.getfield 29, 3) := by decide +kernel
theorem dX7_hottest_4 : decode cX7_hottest 4 = .ok (.aload_n 0, 1) := by decide +kernel
theorem dX7_hottest_5 : decode cX7_hottest 5 = .ok (.getfield 19, 3) := by decide +kernel
theorem dX7_hottest_8 : decode cX7_hottest 8 = .ok (.invokevirtual 177, 3) := by decide +kernel
theorem dX7_hottest_11 : decode cX7_hottest 11 = .ok (.aload_n 0, 1) := by decide +kernel
theorem dX7_hottest_12 : decode cX7_hottest 12 = .ok (.getfield 29, 3) := by decide +kernel
theorem dX7_hottest_15 : decode cX7_hottest 15 = .ok (.getfield 195, 3) := by decide +kernel
theorem dX7_hottest_18 : decode cX7_hottest 18 = .ok (.ireturn, 1) := by decide +kernel
theorem dX7_order_0 : decode cX7_order 0 = .ok (.iload_n 1, 1) := by decide +kernel
theorem dX7_order_1 : decode cX7_order 1 = .ok (.iconst (-1), 1) := by decide +kernel
theorem dX7_order_2 : decode cX7_order 2 = .ok (.if_icmp .eq 16, 3) := by decide +kernel
theorem dX7_order_5 : decode cX7_order 5 = .ok (.aload_n 0, 1) := by decide +kernel
theorem dX7_order_6 : decode cX7_order 6 = .ok (.getfield 19, 3) := by decide +kernel
theorem dX7_order_9 : decode cX7_order 9 = .ok (.iload_n 1, 1) := by decide +kernel
theorem dX7_order_10 : decode cX7_order 10 = .ok (.invokevirtual 125, 3) := by decide +kernel
theorem dX7_order_13 : decode cX7_order 13 = .ok (.ifCond .ne 5, 3) := by decide +kernel
theorem dX7_order_16 : decode cX7_order 16 = .ok (.iconst (-1), 1) := by decide +kernel
theorem dX7_order_17 : decode cX7_order 17 = .ok (.ireturn, 1) := by decide +kernel
theorem dX7_order_18 : decode cX7_order 18 = .ok (.aload_n 0, 1) := by decide +kernel
theorem dX7_order_19 : decode cX7_order 19 = .ok (.getfield 36, 3) := by decide +kernel
theorem dX7_order_22 : decode cX7_order 22 = .ok (.aload_n 0, 1) := by decide +kernel
theorem dX7_order_23 : decode cX7_order 23 = .ok (.getfield 19, 3) := by decide +kernel
theorem dX7_order_26 : decode cX7_order 26 = .ok (.invokevirtual 198, 3) := by decide +kernel
theorem dX7_order_29 : decode cX7_order 29 = .ok (.iload_n 1, 1) := by decide +kernel
theorem dX7_order_30 : decode cX7_order 30 = .ok (.iconst (-1), 1) := by decide +kernel
theorem dX7_order_31 : decode cX7_order 31 = .ok (.if_icmp .ne 13, 3) := by decide +kernel
theorem dX7_order_34 : decode cX7_order 34 = .ok (.aload_n 0, 1) := by decide +kernel
theorem dX7_order_35 : decode cX7_order 35 = .ok (.getfield 36, 3) := by decide +kernel
theorem dX7_order_38 : decode cX7_order 38 = .ok (.getfield 201, 3) := by decide +kernel
theorem dX7_order_41 : decode cX7_order 41 = .ok (.goto 14, 3) := by decide +kernel
theorem dX7_order_44 : decode cX7_order 44 = .ok (.aload_n 0, 1) := by decide +kernel
theorem dX7_order_45 : decode cX7_order 45 = .ok (.getfield 36, 3) := by decide +kernel
theorem dX7_order_48 : decode cX7_order 48 = .ok (.getfield 202, 3) := by decide +kernel
theorem dX7_order_51 : decode cX7_order 51 = .ok (.iload_n 1, 1) := by decide +kernel
theorem dX7_order_52 : decode cX7_order 52 = .ok (.invokestatic 108, 3) := by decide +kernel
theorem dX7_order_55 : decode cX7_order 55 = .ok (.ireturn, 1) := by decide +kernel
theorem dX7_leave_0 : decode cX7_leave 0 = .ok (.aload_n 0, 1) := by decide +kernel
theorem dX7_leave_1 : decode cX7_leave 1 = .ok (.getfield 19, 3) := by decide +kernel
theorem dX7_leave_4 : decode cX7_leave 4 = .ok (.iload_n 1, 1) := by decide +kernel
theorem dX7_leave_5 : decode cX7_leave 5 = .ok (.invokevirtual 101, 3) := by decide +kernel
theorem dX7_leave_8 : decode cX7_leave 8 = .ok (.ifCond .eq 12, 3) := by decide +kernel
theorem dX7_leave_11 : decode cX7_leave 11 = .ok (.iload_n 2, 1) := by decide +kernel
theorem dX7_leave_12 : decode cX7_leave 12 = .ok (.iconst 0, 1) := by decide +kernel
theorem dX7_leave_13 : decode cX7_leave 13 = .ok (.iconst 1, 1) := by decide +kernel
theorem dX7_leave_14 : decode cX7_leave 14 = .ok (.invokestatic 82, 3) := by decide +kernel
theorem dX7_leave_17 : decode cX7_leave 17 = .ok (.ifCond .ne 5, 3) := by decide +kernel
theorem dX7_leave_20 : decode cX7_leave 20 = .ok (.iconst (-1), 1) := by decide +kernel
theorem dX7_leave_21 : decode cX7_leave 21 = .ok (.ireturn, 1) := by decide +kernel
theorem dX7_leave_22 : decode cX7_leave 22 = .ok (.aload_n 0, 1) := by decide +kernel
theorem dX7_leave_23 : decode cX7_leave 23 = .ok (.iload_n 1, 1) := by decide +kernel
theorem dX7_leave_24 : decode cX7_leave 24 = .ok (.invokevirtual 205, 3) := by decide +kernel
theorem dX7_leave_27 : decode cX7_leave 27 = .ok (.istore_n 3, 1) := by decide +kernel
theorem dX7_leave_28 : decode cX7_leave 28 = .ok (.iload_n 2, 1) := by decide +kernel
theorem dX7_leave_29 : decode cX7_leave 29 = .ok (.ifCond .ne 10, 3) := by decide +kernel
theorem dX7_leave_32 : decode cX7_leave 32 = .ok (.iload_n 3, 1) := by decide +kernel
theorem dX7_leave_33 : decode cX7_leave 33 = .ok (.invokestatic 209, 3) := by decide +kernel
theorem dX7_leave_36 : decode cX7_leave 36 = .ok (.goto 4, 3) := by decide +kernel
theorem dX7_leave_39 : decode cX7_leave 39 = .ok (.iload_n 3, 1) := by decide +kernel
theorem dX7_leave_40 : decode cX7_leave 40 = .ok (.ireturn, 1) := by decide +kernel
theorem dX7_holds_0 : decode cX7_holds 0 = .ok (.aload_n 0, 1) := by decide +kernel
theorem dX7_holds_1 : decode cX7_holds 1 = .ok (.getfield 19, 3) := by decide +kernel
theorem dX7_holds_4 : decode cX7_holds 4 = .ok (.iload_n 1, 1) := by decide +kernel
theorem dX7_holds_5 : decode cX7_holds 5 = .ok (.invokevirtual 101, 3) := by decide +kernel
theorem dX7_holds_8 : decode cX7_holds 8 = .ok (.ifCond .eq 12, 3) := by decide +kernel
theorem dX7_holds_11 : decode cX7_holds 11 = .ok (.iload_n 2, 1) := by decide +kernel
theorem dX7_holds_12 : decode cX7_holds 12 = .ok (.iconst 0, 1) := by decide +kernel
theorem dX7_holds_13 : decode cX7_holds 13 = .ok (.iconst 1, 1) := by decide +kernel
theorem dX7_holds_14 : decode cX7_holds 14 = .ok (.invokestatic 82, 3) := by decide +kernel
theorem dX7_holds_17 : decode cX7_holds 17 = .ok (.ifCond .ne 5, 3) := by decide +kernel
theorem dX7_holds_20 : decode cX7_holds 20 = .ok (.iconst (-1), 1) := by decide +kernel
theorem dX7_holds_21 : decode cX7_holds 21 = .ok (.ireturn, 1) := by decide +kernel
theorem dX7_holds_22 : decode cX7_holds 22 = .ok (.iconst 0, 1) := by decide +kernel
theorem dX7_holds_23 : decode cX7_holds 23 = .ok (.istore_n 3, 1) := by decide +kernel
theorem dX7_holds_24 : decode cX7_holds 24 = .ok (.bipush 6, 2) := by decide +kernel
theorem dX7_holds_26 : decode cX7_holds 26 = .ok (.istore 4, 2) := by decide +kernel
theorem dX7_holds_28 : decode cX7_holds 28 = .ok (.iconst 0, 1) := by decide +kernel
theorem dX7_holds_29 : decode cX7_holds 29 = .ok (.istore 5, 2) := by decide +kernel
theorem dX7_holds_31 : decode cX7_holds 31 = .ok (.iload 5, 2) := by decide +kernel
theorem dX7_holds_33 : decode cX7_holds 33 = .ok (.aload_n 0, 1) := by decide +kernel
theorem dX7_holds_34 : decode cX7_holds 34 = .ok (.getfield 19, 3) := by decide +kernel
theorem dX7_holds_37 : decode cX7_holds 37 = .ok (.getfield 89, 3) := by decide +kernel
theorem dX7_holds_40 : decode cX7_holds 40 = .ok (.if_icmp .ge 32, 3) := by decide +kernel
theorem dX7_holds_43 : decode cX7_holds 43 = .ok (.aload_n 0, 1) := by decide +kernel
theorem dX7_holds_44 : decode cX7_holds 44 = .ok (.iload_n 1, 1) := by decide +kernel
theorem dX7_holds_45 : decode cX7_holds 45 = .ok (.iload 5, 2) := by decide +kernel
theorem dX7_holds_47 : decode cX7_holds 47 = .ok (.invokevirtual 214, 3) := by decide +kernel
theorem dX7_holds_50 : decode cX7_holds 50 = .ok (.istore 6, 2) := by decide +kernel
theorem dX7_holds_52 : decode cX7_holds 52 = .ok (.iload 6, 2) := by decide +kernel
theorem dX7_holds_54 : decode cX7_holds 54 = .ok (.iload 4, 2) := by decide +kernel
theorem dX7_holds_56 : decode cX7_holds 56 = .ok (.if_icmp .ge 10, 3) := by decide +kernel
theorem dX7_holds_59 : decode cX7_holds 59 = .ok (.iload 5, 2) := by decide +kernel
theorem dX7_holds_61 : decode cX7_holds 61 = .ok (.istore_n 3, 1) := by decide +kernel
theorem dX7_holds_62 : decode cX7_holds 62 = .ok (.iload 6, 2) := by decide +kernel
theorem dX7_holds_64 : decode cX7_holds 64 = .ok (.istore 4, 2) := by decide +kernel
theorem dX7_holds_66 : decode cX7_holds 66 = .ok (.iinc 5 1, 3) := by decide +kernel
theorem dX7_holds_69 : decode cX7_holds 69 = .ok (.goto (-38), 3) := by decide +kernel
theorem dX7_holds_72 : decode cX7_holds 72 = .ok (.iload_n 2, 1) := by decide +kernel
theorem dX7_holds_73 : decode cX7_holds 73 = .ok (.ifCond .ne 7, 3) := by decide +kernel
theorem dX7_holds_76 : decode cX7_holds 76 = .ok (.iload_n 3, 1) := by decide +kernel
theorem dX7_holds_77 : decode cX7_holds 77 = .ok (.goto 5, 3) := by decide +kernel
theorem dX7_holds_80 : decode cX7_holds 80 = .ok (.iload 4, 2) := by decide +kernel
theorem dX7_holds_82 : decode cX7_holds 82 = .ok (.ireturn, 1) := by decide +kernel
theorem dX7_seen_0 : decode cX7_seen 0 = .ok (.aload_n 0, 1) := by decide +kernel
theorem dX7_seen_1 : decode cX7_seen 1 = .ok (.getfield 19, 3) := by decide +kernel
theorem dX7_seen_4 : decode cX7_seen 4 = .ok (.iload_n 1, 1) := by decide +kernel
theorem dX7_seen_5 : decode cX7_seen 5 = .ok (.invokevirtual 101, 3) := by decide +kernel
theorem dX7_seen_8 : decode cX7_seen 8 = .ok (.ifCond .eq 13, 3) := by decide +kernel
theorem dX7_seen_11 : decode cX7_seen 11 = .ok (.iload_n 2, 1) := by decide +kernel
theorem dX7_seen_12 : decode cX7_seen 12 = .ok (.iconst 0, 1) := by decide +kernel
theorem dX7_seen_13 : decode cX7_seen 13 = .ok (.bipush 7, 2) := by decide +kernel
theorem dX7_seen_15 : decode cX7_seen 15 = .ok (.invokestatic 82, 3) := by decide +kernel
theorem dX7_seen_18 : decode cX7_seen 18 = .ok (.ifCond .ne 5, 3) := by decide +kernel
theorem dX7_seen_21 : decode cX7_seen 21 = .ok (.iconst (-1), 1) := by decide +kernel
theorem dX7_seen_22 : decode cX7_seen 22 = .ok (.ireturn, 1) := by decide +kernel
theorem dX7_seen_23 : decode cX7_seen 23 = .ok (.aload_n 0, 1) := by decide +kernel
theorem dX7_seen_24 : decode cX7_seen 24 = .ok (.getfield 43, 3) := by decide +kernel
theorem dX7_seen_27 : decode cX7_seen 27 = .ok (.iload_n 1, 1) := by decide +kernel
theorem dX7_seen_28 : decode cX7_seen 28 = .ok (.iload_n 2, 1) := by decide +kernel
theorem dX7_seen_29 : decode cX7_seen 29 = .ok (.invokevirtual 217, 3) := by decide +kernel
theorem dX7_seen_32 : decode cX7_seen 32 = .ok (.ifCond .eq 13, 3) := by decide +kernel
theorem dX7_seen_35 : decode cX7_seen 35 = .ok (.aload_n 0, 1) := by decide +kernel
theorem dX7_seen_36 : decode cX7_seen 36 = .ok (.getfield 43, 3) := by decide +kernel
theorem dX7_seen_39 : decode cX7_seen 39 = .ok (.getfield 221, 3) := by decide +kernel
theorem dX7_seen_42 : decode cX7_seen 42 = .ok (.goto 5, 3) := by decide +kernel
theorem dX7_seen_45 : decode cX7_seen 45 = .ok (.bipush (-3), 2) := by decide +kernel
theorem dX7_seen_47 : decode cX7_seen 47 = .ok (.ireturn, 1) := by decide +kernel
theorem dX7_forget_0 : decode cX7_forget 0 = .ok (.aload_n 0, 1) := by decide +kernel
theorem dX7_forget_1 : decode cX7_forget 1 = .ok (.getfield 43, 3) := by decide +kernel
theorem dX7_forget_4 : decode cX7_forget 4 = .ok (.getfield 221, 3) := by decide +kernel
theorem dX7_forget_7 : decode cX7_forget 7 = .ok (.istore_n 1, 1) := by decide +kernel
theorem dX7_forget_8 : decode cX7_forget 8 = .ok (.aload_n 0, 1) := by decide +kernel
theorem dX7_forget_9 : decode cX7_forget 9 = .ok (.getfield 43, 3) := by decide +kernel
theorem dX7_forget_12 : decode cX7_forget 12 = .ok (.invokevirtual 99, 3) := by decide +kernel
theorem dX7_forget_15 : decode cX7_forget 15 = .ok (.iload_n 1, 1) := by decide +kernel
theorem dX7_forget_16 : decode cX7_forget 16 = .ok (.ireturn, 1) := by decide +kernel
theorem dX7_worlds_0 : decode cX7_worlds 0 = .ok (.iload_n 1, 1) := by decide +kernel
theorem dX7_worlds_1 : decode cX7_worlds 1 = .ok (.iconst 0, 1) := by decide +kernel
theorem dX7_worlds_2 : decode cX7_worlds 2 = .ok (.iconst 3, 1) := by decide +kernel
theorem dX7_worlds_3 : decode cX7_worlds 3 = .ok (.invokestatic 82, 3) := by decide +kernel
theorem dX7_worlds_6 : decode cX7_worlds 6 = .ok (.ifCond .ne 5, 3) := by decide +kernel
theorem dX7_worlds_9 : decode cX7_worlds 9 = .ok (.iconst (-1), 1) := by decide +kernel
theorem dX7_worlds_10 : decode cX7_worlds 10 = .ok (.ireturn, 1) := by decide +kernel
theorem dX7_worlds_11 : decode cX7_worlds 11 = .ok (.aload_n 0, 1) := by decide +kernel
theorem dX7_worlds_12 : decode cX7_worlds 12 = .ok (.invokevirtual 222, 3) := by decide +kernel
theorem dX7_worlds_15 : decode cX7_worlds 15 = .ok (.lstore_n 2, 1) := by decide +kernel
theorem dX7_worlds_16 : decode cX7_worlds 16 = .ok (.iload_n 1, 1) := by decide +kernel
theorem dX7_worlds_17 : decode cX7_worlds 17 = .ok (.ifCond .ne 8, 3) := by decide +kernel
theorem dX7_worlds_20 : decode cX7_worlds 20 = .ok (.lload_n 2, 1) := by decide +kernel
theorem dX7_worlds_21 : decode cX7_worlds 21 = .ok (.invokestatic 226, 3) := by decide +kernel
theorem dX7_worlds_24 : decode cX7_worlds 24 = .ok (.ireturn, 1) := by decide +kernel
theorem dX7_worlds_25 : decode cX7_worlds 25 = .ok (.lload_n 2, 1) := by decide +kernel
theorem dX7_worlds_26 : decode cX7_worlds 26 = .ok (.lconst 0, 1) := by decide +kernel
theorem dX7_worlds_27 : decode cX7_worlds 27 = .ok (.lcmp, 1) := by decide +kernel
theorem dX7_worlds_28 : decode cX7_worlds 28 = .ok (.ifCond .ne 6, 3) := by decide +kernel
theorem dX7_worlds_31 : decode cX7_worlds 31 = .ok (.bipush (-4), 2) := by decide +kernel
theorem dX7_worlds_33 : decode cX7_worlds 33 = .ok (.ireturn, 1) := by decide +kernel
theorem dX7_worlds_34 : decode cX7_worlds 34 = .ok (.iload_n 1, 1) := by decide +kernel
theorem dX7_worlds_35 : decode cX7_worlds 35 = .ok (.lookupswitch 38 #[(1, 25), (2, 31)], 25) := by decide +kernel
theorem dX7_worlds_60 : decode cX7_worlds 60 = .ok (.aload_n 0, 1) := by decide +kernel
theorem dX7_worlds_61 : decode cX7_worlds 61 = .ok (.lload_n 2, 1) := by decide +kernel
theorem dX7_worlds_62 : decode cX7_worlds 62 = .ok (.invokevirtual 231, 3) := by decide +kernel
theorem dX7_worlds_65 : decode cX7_worlds 65 = .ok (.ireturn, 1) := by decide +kernel
theorem dX7_worlds_66 : decode cX7_worlds 66 = .ok (.aload_n 0, 1) := by decide +kernel
theorem dX7_worlds_67 : decode cX7_worlds 67 = .ok (.lload_n 2, 1) := by decide +kernel
theorem dX7_worlds_68 : decode cX7_worlds 68 = .ok (.iconst 0, 1) := by decide +kernel
theorem dX7_worlds_69 : decode cX7_worlds 69 = .ok (.invokevirtual 234, 3) := by decide +kernel
theorem dX7_worlds_72 : decode cX7_worlds 72 = .ok (.ireturn, 1) := by decide +kernel
theorem dX7_worlds_73 : decode cX7_worlds 73 = .ok (.aload_n 0, 1) := by decide +kernel
theorem dX7_worlds_74 : decode cX7_worlds 74 = .ok (.lload_n 2, 1) := by decide +kernel
theorem dX7_worlds_75 : decode cX7_worlds 75 = .ok (.aload_n 0, 1) := by decide +kernel
theorem dX7_worlds_76 : decode cX7_worlds 76 = .ok (.getfield 19, 3) := by decide +kernel
theorem dX7_worlds_79 : decode cX7_worlds 79 = .ok (.invokevirtual 238, 3) := by decide +kernel
theorem dX7_worlds_82 : decode cX7_worlds 82 = .ok (.iconst 1, 1) := by decide +kernel
theorem dX7_worlds_83 : decode cX7_worlds 83 = .ok (.isub, 1) := by decide +kernel
theorem dX7_worlds_84 : decode cX7_worlds 84 = .ok (.invokevirtual 234, 3) := by decide +kernel
theorem dX7_worlds_87 : decode cX7_worlds 87 = .ok (.ireturn, 1) := by decide +kernel
theorem dX7_next_0 : decode cX7_next 0 = .ok (.aload_n 0, 1) := by decide +kernel
theorem dX7_next_1 : decode cX7_next 1 = .ok (.getfield 19, 3) := by decide +kernel
theorem dX7_next_4 : decode cX7_next 4 = .ok (.iload_n 1, 1) := by decide +kernel
theorem dX7_next_5 : decode cX7_next 5 = .ok (.invokevirtual 101, 3) := by decide +kernel
theorem dX7_next_8 : decode cX7_next 8 = .ok (.ifCond .eq 13, 3) := by decide +kernel
theorem dX7_next_11 : decode cX7_next 11 = .ok (.iload_n 2, 1) := by decide +kernel
theorem dX7_next_12 : decode cX7_next 12 = .ok (.iconst 1, 1) := by decide +kernel
theorem dX7_next_13 : decode cX7_next 13 = .ok (.bipush 20, 2) := by decide +kernel
theorem dX7_next_15 : decode cX7_next 15 = .ok (.invokestatic 82, 3) := by decide +kernel
theorem dX7_next_18 : decode cX7_next 18 = .ok (.ifCond .ne 5, 3) := by decide +kernel
theorem dX7_next_21 : decode cX7_next 21 = .ok (.iconst (-1), 1) := by decide +kernel
theorem dX7_next_22 : decode cX7_next 22 = .ok (.ireturn, 1) := by decide +kernel
theorem dX7_next_23 : decode cX7_next 23 = .ok (.aload_n 0, 1) := by decide +kernel
theorem dX7_next_24 : decode cX7_next 24 = .ok (.invokevirtual 222, 3) := by decide +kernel
theorem dX7_next_27 : decode cX7_next 27 = .ok (.lstore_n 3, 1) := by decide +kernel
theorem dX7_next_28 : decode cX7_next 28 = .ok (.aload_n 0, 1) := by decide +kernel
theorem dX7_next_29 : decode cX7_next 29 = .ok (.getfield 19, 3) := by decide +kernel
theorem dX7_next_32 : decode cX7_next 32 = .ok (.getfield 153, 3) := by decide +kernel
theorem dX7_next_35 : decode cX7_next 35 = .ok (.bipush 7, 2) := by decide +kernel
theorem dX7_next_37 : decode cX7_next 37 = .ok (.if_icmp .ge 9, 3) := by decide +kernel
theorem dX7_next_40 : decode cX7_next 40 = .ok (.lload_n 3, 1) := by decide +kernel
theorem dX7_next_41 : decode cX7_next 41 = .ok (.lconst 0, 1) := by decide +kernel
theorem dX7_next_42 : decode cX7_next 42 = .ok (.lcmp, 1) := by decide +kernel
theorem dX7_next_43 : decode cX7_next 43 = .ok (.ifCond .ne 6, 3) := by decide +kernel
theorem dX7_next_46 : decode cX7_next 46 = .ok (.bipush (-4), 2) := by decide +kernel
theorem dX7_next_48 : decode cX7_next 48 = .ok (.ireturn, 1) := by decide +kernel
theorem dX7_next_49 : decode cX7_next 49 = .ok (.bipush (-4), 2) := by decide +kernel
theorem dX7_next_51 : decode cX7_next 51 = .ok (.istore 5, 2) := by decide +kernel
theorem dX7_next_53 : decode cX7_next 53 = .ok (.aload_n 0, 1) := by decide +kernel
theorem dX7_next_54 : decode cX7_next 54 = .ok (.getfield 19, 3) := by decide +kernel
theorem dX7_next_57 : decode cX7_next 57 = .ok (.invokevirtual 238, 3) := by decide +kernel
theorem dX7_next_60 : decode cX7_next 60 = .ok (.iconst 1, 1) := by decide +kernel
theorem dX7_next_61 : decode cX7_next 61 = .ok (.iadd, 1) := by decide +kernel
theorem dX7_next_62 : decode cX7_next 62 = .ok (.istore 6, 2) := by decide +kernel
theorem dX7_next_64 : decode cX7_next 64 = .ok (.iconst 0, 1) := by decide +kernel
theorem dX7_next_65 : decode cX7_next 65 = .ok (.istore 7, 2) := by decide +kernel
theorem dX7_next_67 : decode cX7_next 67 = .ok (.iload 7, 2) := by decide +kernel
theorem dX7_next_69 : decode cX7_next 69 = .ok (.aload_n 0, 1) := by decide +kernel
theorem dX7_next_70 : decode cX7_next 70 = .ok (.getfield 19, 3) := by decide +kernel
theorem dX7_next_73 : decode cX7_next 73 = .ok (.getfield 92, 3) := by decide +kernel
theorem dX7_next_76 : decode cX7_next 76 = .ok (.if_icmp .ge 49, 3) := by decide +kernel
theorem dX7_next_79 : decode cX7_next 79 = .ok (.aload_n 0, 1) := by decide +kernel
theorem dX7_next_80 : decode cX7_next 80 = .ok (.lload_n 3, 1) := by decide +kernel
theorem dX7_next_81 : decode cX7_next 81 = .ok (.iload_n 1, 1) := by decide +kernel
theorem dX7_next_82 : decode cX7_next 82 = .ok (.iload 7, 2) := by decide +kernel
theorem dX7_next_84 : decode cX7_next 84 = .ok (.iload_n 2, 1) := by decide +kernel
theorem dX7_next_85 : decode cX7_next 85 = .ok (.invokevirtual 241, 3) := by decide +kernel
theorem dX7_next_88 : decode cX7_next 88 = .ok (.istore 8, 2) := by decide +kernel
theorem dX7_next_90 : decode cX7_next 90 = .ok (.iload 8, 2) := by decide +kernel
theorem dX7_next_92 : decode cX7_next 92 = .ok (.lload_n 3, 1) := by decide +kernel
theorem dX7_next_93 : decode cX7_next 93 = .ok (.invokestatic 226, 3) := by decide +kernel
theorem dX7_next_96 : decode cX7_next 96 = .ok (.iload 8, 2) := by decide +kernel
theorem dX7_next_98 : decode cX7_next 98 = .ok (.isub, 1) := by decide +kernel
theorem dX7_next_99 : decode cX7_next 99 = .ok (.invokestatic 245, 3) := by decide +kernel
theorem dX7_next_102 : decode cX7_next 102 = .ok (.istore 9, 2) := by decide +kernel
theorem dX7_next_104 : decode cX7_next 104 = .ok (.iload 9, 2) := by decide +kernel
theorem dX7_next_106 : decode cX7_next 106 = .ok (.iload 6, 2) := by decide +kernel
theorem dX7_next_108 : decode cX7_next 108 = .ok (.if_icmp .ge 11, 3) := by decide +kernel
theorem dX7_next_111 : decode cX7_next 111 = .ok (.iload 7, 2) := by decide +kernel
theorem dX7_next_113 : decode cX7_next 113 = .ok (.istore 5, 2) := by decide +kernel
theorem dX7_next_115 : decode cX7_next 115 = .ok (.iload 9, 2) := by decide +kernel
theorem dX7_next_117 : decode cX7_next 117 = .ok (.istore 6, 2) := by decide +kernel
theorem dX7_next_119 : decode cX7_next 119 = .ok (.iinc 7 1, 3) := by decide +kernel
theorem dX7_next_122 : decode cX7_next 122 = .ok (.goto (-55), 3) := by decide +kernel
theorem dX7_next_125 : decode cX7_next 125 = .ok (.iload 5, 2) := by decide +kernel
theorem dX7_next_127 : decode cX7_next 127 = .ok (.ireturn, 1) := by decide +kernel
theorem dX7_kinds_0 : decode cX7_kinds 0 = .ok (.aload_n 0, 1) := by decide +kernel
theorem dX7_kinds_1 : decode cX7_kinds 1 = .ok (.getfield 19, 3) := by decide +kernel
theorem dX7_kinds_4 : decode cX7_kinds 4 = .ok (.iload_n 1, 1) := by decide +kernel
theorem dX7_kinds_5 : decode cX7_kinds 5 = .ok (.invokevirtual 101, 3) := by decide +kernel
theorem dX7_kinds_8 : decode cX7_kinds 8 = .ok (.ifCond .ne 5, 3) := by decide +kernel
theorem dX7_kinds_11 : decode cX7_kinds 11 = .ok (.iconst (-1), 1) := by decide +kernel
theorem dX7_kinds_12 : decode cX7_kinds 12 = .ok (.ireturn, 1) := by decide +kernel
theorem dX7_kinds_13 : decode cX7_kinds 13 = .ok (.aload_n 0, 1) := by decide +kernel
theorem dX7_kinds_14 : decode cX7_kinds 14 = .ok (.getfield 23, 3) := by decide +kernel
theorem dX7_kinds_17 : decode cX7_kinds 17 = .ok (.aload_n 0, 1) := by decide +kernel
theorem dX7_kinds_18 : decode cX7_kinds 18 = .ok (.getfield 19, 3) := by decide +kernel
theorem dX7_kinds_21 : decode cX7_kinds 21 = .ok (.invokevirtual 95, 3) := by decide +kernel
theorem dX7_kinds_24 : decode cX7_kinds 24 = .ok (.iconst 0, 1) := by decide +kernel
theorem dX7_kinds_25 : decode cX7_kinds 25 = .ok (.istore_n 2, 1) := by decide +kernel
theorem dX7_kinds_26 : decode cX7_kinds 26 = .ok (.iconst 0, 1) := by decide +kernel
theorem dX7_kinds_27 : decode cX7_kinds 27 = .ok (.istore_n 3, 1) := by decide +kernel
theorem dX7_kinds_28 : decode cX7_kinds 28 = .ok (.iload_n 3, 1) := by decide +kernel
theorem dX7_kinds_29 : decode cX7_kinds 29 = .ok (.iconst 3, 1) := by decide +kernel
theorem dX7_kinds_30 : decode cX7_kinds 30 = .ok (.if_icmp .gt 38, 3) := by decide +kernel
theorem dX7_kinds_33 : decode cX7_kinds 33 = .ok (.aload_n 0, 1) := by decide +kernel
theorem dX7_kinds_34 : decode cX7_kinds 34 = .ok (.getfield 23, 3) := by decide +kernel
theorem dX7_kinds_37 : decode cX7_kinds 37 = .ok (.getfield 104, 3) := by decide +kernel
theorem dX7_kinds_40 : decode cX7_kinds 40 = .ok (.iload_n 1, 1) := by decide +kernel
theorem dX7_kinds_41 : decode cX7_kinds 41 = .ok (.iload_n 3, 1) := by decide +kernel
theorem dX7_kinds_42 : decode cX7_kinds 42 = .ok (.invokestatic 166, 3) := by decide +kernel
theorem dX7_kinds_45 : decode cX7_kinds 45 = .ok (.aload_n 0, 1) := by decide +kernel
theorem dX7_kinds_46 : decode cX7_kinds 46 = .ok (.aload_n 0, 1) := by decide +kernel
theorem dX7_kinds_47 : decode cX7_kinds 47 = .ok (.getfield 23, 3) := by decide +kernel
theorem dX7_kinds_50 : decode cX7_kinds 50 = .ok (.invokevirtual 250, 3) := by decide +kernel
theorem dX7_kinds_53 : decode cX7_kinds 53 = .ok (.ifCond .eq 9, 3) := by decide +kernel
theorem dX7_kinds_56 : decode cX7_kinds 56 = .ok (.iload_n 2, 1) := by decide +kernel
theorem dX7_kinds_57 : decode cX7_kinds 57 = .ok (.iconst 1, 1) := by decide +kernel
theorem dX7_kinds_58 : decode cX7_kinds 58 = .ok (.iload_n 3, 1) := by decide +kernel
theorem dX7_kinds_59 : decode cX7_kinds 59 = .ok (.ishl, 1) := by decide +kernel
theorem dX7_kinds_60 : decode cX7_kinds 60 = .ok (.ior, 1) := by decide +kernel
theorem dX7_kinds_61 : decode cX7_kinds 61 = .ok (.istore_n 2, 1) := by decide +kernel
theorem dX7_kinds_62 : decode cX7_kinds 62 = .ok (.iinc 3 1, 3) := by decide +kernel
theorem dX7_kinds_65 : decode cX7_kinds 65 = .ok (.goto (-37), 3) := by decide +kernel
theorem dX7_kinds_68 : decode cX7_kinds 68 = .ok (.iload_n 2, 1) := by decide +kernel
theorem dX7_kinds_69 : decode cX7_kinds 69 = .ok (.ireturn, 1) := by decide +kernel
theorem dX7_grips_0 : decode cX7_grips 0 = .ok (.aload_n 0, 1) := by decide +kernel
theorem dX7_grips_1 : decode cX7_grips 1 = .ok (.getfield 19, 3) := by decide +kernel
theorem dX7_grips_4 : decode cX7_grips 4 = .ok (.iload_n 1, 1) := by decide +kernel
theorem dX7_grips_5 : decode cX7_grips 5 = .ok (.invokevirtual 101, 3) := by decide +kernel
theorem dX7_grips_8 : decode cX7_grips 8 = .ok (.ifCond .eq 12, 3) := by decide +kernel
theorem dX7_grips_11 : decode cX7_grips 11 = .ok (.iload_n 2, 1) := by decide +kernel
theorem dX7_grips_12 : decode cX7_grips 12 = .ok (.iconst 0, 1) := by decide +kernel
theorem dX7_grips_13 : decode cX7_grips 13 = .ok (.iconst 1, 1) := by decide +kernel
theorem dX7_grips_14 : decode cX7_grips 14 = .ok (.invokestatic 82, 3) := by decide +kernel
theorem dX7_grips_17 : decode cX7_grips 17 = .ok (.ifCond .ne 5, 3) := by decide +kernel
theorem dX7_grips_20 : decode cX7_grips 20 = .ok (.iconst (-1), 1) := by decide +kernel
theorem dX7_grips_21 : decode cX7_grips 21 = .ok (.ireturn, 1) := by decide +kernel
theorem dX7_grips_22 : decode cX7_grips 22 = .ok (.aload_n 0, 1) := by decide +kernel
theorem dX7_grips_23 : decode cX7_grips 23 = .ok (.getfield 23, 3) := by decide +kernel
theorem dX7_grips_26 : decode cX7_grips 26 = .ok (.aload_n 0, 1) := by decide +kernel
theorem dX7_grips_27 : decode cX7_grips 27 = .ok (.getfield 19, 3) := by decide +kernel
theorem dX7_grips_30 : decode cX7_grips 30 = .ok (.invokevirtual 95, 3) := by decide +kernel
theorem dX7_grips_33 : decode cX7_grips 33 = .ok (.iconst 0, 1) := by decide +kernel
theorem dX7_grips_34 : decode cX7_grips 34 = .ok (.istore_n 3, 1) := by decide +kernel
theorem dX7_grips_35 : decode cX7_grips 35 = .ok (.bipush (-4), 2) := by decide +kernel
theorem dX7_grips_37 : decode cX7_grips 37 = .ok (.istore 4, 2) := by decide +kernel
theorem dX7_grips_39 : decode cX7_grips 39 = .ok (.bipush 40, 2) := by decide +kernel
theorem dX7_grips_41 : decode cX7_grips 41 = .ok (.istore 5, 2) := by decide +kernel
theorem dX7_grips_43 : decode cX7_grips 43 = .ok (.iload 5, 2) := by decide +kernel
theorem dX7_grips_45 : decode cX7_grips 45 = .ok (.iconst 1, 1) := by decide +kernel
theorem dX7_grips_46 : decode cX7_grips 46 = .ok (.if_icmp .lt 40, 3) := by decide +kernel
theorem dX7_grips_49 : decode cX7_grips 49 = .ok (.aload_n 0, 1) := by decide +kernel
theorem dX7_grips_50 : decode cX7_grips 50 = .ok (.getfield 23, 3) := by decide +kernel
theorem dX7_grips_53 : decode cX7_grips 53 = .ok (.getfield 112, 3) := by decide +kernel
theorem dX7_grips_56 : decode cX7_grips 56 = .ok (.iload_n 1, 1) := by decide +kernel
theorem dX7_grips_57 : decode cX7_grips 57 = .ok (.iload 5, 2) := by decide +kernel
theorem dX7_grips_59 : decode cX7_grips 59 = .ok (.invokestatic 166, 3) := by decide +kernel
theorem dX7_grips_62 : decode cX7_grips 62 = .ok (.aload_n 0, 1) := by decide +kernel
theorem dX7_grips_63 : decode cX7_grips 63 = .ok (.aload_n 0, 1) := by decide +kernel
theorem dX7_grips_64 : decode cX7_grips 64 = .ok (.getfield 23, 3) := by decide +kernel
theorem dX7_grips_67 : decode cX7_grips 67 = .ok (.invokevirtual 250, 3) := by decide +kernel
theorem dX7_grips_70 : decode cX7_grips 70 = .ok (.ifCond .eq 10, 3) := by decide +kernel
theorem dX7_grips_73 : decode cX7_grips 73 = .ok (.iinc 3 1, 3) := by decide +kernel
theorem dX7_grips_76 : decode cX7_grips 76 = .ok (.iload 5, 2) := by decide +kernel
theorem dX7_grips_78 : decode cX7_grips 78 = .ok (.istore 4, 2) := by decide +kernel
theorem dX7_grips_80 : decode cX7_grips 80 = .ok (.iinc 5 (-1), 3) := by decide +kernel
theorem dX7_grips_83 : decode cX7_grips 83 = .ok (.goto (-40), 3) := by decide +kernel
theorem dX7_grips_86 : decode cX7_grips 86 = .ok (.iload_n 2, 1) := by decide +kernel
theorem dX7_grips_87 : decode cX7_grips 87 = .ok (.ifCond .ne 7, 3) := by decide +kernel
theorem dX7_grips_90 : decode cX7_grips 90 = .ok (.iload_n 3, 1) := by decide +kernel
theorem dX7_grips_91 : decode cX7_grips 91 = .ok (.goto 5, 3) := by decide +kernel
theorem dX7_grips_94 : decode cX7_grips 94 = .ok (.iload 4, 2) := by decide +kernel
theorem dX7_grips_96 : decode cX7_grips 96 = .ok (.ireturn, 1) := by decide +kernel
theorem dX7_likely_0 : decode cX7_likely 0 = .ok (.aload_n 0, 1) := by decide +kernel
theorem dX7_likely_1 : decode cX7_likely 1 = .ok (.getfield 19, 3) := by decide +kernel
theorem dX7_likely_4 : decode cX7_likely 4 = .ok (.iload_n 1, 1) := by decide +kernel
theorem dX7_likely_5 : decode cX7_likely 5 = .ok (.invokevirtual 101, 3) := by decide +kernel
theorem dX7_likely_8 : decode cX7_likely 8 = .ok (.ifCond .eq 22, 3) := by decide +kernel
theorem dX7_likely_11 : decode cX7_likely 11 = .ok (.iload_n 2, 1) := by decide +kernel
theorem dX7_likely_12 : decode cX7_likely 12 = .ok (.iconst 0, 1) := by decide +kernel
theorem dX7_likely_13 : decode cX7_likely 13 = .ok (.bipush 10, 2) := by decide +kernel
theorem dX7_likely_15 : decode cX7_likely 15 = .ok (.invokestatic 82, 3) := by decide +kernel
theorem dX7_likely_18 : decode cX7_likely 18 = .ok (.ifCond .eq 12, 3) := by decide +kernel
theorem dX7_likely_21 : decode cX7_likely 21 = .ok (.iload_n 3, 1) := by decide +kernel
theorem dX7_likely_22 : decode cX7_likely 22 = .ok (.iconst 0, 1) := by decide +kernel
theorem dX7_likely_23 : decode cX7_likely 23 = .ok (.iconst 1, 1) := by decide +kernel
theorem dX7_likely_24 : decode cX7_likely 24 = .ok (.invokestatic 82, 3) := by decide +kernel
theorem dX7_likely_27 : decode cX7_likely 27 = .ok (.ifCond .ne 5, 3) := by decide +kernel
theorem dX7_likely_30 : decode cX7_likely 30 = .ok (.iconst (-1), 1) := by decide +kernel
theorem dX7_likely_31 : decode cX7_likely 31 = .ok (.ireturn, 1) := by decide +kernel
theorem dX7_likely_32 : decode cX7_likely 32 = .ok (.iconst 0, 1) := by decide +kernel
theorem dX7_likely_33 : decode cX7_likely 33 = .ok (.istore 4, 2) := by decide +kernel
theorem dX7_likely_35 : decode cX7_likely 35 = .ok (.iconst 0, 1) := by decide +kernel
theorem dX7_likely_36 : decode cX7_likely 36 = .ok (.istore 5, 2) := by decide +kernel
theorem dX7_likely_38 : decode cX7_likely 38 = .ok (.aload_n 0, 1) := by decide +kernel
theorem dX7_likely_39 : decode cX7_likely 39 = .ok (.getfield 23, 3) := by decide +kernel
theorem dX7_likely_42 : decode cX7_likely 42 = .ok (.aload_n 0, 1) := by decide +kernel
theorem dX7_likely_43 : decode cX7_likely 43 = .ok (.getfield 19, 3) := by decide +kernel
theorem dX7_likely_46 : decode cX7_likely 46 = .ok (.invokevirtual 95, 3) := by decide +kernel
theorem dX7_likely_49 : decode cX7_likely 49 = .ok (.iconst 0, 1) := by decide +kernel
theorem dX7_likely_50 : decode cX7_likely 50 = .ok (.istore 6, 2) := by decide +kernel
theorem dX7_likely_52 : decode cX7_likely 52 = .ok (.iload 6, 2) := by decide +kernel
theorem dX7_likely_54 : decode cX7_likely 54 = .ok (.aload_n 0, 1) := by decide +kernel
theorem dX7_likely_55 : decode cX7_likely 55 = .ok (.getfield 19, 3) := by decide +kernel
theorem dX7_likely_58 : decode cX7_likely 58 = .ok (.invokevirtual 238, 3) := by decide +kernel
theorem dX7_likely_61 : decode cX7_likely 61 = .ok (.if_icmp .ge 70, 3) := by decide +kernel
theorem dX7_likely_64 : decode cX7_likely 64 = .ok (.aload_n 0, 1) := by decide +kernel
theorem dX7_likely_65 : decode cX7_likely 65 = .ok (.iload 6, 2) := by decide +kernel
theorem dX7_likely_67 : decode cX7_likely 67 = .ok (.iload_n 2, 1) := by decide +kernel
theorem dX7_likely_68 : decode cX7_likely 68 = .ok (.invokevirtual 253, 3) := by decide +kernel
theorem dX7_likely_71 : decode cX7_likely 71 = .ok (.istore 7, 2) := by decide +kernel
theorem dX7_likely_73 : decode cX7_likely 73 = .ok (.iload 5, 2) := by decide +kernel
theorem dX7_likely_75 : decode cX7_likely 75 = .ok (.iload 7, 2) := by decide +kernel
theorem dX7_likely_77 : decode cX7_likely 77 = .ok (.iadd, 1) := by decide +kernel
theorem dX7_likely_78 : decode cX7_likely 78 = .ok (.istore 5, 2) := by decide +kernel
theorem dX7_likely_80 : decode cX7_likely 80 = .ok (.aload_n 0, 1) := by decide +kernel
theorem dX7_likely_81 : decode cX7_likely 81 = .ok (.getfield 23, 3) := by decide +kernel
theorem dX7_likely_84 : decode cX7_likely 84 = .ok (.iload 6, 2) := by decide +kernel
theorem dX7_likely_86 : decode cX7_likely 86 = .ok (.putfield 118, 3) := by decide +kernel
theorem dX7_likely_89 : decode cX7_likely 89 = .ok (.aload_n 0, 1) := by decide +kernel
theorem dX7_likely_90 : decode cX7_likely 90 = .ok (.getfield 29, 3) := by decide +kernel
theorem dX7_likely_93 : decode cX7_likely 93 = .ok (.aload_n 0, 1) := by decide +kernel
theorem dX7_likely_94 : decode cX7_likely 94 = .ok (.getfield 23, 3) := by decide +kernel
theorem dX7_likely_97 : decode cX7_likely 97 = .ok (.invokevirtual 177, 3) := by decide +kernel
theorem dX7_likely_100 : decode cX7_likely 100 = .ok (.aload_n 0, 1) := by decide +kernel
theorem dX7_likely_101 : decode cX7_likely 101 = .ok (.getfield 29, 3) := by decide +kernel
theorem dX7_likely_104 : decode cX7_likely 104 = .ok (.getfield 183, 3) := by decide +kernel
theorem dX7_likely_107 : decode cX7_likely 107 = .ok (.getfield 256, 3) := by decide +kernel
theorem dX7_likely_110 : decode cX7_likely 110 = .ok (.iload_n 1, 1) := by decide +kernel
theorem dX7_likely_111 : decode cX7_likely 111 = .ok (.invokestatic 121, 3) := by decide +kernel
theorem dX7_likely_114 : decode cX7_likely 114 = .ok (.iconst 1, 1) := by decide +kernel
theorem dX7_likely_115 : decode cX7_likely 115 = .ok (.if_icmp .ne 10, 3) := by decide +kernel
theorem dX7_likely_118 : decode cX7_likely 118 = .ok (.iload 4, 2) := by decide +kernel
theorem dX7_likely_120 : decode cX7_likely 120 = .ok (.iload 7, 2) := by decide +kernel
theorem dX7_likely_122 : decode cX7_likely 122 = .ok (.iadd, 1) := by decide +kernel
theorem dX7_likely_123 : decode cX7_likely 123 = .ok (.istore 4, 2) := by decide +kernel
theorem dX7_likely_125 : decode cX7_likely 125 = .ok (.iinc 6 1, 3) := by decide +kernel
theorem dX7_likely_128 : decode cX7_likely 128 = .ok (.goto (-76), 3) := by decide +kernel
theorem dX7_likely_131 : decode cX7_likely 131 = .ok (.iload 4, 2) := by decide +kernel
theorem dX7_likely_133 : decode cX7_likely 133 = .ok (.iload 5, 2) := by decide +kernel
theorem dX7_likely_135 : decode cX7_likely 135 = .ok (.invokestatic 259, 3) := by decide +kernel
theorem dX7_likely_138 : decode cX7_likely 138 = .ok (.istore 6, 2) := by decide +kernel
theorem dX7_likely_140 : decode cX7_likely 140 = .ok (.iload 6, 2) := by decide +kernel
theorem dX7_likely_142 : decode cX7_likely 142 = .ok (.ifCond .ne 5, 3) := by decide +kernel
theorem dX7_likely_145 : decode cX7_likely 145 = .ok (.iconst (-1), 1) := by decide +kernel
theorem dX7_likely_146 : decode cX7_likely 146 = .ok (.ireturn, 1) := by decide +kernel
theorem dX7_likely_147 : decode cX7_likely 147 = .ok (.iload_n 3, 1) := by decide +kernel
theorem dX7_likely_148 : decode cX7_likely 148 = .ok (.ifCond .ne 11, 3) := by decide +kernel
theorem dX7_likely_151 : decode cX7_likely 151 = .ok (.iload 4, 2) := by decide +kernel
theorem dX7_likely_153 : decode cX7_likely 153 = .ok (.iload 6, 2) := by decide +kernel
theorem dX7_likely_155 : decode cX7_likely 155 = .ok (.idiv, 1) := by decide +kernel
theorem dX7_likely_156 : decode cX7_likely 156 = .ok (.goto 8, 3) := by decide +kernel
theorem dX7_likely_159 : decode cX7_likely 159 = .ok (.iload 5, 2) := by decide +kernel
theorem dX7_likely_161 : decode cX7_likely 161 = .ok (.iload 6, 2) := by decide +kernel
theorem dX7_likely_163 : decode cX7_likely 163 = .ok (.idiv, 1) := by decide +kernel
theorem dX7_likely_164 : decode cX7_likely 164 = .ok (.ireturn, 1) := by decide +kernel
theorem dX7_evenings_0 : decode cX7_evenings 0 = .ok (.iload_n 1, 1) := by decide +kernel
theorem dX7_evenings_1 : decode cX7_evenings 1 = .ok (.iconst 0, 1) := by decide +kernel
theorem dX7_evenings_2 : decode cX7_evenings 2 = .ok (.sipush 9999, 3) := by decide +kernel
theorem dX7_evenings_5 : decode cX7_evenings 5 = .ok (.invokestatic 82, 3) := by decide +kernel
theorem dX7_evenings_8 : decode cX7_evenings 8 = .ok (.ifCond .eq 22, 3) := by decide +kernel
theorem dX7_evenings_11 : decode cX7_evenings 11 = .ok (.iload_n 2, 1) := by decide +kernel
theorem dX7_evenings_12 : decode cX7_evenings 12 = .ok (.iconst 1, 1) := by decide +kernel
theorem dX7_evenings_13 : decode cX7_evenings 13 = .ok (.bipush 60, 2) := by decide +kernel
theorem dX7_evenings_15 : decode cX7_evenings 15 = .ok (.invokestatic 82, 3) := by decide +kernel
theorem dX7_evenings_18 : decode cX7_evenings 18 = .ok (.ifCond .eq 12, 3) := by decide +kernel
theorem dX7_evenings_21 : decode cX7_evenings 21 = .ok (.iload_n 3, 1) := by decide +kernel
theorem dX7_evenings_22 : decode cX7_evenings 22 = .ok (.iconst 0, 1) := by decide +kernel
theorem dX7_evenings_23 : decode cX7_evenings 23 = .ok (.iconst 2, 1) := by decide +kernel
theorem dX7_evenings_24 : decode cX7_evenings 24 = .ok (.invokestatic 82, 3) := by decide +kernel
theorem dX7_evenings_27 : decode cX7_evenings 27 = .ok (.ifCond .ne 5, 3) := by decide +kernel
theorem dX7_evenings_30 : decode cX7_evenings 30 = .ok (.iconst (-1), 1) := by decide +kernel
theorem dX7_evenings_31 : decode cX7_evenings 31 = .ok (.ireturn, 1) := by decide +kernel
theorem dX7_evenings_32 : decode cX7_evenings 32 = .ok (.iconst 0, 1) := by decide +kernel
theorem dX7_evenings_33 : decode cX7_evenings 33 = .ok (.istore 4, 2) := by decide +kernel
theorem dX7_evenings_35 : decode cX7_evenings 35 = .ok (.iconst 0, 1) := by decide +kernel
theorem dX7_evenings_36 : decode cX7_evenings 36 = .ok (.istore 5, 2) := by decide +kernel
theorem dX7_evenings_38 : decode cX7_evenings 38 = .ok (.iconst 0, 1) := by decide +kernel
theorem dX7_evenings_39 : decode cX7_evenings 39 = .ok (.istore 6, 2) := by decide +kernel
theorem dX7_evenings_41 : decode cX7_evenings 41 = .ok (.aload_n 0, 1) := by decide +kernel
theorem dX7_evenings_42 : decode cX7_evenings 42 = .ok (.getfield 23, 3) := by decide +kernel
theorem dX7_evenings_45 : decode cX7_evenings 45 = .ok (.aload_n 0, 1) := by decide +kernel
theorem dX7_evenings_46 : decode cX7_evenings 46 = .ok (.getfield 19, 3) := by decide +kernel
theorem dX7_evenings_49 : decode cX7_evenings 49 = .ok (.invokevirtual 95, 3) := by decide +kernel
theorem dX7_evenings_52 : decode cX7_evenings 52 = .ok (.iconst 0, 1) := by decide +kernel
theorem dX7_evenings_53 : decode cX7_evenings 53 = .ok (.istore 7, 2) := by decide +kernel
theorem dX7_evenings_55 : decode cX7_evenings 55 = .ok (.iload 7, 2) := by decide +kernel
theorem dX7_evenings_57 : decode cX7_evenings 57 = .ok (.iload_n 2, 1) := by decide +kernel
theorem dX7_evenings_58 : decode cX7_evenings 58 = .ok (.if_icmp .ge 83, 3) := by decide +kernel
theorem dX7_evenings_61 : decode cX7_evenings 61 = .ok (.aload_n 0, 1) := by decide +kernel
theorem dX7_evenings_62 : decode cX7_evenings 62 = .ok (.getfield 23, 3) := by decide +kernel
theorem dX7_evenings_65 : decode cX7_evenings 65 = .ok (.iload_n 1, 1) := by decide +kernel
theorem dX7_evenings_66 : decode cX7_evenings 66 = .ok (.iload 7, 2) := by decide +kernel
theorem dX7_evenings_68 : decode cX7_evenings 68 = .ok (.invokestatic 262, 3) := by decide +kernel
theorem dX7_evenings_71 : decode cX7_evenings 71 = .ok (.invokestatic 265, 3) := by decide +kernel
theorem dX7_evenings_74 : decode cX7_evenings 74 = .ok (.aload_n 0, 1) := by decide +kernel
theorem dX7_evenings_75 : decode cX7_evenings 75 = .ok (.getfield 29, 3) := by decide +kernel
theorem dX7_evenings_78 : decode cX7_evenings 78 = .ok (.aload_n 0, 1) := by decide +kernel
theorem dX7_evenings_79 : decode cX7_evenings 79 = .ok (.getfield 23, 3) := by decide +kernel
theorem dX7_evenings_82 : decode cX7_evenings 82 = .ok (.invokevirtual 177, 3) := by decide +kernel
theorem dX7_evenings_85 : decode cX7_evenings 85 = .ok (.iload 4, 2) := by decide +kernel
theorem dX7_evenings_87 : decode cX7_evenings 87 = .ok (.aload_n 0, 1) := by decide +kernel
theorem dX7_evenings_88 : decode cX7_evenings 88 = .ok (.getfield 29, 3) := by decide +kernel
theorem dX7_evenings_91 : decode cX7_evenings 91 = .ok (.getfield 183, 3) := by decide +kernel
theorem dX7_evenings_94 : decode cX7_evenings 94 = .ok (.getfield 256, 3) := by decide +kernel
theorem dX7_evenings_97 : decode cX7_evenings 97 = .ok (.invokestatic 209, 3) := by decide +kernel
theorem dX7_evenings_100 : decode cX7_evenings 100 = .ok (.iadd, 1) := by decide +kernel
theorem dX7_evenings_101 : decode cX7_evenings 101 = .ok (.istore 4, 2) := by decide +kernel
theorem dX7_evenings_103 : decode cX7_evenings 103 = .ok (.iload 5, 2) := by decide +kernel
theorem dX7_evenings_105 : decode cX7_evenings 105 = .ok (.aload_n 0, 1) := by decide +kernel
theorem dX7_evenings_106 : decode cX7_evenings 106 = .ok (.getfield 29, 3) := by decide +kernel
theorem dX7_evenings_109 : decode cX7_evenings 109 = .ok (.getfield 183, 3) := by decide +kernel
theorem dX7_evenings_112 : decode cX7_evenings 112 = .ok (.getfield 187, 3) := by decide +kernel
theorem dX7_evenings_115 : decode cX7_evenings 115 = .ok (.invokestatic 209, 3) := by decide +kernel
theorem dX7_evenings_118 : decode cX7_evenings 118 = .ok (.iadd, 1) := by decide +kernel
theorem dX7_evenings_119 : decode cX7_evenings 119 = .ok (.istore 5, 2) := by decide +kernel
theorem dX7_evenings_121 : decode cX7_evenings 121 = .ok (.iload 6, 2) := by decide +kernel
theorem dX7_evenings_123 : decode cX7_evenings 123 = .ok (.aload_n 0, 1) := by decide +kernel
theorem dX7_evenings_124 : decode cX7_evenings 124 = .ok (.getfield 29, 3) := by decide +kernel
theorem dX7_evenings_127 : decode cX7_evenings 127 = .ok (.getfield 195, 3) := by decide +kernel
theorem dX7_evenings_130 : decode cX7_evenings 130 = .ok (.invokestatic 245, 3) := by decide +kernel
theorem dX7_evenings_133 : decode cX7_evenings 133 = .ok (.istore 6, 2) := by decide +kernel
theorem dX7_evenings_135 : decode cX7_evenings 135 = .ok (.iinc 7 1, 3) := by decide +kernel
theorem dX7_evenings_138 : decode cX7_evenings 138 = .ok (.goto (-83), 3) := by decide +kernel
theorem dX7_evenings_141 : decode cX7_evenings 141 = .ok (.iload_n 3, 1) := by decide +kernel
theorem dX7_evenings_142 : decode cX7_evenings 142 = .ok (.lookupswitch 32 #[(0, 26), (1, 29)], 26) := by decide +kernel
theorem dX7_evenings_168 : decode cX7_evenings 168 = .ok (.iload 4, 2) := by decide +kernel
theorem dX7_evenings_170 : decode cX7_evenings 170 = .ok (.ireturn, 1) := by decide +kernel
theorem dX7_evenings_171 : decode cX7_evenings 171 = .ok (.iload 5, 2) := by decide +kernel
theorem dX7_evenings_173 : decode cX7_evenings 173 = .ok (.ireturn, 1) := by decide +kernel
theorem dX7_evenings_174 : decode cX7_evenings 174 = .ok (.iload 6, 2) := by decide +kernel
theorem dX7_evenings_176 : decode cX7_evenings 176 = .ok (.ireturn, 1) := by decide +kernel
theorem dX7_keep_0 : decode cX7_keep 0 = .ok (.aload_n 0, 1) := by decide +kernel
theorem dX7_keep_1 : decode cX7_keep 1 = .ok (.getfield 56, 3) := by decide +kernel
theorem dX7_keep_4 : decode cX7_keep 4 = .ok (.getfield 174, 3) := by decide +kernel
theorem dX7_keep_7 : decode cX7_keep 7 = .ok (.iconst 2, 1) := by decide +kernel
theorem dX7_keep_8 : decode cX7_keep 8 = .ok (.if_icmp .lt 6, 3) := by decide +kernel
theorem dX7_keep_11 : decode cX7_keep 11 = .ok (.bipush (-3), 2) := by decide +kernel
theorem dX7_keep_13 : decode cX7_keep 13 = .ok (.ireturn, 1) := by decide +kernel
theorem dX7_keep_14 : decode cX7_keep 14 = .ok (.aload_n 0, 1) := by decide +kernel
theorem dX7_keep_15 : decode cX7_keep 15 = .ok (.getfield 56, 3) := by decide +kernel
theorem dX7_keep_18 : decode cX7_keep 18 = .ok (.aload_n 0, 1) := by decide +kernel
theorem dX7_keep_19 : decode cX7_keep 19 = .ok (.getfield 19, 3) := by decide +kernel
theorem dX7_keep_22 : decode cX7_keep 22 = .ok (.invokevirtual 143, 3) := by decide +kernel
theorem dX7_keep_25 : decode cX7_keep 25 = .ok (.aload_n 0, 1) := by decide +kernel
theorem dX7_keep_26 : decode cX7_keep 26 = .ok (.getfield 56, 3) := by decide +kernel
theorem dX7_keep_29 : decode cX7_keep 29 = .ok (.getfield 174, 3) := by decide +kernel
theorem dX7_keep_32 : decode cX7_keep 32 = .ok (.ireturn, 1) := by decide +kernel
theorem dX7_back_0 : decode cX7_back 0 = .ok (.aload_n 0, 1) := by decide +kernel
theorem dX7_back_1 : decode cX7_back 1 = .ok (.getfield 56, 3) := by decide +kernel
theorem dX7_back_4 : decode cX7_back 4 = .ok (.aload_n 0, 1) := by decide +kernel
theorem dX7_back_5 : decode cX7_back 5 = .ok (.getfield 19, 3) := by decide +kernel
theorem dX7_back_8 : decode cX7_back 8 = .ok (.invokevirtual 170, 3) := by decide +kernel
theorem dX7_back_11 : decode cX7_back 11 = .ok (.ifCond .ne 6, 3) := by decide +kernel
theorem dX7_back_14 : decode cX7_back 14 = .ok (.bipush (-2), 2) := by decide +kernel
theorem dX7_back_16 : decode cX7_back 16 = .ok (.ireturn, 1) := by decide +kernel
theorem dX7_back_17 : decode cX7_back 17 = .ok (.aload_n 0, 1) := by decide +kernel
theorem dX7_back_18 : decode cX7_back 18 = .ok (.getfield 52, 3) := by decide +kernel
theorem dX7_back_21 : decode cX7_back 21 = .ok (.invokevirtual 100, 3) := by decide +kernel
theorem dX7_back_24 : decode cX7_back 24 = .ok (.aload_n 0, 1) := by decide +kernel
theorem dX7_back_25 : decode cX7_back 25 = .ok (.getfield 56, 3) := by decide +kernel
theorem dX7_back_28 : decode cX7_back 28 = .ok (.getfield 174, 3) := by decide +kernel
theorem dX7_back_31 : decode cX7_back 31 = .ok (.ireturn, 1) := by decide +kernel
theorem dX7_count_0 : decode cX7_count 0 = .ok (.iload_n 1, 1) := by decide +kernel
theorem dX7_count_1 : decode cX7_count 1 = .ok (.tableswitch 147 0 10 #[59, 67, 75, 83, 94, 102, 110, 115, 123, 131, 139], 59) := by decide +kernel
theorem dX7_count_60 : decode cX7_count 60 = .ok (.aload_n 0, 1) := by decide +kernel
theorem dX7_count_61 : decode cX7_count 61 = .ok (.getfield 19, 3) := by decide +kernel
theorem dX7_count_64 : decode cX7_count 64 = .ok (.getfield 89, 3) := by decide +kernel
theorem dX7_count_67 : decode cX7_count 67 = .ok (.ireturn, 1) := by decide +kernel
theorem dX7_count_68 : decode cX7_count 68 = .ok (.aload_n 0, 1) := by decide +kernel
theorem dX7_count_69 : decode cX7_count 69 = .ok (.getfield 19, 3) := by decide +kernel
theorem dX7_count_72 : decode cX7_count 72 = .ok (.getfield 92, 3) := by decide +kernel
theorem dX7_count_75 : decode cX7_count 75 = .ok (.ireturn, 1) := by decide +kernel
theorem dX7_count_76 : decode cX7_count 76 = .ok (.aload_n 0, 1) := by decide +kernel
theorem dX7_count_77 : decode cX7_count 77 = .ok (.getfield 19, 3) := by decide +kernel
theorem dX7_count_80 : decode cX7_count 80 = .ok (.getfield 153, 3) := by decide +kernel
theorem dX7_count_83 : decode cX7_count 83 = .ok (.ireturn, 1) := by decide +kernel
theorem dX7_count_84 : decode cX7_count 84 = .ok (.aload_n 0, 1) := by decide +kernel
theorem dX7_count_85 : decode cX7_count 85 = .ok (.getfield 19, 3) := by decide +kernel
theorem dX7_count_88 : decode cX7_count 88 = .ok (.getfield 118, 3) := by decide +kernel
theorem dX7_count_91 : decode cX7_count 91 = .ok (.invokestatic 209, 3) := by decide +kernel
theorem dX7_count_94 : decode cX7_count 94 = .ok (.ireturn, 1) := by decide +kernel
theorem dX7_count_95 : decode cX7_count 95 = .ok (.aload_n 0, 1) := by decide +kernel
theorem dX7_count_96 : decode cX7_count 96 = .ok (.getfield 19, 3) := by decide +kernel
theorem dX7_count_99 : decode cX7_count 99 = .ok (.invokevirtual 269, 3) := by decide +kernel
theorem dX7_count_102 : decode cX7_count 102 = .ok (.ireturn, 1) := by decide +kernel
theorem dX7_count_103 : decode cX7_count 103 = .ok (.aload_n 0, 1) := by decide +kernel
theorem dX7_count_104 : decode cX7_count 104 = .ok (.invokevirtual 272, 3) := by decide +kernel
theorem dX7_count_107 : decode cX7_count 107 = .ok (.invokestatic 209, 3) := by decide +kernel
theorem dX7_count_110 : decode cX7_count 110 = .ok (.ireturn, 1) := by decide +kernel
theorem dX7_count_111 : decode cX7_count 111 = .ok (.aload_n 0, 1) := by decide +kernel
theorem dX7_count_112 : decode cX7_count 112 = .ok (.invokevirtual 274, 3) := by decide +kernel
theorem dX7_count_115 : decode cX7_count 115 = .ok (.ireturn, 1) := by decide +kernel
theorem dX7_count_116 : decode cX7_count 116 = .ok (.aload_n 0, 1) := by decide +kernel
theorem dX7_count_117 : decode cX7_count 117 = .ok (.getfield 43, 3) := by decide +kernel
theorem dX7_count_120 : decode cX7_count 120 = .ok (.getfield 221, 3) := by decide +kernel
theorem dX7_count_123 : decode cX7_count 123 = .ok (.ireturn, 1) := by decide +kernel
theorem dX7_count_124 : decode cX7_count 124 = .ok (.aload_n 0, 1) := by decide +kernel
theorem dX7_count_125 : decode cX7_count 125 = .ok (.getfield 52, 3) := by decide +kernel
theorem dX7_count_128 : decode cX7_count 128 = .ok (.getfield 174, 3) := by decide +kernel
theorem dX7_count_131 : decode cX7_count 131 = .ok (.ireturn, 1) := by decide +kernel
theorem dX7_count_132 : decode cX7_count 132 = .ok (.aload_n 0, 1) := by decide +kernel
theorem dX7_count_133 : decode cX7_count 133 = .ok (.getfield 56, 3) := by decide +kernel
theorem dX7_count_136 : decode cX7_count 136 = .ok (.getfield 174, 3) := by decide +kernel
theorem dX7_count_139 : decode cX7_count 139 = .ok (.ireturn, 1) := by decide +kernel
theorem dX7_count_140 : decode cX7_count 140 = .ok (.aload_n 0, 1) := by decide +kernel
theorem dX7_count_141 : decode cX7_count 141 = .ok (.getfield 10, 3) := by decide +kernel
theorem dX7_count_144 : decode cX7_count 144 = .ok (.getfield 86, 3) := by decide +kernel
theorem dX7_count_147 : decode cX7_count 147 = .ok (.ireturn, 1) := by decide +kernel
theorem dX7_count_148 : decode cX7_count 148 = .ok (.iconst (-1), 1) := by decide +kernel
theorem dX7_count_149 : decode cX7_count 149 = .ok (.ireturn, 1) := by decide +kernel
theorem dX7_goneTonight_0 : decode cX7_goneTonight 0 = .ok (.aload_n 0, 1) := by decide +kernel
theorem dX7_goneTonight_1 : decode cX7_goneTonight 1 = .ok (.getfield 29, 3) := by decide +kernel
theorem dX7_goneTonight_4 : decode cX7_goneTonight 4 = .ok (.aload_n 0, 1) := by decide +kernel
theorem dX7_goneTonight_5 : decode cX7_goneTonight 5 = .ok (.getfield 19, 3) := by decide +kernel
theorem dX7_goneTonight_8 : decode cX7_goneTonight 8 = .ok (.invokevirtual 177, 3) := by decide +kernel
theorem dX7_goneTonight_11 : decode cX7_goneTonight 11 = .ok (.aload_n 0, 1) := by decide +kernel
theorem dX7_goneTonight_12 : decode cX7_goneTonight 12 = .ok (.getfield 29, 3) := by decide +kernel
theorem dX7_goneTonight_15 : decode cX7_goneTonight 15 = .ok (.getfield 183, 3) := by decide +kernel
theorem dX7_goneTonight_18 : decode cX7_goneTonight 18 = .ok (.getfield 256, 3) := by decide +kernel
theorem dX7_goneTonight_21 : decode cX7_goneTonight 21 = .ok (.invokestatic 209, 3) := by decide +kernel
theorem dX7_goneTonight_24 : decode cX7_goneTonight 24 = .ok (.ireturn, 1) := by decide +kernel
theorem dX7_fewestLeft_0 : decode cX7_fewestLeft 0 = .ok (.iconst 1, 1) := by decide +kernel
theorem dX7_fewestLeft_1 : decode cX7_fewestLeft 1 = .ok (.aload_n 0, 1) := by decide +kernel
theorem dX7_fewestLeft_2 : decode cX7_fewestLeft 2 = .ok (.getfield 19, 3) := by decide +kernel
theorem dX7_fewestLeft_5 : decode cX7_fewestLeft 5 = .ok (.getfield 153, 3) := by decide +kernel
theorem dX7_fewestLeft_8 : decode cX7_fewestLeft 8 = .ok (.ishl, 1) := by decide +kernel
theorem dX7_fewestLeft_9 : decode cX7_fewestLeft 9 = .ok (.iconst 1, 1) := by decide +kernel
theorem dX7_fewestLeft_10 : decode cX7_fewestLeft 10 = .ok (.isub, 1) := by decide +kernel
theorem dX7_fewestLeft_11 : decode cX7_fewestLeft 11 = .ok (.istore_n 2, 1) := by decide +kernel
theorem dX7_fewestLeft_12 : decode cX7_fewestLeft 12 = .ok (.iload_n 2, 1) := by decide +kernel
theorem dX7_fewestLeft_13 : decode cX7_fewestLeft 13 = .ok (.istore_n 3, 1) := by decide +kernel
theorem dX7_fewestLeft_14 : decode cX7_fewestLeft 14 = .ok (.iconst 0, 1) := by decide +kernel
theorem dX7_fewestLeft_15 : decode cX7_fewestLeft 15 = .ok (.istore 4, 2) := by decide +kernel
theorem dX7_fewestLeft_17 : decode cX7_fewestLeft 17 = .ok (.iload 4, 2) := by decide +kernel
theorem dX7_fewestLeft_19 : decode cX7_fewestLeft 19 = .ok (.iload_n 2, 1) := by decide +kernel
theorem dX7_fewestLeft_20 : decode cX7_fewestLeft 20 = .ok (.if_icmp .ge 34, 3) := by decide +kernel
theorem dX7_fewestLeft_23 : decode cX7_fewestLeft 23 = .ok (.iload 4, 2) := by decide +kernel
theorem dX7_fewestLeft_25 : decode cX7_fewestLeft 25 = .ok (.invokestatic 209, 3) := by decide +kernel
theorem dX7_fewestLeft_28 : decode cX7_fewestLeft 28 = .ok (.iload_n 3, 1) := by decide +kernel
theorem dX7_fewestLeft_29 : decode cX7_fewestLeft 29 = .ok (.invokestatic 209, 3) := by decide +kernel
theorem dX7_fewestLeft_32 : decode cX7_fewestLeft 32 = .ok (.if_icmp .ge 16, 3) := by decide +kernel
theorem dX7_fewestLeft_35 : decode cX7_fewestLeft 35 = .ok (.aload_n 0, 1) := by decide +kernel
theorem dX7_fewestLeft_36 : decode cX7_fewestLeft 36 = .ok (.iload_n 1, 1) := by decide +kernel
theorem dX7_fewestLeft_37 : decode cX7_fewestLeft 37 = .ok (.iload 4, 2) := by decide +kernel
theorem dX7_fewestLeft_39 : decode cX7_fewestLeft 39 = .ok (.invokevirtual 277, 3) := by decide +kernel
theorem dX7_fewestLeft_42 : decode cX7_fewestLeft 42 = .ok (.ifCond .ne 6, 3) := by decide +kernel
theorem dX7_fewestLeft_45 : decode cX7_fewestLeft 45 = .ok (.iload 4, 2) := by decide +kernel
theorem dX7_fewestLeft_47 : decode cX7_fewestLeft 47 = .ok (.istore_n 3, 1) := by decide +kernel
theorem dX7_fewestLeft_48 : decode cX7_fewestLeft 48 = .ok (.iinc 4 1, 3) := by decide +kernel
theorem dX7_fewestLeft_51 : decode cX7_fewestLeft 51 = .ok (.goto (-34), 3) := by decide +kernel
theorem dX7_fewestLeft_54 : decode cX7_fewestLeft 54 = .ok (.iload_n 3, 1) := by decide +kernel
theorem dX7_fewestLeft_55 : decode cX7_fewestLeft 55 = .ok (.ireturn, 1) := by decide +kernel
theorem dX7_letsGoWithout_0 : decode cX7_letsGoWithout 0 = .ok (.aload_n 0, 1) := by decide +kernel
theorem dX7_letsGoWithout_1 : decode cX7_letsGoWithout 1 = .ok (.getfield 29, 3) := by decide +kernel
theorem dX7_letsGoWithout_4 : decode cX7_letsGoWithout 4 = .ok (.getfield 183, 3) := by decide +kernel
theorem dX7_letsGoWithout_7 : decode cX7_letsGoWithout 7 = .ok (.astore_n 3, 1) := by decide +kernel
theorem dX7_letsGoWithout_8 : decode cX7_letsGoWithout 8 = .ok (.aload_n 3, 1) := by decide +kernel
theorem dX7_letsGoWithout_9 : decode cX7_letsGoWithout 9 = .ok (.invokevirtual 280, 3) := by decide +kernel
theorem dX7_letsGoWithout_12 : decode cX7_letsGoWithout 12 = .ok (.iconst 0, 1) := by decide +kernel
theorem dX7_letsGoWithout_13 : decode cX7_letsGoWithout 13 = .ok (.istore 4, 2) := by decide +kernel
theorem dX7_letsGoWithout_15 : decode cX7_letsGoWithout 15 = .ok (.iload 4, 2) := by decide +kernel
theorem dX7_letsGoWithout_17 : decode cX7_letsGoWithout 17 = .ok (.aload_n 0, 1) := by decide +kernel
theorem dX7_letsGoWithout_18 : decode cX7_letsGoWithout 18 = .ok (.getfield 19, 3) := by decide +kernel
theorem dX7_letsGoWithout_21 : decode cX7_letsGoWithout 21 = .ok (.getfield 153, 3) := by decide +kernel
theorem dX7_letsGoWithout_24 : decode cX7_letsGoWithout 24 = .ok (.if_icmp .ge 29, 3) := by decide +kernel
theorem dX7_letsGoWithout_27 : decode cX7_letsGoWithout 27 = .ok (.iload_n 2, 1) := by decide +kernel
theorem dX7_letsGoWithout_28 : decode cX7_letsGoWithout 28 = .ok (.iload 4, 2) := by decide +kernel
theorem dX7_letsGoWithout_30 : decode cX7_letsGoWithout 30 = .ok (.invokestatic 121, 3) := by decide +kernel
theorem dX7_letsGoWithout_33 : decode cX7_letsGoWithout 33 = .ok (.ifCond .ne 14, 3) := by decide +kernel
theorem dX7_letsGoWithout_36 : decode cX7_letsGoWithout 36 = .ok (.aload_n 3, 1) := by decide +kernel
theorem dX7_letsGoWithout_37 : decode cX7_letsGoWithout 37 = .ok (.aload_n 0, 1) := by decide +kernel
theorem dX7_letsGoWithout_38 : decode cX7_letsGoWithout 38 = .ok (.getfield 19, 3) := by decide +kernel
theorem dX7_letsGoWithout_41 : decode cX7_letsGoWithout 41 = .ok (.iload 4, 2) := by decide +kernel
theorem dX7_letsGoWithout_43 : decode cX7_letsGoWithout 43 = .ok (.invokevirtual 283, 3) := by decide +kernel
theorem dX7_letsGoWithout_46 : decode cX7_letsGoWithout 46 = .ok (.pop, 1) := by decide +kernel
theorem dX7_letsGoWithout_47 : decode cX7_letsGoWithout 47 = .ok (.iinc 4 1, 3) := by decide +kernel
theorem dX7_letsGoWithout_50 : decode cX7_letsGoWithout 50 = .ok (.goto (-35), 3) := by decide +kernel
theorem dX7_letsGoWithout_53 : decode cX7_letsGoWithout 53 = .ok (.aload_n 3, 1) := by decide +kernel
theorem dX7_letsGoWithout_54 : decode cX7_letsGoWithout 54 = .ok (.getfield 256, 3) := by decide +kernel
theorem dX7_letsGoWithout_57 : decode cX7_letsGoWithout 57 = .ok (.iload_n 1, 1) := by decide +kernel
theorem dX7_letsGoWithout_58 : decode cX7_letsGoWithout 58 = .ok (.invokestatic 121, 3) := by decide +kernel
theorem dX7_letsGoWithout_61 : decode cX7_letsGoWithout 61 = .ok (.iconst 1, 1) := by decide +kernel
theorem dX7_letsGoWithout_62 : decode cX7_letsGoWithout 62 = .ok (.if_icmp .ne 7, 3) := by decide +kernel
theorem dX7_letsGoWithout_65 : decode cX7_letsGoWithout 65 = .ok (.iconst 1, 1) := by decide +kernel
theorem dX7_letsGoWithout_66 : decode cX7_letsGoWithout 66 = .ok (.goto 4, 3) := by decide +kernel
theorem dX7_letsGoWithout_69 : decode cX7_letsGoWithout 69 = .ok (.iconst 0, 1) := by decide +kernel
theorem dX7_letsGoWithout_70 : decode cX7_letsGoWithout 70 = .ok (.ireturn, 1) := by decide +kernel
theorem dX7_goneIfHeldBy_0 : decode cX7_goneIfHeldBy 0 = .ok (.aload_n 0, 1) := by decide +kernel
theorem dX7_goneIfHeldBy_1 : decode cX7_goneIfHeldBy 1 = .ok (.getfield 23, 3) := by decide +kernel
theorem dX7_goneIfHeldBy_4 : decode cX7_goneIfHeldBy 4 = .ok (.aload_n 0, 1) := by decide +kernel
theorem dX7_goneIfHeldBy_5 : decode cX7_goneIfHeldBy 5 = .ok (.getfield 19, 3) := by decide +kernel
theorem dX7_goneIfHeldBy_8 : decode cX7_goneIfHeldBy 8 = .ok (.invokevirtual 95, 3) := by decide +kernel
theorem dX7_goneIfHeldBy_11 : decode cX7_goneIfHeldBy 11 = .ok (.iconst 0, 1) := by decide +kernel
theorem dX7_goneIfHeldBy_12 : decode cX7_goneIfHeldBy 12 = .ok (.istore_n 3, 1) := by decide +kernel
theorem dX7_goneIfHeldBy_13 : decode cX7_goneIfHeldBy 13 = .ok (.iload_n 3, 1) := by decide +kernel
theorem dX7_goneIfHeldBy_14 : decode cX7_goneIfHeldBy 14 = .ok (.aload_n 0, 1) := by decide +kernel
theorem dX7_goneIfHeldBy_15 : decode cX7_goneIfHeldBy 15 = .ok (.getfield 23, 3) := by decide +kernel
theorem dX7_goneIfHeldBy_18 : decode cX7_goneIfHeldBy 18 = .ok (.getfield 153, 3) := by decide +kernel
theorem dX7_goneIfHeldBy_21 : decode cX7_goneIfHeldBy 21 = .ok (.if_icmp .ge 36, 3) := by decide +kernel
theorem dX7_goneIfHeldBy_24 : decode cX7_goneIfHeldBy 24 = .ok (.aload_n 0, 1) := by decide +kernel
theorem dX7_goneIfHeldBy_25 : decode cX7_goneIfHeldBy 25 = .ok (.getfield 23, 3) := by decide +kernel
theorem dX7_goneIfHeldBy_28 : decode cX7_goneIfHeldBy 28 = .ok (.getfield 128, 3) := by decide +kernel
theorem dX7_goneIfHeldBy_31 : decode cX7_goneIfHeldBy 31 = .ok (.iload_n 3, 1) := by decide +kernel
theorem dX7_goneIfHeldBy_32 : decode cX7_goneIfHeldBy 32 = .ok (.invokestatic 108, 3) := by decide +kernel
theorem dX7_goneIfHeldBy_35 : decode cX7_goneIfHeldBy 35 = .ok (.iload_n 1, 1) := by decide +kernel
theorem dX7_goneIfHeldBy_36 : decode cX7_goneIfHeldBy 36 = .ok (.if_icmp .ne 15, 3) := by decide +kernel
theorem dX7_goneIfHeldBy_39 : decode cX7_goneIfHeldBy 39 = .ok (.aload_n 0, 1) := by decide +kernel
theorem dX7_goneIfHeldBy_40 : decode cX7_goneIfHeldBy 40 = .ok (.getfield 23, 3) := by decide +kernel
theorem dX7_goneIfHeldBy_43 : decode cX7_goneIfHeldBy 43 = .ok (.getfield 128, 3) := by decide +kernel
theorem dX7_goneIfHeldBy_46 : decode cX7_goneIfHeldBy 46 = .ok (.iload_n 3, 1) := by decide +kernel
theorem dX7_goneIfHeldBy_47 : decode cX7_goneIfHeldBy 47 = .ok (.iload_n 2, 1) := by decide +kernel
theorem dX7_goneIfHeldBy_48 : decode cX7_goneIfHeldBy 48 = .ok (.invokestatic 166, 3) := by decide +kernel
theorem dX7_goneIfHeldBy_51 : decode cX7_goneIfHeldBy 51 = .ok (.iinc 3 1, 3) := by decide +kernel
theorem dX7_goneIfHeldBy_54 : decode cX7_goneIfHeldBy 54 = .ok (.goto (-41), 3) := by decide +kernel
theorem dX7_goneIfHeldBy_57 : decode cX7_goneIfHeldBy 57 = .ok (.aload_n 0, 1) := by decide +kernel
theorem dX7_goneIfHeldBy_58 : decode cX7_goneIfHeldBy 58 = .ok (.getfield 29, 3) := by decide +kernel
theorem dX7_goneIfHeldBy_61 : decode cX7_goneIfHeldBy 61 = .ok (.aload_n 0, 1) := by decide +kernel
theorem dX7_goneIfHeldBy_62 : decode cX7_goneIfHeldBy 62 = .ok (.getfield 23, 3) := by decide +kernel
theorem dX7_goneIfHeldBy_65 : decode cX7_goneIfHeldBy 65 = .ok (.invokevirtual 177, 3) := by decide +kernel
theorem dX7_goneIfHeldBy_68 : decode cX7_goneIfHeldBy 68 = .ok (.aload_n 0, 1) := by decide +kernel
theorem dX7_goneIfHeldBy_69 : decode cX7_goneIfHeldBy 69 = .ok (.getfield 29, 3) := by decide +kernel
theorem dX7_goneIfHeldBy_72 : decode cX7_goneIfHeldBy 72 = .ok (.getfield 183, 3) := by decide +kernel
theorem dX7_goneIfHeldBy_75 : decode cX7_goneIfHeldBy 75 = .ok (.getfield 256, 3) := by decide +kernel
theorem dX7_goneIfHeldBy_78 : decode cX7_goneIfHeldBy 78 = .ok (.invokestatic 209, 3) := by decide +kernel
theorem dX7_goneIfHeldBy_81 : decode cX7_goneIfHeldBy 81 = .ok (.ireturn, 1) := by decide +kernel
theorem dX7_fits_0 : decode cX7_fits 0 = .ok (.aload_n 0, 1) := by decide +kernel
theorem dX7_fits_1 : decode cX7_fits 1 = .ok (.getfield 29, 3) := by decide +kernel
theorem dX7_fits_4 : decode cX7_fits 4 = .ok (.aload_n 1, 1) := by decide +kernel
theorem dX7_fits_5 : decode cX7_fits 5 = .ok (.invokevirtual 177, 3) := by decide +kernel
theorem dX7_fits_8 : decode cX7_fits 8 = .ok (.aload_n 0, 1) := by decide +kernel
theorem dX7_fits_9 : decode cX7_fits 9 = .ok (.getfield 43, 3) := by decide +kernel
theorem dX7_fits_12 : decode cX7_fits 12 = .ok (.aload_n 0, 1) := by decide +kernel
theorem dX7_fits_13 : decode cX7_fits 13 = .ok (.getfield 29, 3) := by decide +kernel
theorem dX7_fits_16 : decode cX7_fits 16 = .ok (.invokevirtual 287, 3) := by decide +kernel
theorem dX7_fits_19 : decode cX7_fits 19 = .ok (.ireturn, 1) := by decide +kernel
theorem dX7_fittingWorlds_0 : decode cX7_fittingWorlds 0 = .ok (.aload_n 0, 1) := by decide +kernel
theorem dX7_fittingWorlds_1 : decode cX7_fittingWorlds 1 = .ok (.getfield 23, 3) := by decide +kernel
theorem dX7_fittingWorlds_4 : decode cX7_fittingWorlds 4 = .ok (.aload_n 0, 1) := by decide +kernel
theorem dX7_fittingWorlds_5 : decode cX7_fittingWorlds 5 = .ok (.getfield 19, 3) := by decide +kernel
theorem dX7_fittingWorlds_8 : decode cX7_fittingWorlds 8 = .ok (.invokevirtual 95, 3) := by decide +kernel
theorem dX7_fittingWorlds_11 : decode cX7_fittingWorlds 11 = .ok (.lconst 0, 1) := by decide +kernel
theorem dX7_fittingWorlds_12 : decode cX7_fittingWorlds 12 = .ok (.lstore_n 1, 1) := by decide +kernel
theorem dX7_fittingWorlds_13 : decode cX7_fittingWorlds 13 = .ok (.iconst 0, 1) := by decide +kernel
theorem dX7_fittingWorlds_14 : decode cX7_fittingWorlds 14 = .ok (.istore_n 3, 1) := by decide +kernel
theorem dX7_fittingWorlds_15 : decode cX7_fittingWorlds 15 = .ok (.iload_n 3, 1) := by decide +kernel
theorem dX7_fittingWorlds_16 : decode cX7_fittingWorlds 16 = .ok (.aload_n 0, 1) := by decide +kernel
theorem dX7_fittingWorlds_17 : decode cX7_fittingWorlds 17 = .ok (.getfield 19, 3) := by decide +kernel
theorem dX7_fittingWorlds_20 : decode cX7_fittingWorlds 20 = .ok (.invokevirtual 238, 3) := by decide +kernel
theorem dX7_fittingWorlds_23 : decode cX7_fittingWorlds 23 = .ok (.if_icmp .ge 34, 3) := by decide +kernel
theorem dX7_fittingWorlds_26 : decode cX7_fittingWorlds 26 = .ok (.aload_n 0, 1) := by decide +kernel
theorem dX7_fittingWorlds_27 : decode cX7_fittingWorlds 27 = .ok (.getfield 23, 3) := by decide +kernel
theorem dX7_fittingWorlds_30 : decode cX7_fittingWorlds 30 = .ok (.iload_n 3, 1) := by decide +kernel
theorem dX7_fittingWorlds_31 : decode cX7_fittingWorlds 31 = .ok (.putfield 118, 3) := by decide +kernel
theorem dX7_fittingWorlds_34 : decode cX7_fittingWorlds 34 = .ok (.aload_n 0, 1) := by decide +kernel
theorem dX7_fittingWorlds_35 : decode cX7_fittingWorlds 35 = .ok (.aload_n 0, 1) := by decide +kernel
theorem dX7_fittingWorlds_36 : decode cX7_fittingWorlds 36 = .ok (.getfield 23, 3) := by decide +kernel
theorem dX7_fittingWorlds_39 : decode cX7_fittingWorlds 39 = .ok (.invokevirtual 250, 3) := by decide +kernel
theorem dX7_fittingWorlds_42 : decode cX7_fittingWorlds 42 = .ok (.ifCond .eq 9, 3) := by decide +kernel
theorem dX7_fittingWorlds_45 : decode cX7_fittingWorlds 45 = .ok (.lload_n 1, 1) := by decide +kernel
theorem dX7_fittingWorlds_46 : decode cX7_fittingWorlds 46 = .ok (.lconst 1, 1) := by decide +kernel
theorem dX7_fittingWorlds_47 : decode cX7_fittingWorlds 47 = .ok (.iload_n 3, 1) := by decide +kernel
theorem dX7_fittingWorlds_48 : decode cX7_fittingWorlds 48 = .ok (.lshl, 1) := by decide +kernel
theorem dX7_fittingWorlds_49 : decode cX7_fittingWorlds 49 = .ok (.lor, 1) := by decide +kernel
theorem dX7_fittingWorlds_50 : decode cX7_fittingWorlds 50 = .ok (.lstore_n 1, 1) := by decide +kernel
theorem dX7_fittingWorlds_51 : decode cX7_fittingWorlds 51 = .ok (.iinc 3 1, 3) := by decide +kernel
theorem dX7_fittingWorlds_54 : decode cX7_fittingWorlds 54 = .ok (.goto (-39), 3) := by decide +kernel
theorem dX7_fittingWorlds_57 : decode cX7_fittingWorlds 57 = .ok (.lload_n 1, 1) := by decide +kernel
theorem dX7_fittingWorlds_58 : decode cX7_fittingWorlds 58 = .ok (.lreturn, 1) := by decide +kernel
theorem dX7_lowestWorld_0 : decode cX7_lowestWorld 0 = .ok (.iconst 0, 1) := by decide +kernel
theorem dX7_lowestWorld_1 : decode cX7_lowestWorld 1 = .ok (.istore_n 3, 1) := by decide +kernel
theorem dX7_lowestWorld_2 : decode cX7_lowestWorld 2 = .ok (.iload_n 3, 1) := by decide +kernel
theorem dX7_lowestWorld_3 : decode cX7_lowestWorld 3 = .ok (.aload_n 0, 1) := by decide +kernel
theorem dX7_lowestWorld_4 : decode cX7_lowestWorld 4 = .ok (.getfield 19, 3) := by decide +kernel
theorem dX7_lowestWorld_7 : decode cX7_lowestWorld 7 = .ok (.invokevirtual 238, 3) := by decide +kernel
theorem dX7_lowestWorld_10 : decode cX7_lowestWorld 10 = .ok (.if_icmp .ge 19, 3) := by decide +kernel
theorem dX7_lowestWorld_13 : decode cX7_lowestWorld 13 = .ok (.lload_n 1, 1) := by decide +kernel
theorem dX7_lowestWorld_14 : decode cX7_lowestWorld 14 = .ok (.iload_n 3, 1) := by decide +kernel
theorem dX7_lowestWorld_15 : decode cX7_lowestWorld 15 = .ok (.invokestatic 291, 3) := by decide +kernel
theorem dX7_lowestWorld_18 : decode cX7_lowestWorld 18 = .ok (.ifCond .eq 5, 3) := by decide +kernel
theorem dX7_lowestWorld_21 : decode cX7_lowestWorld 21 = .ok (.iload_n 3, 1) := by decide +kernel
theorem dX7_lowestWorld_22 : decode cX7_lowestWorld 22 = .ok (.ireturn, 1) := by decide +kernel
theorem dX7_lowestWorld_23 : decode cX7_lowestWorld 23 = .ok (.iinc 3 1, 3) := by decide +kernel
theorem dX7_lowestWorld_26 : decode cX7_lowestWorld 26 = .ok (.goto (-24), 3) := by decide +kernel
theorem dX7_lowestWorld_29 : decode cX7_lowestWorld 29 = .ok (.bipush (-4), 2) := by decide +kernel
theorem dX7_lowestWorld_31 : decode cX7_lowestWorld 31 = .ok (.ireturn, 1) := by decide +kernel
theorem dX7_isIn_0 : decode cX7_isIn 0 = .ok (.lload_n 0, 1) := by decide +kernel
theorem dX7_isIn_1 : decode cX7_isIn 1 = .ok (.iload_n 2, 1) := by decide +kernel
theorem dX7_isIn_2 : decode cX7_isIn 2 = .ok (.lshr, 1) := by decide +kernel
theorem dX7_isIn_3 : decode cX7_isIn 3 = .ok (.lconst 1, 1) := by decide +kernel
theorem dX7_isIn_4 : decode cX7_isIn 4 = .ok (.land, 1) := by decide +kernel
theorem dX7_isIn_5 : decode cX7_isIn 5 = .ok (.lconst 1, 1) := by decide +kernel
theorem dX7_isIn_6 : decode cX7_isIn 6 = .ok (.lcmp, 1) := by decide +kernel
theorem dX7_isIn_7 : decode cX7_isIn 7 = .ok (.ifCond .ne 7, 3) := by decide +kernel
theorem dX7_isIn_10 : decode cX7_isIn 10 = .ok (.iconst 1, 1) := by decide +kernel
theorem dX7_isIn_11 : decode cX7_isIn 11 = .ok (.goto 4, 3) := by decide +kernel
theorem dX7_isIn_14 : decode cX7_isIn 14 = .ok (.iconst 0, 1) := by decide +kernel
theorem dX7_isIn_15 : decode cX7_isIn 15 = .ok (.ireturn, 1) := by decide +kernel
theorem dX7_sureFacts_0 : decode cX7_sureFacts 0 = .ok (.aload_n 0, 1) := by decide +kernel
theorem dX7_sureFacts_1 : decode cX7_sureFacts 1 = .ok (.getfield 19, 3) := by decide +kernel
theorem dX7_sureFacts_4 : decode cX7_sureFacts 4 = .ok (.invokevirtual 238, 3) := by decide +kernel
theorem dX7_sureFacts_7 : decode cX7_sureFacts 7 = .ok (.iconst 1, 1) := by decide +kernel
theorem dX7_sureFacts_8 : decode cX7_sureFacts 8 = .ok (.isub, 1) := by decide +kernel
theorem dX7_sureFacts_9 : decode cX7_sureFacts 9 = .ok (.istore 4, 2) := by decide +kernel
theorem dX7_sureFacts_11 : decode cX7_sureFacts 11 = .ok (.iconst 0, 1) := by decide +kernel
theorem dX7_sureFacts_12 : decode cX7_sureFacts 12 = .ok (.istore 5, 2) := by decide +kernel
theorem dX7_sureFacts_14 : decode cX7_sureFacts 14 = .ok (.iload 5, 2) := by decide +kernel
theorem dX7_sureFacts_16 : decode cX7_sureFacts 16 = .ok (.aload_n 0, 1) := by decide +kernel
theorem dX7_sureFacts_17 : decode cX7_sureFacts 17 = .ok (.getfield 19, 3) := by decide +kernel
theorem dX7_sureFacts_20 : decode cX7_sureFacts 20 = .ok (.invokevirtual 238, 3) := by decide +kernel
theorem dX7_sureFacts_23 : decode cX7_sureFacts 23 = .ok (.if_icmp .ge 27, 3) := by decide +kernel
theorem dX7_sureFacts_26 : decode cX7_sureFacts 26 = .ok (.lload_n 1, 1) := by decide +kernel
theorem dX7_sureFacts_27 : decode cX7_sureFacts 27 = .ok (.iload 5, 2) := by decide +kernel
theorem dX7_sureFacts_29 : decode cX7_sureFacts 29 = .ok (.invokestatic 291, 3) := by decide +kernel
theorem dX7_sureFacts_32 : decode cX7_sureFacts 32 = .ok (.ifCond .eq 12, 3) := by decide +kernel
theorem dX7_sureFacts_35 : decode cX7_sureFacts 35 = .ok (.iload 4, 2) := by decide +kernel
theorem dX7_sureFacts_37 : decode cX7_sureFacts 37 = .ok (.iload 5, 2) := by decide +kernel
theorem dX7_sureFacts_39 : decode cX7_sureFacts 39 = .ok (.iload_n 3, 1) := by decide +kernel
theorem dX7_sureFacts_40 : decode cX7_sureFacts 40 = .ok (.ixor, 1) := by decide +kernel
theorem dX7_sureFacts_41 : decode cX7_sureFacts 41 = .ok (.iand, 1) := by decide +kernel
theorem dX7_sureFacts_42 : decode cX7_sureFacts 42 = .ok (.istore 4, 2) := by decide +kernel
theorem dX7_sureFacts_44 : decode cX7_sureFacts 44 = .ok (.iinc 5 1, 3) := by decide +kernel
theorem dX7_sureFacts_47 : decode cX7_sureFacts 47 = .ok (.goto (-33), 3) := by decide +kernel
theorem dX7_sureFacts_50 : decode cX7_sureFacts 50 = .ok (.iload 4, 2) := by decide +kernel
theorem dX7_sureFacts_52 : decode cX7_sureFacts 52 = .ok (.ireturn, 1) := by decide +kernel
theorem dX7_worldsOfDrop_0 : decode cX7_worldsOfDrop 0 = .ok (.aload_n 0, 1) := by decide +kernel
theorem dX7_worldsOfDrop_1 : decode cX7_worldsOfDrop 1 = .ok (.getfield 23, 3) := by decide +kernel
theorem dX7_worldsOfDrop_4 : decode cX7_worldsOfDrop 4 = .ok (.aload_n 0, 1) := by decide +kernel
theorem dX7_worldsOfDrop_5 : decode cX7_worldsOfDrop 5 = .ok (.getfield 19, 3) := by decide +kernel
theorem dX7_worldsOfDrop_8 : decode cX7_worldsOfDrop 8 = .ok (.invokevirtual 95, 3) := by decide +kernel
theorem dX7_worldsOfDrop_11 : decode cX7_worldsOfDrop 11 = .ok (.aload_n 0, 1) := by decide +kernel
theorem dX7_worldsOfDrop_12 : decode cX7_worldsOfDrop 12 = .ok (.getfield 23, 3) := by decide +kernel
theorem dX7_worldsOfDrop_15 : decode cX7_worldsOfDrop 15 = .ok (.iload_n 3, 1) := by decide +kernel
theorem dX7_worldsOfDrop_16 : decode cX7_worldsOfDrop 16 = .ok (.iload 4, 2) := by decide +kernel
theorem dX7_worldsOfDrop_18 : decode cX7_worldsOfDrop 18 = .ok (.iconst 1, 1) := by decide +kernel
theorem dX7_worldsOfDrop_19 : decode cX7_worldsOfDrop 19 = .ok (.iload 5, 2) := by decide +kernel
theorem dX7_worldsOfDrop_21 : decode cX7_worldsOfDrop 21 = .ok (.invokevirtual 156, 3) := by decide +kernel
theorem dX7_worldsOfDrop_24 : decode cX7_worldsOfDrop 24 = .ok (.pop, 1) := by decide +kernel
theorem dX7_worldsOfDrop_25 : decode cX7_worldsOfDrop 25 = .ok (.iconst 0, 1) := by decide +kernel
theorem dX7_worldsOfDrop_26 : decode cX7_worldsOfDrop 26 = .ok (.istore 6, 2) := by decide +kernel
theorem dX7_worldsOfDrop_28 : decode cX7_worldsOfDrop 28 = .ok (.iconst 0, 1) := by decide +kernel
theorem dX7_worldsOfDrop_29 : decode cX7_worldsOfDrop 29 = .ok (.istore 7, 2) := by decide +kernel
theorem dX7_worldsOfDrop_31 : decode cX7_worldsOfDrop 31 = .ok (.iload 7, 2) := by decide +kernel
theorem dX7_worldsOfDrop_33 : decode cX7_worldsOfDrop 33 = .ok (.aload_n 0, 1) := by decide +kernel
theorem dX7_worldsOfDrop_34 : decode cX7_worldsOfDrop 34 = .ok (.getfield 19, 3) := by decide +kernel
theorem dX7_worldsOfDrop_37 : decode cX7_worldsOfDrop 37 = .ok (.invokevirtual 238, 3) := by decide +kernel
theorem dX7_worldsOfDrop_40 : decode cX7_worldsOfDrop 40 = .ok (.if_icmp .ge 62, 3) := by decide +kernel
theorem dX7_worldsOfDrop_43 : decode cX7_worldsOfDrop 43 = .ok (.lload_n 1, 1) := by decide +kernel
theorem dX7_worldsOfDrop_44 : decode cX7_worldsOfDrop 44 = .ok (.iload 7, 2) := by decide +kernel
theorem dX7_worldsOfDrop_46 : decode cX7_worldsOfDrop 46 = .ok (.invokestatic 291, 3) := by decide +kernel
theorem dX7_worldsOfDrop_49 : decode cX7_worldsOfDrop 49 = .ok (.ifCond .eq 47, 3) := by decide +kernel
theorem dX7_worldsOfDrop_52 : decode cX7_worldsOfDrop 52 = .ok (.aload_n 0, 1) := by decide +kernel
theorem dX7_worldsOfDrop_53 : decode cX7_worldsOfDrop 53 = .ok (.getfield 23, 3) := by decide +kernel
theorem dX7_worldsOfDrop_56 : decode cX7_worldsOfDrop 56 = .ok (.iload 7, 2) := by decide +kernel
theorem dX7_worldsOfDrop_58 : decode cX7_worldsOfDrop 58 = .ok (.putfield 118, 3) := by decide +kernel
theorem dX7_worldsOfDrop_61 : decode cX7_worldsOfDrop 61 = .ok (.aload_n 0, 1) := by decide +kernel
theorem dX7_worldsOfDrop_62 : decode cX7_worldsOfDrop 62 = .ok (.getfield 29, 3) := by decide +kernel
theorem dX7_worldsOfDrop_65 : decode cX7_worldsOfDrop 65 = .ok (.aload_n 0, 1) := by decide +kernel
theorem dX7_worldsOfDrop_66 : decode cX7_worldsOfDrop 66 = .ok (.getfield 23, 3) := by decide +kernel
theorem dX7_worldsOfDrop_69 : decode cX7_worldsOfDrop 69 = .ok (.invokevirtual 177, 3) := by decide +kernel
theorem dX7_worldsOfDrop_72 : decode cX7_worldsOfDrop 72 = .ok (.aload_n 0, 1) := by decide +kernel
theorem dX7_worldsOfDrop_73 : decode cX7_worldsOfDrop 73 = .ok (.getfield 29, 3) := by decide +kernel
theorem dX7_worldsOfDrop_76 : decode cX7_worldsOfDrop 76 = .ok (.getfield 180, 3) := by decide +kernel
theorem dX7_worldsOfDrop_79 : decode cX7_worldsOfDrop 79 = .ok (.iload_n 3, 1) := by decide +kernel
theorem dX7_worldsOfDrop_80 : decode cX7_worldsOfDrop 80 = .ok (.invokestatic 108, 3) := by decide +kernel
theorem dX7_worldsOfDrop_83 : decode cX7_worldsOfDrop 83 = .ok (.aload_n 0, 1) := by decide +kernel
theorem dX7_worldsOfDrop_84 : decode cX7_worldsOfDrop 84 = .ok (.getfield 19, 3) := by decide +kernel
theorem dX7_worldsOfDrop_87 : decode cX7_worldsOfDrop 87 = .ok (.getfield 153, 3) := by decide +kernel
theorem dX7_worldsOfDrop_90 : decode cX7_worldsOfDrop 90 = .ok (.if_icmp .ne 6, 3) := by decide +kernel
theorem dX7_worldsOfDrop_93 : decode cX7_worldsOfDrop 93 = .ok (.iinc 6 1, 3) := by decide +kernel
theorem dX7_worldsOfDrop_96 : decode cX7_worldsOfDrop 96 = .ok (.iinc 7 1, 3) := by decide +kernel
theorem dX7_worldsOfDrop_99 : decode cX7_worldsOfDrop 99 = .ok (.goto (-68), 3) := by decide +kernel
theorem dX7_worldsOfDrop_102 : decode cX7_worldsOfDrop 102 = .ok (.iload 6, 2) := by decide +kernel
theorem dX7_worldsOfDrop_104 : decode cX7_worldsOfDrop 104 = .ok (.ireturn, 1) := by decide +kernel
theorem dX7_chanceOf_0 : decode cX7_chanceOf 0 = .ok (.iconst 1, 1) := by decide +kernel
theorem dX7_chanceOf_1 : decode cX7_chanceOf 1 = .ok (.istore_n 3, 1) := by decide +kernel
theorem dX7_chanceOf_2 : decode cX7_chanceOf 2 = .ok (.iconst 0, 1) := by decide +kernel
theorem dX7_chanceOf_3 : decode cX7_chanceOf 3 = .ok (.istore 4, 2) := by decide +kernel
theorem dX7_chanceOf_5 : decode cX7_chanceOf 5 = .ok (.iload 4, 2) := by decide +kernel
theorem dX7_chanceOf_7 : decode cX7_chanceOf 7 = .ok (.aload_n 0, 1) := by decide +kernel
theorem dX7_chanceOf_8 : decode cX7_chanceOf 8 = .ok (.getfield 19, 3) := by decide +kernel
theorem dX7_chanceOf_11 : decode cX7_chanceOf 11 = .ok (.getfield 92, 3) := by decide +kernel
theorem dX7_chanceOf_14 : decode cX7_chanceOf 14 = .ok (.if_icmp .ge 30, 3) := by decide +kernel
theorem dX7_chanceOf_17 : decode cX7_chanceOf 17 = .ok (.iload_n 3, 1) := by decide +kernel
theorem dX7_chanceOf_18 : decode cX7_chanceOf 18 = .ok (.iload_n 1, 1) := by decide +kernel
theorem dX7_chanceOf_19 : decode cX7_chanceOf 19 = .ok (.iload 4, 2) := by decide +kernel
theorem dX7_chanceOf_21 : decode cX7_chanceOf 21 = .ok (.invokestatic 121, 3) := by decide +kernel
