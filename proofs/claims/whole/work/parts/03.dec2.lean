theorem dX6_shift_30 : decode cX6_shift 30 = .ok (.iaload, 1) := by decide +kernel
theorem dX6_shift_31 : decode cX6_shift 31 = .ok (.invokevirtual 195, 3) := by decide +kernel
theorem dX6_shift_34 : decode cX6_shift 34 = .ok (.aload_n 0, 1) := by decide +kernel
theorem dX6_shift_35 : decode cX6_shift 35 = .ok (.getfield 38, 3) := by decide +kernel
theorem dX6_shift_38 : decode cX6_shift 38 = .ok (.getfield 199, 3) := by decide +kernel
theorem dX6_shift_41 : decode cX6_shift 41 = .ok (.ifCond .ne 7, 3) := by decide +kernel
theorem dX6_shift_44 : decode cX6_shift 44 = .ok (.sipush (-1000), 3) := by decide +kernel
theorem dX6_shift_47 : decode cX6_shift 47 = .ok (.ireturn, 1) := by decide +kernel
theorem dX6_shift_48 : decode cX6_shift 48 = .ok (.iload_n 1, 1) := by decide +kernel
theorem dX6_shift_49 : decode cX6_shift 49 = .ok (.iconst 3, 1) := by decide +kernel
theorem dX6_shift_50 : decode cX6_shift 50 = .ok (.if_icmp .ne 11, 3) := by decide +kernel
theorem dX6_shift_53 : decode cX6_shift 53 = .ok (.aload_n 0, 1) := by decide +kernel
theorem dX6_shift_54 : decode cX6_shift 54 = .ok (.getfield 38, 3) := by decide +kernel
theorem dX6_shift_57 : decode cX6_shift 57 = .ok (.getfield 202, 3) := by decide +kernel
theorem dX6_shift_60 : decode cX6_shift 60 = .ok (.ireturn, 1) := by decide +kernel
theorem dX6_shift_61 : decode cX6_shift 61 = .ok (.iload_n 1, 1) := by decide +kernel
theorem dX6_shift_62 : decode cX6_shift 62 = .ok (.iconst 4, 1) := by decide +kernel
theorem dX6_shift_63 : decode cX6_shift 63 = .ok (.if_icmp .ne 13, 3) := by decide +kernel
theorem dX6_shift_66 : decode cX6_shift 66 = .ok (.aload_n 0, 1) := by decide +kernel
theorem dX6_shift_67 : decode cX6_shift 67 = .ok (.getfield 38, 3) := by decide +kernel
theorem dX6_shift_70 : decode cX6_shift 70 = .ok (.getfield 199, 3) := by decide +kernel
theorem dX6_shift_73 : decode cX6_shift 73 = .ok (.goto 12, 3) := by decide +kernel
theorem dX6_shift_76 : decode cX6_shift 76 = .ok (.aload_n 0, 1) := by decide +kernel
theorem dX6_shift_77 : decode cX6_shift 77 = .ok (.getfield 38, 3) := by decide +kernel
theorem dX6_shift_80 : decode cX6_shift 80 = .ok (.getfield 205, 3) := by decide +kernel
theorem dX6_shift_83 : decode cX6_shift 83 = .ok (.iload_n 1, 1) := by decide +kernel
theorem dX6_shift_84 : decode cX6_shift 84 = .ok (.iaload, 1) := by decide +kernel
theorem dX6_shift_85 : decode cX6_shift 85 = .ok (.ireturn, 1) := by decide +kernel
theorem dX6_wish_0 : decode cX6_wish 0 = .ok (.iload_n 1, 1) := by decide +kernel
theorem dX6_wish_1 : decode cX6_wish 1 = .ok (.invokestatic 73, 3) := by decide +kernel
theorem dX6_wish_4 : decode cX6_wish 4 = .ok (.ifCond .eq 27, 3) := by decide +kernel
theorem dX6_wish_7 : decode cX6_wish 7 = .ok (.iload_n 2, 1) := by decide +kernel
theorem dX6_wish_8 : decode cX6_wish 8 = .ok (.iconst 0, 1) := by decide +kernel
theorem dX6_wish_9 : decode cX6_wish 9 = .ok (.sipush 999, 3) := by decide +kernel
theorem dX6_wish_12 : decode cX6_wish 12 = .ok (.invokestatic 56, 3) := by decide +kernel
theorem dX6_wish_15 : decode cX6_wish 15 = .ok (.ifCond .eq 16, 3) := by decide +kernel
theorem dX6_wish_18 : decode cX6_wish 18 = .ok (.iload_n 3, 1) := by decide +kernel
theorem dX6_wish_19 : decode cX6_wish 19 = .ok (.sipush (-500), 3) := by decide +kernel
theorem dX6_wish_22 : decode cX6_wish 22 = .ok (.sipush 500, 3) := by decide +kernel
theorem dX6_wish_25 : decode cX6_wish 25 = .ok (.invokestatic 56, 3) := by decide +kernel
theorem dX6_wish_28 : decode cX6_wish 28 = .ok (.ifCond .ne 8, 3) := by decide +kernel
theorem dX6_wish_31 : decode cX6_wish 31 = .ok (.aload_n 0, 1) := by decide +kernel
theorem dX6_wish_32 : decode cX6_wish 32 = .ok (.invokevirtual 66, 3) := by decide +kernel
theorem dX6_wish_35 : decode cX6_wish 35 = .ok (.ireturn, 1) := by decide +kernel
theorem dX6_wish_36 : decode cX6_wish 36 = .ok (.aload_n 0, 1) := by decide +kernel
theorem dX6_wish_37 : decode cX6_wish 37 = .ok (.getfield 10, 3) := by decide +kernel
theorem dX6_wish_40 : decode cX6_wish 40 = .ok (.getfield 208, 3) := by decide +kernel
theorem dX6_wish_43 : decode cX6_wish 43 = .ok (.invokevirtual 211, 3) := by decide +kernel
theorem dX6_wish_46 : decode cX6_wish 46 = .ok (.ifCond .eq 8, 3) := by decide +kernel
theorem dX6_wish_49 : decode cX6_wish 49 = .ok (.aload_n 0, 1) := by decide +kernel
theorem dX6_wish_50 : decode cX6_wish 50 = .ok (.invokevirtual 215, 3) := by decide +kernel
theorem dX6_wish_53 : decode cX6_wish 53 = .ok (.ireturn, 1) := by decide +kernel
theorem dX6_wish_54 : decode cX6_wish 54 = .ok (.aload_n 0, 1) := by decide +kernel
theorem dX6_wish_55 : decode cX6_wish 55 = .ok (.getfield 10, 3) := by decide +kernel
theorem dX6_wish_58 : decode cX6_wish 58 = .ok (.getfield 208, 3) := by decide +kernel
theorem dX6_wish_61 : decode cX6_wish 61 = .ok (.iload_n 1, 1) := by decide +kernel
theorem dX6_wish_62 : decode cX6_wish 62 = .ok (.iload_n 2, 1) := by decide +kernel
theorem dX6_wish_63 : decode cX6_wish 63 = .ok (.iload_n 3, 1) := by decide +kernel
theorem dX6_wish_64 : decode cX6_wish 64 = .ok (.iconst 0, 1) := by decide +kernel
theorem dX6_wish_65 : decode cX6_wish 65 = .ok (.invokevirtual 218, 3) := by decide +kernel
theorem dX6_wish_68 : decode cX6_wish 68 = .ok (.aload_n 0, 1) := by decide +kernel
theorem dX6_wish_69 : decode cX6_wish 69 = .ok (.getfield 10, 3) := by decide +kernel
theorem dX6_wish_72 : decode cX6_wish 72 = .ok (.getfield 208, 3) := by decide +kernel
theorem dX6_wish_75 : decode cX6_wish 75 = .ok (.getfield 132, 3) := by decide +kernel
theorem dX6_wish_78 : decode cX6_wish 78 = .ok (.ireturn, 1) := by decide +kernel
theorem dX6_unwish_0 : decode cX6_unwish 0 = .ok (.iload_n 1, 1) := by decide +kernel
theorem dX6_unwish_1 : decode cX6_unwish 1 = .ok (.invokestatic 73, 3) := by decide +kernel
theorem dX6_unwish_4 : decode cX6_unwish 4 = .ok (.ifCond .ne 8, 3) := by decide +kernel
theorem dX6_unwish_7 : decode cX6_unwish 7 = .ok (.aload_n 0, 1) := by decide +kernel
theorem dX6_unwish_8 : decode cX6_unwish 8 = .ok (.invokevirtual 66, 3) := by decide +kernel
theorem dX6_unwish_11 : decode cX6_unwish 11 = .ok (.ireturn, 1) := by decide +kernel
theorem dX6_unwish_12 : decode cX6_unwish 12 = .ok (.aload_n 0, 1) := by decide +kernel
theorem dX6_unwish_13 : decode cX6_unwish 13 = .ok (.getfield 10, 3) := by decide +kernel
theorem dX6_unwish_16 : decode cX6_unwish 16 = .ok (.iload_n 1, 1) := by decide +kernel
theorem dX6_unwish_17 : decode cX6_unwish 17 = .ok (.invokevirtual 222, 3) := by decide +kernel
theorem dX6_unwish_20 : decode cX6_unwish 20 = .ok (.ireturn, 1) := by decide +kernel
theorem dX6_wished_0 : decode cX6_wished 0 = .ok (.iload_n 1, 1) := by decide +kernel
theorem dX6_wished_1 : decode cX6_wished 1 = .ok (.ifCond .lt 12, 3) := by decide +kernel
theorem dX6_wished_4 : decode cX6_wished 4 = .ok (.iload_n 2, 1) := by decide +kernel
theorem dX6_wished_5 : decode cX6_wished 5 = .ok (.iconst 0, 1) := by decide +kernel
theorem dX6_wished_6 : decode cX6_wished 6 = .ok (.iconst 2, 1) := by decide +kernel
theorem dX6_wished_7 : decode cX6_wished 7 = .ok (.invokestatic 56, 3) := by decide +kernel
theorem dX6_wished_10 : decode cX6_wished 10 = .ok (.ifCond .ne 8, 3) := by decide +kernel
theorem dX6_wished_13 : decode cX6_wished 13 = .ok (.aload_n 0, 1) := by decide +kernel
theorem dX6_wished_14 : decode cX6_wished 14 = .ok (.invokevirtual 66, 3) := by decide +kernel
theorem dX6_wished_17 : decode cX6_wished 17 = .ok (.ireturn, 1) := by decide +kernel
theorem dX6_wished_18 : decode cX6_wished 18 = .ok (.aload_n 0, 1) := by decide +kernel
theorem dX6_wished_19 : decode cX6_wished 19 = .ok (.getfield 10, 3) := by decide +kernel
theorem dX6_wished_22 : decode cX6_wished 22 = .ok (.getfield 208, 3) := by decide +kernel
theorem dX6_wished_25 : decode cX6_wished 25 = .ok (.iconst (-1), 1) := by decide +kernel
theorem dX6_wished_26 : decode cX6_wished 26 = .ok (.iload_n 1, 1) := by decide +kernel
theorem dX6_wished_27 : decode cX6_wished 27 = .ok (.iload_n 2, 1) := by decide +kernel
theorem dX6_wished_28 : decode cX6_wished 28 = .ok (.invokevirtual 166, 3) := by decide +kernel
theorem dX6_wished_31 : decode cX6_wished 31 = .ok (.ireturn, 1) := by decide +kernel
theorem dX6_steps_0 : decode cX6_steps 0 = .ok (.iload_n 1, 1) := by decide +kernel
theorem dX6_steps_1 : decode cX6_steps 1 = .ok (.iconst 1, 1) := by decide +kernel
theorem dX6_steps_2 : decode cX6_steps 2 = .ok (.bipush 50, 2) := by decide +kernel
theorem dX6_steps_4 : decode cX6_steps 4 = .ok (.invokestatic 56, 3) := by decide +kernel
theorem dX6_steps_7 : decode cX6_steps 7 = .ok (.ifCond .ne 8, 3) := by decide +kernel
theorem dX6_steps_10 : decode cX6_steps 10 = .ok (.aload_n 0, 1) := by decide +kernel
theorem dX6_steps_11 : decode cX6_steps 11 = .ok (.invokevirtual 66, 3) := by decide +kernel
theorem dX6_steps_14 : decode cX6_steps 14 = .ok (.ireturn, 1) := by decide +kernel
theorem dX6_steps_15 : decode cX6_steps 15 = .ok (.iconst 0, 1) := by decide +kernel
theorem dX6_steps_16 : decode cX6_steps 16 = .ok (.istore_n 2, 1) := by decide +kernel
theorem dX6_steps_17 : decode cX6_steps 17 = .ok (.iconst 0, 1) := by decide +kernel
theorem dX6_steps_18 : decode cX6_steps 18 = .ok (.istore_n 3, 1) := by decide +kernel
theorem dX6_steps_19 : decode cX6_steps 19 = .ok (.iload_n 3, 1) := by decide +kernel
theorem dX6_steps_20 : decode cX6_steps 20 = .ok (.iload_n 1, 1) := by decide +kernel
theorem dX6_steps_21 : decode cX6_steps 21 = .ok (.if_icmp .ge 37, 3) := by decide +kernel
theorem dX6_steps_24 : decode cX6_steps 24 = .ok (.aload_n 0, 1) := by decide +kernel
theorem dX6_steps_25 : decode cX6_steps 25 = .ok (.getfield 10, 3) := by decide +kernel
theorem dX6_steps_28 : decode cX6_steps 28 = .ok (.invokevirtual 225, 3) := by decide +kernel
theorem dX6_steps_31 : decode cX6_steps 31 = .ok (.ifCond .eq 7, 3) := by decide +kernel
theorem dX6_steps_34 : decode cX6_steps 34 = .ok (.iconst 1, 1) := by decide +kernel
theorem dX6_steps_35 : decode cX6_steps 35 = .ok (.goto 4, 3) := by decide +kernel
theorem dX6_steps_38 : decode cX6_steps 38 = .ok (.iconst 0, 1) := by decide +kernel
theorem dX6_steps_39 : decode cX6_steps 39 = .ok (.istore 4, 2) := by decide +kernel
theorem dX6_steps_41 : decode cX6_steps 41 = .ok (.aload_n 0, 1) := by decide +kernel
theorem dX6_steps_42 : decode cX6_steps 42 = .ok (.iload 4, 2) := by decide +kernel
theorem dX6_steps_44 : decode cX6_steps 44 = .ok (.invokevirtual 228, 3) := by decide +kernel
theorem dX6_steps_47 : decode cX6_steps 47 = .ok (.iload_n 2, 1) := by decide +kernel
theorem dX6_steps_48 : decode cX6_steps 48 = .ok (.iload 4, 2) := by decide +kernel
theorem dX6_steps_50 : decode cX6_steps 50 = .ok (.iadd, 1) := by decide +kernel
theorem dX6_steps_51 : decode cX6_steps 51 = .ok (.istore_n 2, 1) := by decide +kernel
theorem dX6_steps_52 : decode cX6_steps 52 = .ok (.iinc 3 1, 3) := by decide +kernel
theorem dX6_steps_55 : decode cX6_steps 55 = .ok (.goto (-36), 3) := by decide +kernel
theorem dX6_steps_58 : decode cX6_steps 58 = .ok (.iload_n 2, 1) := by decide +kernel
theorem dX6_steps_59 : decode cX6_steps 59 = .ok (.ireturn, 1) := by decide +kernel
theorem dX6_settles_0 : decode cX6_settles 0 = .ok (.iload_n 1, 1) := by decide +kernel
theorem dX6_settles_1 : decode cX6_settles 1 = .ok (.iconst 0, 1) := by decide +kernel
theorem dX6_settles_2 : decode cX6_settles 2 = .ok (.sipush 500, 3) := by decide +kernel
theorem dX6_settles_5 : decode cX6_settles 5 = .ok (.invokestatic 56, 3) := by decide +kernel
theorem dX6_settles_8 : decode cX6_settles 8 = .ok (.ifCond .ne 8, 3) := by decide +kernel
theorem dX6_settles_11 : decode cX6_settles 11 = .ok (.aload_n 0, 1) := by decide +kernel
theorem dX6_settles_12 : decode cX6_settles 12 = .ok (.invokevirtual 66, 3) := by decide +kernel
theorem dX6_settles_15 : decode cX6_settles 15 = .ok (.ireturn, 1) := by decide +kernel
theorem dX6_settles_16 : decode cX6_settles 16 = .ok (.aload_n 0, 1) := by decide +kernel
theorem dX6_settles_17 : decode cX6_settles 17 = .ok (.iload_n 1, 1) := by decide +kernel
theorem dX6_settles_18 : decode cX6_settles 18 = .ok (.aload_n 0, 1) := by decide +kernel
theorem dX6_settles_19 : decode cX6_settles 19 = .ok (.getfield 10, 3) := by decide +kernel
theorem dX6_settles_22 : decode cX6_settles 22 = .ok (.getfield 70, 3) := by decide +kernel
theorem dX6_settles_25 : decode cX6_settles 25 = .ok (.iconst 4, 1) := by decide +kernel
theorem dX6_settles_26 : decode cX6_settles 26 = .ok (.iaload, 1) := by decide +kernel
theorem dX6_settles_27 : decode cX6_settles 27 = .ok (.bipush 60, 2) := by decide +kernel
theorem dX6_settles_29 : decode cX6_settles 29 = .ok (.invokevirtual 231, 3) := by decide +kernel
theorem dX6_settles_32 : decode cX6_settles 32 = .ok (.ireturn, 1) := by decide +kernel
theorem dX6_tunes_0 : decode cX6_tunes 0 = .ok (.iload_n 1, 1) := by decide +kernel
theorem dX6_tunes_1 : decode cX6_tunes 1 = .ok (.iconst 0, 1) := by decide +kernel
theorem dX6_tunes_2 : decode cX6_tunes 2 = .ok (.sipush 500, 3) := by decide +kernel
theorem dX6_tunes_5 : decode cX6_tunes 5 = .ok (.invokestatic 56, 3) := by decide +kernel
theorem dX6_tunes_8 : decode cX6_tunes 8 = .ok (.ifCond .ne 8, 3) := by decide +kernel
theorem dX6_tunes_11 : decode cX6_tunes 11 = .ok (.aload_n 0, 1) := by decide +kernel
theorem dX6_tunes_12 : decode cX6_tunes 12 = .ok (.invokevirtual 66, 3) := by decide +kernel
theorem dX6_tunes_15 : decode cX6_tunes 15 = .ok (.ireturn, 1) := by decide +kernel
theorem dX6_tunes_16 : decode cX6_tunes 16 = .ok (.iconst (-1), 1) := by decide +kernel
theorem dX6_tunes_17 : decode cX6_tunes 17 = .ok (.istore_n 2, 1) := by decide +kernel
theorem dX6_tunes_18 : decode cX6_tunes 18 = .ok (.bipush 60, 2) := by decide +kernel
theorem dX6_tunes_20 : decode cX6_tunes 20 = .ok (.istore_n 3, 1) := by decide +kernel
theorem dX6_tunes_21 : decode cX6_tunes 21 = .ok (.iconst 0, 1) := by decide +kernel
theorem dX6_tunes_22 : decode cX6_tunes 22 = .ok (.istore 4, 2) := by decide +kernel
theorem dX6_tunes_24 : decode cX6_tunes 24 = .ok (.iload 4, 2) := by decide +kernel
theorem dX6_tunes_26 : decode cX6_tunes 26 = .ok (.bipush 20, 2) := by decide +kernel
theorem dX6_tunes_28 : decode cX6_tunes 28 = .ok (.if_icmp .gt 33, 3) := by decide +kernel
theorem dX6_tunes_31 : decode cX6_tunes 31 = .ok (.aload_n 0, 1) := by decide +kernel
theorem dX6_tunes_32 : decode cX6_tunes 32 = .ok (.iload_n 1, 1) := by decide +kernel
theorem dX6_tunes_33 : decode cX6_tunes 33 = .ok (.iload 4, 2) := by decide +kernel
theorem dX6_tunes_35 : decode cX6_tunes 35 = .ok (.iload_n 3, 1) := by decide +kernel
theorem dX6_tunes_36 : decode cX6_tunes 36 = .ok (.invokevirtual 231, 3) := by decide +kernel
theorem dX6_tunes_39 : decode cX6_tunes 39 = .ok (.istore 5, 2) := by decide +kernel
theorem dX6_tunes_41 : decode cX6_tunes 41 = .ok (.iload 5, 2) := by decide +kernel
theorem dX6_tunes_43 : decode cX6_tunes 43 = .ok (.iconst (-1), 1) := by decide +kernel
theorem dX6_tunes_44 : decode cX6_tunes 44 = .ok (.if_icmp .eq 11, 3) := by decide +kernel
theorem dX6_tunes_47 : decode cX6_tunes 47 = .ok (.iload 4, 2) := by decide +kernel
theorem dX6_tunes_49 : decode cX6_tunes 49 = .ok (.istore_n 2, 1) := by decide +kernel
theorem dX6_tunes_50 : decode cX6_tunes 50 = .ok (.iload 5, 2) := by decide +kernel
theorem dX6_tunes_52 : decode cX6_tunes 52 = .ok (.iconst 1, 1) := by decide +kernel
theorem dX6_tunes_53 : decode cX6_tunes 53 = .ok (.isub, 1) := by decide +kernel
theorem dX6_tunes_54 : decode cX6_tunes 54 = .ok (.istore_n 3, 1) := by decide +kernel
theorem dX6_tunes_55 : decode cX6_tunes 55 = .ok (.iinc 4 1, 3) := by decide +kernel
theorem dX6_tunes_58 : decode cX6_tunes 58 = .ok (.goto (-34), 3) := by decide +kernel
theorem dX6_tunes_61 : decode cX6_tunes 61 = .ok (.iload_n 2, 1) := by decide +kernel
theorem dX6_tunes_62 : decode cX6_tunes 62 = .ok (.ireturn, 1) := by decide +kernel
theorem dX6_state_0 : decode cX6_state 0 = .ok (.iload_n 1, 1) := by decide +kernel
theorem dX6_state_1 : decode cX6_state 1 = .ok (.invokestatic 73, 3) := by decide +kernel
theorem dX6_state_4 : decode cX6_state 4 = .ok (.ifCond .ne 8, 3) := by decide +kernel
theorem dX6_state_7 : decode cX6_state 7 = .ok (.aload_n 0, 1) := by decide +kernel
theorem dX6_state_8 : decode cX6_state 8 = .ok (.invokevirtual 66, 3) := by decide +kernel
theorem dX6_state_11 : decode cX6_state 11 = .ok (.ireturn, 1) := by decide +kernel
theorem dX6_state_12 : decode cX6_state 12 = .ok (.iload_n 2, 1) := by decide +kernel
theorem dX6_state_13 : decode cX6_state 13 = .ok (.tableswitch 71 0 3 #[31, 41, 51, 61], 31) := by decide +kernel
theorem dX6_state_44 : decode cX6_state 44 = .ok (.aload_n 0, 1) := by decide +kernel
theorem dX6_state_45 : decode cX6_state 45 = .ok (.getfield 10, 3) := by decide +kernel
theorem dX6_state_48 : decode cX6_state 48 = .ok (.getfield 80, 3) := by decide +kernel
theorem dX6_state_51 : decode cX6_state 51 = .ok (.iload_n 1, 1) := by decide +kernel
theorem dX6_state_52 : decode cX6_state 52 = .ok (.iaload, 1) := by decide +kernel
theorem dX6_state_53 : decode cX6_state 53 = .ok (.ireturn, 1) := by decide +kernel
theorem dX6_state_54 : decode cX6_state 54 = .ok (.aload_n 0, 1) := by decide +kernel
theorem dX6_state_55 : decode cX6_state 55 = .ok (.getfield 10, 3) := by decide +kernel
theorem dX6_state_58 : decode cX6_state 58 = .ok (.getfield 77, 3) := by decide +kernel
theorem dX6_state_61 : decode cX6_state 61 = .ok (.iload_n 1, 1) := by decide +kernel
theorem dX6_state_62 : decode cX6_state 62 = .ok (.iaload, 1) := by decide +kernel
theorem dX6_state_63 : decode cX6_state 63 = .ok (.ireturn, 1) := by decide +kernel
theorem dX6_state_64 : decode cX6_state 64 = .ok (.aload_n 0, 1) := by decide +kernel
theorem dX6_state_65 : decode cX6_state 65 = .ok (.getfield 10, 3) := by decide +kernel
theorem dX6_state_68 : decode cX6_state 68 = .ok (.getfield 234, 3) := by decide +kernel
theorem dX6_state_71 : decode cX6_state 71 = .ok (.iload_n 1, 1) := by decide +kernel
theorem dX6_state_72 : decode cX6_state 72 = .ok (.iaload, 1) := by decide +kernel
theorem dX6_state_73 : decode cX6_state 73 = .ok (.ireturn, 1) := by decide +kernel
theorem dX6_state_74 : decode cX6_state 74 = .ok (.aload_n 0, 1) := by decide +kernel
theorem dX6_state_75 : decode cX6_state 75 = .ok (.getfield 10, 3) := by decide +kernel
theorem dX6_state_78 : decode cX6_state 78 = .ok (.getfield 237, 3) := by decide +kernel
theorem dX6_state_81 : decode cX6_state 81 = .ok (.iload_n 1, 1) := by decide +kernel
theorem dX6_state_82 : decode cX6_state 82 = .ok (.iaload, 1) := by decide +kernel
theorem dX6_state_83 : decode cX6_state 83 = .ok (.ireturn, 1) := by decide +kernel
theorem dX6_state_84 : decode cX6_state 84 = .ok (.aload_n 0, 1) := by decide +kernel
theorem dX6_state_85 : decode cX6_state 85 = .ok (.invokevirtual 66, 3) := by decide +kernel
theorem dX6_state_88 : decode cX6_state 88 = .ok (.ireturn, 1) := by decide +kernel
theorem dX6_memory_0 : decode cX6_memory 0 = .ok (.iload_n 1, 1) := by decide +kernel
theorem dX6_memory_1 : decode cX6_memory 1 = .ok (.ifCond .lt 12, 3) := by decide +kernel
theorem dX6_memory_4 : decode cX6_memory 4 = .ok (.iload_n 2, 1) := by decide +kernel
theorem dX6_memory_5 : decode cX6_memory 5 = .ok (.iconst 0, 1) := by decide +kernel
theorem dX6_memory_6 : decode cX6_memory 6 = .ok (.iconst 3, 1) := by decide +kernel
theorem dX6_memory_7 : decode cX6_memory 7 = .ok (.invokestatic 56, 3) := by decide +kernel
theorem dX6_memory_10 : decode cX6_memory 10 = .ok (.ifCond .ne 8, 3) := by decide +kernel
theorem dX6_memory_13 : decode cX6_memory 13 = .ok (.aload_n 0, 1) := by decide +kernel
theorem dX6_memory_14 : decode cX6_memory 14 = .ok (.invokevirtual 66, 3) := by decide +kernel
theorem dX6_memory_17 : decode cX6_memory 17 = .ok (.ireturn, 1) := by decide +kernel
theorem dX6_memory_18 : decode cX6_memory 18 = .ok (.aload_n 0, 1) := by decide +kernel
theorem dX6_memory_19 : decode cX6_memory 19 = .ok (.getfield 42, 3) := by decide +kernel
theorem dX6_memory_22 : decode cX6_memory 22 = .ok (.sipush (-1000), 3) := by decide +kernel
theorem dX6_memory_25 : decode cX6_memory 25 = .ok (.aload_n 0, 1) := by decide +kernel
theorem dX6_memory_26 : decode cX6_memory 26 = .ok (.getfield 42, 3) := by decide +kernel
theorem dX6_memory_29 : decode cX6_memory 29 = .ok (.getfield 132, 3) := by decide +kernel
theorem dX6_memory_32 : decode cX6_memory 32 = .ok (.iconst 1, 1) := by decide +kernel
theorem dX6_memory_33 : decode cX6_memory 33 = .ok (.isub, 1) := by decide +kernel
theorem dX6_memory_34 : decode cX6_memory 34 = .ok (.iload_n 1, 1) := by decide +kernel
theorem dX6_memory_35 : decode cX6_memory 35 = .ok (.isub, 1) := by decide +kernel
theorem dX6_memory_36 : decode cX6_memory 36 = .ok (.iload_n 2, 1) := by decide +kernel
theorem dX6_memory_37 : decode cX6_memory 37 = .ok (.invokevirtual 166, 3) := by decide +kernel
theorem dX6_memory_40 : decode cX6_memory 40 = .ok (.ireturn, 1) := by decide +kernel
theorem dX6_over_0 : decode cX6_over 0 = .ok (.iload_n 1, 1) := by decide +kernel
theorem dX6_over_1 : decode cX6_over 1 = .ok (.invokestatic 73, 3) := by decide +kernel
theorem dX6_over_4 : decode cX6_over 4 = .ok (.ifCond .ne 8, 3) := by decide +kernel
theorem dX6_over_7 : decode cX6_over 7 = .ok (.aload_n 0, 1) := by decide +kernel
theorem dX6_over_8 : decode cX6_over 8 = .ok (.invokevirtual 66, 3) := by decide +kernel
theorem dX6_over_11 : decode cX6_over 11 = .ok (.ireturn, 1) := by decide +kernel
theorem dX6_over_12 : decode cX6_over 12 = .ok (.iload_n 2, 1) := by decide +kernel
theorem dX6_over_13 : decode cX6_over 13 = .ok (.tableswitch 63 0 2 #[27, 39, 51], 27) := by decide +kernel
theorem dX6_over_40 : decode cX6_over 40 = .ok (.aload_n 0, 1) := by decide +kernel
theorem dX6_over_41 : decode cX6_over 41 = .ok (.getfield 42, 3) := by decide +kernel
theorem dX6_over_44 : decode cX6_over 44 = .ok (.sipush (-1000), 3) := by decide +kernel
theorem dX6_over_47 : decode cX6_over 47 = .ok (.iload_n 1, 1) := by decide +kernel
theorem dX6_over_48 : decode cX6_over 48 = .ok (.invokevirtual 240, 3) := by decide +kernel
theorem dX6_over_51 : decode cX6_over 51 = .ok (.ireturn, 1) := by decide +kernel
theorem dX6_over_52 : decode cX6_over 52 = .ok (.aload_n 0, 1) := by decide +kernel
theorem dX6_over_53 : decode cX6_over 53 = .ok (.getfield 42, 3) := by decide +kernel
theorem dX6_over_56 : decode cX6_over 56 = .ok (.sipush (-1000), 3) := by decide +kernel
theorem dX6_over_59 : decode cX6_over 59 = .ok (.iload_n 1, 1) := by decide +kernel
theorem dX6_over_60 : decode cX6_over 60 = .ok (.invokevirtual 244, 3) := by decide +kernel
theorem dX6_over_63 : decode cX6_over 63 = .ok (.ireturn, 1) := by decide +kernel
theorem dX6_over_64 : decode cX6_over 64 = .ok (.aload_n 0, 1) := by decide +kernel
theorem dX6_over_65 : decode cX6_over 65 = .ok (.getfield 42, 3) := by decide +kernel
theorem dX6_over_68 : decode cX6_over 68 = .ok (.sipush (-1000), 3) := by decide +kernel
theorem dX6_over_71 : decode cX6_over 71 = .ok (.iconst 3, 1) := by decide +kernel
theorem dX6_over_72 : decode cX6_over 72 = .ok (.invokevirtual 247, 3) := by decide +kernel
theorem dX6_over_75 : decode cX6_over 75 = .ok (.ireturn, 1) := by decide +kernel
theorem dX6_over_76 : decode cX6_over 76 = .ok (.aload_n 0, 1) := by decide +kernel
theorem dX6_over_77 : decode cX6_over 77 = .ok (.invokevirtual 66, 3) := by decide +kernel
theorem dX6_over_80 : decode cX6_over 80 = .ok (.ireturn, 1) := by decide +kernel
theorem dX6_type_0 : decode cX6_type 0 = .ok (.iload_n 1, 1) := by decide +kernel
theorem dX6_type_1 : decode cX6_type 1 = .ok (.iconst 0, 1) := by decide +kernel
theorem dX6_type_2 : decode cX6_type 2 = .ok (.bipush 127, 2) := by decide +kernel
theorem dX6_type_4 : decode cX6_type 4 = .ok (.invokestatic 56, 3) := by decide +kernel
theorem dX6_type_7 : decode cX6_type 7 = .ok (.ifCond .ne 8, 3) := by decide +kernel
theorem dX6_type_10 : decode cX6_type 10 = .ok (.aload_n 0, 1) := by decide +kernel
theorem dX6_type_11 : decode cX6_type 11 = .ok (.invokevirtual 66, 3) := by decide +kernel
theorem dX6_type_14 : decode cX6_type 14 = .ok (.ireturn, 1) := by decide +kernel
theorem dX6_type_15 : decode cX6_type 15 = .ok (.aload_n 0, 1) := by decide +kernel
theorem dX6_type_16 : decode cX6_type 16 = .ok (.getfield 48, 3) := by decide +kernel
theorem dX6_type_19 : decode cX6_type 19 = .ok (.getfield 250, 3) := by decide +kernel
theorem dX6_type_22 : decode cX6_type 22 = .ok (.bipush 120, 2) := by decide +kernel
theorem dX6_type_24 : decode cX6_type 24 = .ok (.if_icmp .lt 8, 3) := by decide +kernel
theorem dX6_type_27 : decode cX6_type 27 = .ok (.aload_n 0, 1) := by decide +kernel
theorem dX6_type_28 : decode cX6_type 28 = .ok (.invokevirtual 215, 3) := by decide +kernel
theorem dX6_type_31 : decode cX6_type 31 = .ok (.ireturn, 1) := by decide +kernel
theorem dX6_type_32 : decode cX6_type 32 = .ok (.aload_n 0, 1) := by decide +kernel
theorem dX6_type_33 : decode cX6_type 33 = .ok (.getfield 48, 3) := by decide +kernel
theorem dX6_type_36 : decode cX6_type 36 = .ok (.iload_n 1, 1) := by decide +kernel
theorem dX6_type_37 : decode cX6_type 37 = .ok (.invokevirtual 253, 3) := by decide +kernel
theorem dX6_type_40 : decode cX6_type 40 = .ok (.aload_n 0, 1) := by decide +kernel
theorem dX6_type_41 : decode cX6_type 41 = .ok (.getfield 48, 3) := by decide +kernel
theorem dX6_type_44 : decode cX6_type 44 = .ok (.getfield 250, 3) := by decide +kernel
theorem dX6_type_47 : decode cX6_type 47 = .ok (.ireturn, 1) := by decide +kernel
theorem dX6_clear_0 : decode cX6_clear 0 = .ok (.aload_n 0, 1) := by decide +kernel
theorem dX6_clear_1 : decode cX6_clear 1 = .ok (.getfield 48, 3) := by decide +kernel
theorem dX6_clear_4 : decode cX6_clear 4 = .ok (.getfield 250, 3) := by decide +kernel
theorem dX6_clear_7 : decode cX6_clear 7 = .ok (.istore_n 1, 1) := by decide +kernel
theorem dX6_clear_8 : decode cX6_clear 8 = .ok (.aload_n 0, 1) := by decide +kernel
theorem dX6_clear_9 : decode cX6_clear 9 = .ok (.getfield 48, 3) := by decide +kernel
theorem dX6_clear_12 : decode cX6_clear 12 = .ok (.iconst 0, 1) := by decide +kernel
theorem dX6_clear_13 : decode cX6_clear 13 = .ok (.putfield 250, 3) := by decide +kernel
theorem dX6_clear_16 : decode cX6_clear 16 = .ok (.iload_n 1, 1) := by decide +kernel
theorem dX6_clear_17 : decode cX6_clear 17 = .ok (.ireturn, 1) := by decide +kernel
theorem dX6_reads_0 : decode cX6_reads 0 = .ok (.bipush 12, 2) := by decide +kernel
theorem dX6_reads_2 : decode cX6_reads 2 = .ok (.aload_n 0, 1) := by decide +kernel
theorem dX6_reads_3 : decode cX6_reads 3 = .ok (.getfield 10, 3) := by decide +kernel
theorem dX6_reads_6 : decode cX6_reads 6 = .ok (.getfield 208, 3) := by decide +kernel
theorem dX6_reads_9 : decode cX6_reads 9 = .ok (.getfield 132, 3) := by decide +kernel
theorem dX6_reads_12 : decode cX6_reads 12 = .ok (.isub, 1) := by decide +kernel
theorem dX6_reads_13 : decode cX6_reads 13 = .ok (.istore_n 1, 1) := by decide +kernel
theorem dX6_reads_14 : decode cX6_reads 14 = .ok (.aload_n 0, 1) := by decide +kernel
theorem dX6_reads_15 : decode cX6_reads 15 = .ok (.getfield 48, 3) := by decide +kernel
theorem dX6_reads_18 : decode cX6_reads 18 = .ok (.iload_n 1, 1) := by decide +kernel
theorem dX6_reads_19 : decode cX6_reads 19 = .ok (.aload_n 0, 1) := by decide +kernel
theorem dX6_reads_20 : decode cX6_reads 20 = .ok (.getfield 10, 3) := by decide +kernel
theorem dX6_reads_23 : decode cX6_reads 23 = .ok (.getfield 83, 3) := by decide +kernel
theorem dX6_reads_26 : decode cX6_reads 26 = .ok (.sipush 999, 3) := by decide +kernel
theorem dX6_reads_29 : decode cX6_reads 29 = .ok (.invokestatic 256, 3) := by decide +kernel
theorem dX6_reads_32 : decode cX6_reads 32 = .ok (.invokevirtual 261, 3) := by decide +kernel
theorem dX6_reads_35 : decode cX6_reads 35 = .ok (.istore_n 2, 1) := by decide +kernel
theorem dX6_reads_36 : decode cX6_reads 36 = .ok (.iload_n 2, 1) := by decide +kernel
theorem dX6_reads_37 : decode cX6_reads 37 = .ok (.iconst (-1), 1) := by decide +kernel
theorem dX6_reads_38 : decode cX6_reads 38 = .ok (.if_icmp .eq 8, 3) := by decide +kernel
theorem dX6_reads_41 : decode cX6_reads 41 = .ok (.bipush (-10), 2) := by decide +kernel
theorem dX6_reads_43 : decode cX6_reads 43 = .ok (.iload_n 2, 1) := by decide +kernel
theorem dX6_reads_44 : decode cX6_reads 44 = .ok (.isub, 1) := by decide +kernel
theorem dX6_reads_45 : decode cX6_reads 45 = .ok (.ireturn, 1) := by decide +kernel
theorem dX6_reads_46 : decode cX6_reads 46 = .ok (.aload_n 0, 1) := by decide +kernel
theorem dX6_reads_47 : decode cX6_reads 47 = .ok (.getfield 10, 3) := by decide +kernel
theorem dX6_reads_50 : decode cX6_reads 50 = .ok (.getfield 208, 3) := by decide +kernel
theorem dX6_reads_53 : decode cX6_reads 53 = .ok (.aload_n 0, 1) := by decide +kernel
theorem dX6_reads_54 : decode cX6_reads 54 = .ok (.getfield 48, 3) := by decide +kernel
theorem dX6_reads_57 : decode cX6_reads 57 = .ok (.getfield 264, 3) := by decide +kernel
theorem dX6_reads_60 : decode cX6_reads 60 = .ok (.invokevirtual 265, 3) := by decide +kernel
theorem dX6_reads_63 : decode cX6_reads 63 = .ok (.aload_n 0, 1) := by decide +kernel
theorem dX6_reads_64 : decode cX6_reads 64 = .ok (.getfield 48, 3) := by decide +kernel
theorem dX6_reads_67 : decode cX6_reads 67 = .ok (.getfield 264, 3) := by decide +kernel
theorem dX6_reads_70 : decode cX6_reads 70 = .ok (.getfield 132, 3) := by decide +kernel
theorem dX6_reads_73 : decode cX6_reads 73 = .ok (.ireturn, 1) := by decide +kernel
theorem dX6_count_0 : decode cX6_count 0 = .ok (.iload_n 1, 1) := by decide +kernel
theorem dX6_count_1 : decode cX6_count 1 = .ok (.iconst 0, 1) := by decide +kernel
theorem dX6_count_2 : decode cX6_count 2 = .ok (.bipush 12, 2) := by decide +kernel
theorem dX6_count_4 : decode cX6_count 4 = .ok (.invokestatic 56, 3) := by decide +kernel
theorem dX6_count_7 : decode cX6_count 7 = .ok (.ifCond .ne 8, 3) := by decide +kernel
theorem dX6_count_10 : decode cX6_count 10 = .ok (.aload_n 0, 1) := by decide +kernel
theorem dX6_count_11 : decode cX6_count 11 = .ok (.invokevirtual 66, 3) := by decide +kernel
theorem dX6_count_14 : decode cX6_count 14 = .ok (.ireturn, 1) := by decide +kernel
theorem dX6_count_15 : decode cX6_count 15 = .ok (.aload_n 0, 1) := by decide +kernel
theorem dX6_count_16 : decode cX6_count 16 = .ok (.iload_n 1, 1) := by decide +kernel
theorem dX6_count_17 : decode cX6_count 17 = .ok (.invokevirtual 269, 3) := by decide +kernel
theorem dX6_count_20 : decode cX6_count 20 = .ok (.ireturn, 1) := by decide +kernel
theorem dX6_digest_0 : decode cX6_digest 0 = .ok (.ldc2_w 272, 3) := by decide +kernel
theorem dX6_digest_3 : decode cX6_digest 3 = .ok (.lstore_n 1, 1) := by decide +kernel
theorem dX6_digest_4 : decode cX6_digest 4 = .ok (.iconst 0, 1) := by decide +kernel
theorem dX6_digest_5 : decode cX6_digest 5 = .ok (.istore_n 3, 1) := by decide +kernel
theorem dX6_digest_6 : decode cX6_digest 6 = .ok (.iload_n 3, 1) := by decide +kernel
theorem dX6_digest_7 : decode cX6_digest 7 = .ok (.bipush 13, 2) := by decide +kernel
theorem dX6_digest_9 : decode cX6_digest 9 = .ok (.if_icmp .ge 22, 3) := by decide +kernel
theorem dX6_digest_12 : decode cX6_digest 12 = .ok (.ldc2_w 274, 3) := by decide +kernel
theorem dX6_digest_15 : decode cX6_digest 15 = .ok (.lload_n 1, 1) := by decide +kernel
theorem dX6_digest_16 : decode cX6_digest 16 = .ok (.lmul, 1) := by decide +kernel
theorem dX6_digest_17 : decode cX6_digest 17 = .ok (.aload_n 0, 1) := by decide +kernel
theorem dX6_digest_18 : decode cX6_digest 18 = .ok (.iload_n 3, 1) := by decide +kernel
theorem dX6_digest_19 : decode cX6_digest 19 = .ok (.invokevirtual 269, 3) := by decide +kernel
theorem dX6_digest_22 : decode cX6_digest 22 = .ok (.i2l, 1) := by decide +kernel
theorem dX6_digest_23 : decode cX6_digest 23 = .ok (.ladd, 1) := by decide +kernel
theorem dX6_digest_24 : decode cX6_digest 24 = .ok (.lstore_n 1, 1) := by decide +kernel
theorem dX6_digest_25 : decode cX6_digest 25 = .ok (.iinc 3 1, 3) := by decide +kernel
theorem dX6_digest_28 : decode cX6_digest 28 = .ok (.goto (-22), 3) := by decide +kernel
theorem dX6_digest_31 : decode cX6_digest 31 = .ok (.aload_n 0, 1) := by decide +kernel
theorem dX6_digest_32 : decode cX6_digest 32 = .ok (.invokevirtual 108, 3) := by decide +kernel
theorem dX6_digest_35 : decode cX6_digest 35 = .ok (.astore_n 3, 1) := by decide +kernel
theorem dX6_digest_36 : decode cX6_digest 36 = .ok (.iconst 0, 1) := by decide +kernel
theorem dX6_digest_37 : decode cX6_digest 37 = .ok (.istore 4, 2) := by decide +kernel
theorem dX6_digest_39 : decode cX6_digest 39 = .ok (.iload 4, 2) := by decide +kernel
theorem dX6_digest_41 : decode cX6_digest 41 = .ok (.iconst 3, 1) := by decide +kernel
theorem dX6_digest_42 : decode cX6_digest 42 = .ok (.if_icmp .ge 110, 3) := by decide +kernel
theorem dX6_digest_45 : decode cX6_digest 45 = .ok (.ldc2_w 274, 3) := by decide +kernel
theorem dX6_digest_48 : decode cX6_digest 48 = .ok (.lload_n 1, 1) := by decide +kernel
theorem dX6_digest_49 : decode cX6_digest 49 = .ok (.lmul, 1) := by decide +kernel
theorem dX6_digest_50 : decode cX6_digest 50 = .ok (.aload_n 0, 1) := by decide +kernel
theorem dX6_digest_51 : decode cX6_digest 51 = .ok (.getfield 10, 3) := by decide +kernel
theorem dX6_digest_54 : decode cX6_digest 54 = .ok (.getfield 80, 3) := by decide +kernel
theorem dX6_digest_57 : decode cX6_digest 57 = .ok (.iload 4, 2) := by decide +kernel
theorem dX6_digest_59 : decode cX6_digest 59 = .ok (.iaload, 1) := by decide +kernel
theorem dX6_digest_60 : decode cX6_digest 60 = .ok (.i2l, 1) := by decide +kernel
theorem dX6_digest_61 : decode cX6_digest 61 = .ok (.ladd, 1) := by decide +kernel
theorem dX6_digest_62 : decode cX6_digest 62 = .ok (.lstore_n 1, 1) := by decide +kernel
theorem dX6_digest_63 : decode cX6_digest 63 = .ok (.ldc2_w 274, 3) := by decide +kernel
theorem dX6_digest_66 : decode cX6_digest 66 = .ok (.lload_n 1, 1) := by decide +kernel
theorem dX6_digest_67 : decode cX6_digest 67 = .ok (.lmul, 1) := by decide +kernel
theorem dX6_digest_68 : decode cX6_digest 68 = .ok (.aload_n 0, 1) := by decide +kernel
theorem dX6_digest_69 : decode cX6_digest 69 = .ok (.getfield 10, 3) := by decide +kernel
theorem dX6_digest_72 : decode cX6_digest 72 = .ok (.getfield 77, 3) := by decide +kernel
theorem dX6_digest_75 : decode cX6_digest 75 = .ok (.iload 4, 2) := by decide +kernel
theorem dX6_digest_77 : decode cX6_digest 77 = .ok (.iaload, 1) := by decide +kernel
theorem dX6_digest_78 : decode cX6_digest 78 = .ok (.i2l, 1) := by decide +kernel
theorem dX6_digest_79 : decode cX6_digest 79 = .ok (.ladd, 1) := by decide +kernel
theorem dX6_digest_80 : decode cX6_digest 80 = .ok (.lstore_n 1, 1) := by decide +kernel
theorem dX6_digest_81 : decode cX6_digest 81 = .ok (.ldc2_w 274, 3) := by decide +kernel
theorem dX6_digest_84 : decode cX6_digest 84 = .ok (.lload_n 1, 1) := by decide +kernel
theorem dX6_digest_85 : decode cX6_digest 85 = .ok (.lmul, 1) := by decide +kernel
theorem dX6_digest_86 : decode cX6_digest 86 = .ok (.aload_n 0, 1) := by decide +kernel
theorem dX6_digest_87 : decode cX6_digest 87 = .ok (.getfield 10, 3) := by decide +kernel
theorem dX6_digest_90 : decode cX6_digest 90 = .ok (.getfield 234, 3) := by decide +kernel
theorem dX6_digest_93 : decode cX6_digest 93 = .ok (.iload 4, 2) := by decide +kernel
theorem dX6_digest_95 : decode cX6_digest 95 = .ok (.iaload, 1) := by decide +kernel
theorem dX6_digest_96 : decode cX6_digest 96 = .ok (.i2l, 1) := by decide +kernel
theorem dX6_digest_97 : decode cX6_digest 97 = .ok (.ladd, 1) := by decide +kernel
theorem dX6_digest_98 : decode cX6_digest 98 = .ok (.lstore_n 1, 1) := by decide +kernel
theorem dX6_digest_99 : decode cX6_digest 99 = .ok (.ldc2_w 274, 3) := by decide +kernel
theorem dX6_digest_102 : decode cX6_digest 102 = .ok (.lload_n 1, 1) := by decide +kernel
theorem dX6_digest_103 : decode cX6_digest 103 = .ok (.lmul, 1) := by decide +kernel
theorem dX6_digest_104 : decode cX6_digest 104 = .ok (.aload_n 0, 1) := by decide +kernel
theorem dX6_digest_105 : decode cX6_digest 105 = .ok (.getfield 10, 3) := by decide +kernel
theorem dX6_digest_108 : decode cX6_digest 108 = .ok (.getfield 237, 3) := by decide +kernel
theorem dX6_digest_111 : decode cX6_digest 111 = .ok (.iload 4, 2) := by decide +kernel
theorem dX6_digest_113 : decode cX6_digest 113 = .ok (.iaload, 1) := by decide +kernel
theorem dX6_digest_114 : decode cX6_digest 114 = .ok (.i2l, 1) := by decide +kernel
theorem dX6_digest_115 : decode cX6_digest 115 = .ok (.ladd, 1) := by decide +kernel
theorem dX6_digest_116 : decode cX6_digest 116 = .ok (.lstore_n 1, 1) := by decide +kernel
theorem dX6_digest_117 : decode cX6_digest 117 = .ok (.ldc2_w 274, 3) := by decide +kernel
theorem dX6_digest_120 : decode cX6_digest 120 = .ok (.lload_n 1, 1) := by decide +kernel
theorem dX6_digest_121 : decode cX6_digest 121 = .ok (.lmul, 1) := by decide +kernel
theorem dX6_digest_122 : decode cX6_digest 122 = .ok (.aload_n 3, 1) := by decide +kernel
theorem dX6_digest_123 : decode cX6_digest 123 = .ok (.getfield 135, 3) := by decide +kernel
theorem dX6_digest_126 : decode cX6_digest 126 = .ok (.iload 4, 2) := by decide +kernel
theorem dX6_digest_128 : decode cX6_digest 128 = .ok (.iaload, 1) := by decide +kernel
theorem dX6_digest_129 : decode cX6_digest 129 = .ok (.i2l, 1) := by decide +kernel
theorem dX6_digest_130 : decode cX6_digest 130 = .ok (.ladd, 1) := by decide +kernel
theorem dX6_digest_131 : decode cX6_digest 131 = .ok (.lstore_n 1, 1) := by decide +kernel
theorem dX6_digest_132 : decode cX6_digest 132 = .ok (.ldc2_w 274, 3) := by decide +kernel
theorem dX6_digest_135 : decode cX6_digest 135 = .ok (.lload_n 1, 1) := by decide +kernel
theorem dX6_digest_136 : decode cX6_digest 136 = .ok (.lmul, 1) := by decide +kernel
theorem dX6_digest_137 : decode cX6_digest 137 = .ok (.aload_n 3, 1) := by decide +kernel
theorem dX6_digest_138 : decode cX6_digest 138 = .ok (.iload 4, 2) := by decide +kernel
theorem dX6_digest_140 : decode cX6_digest 140 = .ok (.invokevirtual 141, 3) := by decide +kernel
theorem dX6_digest_143 : decode cX6_digest 143 = .ok (.i2l, 1) := by decide +kernel
theorem dX6_digest_144 : decode cX6_digest 144 = .ok (.ladd, 1) := by decide +kernel
theorem dX6_digest_145 : decode cX6_digest 145 = .ok (.lstore_n 1, 1) := by decide +kernel
theorem dX6_digest_146 : decode cX6_digest 146 = .ok (.iinc 4 1, 3) := by decide +kernel
theorem dX6_digest_149 : decode cX6_digest 149 = .ok (.goto (-110), 3) := by decide +kernel
theorem dX6_digest_152 : decode cX6_digest 152 = .ok (.iconst 0, 1) := by decide +kernel
theorem dX6_digest_153 : decode cX6_digest 153 = .ok (.istore 4, 2) := by decide +kernel
theorem dX6_digest_155 : decode cX6_digest 155 = .ok (.iload 4, 2) := by decide +kernel
theorem dX6_digest_157 : decode cX6_digest 157 = .ok (.aload_n 0, 1) := by decide +kernel
theorem dX6_digest_158 : decode cX6_digest 158 = .ok (.getfield 10, 3) := by decide +kernel
theorem dX6_digest_161 : decode cX6_digest 161 = .ok (.getfield 208, 3) := by decide +kernel
theorem dX6_digest_164 : decode cX6_digest 164 = .ok (.getfield 132, 3) := by decide +kernel
theorem dX6_digest_167 : decode cX6_digest 167 = .ok (.if_icmp .ge 47, 3) := by decide +kernel
theorem dX6_digest_170 : decode cX6_digest 170 = .ok (.iconst 0, 1) := by decide +kernel
theorem dX6_digest_171 : decode cX6_digest 171 = .ok (.istore 5, 2) := by decide +kernel
theorem dX6_digest_173 : decode cX6_digest 173 = .ok (.iload 5, 2) := by decide +kernel
theorem dX6_digest_175 : decode cX6_digest 175 = .ok (.iconst 3, 1) := by decide +kernel
theorem dX6_digest_176 : decode cX6_digest 176 = .ok (.if_icmp .ge 32, 3) := by decide +kernel
theorem dX6_digest_179 : decode cX6_digest 179 = .ok (.ldc2_w 274, 3) := by decide +kernel
theorem dX6_digest_182 : decode cX6_digest 182 = .ok (.lload_n 1, 1) := by decide +kernel
theorem dX6_digest_183 : decode cX6_digest 183 = .ok (.lmul, 1) := by decide +kernel
theorem dX6_digest_184 : decode cX6_digest 184 = .ok (.aload_n 0, 1) := by decide +kernel
theorem dX6_digest_185 : decode cX6_digest 185 = .ok (.getfield 10, 3) := by decide +kernel
theorem dX6_digest_188 : decode cX6_digest 188 = .ok (.getfield 208, 3) := by decide +kernel
theorem dX6_digest_191 : decode cX6_digest 191 = .ok (.iconst (-1), 1) := by decide +kernel
theorem dX6_digest_192 : decode cX6_digest 192 = .ok (.iload 4, 2) := by decide +kernel
theorem dX6_digest_194 : decode cX6_digest 194 = .ok (.iload 5, 2) := by decide +kernel
theorem dX6_digest_196 : decode cX6_digest 196 = .ok (.invokevirtual 166, 3) := by decide +kernel
theorem dX6_digest_199 : decode cX6_digest 199 = .ok (.i2l, 1) := by decide +kernel
theorem dX6_digest_200 : decode cX6_digest 200 = .ok (.ladd, 1) := by decide +kernel
theorem dX6_digest_201 : decode cX6_digest 201 = .ok (.lstore_n 1, 1) := by decide +kernel
theorem dX6_digest_202 : decode cX6_digest 202 = .ok (.iinc 5 1, 3) := by decide +kernel
theorem dX6_digest_205 : decode cX6_digest 205 = .ok (.goto (-32), 3) := by decide +kernel
theorem dX6_digest_208 : decode cX6_digest 208 = .ok (.iinc 4 1, 3) := by decide +kernel
theorem dX6_digest_211 : decode cX6_digest 211 = .ok (.goto (-56), 3) := by decide +kernel
theorem dX6_digest_214 : decode cX6_digest 214 = .ok (.ldc2_w 274, 3) := by decide +kernel
theorem dX6_digest_217 : decode cX6_digest 217 = .ok (.lload_n 1, 1) := by decide +kernel
theorem dX6_digest_218 : decode cX6_digest 218 = .ok (.lmul, 1) := by decide +kernel
theorem dX6_digest_219 : decode cX6_digest 219 = .ok (.aload_n 3, 1) := by decide +kernel
theorem dX6_digest_220 : decode cX6_digest 220 = .ok (.getfield 112, 3) := by decide +kernel
theorem dX6_digest_223 : decode cX6_digest 223 = .ok (.i2l, 1) := by decide +kernel
theorem dX6_digest_224 : decode cX6_digest 224 = .ok (.ladd, 1) := by decide +kernel
theorem dX6_digest_225 : decode cX6_digest 225 = .ok (.lstore_n 1, 1) := by decide +kernel
theorem dX6_digest_226 : decode cX6_digest 226 = .ok (.ldc2_w 274, 3) := by decide +kernel
theorem dX6_digest_229 : decode cX6_digest 229 = .ok (.lload_n 1, 1) := by decide +kernel
theorem dX6_digest_230 : decode cX6_digest 230 = .ok (.lmul, 1) := by decide +kernel
theorem dX6_digest_231 : decode cX6_digest 231 = .ok (.aload_n 0, 1) := by decide +kernel
theorem dX6_digest_232 : decode cX6_digest 232 = .ok (.invokevirtual 121, 3) := by decide +kernel
theorem dX6_digest_235 : decode cX6_digest 235 = .ok (.getfield 129, 3) := by decide +kernel
theorem dX6_digest_238 : decode cX6_digest 238 = .ok (.getfield 132, 3) := by decide +kernel
theorem dX6_digest_241 : decode cX6_digest 241 = .ok (.i2l, 1) := by decide +kernel
theorem dX6_digest_242 : decode cX6_digest 242 = .ok (.ladd, 1) := by decide +kernel
theorem dX6_digest_243 : decode cX6_digest 243 = .ok (.lreturn, 1) := by decide +kernel
theorem dX6_within_0 : decode cX6_within 0 = .ok (.iload_n 0, 1) := by decide +kernel
theorem dX6_within_1 : decode cX6_within 1 = .ok (.iload_n 1, 1) := by decide +kernel
theorem dX6_within_2 : decode cX6_within 2 = .ok (.if_icmp .lt 12, 3) := by decide +kernel
theorem dX6_within_5 : decode cX6_within 5 = .ok (.iload_n 0, 1) := by decide +kernel
theorem dX6_within_6 : decode cX6_within 6 = .ok (.iload_n 2, 1) := by decide +kernel
theorem dX6_within_7 : decode cX6_within 7 = .ok (.if_icmp .gt 7, 3) := by decide +kernel
theorem dX6_within_10 : decode cX6_within 10 = .ok (.iconst 1, 1) := by decide +kernel
theorem dX6_within_11 : decode cX6_within 11 = .ok (.goto 4, 3) := by decide +kernel
theorem dX6_within_14 : decode cX6_within 14 = .ok (.iconst 0, 1) := by decide +kernel
theorem dX6_within_15 : decode cX6_within 15 = .ok (.ireturn, 1) := by decide +kernel
theorem dX6_isLeg_0 : decode cX6_isLeg 0 = .ok (.iload_n 0, 1) := by decide +kernel
theorem dX6_isLeg_1 : decode cX6_isLeg 1 = .ok (.iconst 0, 1) := by decide +kernel
theorem dX6_isLeg_2 : decode cX6_isLeg 2 = .ok (.iconst 2, 1) := by decide +kernel
theorem dX6_isLeg_3 : decode cX6_isLeg 3 = .ok (.invokestatic 56, 3) := by decide +kernel
theorem dX6_isLeg_6 : decode cX6_isLeg 6 = .ok (.ireturn, 1) := by decide +kernel
theorem dX6_pulledWithin_0 : decode cX6_pulledWithin 0 = .ok (.iload_n 1, 1) := by decide +kernel
theorem dX6_pulledWithin_1 : decode cX6_pulledWithin 1 = .ok (.iload_n 2, 1) := by decide +kernel
theorem dX6_pulledWithin_2 : decode cX6_pulledWithin 2 = .ok (.iload_n 0, 1) := by decide +kernel
theorem dX6_pulledWithin_3 : decode cX6_pulledWithin 3 = .ok (.invokestatic 256, 3) := by decide +kernel
theorem dX6_pulledWithin_6 : decode cX6_pulledWithin 6 = .ok (.invokestatic 276, 3) := by decide +kernel
theorem dX6_pulledWithin_9 : decode cX6_pulledWithin 9 = .ok (.ireturn, 1) := by decide +kernel
theorem dX6_greatestOf_0 : decode cX6_greatestOf 0 = .ok (.aload_n 0, 1) := by decide +kernel
theorem dX6_greatestOf_1 : decode cX6_greatestOf 1 = .ok (.iconst 0, 1) := by decide +kernel
theorem dX6_greatestOf_2 : decode cX6_greatestOf 2 = .ok (.iaload, 1) := by decide +kernel
theorem dX6_greatestOf_3 : decode cX6_greatestOf 3 = .ok (.aload_n 0, 1) := by decide +kernel
theorem dX6_greatestOf_4 : decode cX6_greatestOf 4 = .ok (.iconst 1, 1) := by decide +kernel
theorem dX6_greatestOf_5 : decode cX6_greatestOf 5 = .ok (.iaload, 1) := by decide +kernel
theorem dX6_greatestOf_6 : decode cX6_greatestOf 6 = .ok (.aload_n 0, 1) := by decide +kernel
theorem dX6_greatestOf_7 : decode cX6_greatestOf 7 = .ok (.iconst 2, 1) := by decide +kernel
theorem dX6_greatestOf_8 : decode cX6_greatestOf 8 = .ok (.iaload, 1) := by decide +kernel
theorem dX6_greatestOf_9 : decode cX6_greatestOf 9 = .ok (.invokestatic 276, 3) := by decide +kernel
theorem dX6_greatestOf_12 : decode cX6_greatestOf 12 = .ok (.invokestatic 276, 3) := by decide +kernel
theorem dX6_greatestOf_15 : decode cX6_greatestOf 15 = .ok (.ireturn, 1) := by decide +kernel
theorem dX6_leastOf_0 : decode cX6_leastOf 0 = .ok (.aload_n 0, 1) := by decide +kernel
theorem dX6_leastOf_1 : decode cX6_leastOf 1 = .ok (.iconst 0, 1) := by decide +kernel
theorem dX6_leastOf_2 : decode cX6_leastOf 2 = .ok (.iaload, 1) := by decide +kernel
theorem dX6_leastOf_3 : decode cX6_leastOf 3 = .ok (.aload_n 0, 1) := by decide +kernel
theorem dX6_leastOf_4 : decode cX6_leastOf 4 = .ok (.iconst 1, 1) := by decide +kernel
theorem dX6_leastOf_5 : decode cX6_leastOf 5 = .ok (.iaload, 1) := by decide +kernel
theorem dX6_leastOf_6 : decode cX6_leastOf 6 = .ok (.aload_n 0, 1) := by decide +kernel
theorem dX6_leastOf_7 : decode cX6_leastOf 7 = .ok (.iconst 2, 1) := by decide +kernel
theorem dX6_leastOf_8 : decode cX6_leastOf 8 = .ok (.iaload, 1) := by decide +kernel
theorem dX6_leastOf_9 : decode cX6_leastOf 9 = .ok (.invokestatic 256, 3) := by decide +kernel
theorem dX6_leastOf_12 : decode cX6_leastOf 12 = .ok (.invokestatic 256, 3) := by decide +kernel
theorem dX6_leastOf_15 : decode cX6_leastOf 15 = .ok (.ireturn, 1) := by decide +kernel
theorem dX6_refuseBad_0 : decode cX6_refuseBad 0 = .ok (.aload_n 0, 1) := by decide +kernel
theorem dX6_refuseBad_1 : decode cX6_refuseBad 1 = .ok (.getfield 52, 3) := by decide +kernel
theorem dX6_refuseBad_4 : decode cX6_refuseBad 4 = .ok (.iconst 0, 1) := by decide +kernel
theorem dX6_refuseBad_5 : decode cX6_refuseBad 5 = .ok (.dup2, 1) := by decide +kernel
theorem dX6_refuseBad_6 : decode cX6_refuseBad 6 = .ok (.iaload, 1) := by decide +kernel
theorem dX6_refuseBad_7 : decode cX6_refuseBad 7 = .ok (.iconst 1, 1) := by decide +kernel
theorem dX6_refuseBad_8 : decode cX6_refuseBad 8 = .ok (.iadd, 1) := by decide +kernel
theorem dX6_refuseBad_9 : decode cX6_refuseBad 9 = .ok (.iastore, 1) := by decide +kernel
theorem dX6_refuseBad_10 : decode cX6_refuseBad 10 = .ok (.bipush (-2), 2) := by decide +kernel
theorem dX6_refuseBad_12 : decode cX6_refuseBad 12 = .ok (.ireturn, 1) := by decide +kernel
theorem dX6_refuseFull_0 : decode cX6_refuseFull 0 = .ok (.aload_n 0, 1) := by decide +kernel
theorem dX6_refuseFull_1 : decode cX6_refuseFull 1 = .ok (.getfield 52, 3) := by decide +kernel
theorem dX6_refuseFull_4 : decode cX6_refuseFull 4 = .ok (.iconst 2, 1) := by decide +kernel
theorem dX6_refuseFull_5 : decode cX6_refuseFull 5 = .ok (.dup2, 1) := by decide +kernel
theorem dX6_refuseFull_6 : decode cX6_refuseFull 6 = .ok (.iaload, 1) := by decide +kernel
theorem dX6_refuseFull_7 : decode cX6_refuseFull 7 = .ok (.iconst 1, 1) := by decide +kernel
theorem dX6_refuseFull_8 : decode cX6_refuseFull 8 = .ok (.iadd, 1) := by decide +kernel
theorem dX6_refuseFull_9 : decode cX6_refuseFull 9 = .ok (.iastore, 1) := by decide +kernel
theorem dX6_refuseFull_10 : decode cX6_refuseFull 10 = .ok (.bipush (-4), 2) := by decide +kernel
theorem dX6_refuseFull_12 : decode cX6_refuseFull 12 = .ok (.ireturn, 1) := by decide +kernel
theorem dX6_planNow_0 : decode cX6_planNow 0 = .ok (.aload_n 0, 1) := by decide +kernel
theorem dX6_planNow_1 : decode cX6_planNow 1 = .ok (.getfield 10, 3) := by decide +kernel
theorem dX6_planNow_4 : decode cX6_planNow 4 = .ok (.invokevirtual 279, 3) := by decide +kernel
theorem dX6_planNow_7 : decode cX6_planNow 7 = .ok (.aload_n 0, 1) := by decide +kernel
theorem dX6_planNow_8 : decode cX6_planNow 8 = .ok (.getfield 10, 3) := by decide +kernel
theorem dX6_planNow_11 : decode cX6_planNow 11 = .ok (.getfield 282, 3) := by decide +kernel
theorem dX6_planNow_14 : decode cX6_planNow 14 = .ok (.areturn, 1) := by decide +kernel
theorem dX6_runsNow_0 : decode cX6_runsNow 0 = .ok (.aload_n 0, 1) := by decide +kernel
theorem dX6_runsNow_1 : decode cX6_runsNow 1 = .ok (.invokevirtual 108, 3) := by decide +kernel
theorem dX6_runsNow_4 : decode cX6_runsNow 4 = .ok (.astore_n 1, 1) := by decide +kernel
theorem dX6_runsNow_5 : decode cX6_runsNow 5 = .ok (.aload_n 0, 1) := by decide +kernel
theorem dX6_runsNow_6 : decode cX6_runsNow 6 = .ok (.getfield 22, 3) := by decide +kernel
theorem dX6_runsNow_9 : decode cX6_runsNow 9 = .ok (.aload_n 1, 1) := by decide +kernel
theorem dX6_runsNow_10 : decode cX6_runsNow 10 = .ok (.getfield 182, 3) := by decide +kernel
theorem dX6_runsNow_13 : decode cX6_runsNow 13 = .ok (.aload_n 0, 1) := by decide +kernel
theorem dX6_runsNow_14 : decode cX6_runsNow 14 = .ok (.getfield 10, 3) := by decide +kernel
theorem dX6_runsNow_17 : decode cX6_runsNow 17 = .ok (.getfield 70, 3) := by decide +kernel
theorem dX6_runsNow_20 : decode cX6_runsNow 20 = .ok (.iconst 3, 1) := by decide +kernel
theorem dX6_runsNow_21 : decode cX6_runsNow 21 = .ok (.iaload, 1) := by decide +kernel
theorem dX6_runsNow_22 : decode cX6_runsNow 22 = .ok (.aload_n 1, 1) := by decide +kernel
theorem dX6_runsNow_23 : decode cX6_runsNow 23 = .ok (.getfield 138, 3) := by decide +kernel
theorem dX6_runsNow_26 : decode cX6_runsNow 26 = .ok (.aload_n 1, 1) := by decide +kernel
theorem dX6_runsNow_27 : decode cX6_runsNow 27 = .ok (.getfield 135, 3) := by decide +kernel
theorem dX6_runsNow_30 : decode cX6_runsNow 30 = .ok (.invokevirtual 286, 3) := by decide +kernel
theorem dX6_runsNow_33 : decode cX6_runsNow 33 = .ok (.aload_n 0, 1) := by decide +kernel
theorem dX6_runsNow_34 : decode cX6_runsNow 34 = .ok (.getfield 22, 3) := by decide +kernel
theorem dX6_runsNow_37 : decode cX6_runsNow 37 = .ok (.areturn, 1) := by decide +kernel
theorem dX6_eventsNow_0 : decode cX6_eventsNow 0 = .ok (.aload_n 0, 1) := by decide +kernel
theorem dX6_eventsNow_1 : decode cX6_eventsNow 1 = .ok (.invokevirtual 108, 3) := by decide +kernel
theorem dX6_eventsNow_4 : decode cX6_eventsNow 4 = .ok (.aload_n 0, 1) := by decide +kernel
theorem dX6_eventsNow_5 : decode cX6_eventsNow 5 = .ok (.getfield 31, 3) := by decide +kernel
theorem dX6_eventsNow_8 : decode cX6_eventsNow 8 = .ok (.invokevirtual 290, 3) := by decide +kernel
theorem dX6_eventsNow_11 : decode cX6_eventsNow 11 = .ok (.aload_n 0, 1) := by decide +kernel
theorem dX6_eventsNow_12 : decode cX6_eventsNow 12 = .ok (.getfield 31, 3) := by decide +kernel
theorem dX6_eventsNow_15 : decode cX6_eventsNow 15 = .ok (.areturn, 1) := by decide +kernel
theorem dX6_currentByTheOthers_0 : decode cX6_currentByTheOthers 0 = .ok (.iconst 0, 1) := by decide +kernel
theorem dX6_currentByTheOthers_1 : decode cX6_currentByTheOthers 1 = .ok (.istore_n 2, 1) := by decide +kernel
theorem dX6_currentByTheOthers_2 : decode cX6_currentByTheOthers 2 = .ok (.iconst 0, 1) := by decide +kernel
theorem dX6_currentByTheOthers_3 : decode cX6_currentByTheOthers 3 = .ok (.istore_n 3, 1) := by decide +kernel
theorem dX6_currentByTheOthers_4 : decode cX6_currentByTheOthers 4 = .ok (.iload_n 3, 1) := by decide +kernel
theorem dX6_currentByTheOthers_5 : decode cX6_currentByTheOthers 5 = .ok (.iconst 3, 1) := by decide +kernel
theorem dX6_currentByTheOthers_6 : decode cX6_currentByTheOthers 6 = .ok (.if_icmp .ge 26, 3) := by decide +kernel
theorem dX6_currentByTheOthers_9 : decode cX6_currentByTheOthers 9 = .ok (.iload_n 3, 1) := by decide +kernel
theorem dX6_currentByTheOthers_10 : decode cX6_currentByTheOthers 10 = .ok (.iload_n 1, 1) := by decide +kernel
theorem dX6_currentByTheOthers_11 : decode cX6_currentByTheOthers 11 = .ok (.if_icmp .eq 15, 3) := by decide +kernel
theorem dX6_currentByTheOthers_14 : decode cX6_currentByTheOthers 14 = .ok (.iload_n 2, 1) := by decide +kernel
theorem dX6_currentByTheOthers_15 : decode cX6_currentByTheOthers 15 = .ok (.aload_n 0, 1) := by decide +kernel
theorem dX6_currentByTheOthers_16 : decode cX6_currentByTheOthers 16 = .ok (.getfield 10, 3) := by decide +kernel
theorem dX6_currentByTheOthers_19 : decode cX6_currentByTheOthers 19 = .ok (.getfield 80, 3) := by decide +kernel
theorem dX6_currentByTheOthers_22 : decode cX6_currentByTheOthers 22 = .ok (.iload_n 3, 1) := by decide +kernel
theorem dX6_currentByTheOthers_23 : decode cX6_currentByTheOthers 23 = .ok (.iaload, 1) := by decide +kernel
theorem dX6_currentByTheOthers_24 : decode cX6_currentByTheOthers 24 = .ok (.iadd, 1) := by decide +kernel
theorem dX6_currentByTheOthers_25 : decode cX6_currentByTheOthers 25 = .ok (.istore_n 2, 1) := by decide +kernel
theorem dX6_currentByTheOthers_26 : decode cX6_currentByTheOthers 26 = .ok (.iinc 3 1, 3) := by decide +kernel
theorem dX6_currentByTheOthers_29 : decode cX6_currentByTheOthers 29 = .ok (.goto (-25), 3) := by decide +kernel
theorem dX6_currentByTheOthers_32 : decode cX6_currentByTheOthers 32 = .ok (.iload_n 2, 1) := by decide +kernel
theorem dX6_currentByTheOthers_33 : decode cX6_currentByTheOthers 33 = .ok (.ineg, 1) := by decide +kernel
theorem dX6_currentByTheOthers_34 : decode cX6_currentByTheOthers 34 = .ok (.ireturn, 1) := by decide +kernel
theorem dX6_remember_0 : decode cX6_remember 0 = .ok (.aload_n 0, 1) := by decide +kernel
theorem dX6_remember_1 : decode cX6_remember 1 = .ok (.getfield 42, 3) := by decide +kernel
theorem dX6_remember_4 : decode cX6_remember 4 = .ok (.invokevirtual 211, 3) := by decide +kernel
theorem dX6_remember_7 : decode cX6_remember 7 = .ok (.ifCond .eq 10, 3) := by decide +kernel
theorem dX6_remember_10 : decode cX6_remember 10 = .ok (.aload_n 0, 1) := by decide +kernel
theorem dX6_remember_11 : decode cX6_remember 11 = .ok (.getfield 42, 3) := by decide +kernel
theorem dX6_remember_14 : decode cX6_remember 14 = .ok (.invokevirtual 293, 3) := by decide +kernel
theorem dX6_remember_17 : decode cX6_remember 17 = .ok (.aload_n 0, 1) := by decide +kernel
theorem dX6_remember_18 : decode cX6_remember 18 = .ok (.getfield 42, 3) := by decide +kernel
theorem dX6_remember_21 : decode cX6_remember 21 = .ok (.aload_n 0, 1) := by decide +kernel
theorem dX6_remember_22 : decode cX6_remember 22 = .ok (.getfield 10, 3) := by decide +kernel
theorem dX6_remember_25 : decode cX6_remember 25 = .ok (.getfield 80, 3) := by decide +kernel
theorem dX6_remember_28 : decode cX6_remember 28 = .ok (.iconst 0, 1) := by decide +kernel
theorem dX6_remember_29 : decode cX6_remember 29 = .ok (.iaload, 1) := by decide +kernel
theorem dX6_remember_30 : decode cX6_remember 30 = .ok (.aload_n 0, 1) := by decide +kernel
theorem dX6_remember_31 : decode cX6_remember 31 = .ok (.getfield 10, 3) := by decide +kernel
theorem dX6_remember_34 : decode cX6_remember 34 = .ok (.getfield 80, 3) := by decide +kernel
theorem dX6_remember_37 : decode cX6_remember 37 = .ok (.iconst 1, 1) := by decide +kernel
theorem dX6_remember_38 : decode cX6_remember 38 = .ok (.iaload, 1) := by decide +kernel
theorem dX6_remember_39 : decode cX6_remember 39 = .ok (.aload_n 0, 1) := by decide +kernel
theorem dX6_remember_40 : decode cX6_remember 40 = .ok (.getfield 10, 3) := by decide +kernel
theorem dX6_remember_43 : decode cX6_remember 43 = .ok (.getfield 80, 3) := by decide +kernel
theorem dX6_remember_46 : decode cX6_remember 46 = .ok (.iconst 2, 1) := by decide +kernel
theorem dX6_remember_47 : decode cX6_remember 47 = .ok (.iaload, 1) := by decide +kernel
theorem dX6_remember_48 : decode cX6_remember 48 = .ok (.iload_n 1, 1) := by decide +kernel
theorem dX6_remember_49 : decode cX6_remember 49 = .ok (.invokevirtual 218, 3) := by decide +kernel
theorem dX6_remember_52 : decode cX6_remember 52 = .ok (.return_, 1) := by decide +kernel
theorem dX6_stepsToSettle_0 : decode cX6_stepsToSettle 0 = .ok (.aload_n 0, 1) := by decide +kernel
theorem dX6_stepsToSettle_1 : decode cX6_stepsToSettle 1 = .ok (.getfield 16, 3) := by decide +kernel
theorem dX6_stepsToSettle_4 : decode cX6_stepsToSettle 4 = .ok (.aload_n 0, 1) := by decide +kernel
theorem dX6_stepsToSettle_5 : decode cX6_stepsToSettle 5 = .ok (.getfield 10, 3) := by decide +kernel
theorem dX6_stepsToSettle_8 : decode cX6_stepsToSettle 8 = .ok (.invokevirtual 296, 3) := by decide +kernel
theorem dX6_stepsToSettle_11 : decode cX6_stepsToSettle 11 = .ok (.aload_n 0, 1) := by decide +kernel
theorem dX6_stepsToSettle_12 : decode cX6_stepsToSettle 12 = .ok (.getfield 16, 3) := by decide +kernel
theorem dX6_stepsToSettle_15 : decode cX6_stepsToSettle 15 = .ok (.getfield 70, 3) := by decide +kernel
theorem dX6_stepsToSettle_18 : decode cX6_stepsToSettle 18 = .ok (.iconst 4, 1) := by decide +kernel
theorem dX6_stepsToSettle_19 : decode cX6_stepsToSettle 19 = .ok (.iload_n 2, 1) := by decide +kernel
theorem dX6_stepsToSettle_20 : decode cX6_stepsToSettle 20 = .ok (.iastore, 1) := by decide +kernel
theorem dX6_stepsToSettle_21 : decode cX6_stepsToSettle 21 = .ok (.iconst 0, 1) := by decide +kernel
theorem dX6_stepsToSettle_22 : decode cX6_stepsToSettle 22 = .ok (.istore 4, 2) := by decide +kernel
theorem dX6_stepsToSettle_24 : decode cX6_stepsToSettle 24 = .ok (.iload 4, 2) := by decide +kernel
theorem dX6_stepsToSettle_26 : decode cX6_stepsToSettle 26 = .ok (.iload_n 3, 1) := by decide +kernel
theorem dX6_stepsToSettle_27 : decode cX6_stepsToSettle 27 = .ok (.if_icmp .gt 31, 3) := by decide +kernel
theorem dX6_stepsToSettle_30 : decode cX6_stepsToSettle 30 = .ok (.aload_n 0, 1) := by decide +kernel
theorem dX6_stepsToSettle_31 : decode cX6_stepsToSettle 31 = .ok (.getfield 16, 3) := by decide +kernel
theorem dX6_stepsToSettle_34 : decode cX6_stepsToSettle 34 = .ok (.iload_n 1, 1) := by decide +kernel
theorem dX6_stepsToSettle_35 : decode cX6_stepsToSettle 35 = .ok (.invokevirtual 300, 3) := by decide +kernel
theorem dX6_stepsToSettle_38 : decode cX6_stepsToSettle 38 = .ok (.ifCond .eq 6, 3) := by decide +kernel
theorem dX6_stepsToSettle_41 : decode cX6_stepsToSettle 41 = .ok (.iload 4, 2) := by decide +kernel
theorem dX6_stepsToSettle_43 : decode cX6_stepsToSettle 43 = .ok (.ireturn, 1) := by decide +kernel
theorem dX6_stepsToSettle_44 : decode cX6_stepsToSettle 44 = .ok (.aload_n 0, 1) := by decide +kernel
theorem dX6_stepsToSettle_45 : decode cX6_stepsToSettle 45 = .ok (.getfield 16, 3) := by decide +kernel
theorem dX6_stepsToSettle_48 : decode cX6_stepsToSettle 48 = .ok (.invokevirtual 225, 3) := by decide +kernel
theorem dX6_stepsToSettle_51 : decode cX6_stepsToSettle 51 = .ok (.pop, 1) := by decide +kernel
theorem dX6_stepsToSettle_52 : decode cX6_stepsToSettle 52 = .ok (.iinc 4 1, 3) := by decide +kernel
theorem dX6_stepsToSettle_55 : decode cX6_stepsToSettle 55 = .ok (.goto (-31), 3) := by decide +kernel
theorem dX6_stepsToSettle_58 : decode cX6_stepsToSettle 58 = .ok (.iconst (-1), 1) := by decide +kernel
theorem dX6_stepsToSettle_59 : decode cX6_stepsToSettle 59 = .ok (.ireturn, 1) := by decide +kernel
theorem dX6_counted_0 : decode cX6_counted 0 = .ok (.iload_n 1, 1) := by decide +kernel
theorem dX6_counted_1 : decode cX6_counted 1 = .ok (.tableswitch 115 0 12 #[67, 74, 81, 88, 96, 115, 115, 115, 115, 115, 115, 115, 107], 67) := by decide +kernel
theorem dX6_counted_68 : decode cX6_counted 68 = .ok (.aload_n 0, 1) := by decide +kernel
theorem dX6_counted_69 : decode cX6_counted 69 = .ok (.getfield 52, 3) := by decide +kernel
theorem dX6_counted_72 : decode cX6_counted 72 = .ok (.iconst 0, 1) := by decide +kernel
theorem dX6_counted_73 : decode cX6_counted 73 = .ok (.iaload, 1) := by decide +kernel
theorem dX6_counted_74 : decode cX6_counted 74 = .ok (.ireturn, 1) := by decide +kernel
theorem dX6_counted_75 : decode cX6_counted 75 = .ok (.aload_n 0, 1) := by decide +kernel
theorem dX6_counted_76 : decode cX6_counted 76 = .ok (.getfield 52, 3) := by decide +kernel
theorem dX6_counted_79 : decode cX6_counted 79 = .ok (.iconst 1, 1) := by decide +kernel
theorem dX6_counted_80 : decode cX6_counted 80 = .ok (.iaload, 1) := by decide +kernel
theorem dX6_counted_81 : decode cX6_counted 81 = .ok (.ireturn, 1) := by decide +kernel
theorem dX6_counted_82 : decode cX6_counted 82 = .ok (.aload_n 0, 1) := by decide +kernel
theorem dX6_counted_83 : decode cX6_counted 83 = .ok (.getfield 52, 3) := by decide +kernel
theorem dX6_counted_86 : decode cX6_counted 86 = .ok (.iconst 2, 1) := by decide +kernel
theorem dX6_counted_87 : decode cX6_counted 87 = .ok (.iaload, 1) := by decide +kernel
theorem dX6_counted_88 : decode cX6_counted 88 = .ok (.ireturn, 1) := by decide +kernel
theorem dX6_counted_89 : decode cX6_counted 89 = .ok (.aload_n 0, 1) := by decide +kernel
theorem dX6_counted_90 : decode cX6_counted 90 = .ok (.getfield 10, 3) := by decide +kernel
theorem dX6_counted_93 : decode cX6_counted 93 = .ok (.getfield 83, 3) := by decide +kernel
theorem dX6_counted_96 : decode cX6_counted 96 = .ok (.ireturn, 1) := by decide +kernel
theorem dX6_counted_97 : decode cX6_counted 97 = .ok (.aload_n 0, 1) := by decide +kernel
theorem dX6_counted_98 : decode cX6_counted 98 = .ok (.getfield 10, 3) := by decide +kernel
theorem dX6_counted_101 : decode cX6_counted 101 = .ok (.getfield 208, 3) := by decide +kernel
theorem dX6_counted_104 : decode cX6_counted 104 = .ok (.getfield 132, 3) := by decide +kernel
theorem dX6_counted_107 : decode cX6_counted 107 = .ok (.ireturn, 1) := by decide +kernel
theorem dX6_counted_108 : decode cX6_counted 108 = .ok (.aload_n 0, 1) := by decide +kernel
theorem dX6_counted_109 : decode cX6_counted 109 = .ok (.getfield 48, 3) := by decide +kernel
theorem dX6_counted_112 : decode cX6_counted 112 = .ok (.getfield 250, 3) := by decide +kernel
theorem dX6_counted_115 : decode cX6_counted 115 = .ok (.ireturn, 1) := by decide +kernel
theorem dX6_counted_116 : decode cX6_counted 116 = .ok (.aload_n 0, 1) := by decide +kernel
theorem dX6_counted_117 : decode cX6_counted 117 = .ok (.iload_n 1, 1) := by decide +kernel
theorem dX6_counted_118 : decode cX6_counted 118 = .ok (.iconst 5, 1) := by decide +kernel
theorem dX6_counted_119 : decode cX6_counted 119 = .ok (.isub, 1) := by decide +kernel
theorem dX6_counted_120 : decode cX6_counted 120 = .ok (.invokevirtual 303, 3) := by decide +kernel
theorem dX6_counted_123 : decode cX6_counted 123 = .ok (.ireturn, 1) := by decide +kernel
theorem dX6_countedSetting_0 : decode cX6_countedSetting 0 = .ok (.iload_n 1, 1) := by decide +kernel
theorem dX6_countedSetting_1 : decode cX6_countedSetting 1 = .ok (.iconst 0, 1) := by decide +kernel
theorem dX6_countedSetting_2 : decode cX6_countedSetting 2 = .ok (.bipush 6, 2) := by decide +kernel
theorem dX6_countedSetting_4 : decode cX6_countedSetting 4 = .ok (.invokestatic 56, 3) := by decide +kernel
theorem dX6_countedSetting_7 : decode cX6_countedSetting 7 = .ok (.ifCond .eq 15, 3) := by decide +kernel
theorem dX6_countedSetting_10 : decode cX6_countedSetting 10 = .ok (.aload_n 0, 1) := by decide +kernel
theorem dX6_countedSetting_11 : decode cX6_countedSetting 11 = .ok (.getfield 10, 3) := by decide +kernel
theorem dX6_countedSetting_14 : decode cX6_countedSetting 14 = .ok (.getfield 70, 3) := by decide +kernel
theorem dX6_countedSetting_17 : decode cX6_countedSetting 17 = .ok (.iload_n 1, 1) := by decide +kernel
theorem dX6_countedSetting_18 : decode cX6_countedSetting 18 = .ok (.iaload, 1) := by decide +kernel
theorem dX6_countedSetting_19 : decode cX6_countedSetting 19 = .ok (.goto 4, 3) := by decide +kernel
theorem dX6_countedSetting_22 : decode cX6_countedSetting 22 = .ok (.iconst (-1), 1) := by decide +kernel
theorem dX6_countedSetting_23 : decode cX6_countedSetting 23 = .ok (.ireturn, 1) := by decide +kernel
theorem dX7_bad_0 : decode cX7_bad 0 = .ok (.aload_n 0, 1) := by decide +kernel
theorem dX7_bad_1 : decode cX7_bad 1 = .ok (.getfield 1, 3) := by decide +kernel
theorem dX7_bad_4 : decode cX7_bad 4 = .ok (.iconst 0, 1) := by decide +kernel
theorem dX7_bad_5 : decode cX7_bad 5 = .ok (.dup2, 1) := by decide +kernel
theorem dX7_bad_6 : decode cX7_bad 6 = .ok (.iaload, 1) := by decide +kernel
theorem dX7_bad_7 : decode cX7_bad 7 = .ok (.iconst 1, 1) := by decide +kernel
theorem dX7_bad_8 : decode cX7_bad 8 = .ok (.iadd, 1) := by decide +kernel
theorem dX7_bad_9 : decode cX7_bad 9 = .ok (.iastore, 1) := by decide +kernel
theorem dX7_bad_10 : decode cX7_bad 10 = .ok (.bipush (-2), 2) := by decide +kernel
theorem dX7_bad_12 : decode cX7_bad 12 = .ok (.ireturn, 1) := by decide +kernel
theorem dX7_full_0 : decode cX7_full 0 = .ok (.aload_n 0, 1) := by decide +kernel
theorem dX7_full_1 : decode cX7_full 1 = .ok (.getfield 1, 3) := by decide +kernel
theorem dX7_full_4 : decode cX7_full 4 = .ok (.iconst 2, 1) := by decide +kernel
theorem dX7_full_5 : decode cX7_full 5 = .ok (.dup2, 1) := by decide +kernel
theorem dX7_full_6 : decode cX7_full 6 = .ok (.iaload, 1) := by decide +kernel
theorem dX7_full_7 : decode cX7_full 7 = .ok (.iconst 1, 1) := by decide +kernel
theorem dX7_full_8 : decode cX7_full 8 = .ok (.iadd, 1) := by decide +kernel
theorem dX7_full_9 : decode cX7_full 9 = .ok (.iastore, 1) := by decide +kernel
theorem dX7_full_10 : decode cX7_full 10 = .ok (.bipush (-4), 2) := by decide +kernel
theorem dX7_full_12 : decode cX7_full 12 = .ok (.ireturn, 1) := by decide +kernel
theorem dX7_in_0 : decode cX7_in 0 = .ok (.iload_n 0, 1) := by decide +kernel
theorem dX7_in_1 : decode cX7_in 1 = .ok (.iload_n 1, 1) := by decide +kernel
theorem dX7_in_2 : decode cX7_in 2 = .ok (.if_icmp .lt 12, 3) := by decide +kernel
theorem dX7_in_5 : decode cX7_in 5 = .ok (.iload_n 0, 1) := by decide +kernel
theorem dX7_in_6 : decode cX7_in 6 = .ok (.iload_n 2, 1) := by decide +kernel
theorem dX7_in_7 : decode cX7_in 7 = .ok (.if_icmp .gt 7, 3) := by decide +kernel
theorem dX7_in_10 : decode cX7_in 10 = .ok (.iconst 1, 1) := by decide +kernel
theorem dX7_in_11 : decode cX7_in 11 = .ok (.goto 4, 3) := by decide +kernel
theorem dX7_in_14 : decode cX7_in 14 = .ok (.iconst 0, 1) := by decide +kernel
theorem dX7_in_15 : decode cX7_in 15 = .ok (.ireturn, 1) := by decide +kernel
theorem dX7_within_0 : decode cX7_within 0 = .ok (.iload_n 0, 1) := by decide +kernel
theorem dX7_within_1 : decode cX7_within 1 = .ok (.iload_n 1, 1) := by decide +kernel
theorem dX7_within_2 : decode cX7_within 2 = .ok (.if_icmp .le 7, 3) := by decide +kernel
theorem dX7_within_5 : decode cX7_within 5 = .ok (.iload_n 1, 1) := by decide +kernel
theorem dX7_within_6 : decode cX7_within 6 = .ok (.goto 15, 3) := by decide +kernel
theorem dX7_within_9 : decode cX7_within 9 = .ok (.iload_n 0, 1) := by decide +kernel
theorem dX7_within_10 : decode cX7_within 10 = .ok (.iload_n 1, 1) := by decide +kernel
theorem dX7_within_11 : decode cX7_within 11 = .ok (.ineg, 1) := by decide +kernel
theorem dX7_within_12 : decode cX7_within 12 = .ok (.if_icmp .ge 8, 3) := by decide +kernel
theorem dX7_within_15 : decode cX7_within 15 = .ok (.iload_n 1, 1) := by decide +kernel
theorem dX7_within_16 : decode cX7_within 16 = .ok (.ineg, 1) := by decide +kernel
theorem dX7_within_17 : decode cX7_within 17 = .ok (.goto 4, 3) := by decide +kernel
theorem dX7_within_20 : decode cX7_within 20 = .ok (.iload_n 0, 1) := by decide +kernel
theorem dX7_within_21 : decode cX7_within 21 = .ok (.ireturn, 1) := by decide +kernel
theorem dX7_far_0 : decode cX7_far 0 = .ok (.iload_n 0, 1) := by decide +kernel
theorem dX7_far_1 : decode cX7_far 1 = .ok (.ifCond .ge 8, 3) := by decide +kernel
theorem dX7_far_4 : decode cX7_far 4 = .ok (.iload_n 0, 1) := by decide +kernel
theorem dX7_far_5 : decode cX7_far 5 = .ok (.ineg, 1) := by decide +kernel
theorem dX7_far_6 : decode cX7_far 6 = .ok (.goto 4, 3) := by decide +kernel
theorem dX7_far_9 : decode cX7_far 9 = .ok (.iload_n 0, 1) := by decide +kernel
theorem dX7_far_10 : decode cX7_far 10 = .ok (.ireturn, 1) := by decide +kernel
theorem dX7_init_0 : decode cX7_init 0 = .ok (.aload_n 0, 1) := by decide +kernel
theorem dX7_init_1 : decode cX7_init 1 = .ok (.invokespecial 7, 3) := by decide +kernel
theorem dX7_init_4 : decode cX7_init 4 = .ok (.aload_n 0, 1) := by decide +kernel
theorem dX7_init_5 : decode cX7_init 5 = .ok (.iconst 3, 1) := by decide +kernel
theorem dX7_init_6 : decode cX7_init 6 = .ok (.newarray .int, 2) := by decide +kernel
theorem dX7_init_8 : decode cX7_init 8 = .ok (.putfield 1, 3) := by decide +kernel
theorem dX7_init_11 : decode cX7_init 11 = .ok (.aload_n 0, 1) := by decide +kernel
theorem dX7_init_12 : decode cX7_init 12 = .ok (.bipush 7, 2) := by decide +kernel
theorem dX7_init_14 : decode cX7_init 14 = .ok (.newarray .int, 2) := by decide +kernel
theorem dX7_init_16 : decode cX7_init 16 = .ok (.putfield 13, 3) := by decide +kernel
theorem dX7_init_19 : decode cX7_init 19 = .ok (.aload_n 0, 1) := by decide +kernel
theorem dX7_init_20 : decode cX7_init 20 = .ok (.iconst 3, 1) := by decide +kernel
theorem dX7_init_21 : decode cX7_init 21 = .ok (.newarray .int, 2) := by decide +kernel
theorem dX7_init_23 : decode cX7_init 23 = .ok (.putfield 16, 3) := by decide +kernel
theorem dX7_init_26 : decode cX7_init 26 = .ok (.aload_n 0, 1) := by decide +kernel
theorem dX7_init_27 : decode cX7_init 27 = .ok (.iconst 3, 1) := by decide +kernel
theorem dX7_init_28 : decode cX7_init 28 = .ok (.newarray .int, 2) := by decide +kernel
theorem dX7_init_30 : decode cX7_init 30 = .ok (.putfield 19, 3) := by decide +kernel
theorem dX7_init_33 : decode cX7_init 33 = .ok (.aload_n 0, 1) := by decide +kernel
theorem dX7_init_34 : decode cX7_init 34 = .ok (.iconst 3, 1) := by decide +kernel
theorem dX7_init_35 : decode cX7_init 35 = .ok (.newarray .int, 2) := by decide +kernel
theorem dX7_init_37 : decode cX7_init 37 = .ok (.putfield 22, 3) := by decide +kernel
theorem dX7_init_40 : decode cX7_init 40 = .ok (.aload_n 0, 1) := by decide +kernel
theorem dX7_init_41 : decode cX7_init 41 = .ok (.iconst 3, 1) := by decide +kernel
theorem dX7_init_42 : decode cX7_init 42 = .ok (.newarray .int, 2) := by decide +kernel
theorem dX7_init_44 : decode cX7_init 44 = .ok (.putfield 25, 3) := by decide +kernel
theorem dX7_init_47 : decode cX7_init 47 = .ok (.aload_n 0, 1) := by decide +kernel
theorem dX7_init_48 : decode cX7_init 48 = .ok (.bipush 12, 2) := by decide +kernel
theorem dX7_init_50 : decode cX7_init 50 = .ok (.newarray .int, 2) := by decide +kernel
theorem dX7_init_52 : decode cX7_init 52 = .ok (.putfield 28, 3) := by decide +kernel
theorem dX7_init_55 : decode cX7_init 55 = .ok (.aload_n 0, 1) := by decide +kernel
theorem dX7_init_56 : decode cX7_init 56 = .ok (.bipush 12, 2) := by decide +kernel
theorem dX7_init_58 : decode cX7_init 58 = .ok (.newarray .int, 2) := by decide +kernel
theorem dX7_init_60 : decode cX7_init 60 = .ok (.putfield 31, 3) := by decide +kernel
theorem dX7_init_63 : decode cX7_init 63 = .ok (.aload_n 0, 1) := by decide +kernel
theorem dX7_init_64 : decode cX7_init 64 = .ok (.bipush 12, 2) := by decide +kernel
theorem dX7_init_66 : decode cX7_init 66 = .ok (.newarray .int, 2) := by decide +kernel
theorem dX7_init_68 : decode cX7_init 68 = .ok (.putfield 34, 3) := by decide +kernel
theorem dX7_init_71 : decode cX7_init 71 = .ok (.aload_n 0, 1) := by decide +kernel
theorem dX7_init_72 : decode cX7_init 72 = .ok (.bipush 40, 2) := by decide +kernel
theorem dX7_init_74 : decode cX7_init 74 = .ok (.newarray .int, 2) := by decide +kernel
theorem dX7_init_76 : decode cX7_init 76 = .ok (.putfield 37, 3) := by decide +kernel
theorem dX7_init_79 : decode cX7_init 79 = .ok (.aload_n 0, 1) := by decide +kernel
theorem dX7_init_80 : decode cX7_init 80 = .ok (.iconst 3, 1) := by decide +kernel
theorem dX7_init_81 : decode cX7_init 81 = .ok (.newarray .int, 2) := by decide +kernel
theorem dX7_init_83 : decode cX7_init 83 = .ok (.putfield 40, 3) := by decide +kernel
theorem dX7_init_86 : decode cX7_init 86 = .ok (.aload_n 0, 1) := by decide +kernel
theorem dX7_init_87 : decode cX7_init 87 = .ok (.iconst 3, 1) := by decide +kernel
theorem dX7_init_88 : decode cX7_init 88 = .ok (.newarray .int, 2) := by decide +kernel
theorem dX7_init_90 : decode cX7_init 90 = .ok (.putfield 43, 3) := by decide +kernel
theorem dX7_init_93 : decode cX7_init 93 = .ok (.aload_n 0, 1) := by decide +kernel
theorem dX7_init_94 : decode cX7_init 94 = .ok (.iconst 3, 1) := by decide +kernel
theorem dX7_init_95 : decode cX7_init 95 = .ok (.newarray .int, 2) := by decide +kernel
theorem dX7_init_97 : decode cX7_init 97 = .ok (.putfield 46, 3) := by decide +kernel
theorem dX7_init_100 : decode cX7_init 100 = .ok (.aload_n 0, 1) := by decide +kernel
theorem dX7_init_101 : decode cX7_init 101 = .ok (.iconst 3, 1) := by decide +kernel
theorem dX7_init_102 : decode cX7_init 102 = .ok (.newarray .int, 2) := by decide +kernel
theorem dX7_init_104 : decode cX7_init 104 = .ok (.putfield 49, 3) := by decide +kernel
theorem dX7_init_107 : decode cX7_init 107 = .ok (.aload_n 0, 1) := by decide +kernel
theorem dX7_init_108 : decode cX7_init 108 = .ok (.bipush 96, 2) := by decide +kernel
theorem dX7_init_110 : decode cX7_init 110 = .ok (.newarray .int, 2) := by decide +kernel
theorem dX7_init_112 : decode cX7_init 112 = .ok (.putfield 52, 3) := by decide +kernel
theorem dX7_init_115 : decode cX7_init 115 = .ok (.aload_n 0, 1) := by decide +kernel
theorem dX7_init_116 : decode cX7_init 116 = .ok (.bipush 96, 2) := by decide +kernel
theorem dX7_init_118 : decode cX7_init 118 = .ok (.newarray .int, 2) := by decide +kernel
theorem dX7_init_120 : decode cX7_init 120 = .ok (.putfield 55, 3) := by decide +kernel
theorem dX7_init_123 : decode cX7_init 123 = .ok (.aload_n 0, 1) := by decide +kernel
theorem dX7_init_124 : decode cX7_init 124 = .ok (.iconst 5, 1) := by decide +kernel
theorem dX7_init_125 : decode cX7_init 125 = .ok (.newarray .int, 2) := by decide +kernel
theorem dX7_init_127 : decode cX7_init 127 = .ok (.putfield 58, 3) := by decide +kernel
theorem dX7_init_130 : decode cX7_init 130 = .ok (.aload_n 0, 1) := by decide +kernel
theorem dX7_init_131 : decode cX7_init 131 = .ok (.iconst 3, 1) := by decide +kernel
theorem dX7_init_132 : decode cX7_init 132 = .ok (.newarray .int, 2) := by decide +kernel
theorem dX7_init_134 : decode cX7_init 134 = .ok (.putfield 61, 3) := by decide +kernel
theorem dX7_init_137 : decode cX7_init 137 = .ok (.aload_n 0, 1) := by decide +kernel
theorem dX7_init_138 : decode cX7_init 138 = .ok (.iconst 3, 1) := by decide +kernel
theorem dX7_init_139 : decode cX7_init 139 = .ok (.newarray .int, 2) := by decide +kernel
theorem dX7_init_141 : decode cX7_init 141 = .ok (.putfield 64, 3) := by decide +kernel
theorem dX7_init_144 : decode cX7_init 144 = .ok (.aload_n 0, 1) := by decide +kernel
theorem dX7_init_145 : decode cX7_init 145 = .ok (.bipush 50, 2) := by decide +kernel
theorem dX7_init_147 : decode cX7_init 147 = .ok (.newarray .int, 2) := by decide +kernel
theorem dX7_init_149 : decode cX7_init 149 = .ok (.putfield 67, 3) := by decide +kernel
theorem dX7_init_152 : decode cX7_init 152 = .ok (.aload_n 0, 1) := by decide +kernel
theorem dX7_init_153 : decode cX7_init 153 = .ok (.bipush 120, 2) := by decide +kernel
theorem dX7_init_155 : decode cX7_init 155 = .ok (.newarray .int, 2) := by decide +kernel
theorem dX7_init_157 : decode cX7_init 157 = .ok (.putfield 70, 3) := by decide +kernel
theorem dX7_init_160 : decode cX7_init 160 = .ok (.aload_n 0, 1) := by decide +kernel
theorem dX7_init_161 : decode cX7_init 161 = .ok (.invokevirtual 73, 3) := by decide +kernel
theorem dX7_init_164 : decode cX7_init 164 = .ok (.return_, 1) := by decide +kernel
theorem dX7_begins_0 : decode cX7_begins 0 = .ok (.aload_n 0, 1) := by decide +kernel
theorem dX7_begins_1 : decode cX7_begins 1 = .ok (.getfield 13, 3) := by decide +kernel
theorem dX7_begins_4 : decode cX7_begins 4 = .ok (.iconst 0, 1) := by decide +kernel
theorem dX7_begins_5 : decode cX7_begins 5 = .ok (.bipush 48, 2) := by decide +kernel
theorem dX7_begins_7 : decode cX7_begins 7 = .ok (.iastore, 1) := by decide +kernel
theorem dX7_begins_8 : decode cX7_begins 8 = .ok (.aload_n 0, 1) := by decide +kernel
theorem dX7_begins_9 : decode cX7_begins 9 = .ok (.getfield 13, 3) := by decide +kernel
theorem dX7_begins_12 : decode cX7_begins 12 = .ok (.iconst 1, 1) := by decide +kernel
theorem dX7_begins_13 : decode cX7_begins 13 = .ok (.iconst 2, 1) := by decide +kernel
theorem dX7_begins_14 : decode cX7_begins 14 = .ok (.iastore, 1) := by decide +kernel
theorem dX7_begins_15 : decode cX7_begins 15 = .ok (.aload_n 0, 1) := by decide +kernel
theorem dX7_begins_16 : decode cX7_begins 16 = .ok (.getfield 13, 3) := by decide +kernel
theorem dX7_begins_19 : decode cX7_begins 19 = .ok (.iconst 2, 1) := by decide +kernel
theorem dX7_begins_20 : decode cX7_begins 20 = .ok (.iconst 1, 1) := by decide +kernel
theorem dX7_begins_21 : decode cX7_begins 21 = .ok (.iastore, 1) := by decide +kernel
theorem dX7_begins_22 : decode cX7_begins 22 = .ok (.aload_n 0, 1) := by decide +kernel
theorem dX7_begins_23 : decode cX7_begins 23 = .ok (.getfield 13, 3) := by decide +kernel
theorem dX7_begins_26 : decode cX7_begins 26 = .ok (.iconst 3, 1) := by decide +kernel
theorem dX7_begins_27 : decode cX7_begins 27 = .ok (.iconst 4, 1) := by decide +kernel
theorem dX7_begins_28 : decode cX7_begins 28 = .ok (.iastore, 1) := by decide +kernel
theorem dX7_begins_29 : decode cX7_begins 29 = .ok (.aload_n 0, 1) := by decide +kernel
theorem dX7_begins_30 : decode cX7_begins 30 = .ok (.getfield 13, 3) := by decide +kernel
theorem dX7_begins_33 : decode cX7_begins 33 = .ok (.iconst 4, 1) := by decide +kernel
theorem dX7_begins_34 : decode cX7_begins 34 = .ok (.bipush 8, 2) := by decide +kernel
theorem dX7_begins_36 : decode cX7_begins 36 = .ok (.iastore, 1) := by decide +kernel
theorem dX7_begins_37 : decode cX7_begins 37 = .ok (.aload_n 0, 1) := by decide +kernel
theorem dX7_begins_38 : decode cX7_begins 38 = .ok (.getfield 13, 3) := by decide +kernel
theorem dX7_begins_41 : decode cX7_begins 41 = .ok (.iconst 5, 1) := by decide +kernel
theorem dX7_begins_42 : decode cX7_begins 42 = .ok (.iconst 4, 1) := by decide +kernel
theorem dX7_begins_43 : decode cX7_begins 43 = .ok (.iastore, 1) := by decide +kernel
theorem dX7_begins_44 : decode cX7_begins 44 = .ok (.aload_n 0, 1) := by decide +kernel
theorem dX7_begins_45 : decode cX7_begins 45 = .ok (.getfield 13, 3) := by decide +kernel
theorem dX7_begins_48 : decode cX7_begins 48 = .ok (.bipush 6, 2) := by decide +kernel
theorem dX7_begins_50 : decode cX7_begins 50 = .ok (.iconst 0, 1) := by decide +kernel
theorem dX7_begins_51 : decode cX7_begins 51 = .ok (.iastore, 1) := by decide +kernel
theorem dX7_begins_52 : decode cX7_begins 52 = .ok (.iconst 0, 1) := by decide +kernel
theorem dX7_begins_53 : decode cX7_begins 53 = .ok (.istore_n 1, 1) := by decide +kernel
theorem dX7_begins_54 : decode cX7_begins 54 = .ok (.iload_n 1, 1) := by decide +kernel
theorem dX7_begins_55 : decode cX7_begins 55 = .ok (.iconst 3, 1) := by decide +kernel
theorem dX7_begins_56 : decode cX7_begins 56 = .ok (.if_icmp .ge 37, 3) := by decide +kernel
theorem dX7_begins_59 : decode cX7_begins 59 = .ok (.aload_n 0, 1) := by decide +kernel
theorem dX7_begins_60 : decode cX7_begins 60 = .ok (.getfield 16, 3) := by decide +kernel
theorem dX7_begins_63 : decode cX7_begins 63 = .ok (.iload_n 1, 1) := by decide +kernel
theorem dX7_begins_64 : decode cX7_begins 64 = .ok (.iconst 0, 1) := by decide +kernel
theorem dX7_begins_65 : decode cX7_begins 65 = .ok (.iastore, 1) := by decide +kernel
theorem dX7_begins_66 : decode cX7_begins 66 = .ok (.aload_n 0, 1) := by decide +kernel
theorem dX7_begins_67 : decode cX7_begins 67 = .ok (.getfield 19, 3) := by decide +kernel
theorem dX7_begins_70 : decode cX7_begins 70 = .ok (.iload_n 1, 1) := by decide +kernel
theorem dX7_begins_71 : decode cX7_begins 71 = .ok (.iconst 0, 1) := by decide +kernel
theorem dX7_begins_72 : decode cX7_begins 72 = .ok (.iastore, 1) := by decide +kernel
theorem dX7_begins_73 : decode cX7_begins 73 = .ok (.aload_n 0, 1) := by decide +kernel
theorem dX7_begins_74 : decode cX7_begins 74 = .ok (.getfield 22, 3) := by decide +kernel
theorem dX7_begins_77 : decode cX7_begins 77 = .ok (.iload_n 1, 1) := by decide +kernel
theorem dX7_begins_78 : decode cX7_begins 78 = .ok (.iconst 0, 1) := by decide +kernel
theorem dX7_begins_79 : decode cX7_begins 79 = .ok (.iastore, 1) := by decide +kernel
theorem dX7_begins_80 : decode cX7_begins 80 = .ok (.aload_n 0, 1) := by decide +kernel
theorem dX7_begins_81 : decode cX7_begins 81 = .ok (.getfield 25, 3) := by decide +kernel
theorem dX7_begins_84 : decode cX7_begins 84 = .ok (.iload_n 1, 1) := by decide +kernel
theorem dX7_begins_85 : decode cX7_begins 85 = .ok (.iconst 0, 1) := by decide +kernel
theorem dX7_begins_86 : decode cX7_begins 86 = .ok (.iastore, 1) := by decide +kernel
theorem dX7_begins_87 : decode cX7_begins 87 = .ok (.iinc 1 1, 3) := by decide +kernel
theorem dX7_begins_90 : decode cX7_begins 90 = .ok (.goto (-36), 3) := by decide +kernel
theorem dX7_begins_93 : decode cX7_begins 93 = .ok (.aload_n 0, 1) := by decide +kernel
theorem dX7_begins_94 : decode cX7_begins 94 = .ok (.iconst 0, 1) := by decide +kernel
theorem dX7_begins_95 : decode cX7_begins 95 = .ok (.putfield 76, 3) := by decide +kernel
theorem dX7_begins_98 : decode cX7_begins 98 = .ok (.aload_n 0, 1) := by decide +kernel
theorem dX7_begins_99 : decode cX7_begins 99 = .ok (.iconst 0, 1) := by decide +kernel
theorem dX7_begins_100 : decode cX7_begins 100 = .ok (.putfield 80, 3) := by decide +kernel
theorem dX7_begins_103 : decode cX7_begins 103 = .ok (.aload_n 0, 1) := by decide +kernel
theorem dX7_begins_104 : decode cX7_begins 104 = .ok (.iconst 0, 1) := by decide +kernel
theorem dX7_begins_105 : decode cX7_begins 105 = .ok (.putfield 83, 3) := by decide +kernel
theorem dX7_begins_108 : decode cX7_begins 108 = .ok (.return_, 1) := by decide +kernel
theorem dX7_may_0 : decode cX7_may 0 = .ok (.iload_n 0, 1) := by decide +kernel
theorem dX7_may_1 : decode cX7_may 1 = .ok (.tableswitch 85 0 5 #[39, 62, 85, 69, 77, 77], 39) := by decide +kernel
theorem dX7_may_40 : decode cX7_may 40 = .ok (.iload_n 1, 1) := by decide +kernel
theorem dX7_may_41 : decode cX7_may 41 = .ok (.bipush 12, 2) := by decide +kernel
theorem dX7_may_43 : decode cX7_may 43 = .ok (.bipush 96, 2) := by decide +kernel
theorem dX7_may_45 : decode cX7_may 45 = .ok (.invokestatic 86, 3) := by decide +kernel
theorem dX7_may_48 : decode cX7_may 48 = .ok (.ifCond .eq 13, 3) := by decide +kernel
theorem dX7_may_51 : decode cX7_may 51 = .ok (.iload_n 1, 1) := by decide +kernel
theorem dX7_may_52 : decode cX7_may 52 = .ok (.iconst 2, 1) := by decide +kernel
theorem dX7_may_53 : decode cX7_may 53 = .ok (.irem, 1) := by decide +kernel
theorem dX7_may_54 : decode cX7_may 54 = .ok (.ifCond .ne 7, 3) := by decide +kernel
theorem dX7_may_57 : decode cX7_may 57 = .ok (.iconst 1, 1) := by decide +kernel
theorem dX7_may_58 : decode cX7_may 58 = .ok (.goto 4, 3) := by decide +kernel
theorem dX7_may_61 : decode cX7_may 61 = .ok (.iconst 0, 1) := by decide +kernel
theorem dX7_may_62 : decode cX7_may 62 = .ok (.ireturn, 1) := by decide +kernel
theorem dX7_may_63 : decode cX7_may 63 = .ok (.iload_n 1, 1) := by decide +kernel
theorem dX7_may_64 : decode cX7_may 64 = .ok (.iconst 0, 1) := by decide +kernel
theorem dX7_may_65 : decode cX7_may 65 = .ok (.iconst 5, 1) := by decide +kernel
theorem dX7_may_66 : decode cX7_may 66 = .ok (.invokestatic 86, 3) := by decide +kernel
theorem dX7_may_69 : decode cX7_may 69 = .ok (.ireturn, 1) := by decide +kernel
theorem dX7_may_70 : decode cX7_may 70 = .ok (.iload_n 1, 1) := by decide +kernel
theorem dX7_may_71 : decode cX7_may 71 = .ok (.iconst 1, 1) := by decide +kernel
theorem dX7_may_72 : decode cX7_may 72 = .ok (.bipush 20, 2) := by decide +kernel
theorem dX7_may_74 : decode cX7_may 74 = .ok (.invokestatic 86, 3) := by decide +kernel
theorem dX7_may_77 : decode cX7_may 77 = .ok (.ireturn, 1) := by decide +kernel
theorem dX7_may_78 : decode cX7_may 78 = .ok (.iload_n 1, 1) := by decide +kernel
theorem dX7_may_79 : decode cX7_may 79 = .ok (.iconst 0, 1) := by decide +kernel
theorem dX7_may_80 : decode cX7_may 80 = .ok (.bipush 20, 2) := by decide +kernel
theorem dX7_may_82 : decode cX7_may 82 = .ok (.invokestatic 86, 3) := by decide +kernel
theorem dX7_may_85 : decode cX7_may 85 = .ok (.ireturn, 1) := by decide +kernel
theorem dX7_may_86 : decode cX7_may 86 = .ok (.iload_n 1, 1) := by decide +kernel
theorem dX7_may_87 : decode cX7_may 87 = .ok (.iconst 0, 1) := by decide +kernel
theorem dX7_may_88 : decode cX7_may 88 = .ok (.iconst 1, 1) := by decide +kernel
theorem dX7_may_89 : decode cX7_may 89 = .ok (.invokestatic 86, 3) := by decide +kernel
theorem dX7_may_92 : decode cX7_may 92 = .ok (.ireturn, 1) := by decide +kernel
theorem dX7_isLeg_0 : decode cX7_isLeg 0 = .ok (.iload_n 0, 1) := by decide +kernel
theorem dX7_isLeg_1 : decode cX7_isLeg 1 = .ok (.iconst 0, 1) := by decide +kernel
theorem dX7_isLeg_2 : decode cX7_isLeg 2 = .ok (.iconst 2, 1) := by decide +kernel
theorem dX7_isLeg_3 : decode cX7_isLeg 3 = .ok (.invokestatic 86, 3) := by decide +kernel
theorem dX7_isLeg_6 : decode cX7_isLeg 6 = .ok (.ireturn, 1) := by decide +kernel
theorem dX7_sets_0 : decode cX7_sets 0 = .ok (.iload_n 1, 1) := by decide +kernel
theorem dX7_sets_1 : decode cX7_sets 1 = .ok (.iconst 0, 1) := by decide +kernel
theorem dX7_sets_2 : decode cX7_sets 2 = .ok (.bipush 6, 2) := by decide +kernel
theorem dX7_sets_4 : decode cX7_sets 4 = .ok (.invokestatic 86, 3) := by decide +kernel
theorem dX7_sets_7 : decode cX7_sets 7 = .ok (.ifCond .eq 11, 3) := by decide +kernel
theorem dX7_sets_10 : decode cX7_sets 10 = .ok (.iload_n 1, 1) := by decide +kernel
theorem dX7_sets_11 : decode cX7_sets 11 = .ok (.iload_n 2, 1) := by decide +kernel
theorem dX7_sets_12 : decode cX7_sets 12 = .ok (.invokestatic 90, 3) := by decide +kernel
theorem dX7_sets_15 : decode cX7_sets 15 = .ok (.ifCond .ne 8, 3) := by decide +kernel
theorem dX7_sets_18 : decode cX7_sets 18 = .ok (.aload_n 0, 1) := by decide +kernel
theorem dX7_sets_19 : decode cX7_sets 19 = .ok (.invokevirtual 94, 3) := by decide +kernel
theorem dX7_sets_22 : decode cX7_sets 22 = .ok (.ireturn, 1) := by decide +kernel
theorem dX7_sets_23 : decode cX7_sets 23 = .ok (.aload_n 0, 1) := by decide +kernel
theorem dX7_sets_24 : decode cX7_sets 24 = .ok (.getfield 13, 3) := by decide +kernel
theorem dX7_sets_27 : decode cX7_sets 27 = .ok (.iload_n 1, 1) := by decide +kernel
theorem dX7_sets_28 : decode cX7_sets 28 = .ok (.iaload, 1) := by decide +kernel
theorem dX7_sets_29 : decode cX7_sets 29 = .ok (.istore_n 3, 1) := by decide +kernel
theorem dX7_sets_30 : decode cX7_sets 30 = .ok (.aload_n 0, 1) := by decide +kernel
theorem dX7_sets_31 : decode cX7_sets 31 = .ok (.getfield 13, 3) := by decide +kernel
theorem dX7_sets_34 : decode cX7_sets 34 = .ok (.iload_n 1, 1) := by decide +kernel
theorem dX7_sets_35 : decode cX7_sets 35 = .ok (.iload_n 2, 1) := by decide +kernel
theorem dX7_sets_36 : decode cX7_sets 36 = .ok (.iastore, 1) := by decide +kernel
theorem dX7_sets_37 : decode cX7_sets 37 = .ok (.iload_n 3, 1) := by decide +kernel
theorem dX7_sets_38 : decode cX7_sets 38 = .ok (.ireturn, 1) := by decide +kernel
theorem dX7_leg_0 : decode cX7_leg 0 = .ok (.iload_n 1, 1) := by decide +kernel
theorem dX7_leg_1 : decode cX7_leg 1 = .ok (.invokestatic 98, 3) := by decide +kernel
theorem dX7_leg_4 : decode cX7_leg 4 = .ok (.ifCond .eq 45, 3) := by decide +kernel
theorem dX7_leg_7 : decode cX7_leg 7 = .ok (.iload_n 2, 1) := by decide +kernel
theorem dX7_leg_8 : decode cX7_leg 8 = .ok (.iconst 0, 1) := by decide +kernel
theorem dX7_leg_9 : decode cX7_leg 9 = .ok (.iconst 1, 1) := by decide +kernel
theorem dX7_leg_10 : decode cX7_leg 10 = .ok (.invokestatic 86, 3) := by decide +kernel
theorem dX7_leg_13 : decode cX7_leg 13 = .ok (.ifCond .eq 36, 3) := by decide +kernel
theorem dX7_leg_16 : decode cX7_leg 16 = .ok (.iload_n 3, 1) := by decide +kernel
theorem dX7_leg_17 : decode cX7_leg 17 = .ok (.iload_n 2, 1) := by decide +kernel
theorem dX7_leg_18 : decode cX7_leg 18 = .ok (.ifCond .ne 9, 3) := by decide +kernel
theorem dX7_leg_21 : decode cX7_leg 21 = .ok (.sipush (-200), 3) := by decide +kernel
theorem dX7_leg_24 : decode cX7_leg 24 = .ok (.goto 6, 3) := by decide +kernel
theorem dX7_leg_27 : decode cX7_leg 27 = .ok (.sipush (-999), 3) := by decide +kernel
theorem dX7_leg_30 : decode cX7_leg 30 = .ok (.iload_n 2, 1) := by decide +kernel
theorem dX7_leg_31 : decode cX7_leg 31 = .ok (.ifCond .ne 9, 3) := by decide +kernel
theorem dX7_leg_34 : decode cX7_leg 34 = .ok (.sipush 200, 3) := by decide +kernel
theorem dX7_leg_37 : decode cX7_leg 37 = .ok (.goto 6, 3) := by decide +kernel
theorem dX7_leg_40 : decode cX7_leg 40 = .ok (.sipush 999, 3) := by decide +kernel
theorem dX7_leg_43 : decode cX7_leg 43 = .ok (.invokestatic 86, 3) := by decide +kernel
theorem dX7_leg_46 : decode cX7_leg 46 = .ok (.ifCond .ne 8, 3) := by decide +kernel
theorem dX7_leg_49 : decode cX7_leg 49 = .ok (.aload_n 0, 1) := by decide +kernel
theorem dX7_leg_50 : decode cX7_leg 50 = .ok (.invokevirtual 94, 3) := by decide +kernel
theorem dX7_leg_53 : decode cX7_leg 53 = .ok (.ireturn, 1) := by decide +kernel
theorem dX7_leg_54 : decode cX7_leg 54 = .ok (.iload_n 2, 1) := by decide +kernel
theorem dX7_leg_55 : decode cX7_leg 55 = .ok (.ifCond .ne 12, 3) := by decide +kernel
theorem dX7_leg_58 : decode cX7_leg 58 = .ok (.aload_n 0, 1) := by decide +kernel
theorem dX7_leg_59 : decode cX7_leg 59 = .ok (.getfield 19, 3) := by decide +kernel
theorem dX7_leg_62 : decode cX7_leg 62 = .ok (.iload_n 1, 1) := by decide +kernel
theorem dX7_leg_63 : decode cX7_leg 63 = .ok (.iaload, 1) := by decide +kernel
theorem dX7_leg_64 : decode cX7_leg 64 = .ok (.goto 9, 3) := by decide +kernel
theorem dX7_leg_67 : decode cX7_leg 67 = .ok (.aload_n 0, 1) := by decide +kernel
theorem dX7_leg_68 : decode cX7_leg 68 = .ok (.getfield 16, 3) := by decide +kernel
theorem dX7_leg_71 : decode cX7_leg 71 = .ok (.iload_n 1, 1) := by decide +kernel
theorem dX7_leg_72 : decode cX7_leg 72 = .ok (.iaload, 1) := by decide +kernel
theorem dX7_leg_73 : decode cX7_leg 73 = .ok (.istore 4, 2) := by decide +kernel
theorem dX7_leg_75 : decode cX7_leg 75 = .ok (.aload_n 0, 1) := by decide +kernel
theorem dX7_leg_76 : decode cX7_leg 76 = .ok (.getfield 19, 3) := by decide +kernel
theorem dX7_leg_79 : decode cX7_leg 79 = .ok (.iload_n 1, 1) := by decide +kernel
theorem dX7_leg_80 : decode cX7_leg 80 = .ok (.iload_n 2, 1) := by decide +kernel
theorem dX7_leg_81 : decode cX7_leg 81 = .ok (.ifCond .ne 7, 3) := by decide +kernel
theorem dX7_leg_84 : decode cX7_leg 84 = .ok (.iload_n 3, 1) := by decide +kernel
theorem dX7_leg_85 : decode cX7_leg 85 = .ok (.goto 9, 3) := by decide +kernel
theorem dX7_leg_88 : decode cX7_leg 88 = .ok (.aload_n 0, 1) := by decide +kernel
theorem dX7_leg_89 : decode cX7_leg 89 = .ok (.getfield 19, 3) := by decide +kernel
theorem dX7_leg_92 : decode cX7_leg 92 = .ok (.iload_n 1, 1) := by decide +kernel
theorem dX7_leg_93 : decode cX7_leg 93 = .ok (.iaload, 1) := by decide +kernel
theorem dX7_leg_94 : decode cX7_leg 94 = .ok (.iastore, 1) := by decide +kernel
theorem dX7_leg_95 : decode cX7_leg 95 = .ok (.aload_n 0, 1) := by decide +kernel
theorem dX7_leg_96 : decode cX7_leg 96 = .ok (.getfield 16, 3) := by decide +kernel
theorem dX7_leg_99 : decode cX7_leg 99 = .ok (.iload_n 1, 1) := by decide +kernel
theorem dX7_leg_100 : decode cX7_leg 100 = .ok (.iload_n 2, 1) := by decide +kernel
theorem dX7_leg_101 : decode cX7_leg 101 = .ok (.iconst 1, 1) := by decide +kernel
theorem dX7_leg_102 : decode cX7_leg 102 = .ok (.if_icmp .ne 7, 3) := by decide +kernel
theorem dX7_leg_105 : decode cX7_leg 105 = .ok (.iload_n 3, 1) := by decide +kernel
theorem dX7_leg_106 : decode cX7_leg 106 = .ok (.goto 9, 3) := by decide +kernel
theorem dX7_leg_109 : decode cX7_leg 109 = .ok (.aload_n 0, 1) := by decide +kernel
theorem dX7_leg_110 : decode cX7_leg 110 = .ok (.getfield 16, 3) := by decide +kernel
theorem dX7_leg_113 : decode cX7_leg 113 = .ok (.iload_n 1, 1) := by decide +kernel
theorem dX7_leg_114 : decode cX7_leg 114 = .ok (.iaload, 1) := by decide +kernel
theorem dX7_leg_115 : decode cX7_leg 115 = .ok (.iastore, 1) := by decide +kernel
theorem dX7_leg_116 : decode cX7_leg 116 = .ok (.iload 4, 2) := by decide +kernel
theorem dX7_leg_118 : decode cX7_leg 118 = .ok (.ireturn, 1) := by decide +kernel
theorem dX7_anew_0 : decode cX7_anew 0 = .ok (.aload_n 0, 1) := by decide +kernel
theorem dX7_anew_1 : decode cX7_anew 1 = .ok (.getfield 76, 3) := by decide +kernel
theorem dX7_anew_4 : decode cX7_anew 4 = .ok (.istore_n 1, 1) := by decide +kernel
theorem dX7_anew_5 : decode cX7_anew 5 = .ok (.aload_n 0, 1) := by decide +kernel
theorem dX7_anew_6 : decode cX7_anew 6 = .ok (.invokevirtual 73, 3) := by decide +kernel
theorem dX7_anew_9 : decode cX7_anew 9 = .ok (.iload_n 1, 1) := by decide +kernel
theorem dX7_anew_10 : decode cX7_anew 10 = .ok (.ireturn, 1) := by decide +kernel
theorem dX7_draw_0 : decode cX7_draw 0 = .ok (.iload_n 1, 1) := by decide +kernel
theorem dX7_draw_1 : decode cX7_draw 1 = .ok (.iconst 0, 1) := by decide +kernel
theorem dX7_draw_2 : decode cX7_draw 2 = .ok (.ldc 102, 2) := by decide +kernel
theorem dX7_draw_4 : decode cX7_draw 4 = .ok (.invokestatic 86, 3) := by decide +kernel
theorem dX7_draw_7 : decode cX7_draw 7 = .ok (.ifCond .ne 8, 3) := by decide +kernel
theorem dX7_draw_10 : decode cX7_draw 10 = .ok (.aload_n 0, 1) := by decide +kernel
theorem dX7_draw_11 : decode cX7_draw 11 = .ok (.invokevirtual 94, 3) := by decide +kernel
theorem dX7_draw_14 : decode cX7_draw 14 = .ok (.ireturn, 1) := by decide +kernel
theorem dX7_draw_15 : decode cX7_draw 15 = .ok (.iload_n 1, 1) := by decide +kernel
theorem dX7_draw_16 : decode cX7_draw 16 = .ok (.i2l, 1) := by decide +kernel
theorem dX7_draw_17 : decode cX7_draw 17 = .ok (.lstore_n 2, 1) := by decide +kernel
theorem dX7_draw_18 : decode cX7_draw 18 = .ok (.iconst 0, 1) := by decide +kernel
theorem dX7_draw_19 : decode cX7_draw 19 = .ok (.istore 4, 2) := by decide +kernel
theorem dX7_draw_21 : decode cX7_draw 21 = .ok (.iload 4, 2) := by decide +kernel
theorem dX7_draw_23 : decode cX7_draw 23 = .ok (.iconst 3, 1) := by decide +kernel
theorem dX7_draw_24 : decode cX7_draw 24 = .ok (.if_icmp .ge 64, 3) := by decide +kernel
theorem dX7_draw_27 : decode cX7_draw 27 = .ok (.lload_n 2, 1) := by decide +kernel
theorem dX7_draw_28 : decode cX7_draw 28 = .ok (.ldc2_w 103, 3) := by decide +kernel
theorem dX7_draw_31 : decode cX7_draw 31 = .ok (.lmul, 1) := by decide +kernel
theorem dX7_draw_32 : decode cX7_draw 32 = .ok (.ldc2_w 105, 3) := by decide +kernel
theorem dX7_draw_35 : decode cX7_draw 35 = .ok (.ladd, 1) := by decide +kernel
theorem dX7_draw_36 : decode cX7_draw 36 = .ok (.ldc2_w 107, 3) := by decide +kernel
theorem dX7_draw_39 : decode cX7_draw 39 = .ok (.lrem, 1) := by decide +kernel
theorem dX7_draw_40 : decode cX7_draw 40 = .ok (.lstore_n 2, 1) := by decide +kernel
theorem dX7_draw_41 : decode cX7_draw 41 = .ok (.aload_n 0, 1) := by decide +kernel
theorem dX7_draw_42 : decode cX7_draw 42 = .ok (.getfield 19, 3) := by decide +kernel
theorem dX7_draw_45 : decode cX7_draw 45 = .ok (.iload 4, 2) := by decide +kernel
theorem dX7_draw_47 : decode cX7_draw 47 = .ok (.lload_n 2, 1) := by decide +kernel
theorem dX7_draw_48 : decode cX7_draw 48 = .ok (.ldc2_w 109, 3) := by decide +kernel
theorem dX7_draw_51 : decode cX7_draw 51 = .ok (.ldiv, 1) := by decide +kernel
theorem dX7_draw_52 : decode cX7_draw 52 = .ok (.ldc2_w 111, 3) := by decide +kernel
theorem dX7_draw_55 : decode cX7_draw 55 = .ok (.lrem, 1) := by decide +kernel
theorem dX7_draw_56 : decode cX7_draw 56 = .ok (.l2i, 1) := by decide +kernel
theorem dX7_draw_57 : decode cX7_draw 57 = .ok (.bipush 100, 2) := by decide +kernel
theorem dX7_draw_59 : decode cX7_draw 59 = .ok (.isub, 1) := by decide +kernel
theorem dX7_draw_60 : decode cX7_draw 60 = .ok (.iastore, 1) := by decide +kernel
theorem dX7_draw_61 : decode cX7_draw 61 = .ok (.aload_n 0, 1) := by decide +kernel
theorem dX7_draw_62 : decode cX7_draw 62 = .ok (.getfield 16, 3) := by decide +kernel
theorem dX7_draw_65 : decode cX7_draw 65 = .ok (.iload 4, 2) := by decide +kernel
theorem dX7_draw_67 : decode cX7_draw 67 = .ok (.lload_n 2, 1) := by decide +kernel
theorem dX7_draw_68 : decode cX7_draw 68 = .ok (.ldc2_w 113, 3) := by decide +kernel
theorem dX7_draw_71 : decode cX7_draw 71 = .ok (.ldiv, 1) := by decide +kernel
theorem dX7_draw_72 : decode cX7_draw 72 = .ok (.ldc2_w 115, 3) := by decide +kernel
theorem dX7_draw_75 : decode cX7_draw 75 = .ok (.lrem, 1) := by decide +kernel
theorem dX7_draw_76 : decode cX7_draw 76 = .ok (.l2i, 1) := by decide +kernel
theorem dX7_draw_77 : decode cX7_draw 77 = .ok (.sipush 200, 3) := by decide +kernel
theorem dX7_draw_80 : decode cX7_draw 80 = .ok (.isub, 1) := by decide +kernel
theorem dX7_draw_81 : decode cX7_draw 81 = .ok (.iastore, 1) := by decide +kernel
theorem dX7_draw_82 : decode cX7_draw 82 = .ok (.iinc 4 1, 3) := by decide +kernel
theorem dX7_draw_85 : decode cX7_draw 85 = .ok (.goto (-64), 3) := by decide +kernel
theorem dX7_draw_88 : decode cX7_draw 88 = .ok (.aload_n 0, 1) := by decide +kernel
theorem dX7_draw_89 : decode cX7_draw 89 = .ok (.invokevirtual 117, 3) := by decide +kernel
theorem dX7_draw_92 : decode cX7_draw 92 = .ok (.aload_n 0, 1) := by decide +kernel
theorem dX7_draw_93 : decode cX7_draw 93 = .ok (.getfield 120, 3) := by decide +kernel
theorem dX7_draw_96 : decode cX7_draw 96 = .ok (.ireturn, 1) := by decide +kernel
theorem dX7_greatest_0 : decode cX7_greatest 0 = .ok (.aload_n 0, 1) := by decide +kernel
theorem dX7_greatest_1 : decode cX7_greatest 1 = .ok (.iconst 0, 1) := by decide +kernel
theorem dX7_greatest_2 : decode cX7_greatest 2 = .ok (.iaload, 1) := by decide +kernel
theorem dX7_greatest_3 : decode cX7_greatest 3 = .ok (.aload_n 0, 1) := by decide +kernel
theorem dX7_greatest_4 : decode cX7_greatest 4 = .ok (.iconst 1, 1) := by decide +kernel
theorem dX7_greatest_5 : decode cX7_greatest 5 = .ok (.iaload, 1) := by decide +kernel
theorem dX7_greatest_6 : decode cX7_greatest 6 = .ok (.if_icmp .le 9, 3) := by decide +kernel
theorem dX7_greatest_9 : decode cX7_greatest 9 = .ok (.aload_n 0, 1) := by decide +kernel
theorem dX7_greatest_10 : decode cX7_greatest 10 = .ok (.iconst 0, 1) := by decide +kernel
theorem dX7_greatest_11 : decode cX7_greatest 11 = .ok (.iaload, 1) := by decide +kernel
theorem dX7_greatest_12 : decode cX7_greatest 12 = .ok (.goto 6, 3) := by decide +kernel
theorem dX7_greatest_15 : decode cX7_greatest 15 = .ok (.aload_n 0, 1) := by decide +kernel
theorem dX7_greatest_16 : decode cX7_greatest 16 = .ok (.iconst 1, 1) := by decide +kernel
theorem dX7_greatest_17 : decode cX7_greatest 17 = .ok (.iaload, 1) := by decide +kernel
theorem dX7_greatest_18 : decode cX7_greatest 18 = .ok (.istore_n 1, 1) := by decide +kernel
theorem dX7_greatest_19 : decode cX7_greatest 19 = .ok (.iload_n 1, 1) := by decide +kernel
theorem dX7_greatest_20 : decode cX7_greatest 20 = .ok (.aload_n 0, 1) := by decide +kernel
theorem dX7_greatest_21 : decode cX7_greatest 21 = .ok (.iconst 2, 1) := by decide +kernel
theorem dX7_greatest_22 : decode cX7_greatest 22 = .ok (.iaload, 1) := by decide +kernel
theorem dX7_greatest_23 : decode cX7_greatest 23 = .ok (.if_icmp .le 7, 3) := by decide +kernel
theorem dX7_greatest_26 : decode cX7_greatest 26 = .ok (.iload_n 1, 1) := by decide +kernel
theorem dX7_greatest_27 : decode cX7_greatest 27 = .ok (.goto 6, 3) := by decide +kernel
theorem dX7_greatest_30 : decode cX7_greatest 30 = .ok (.aload_n 0, 1) := by decide +kernel
theorem dX7_greatest_31 : decode cX7_greatest 31 = .ok (.iconst 2, 1) := by decide +kernel
theorem dX7_greatest_32 : decode cX7_greatest 32 = .ok (.iaload, 1) := by decide +kernel
theorem dX7_greatest_33 : decode cX7_greatest 33 = .ok (.ireturn, 1) := by decide +kernel
theorem dX7_least_0 : decode cX7_least 0 = .ok (.aload_n 0, 1) := by decide +kernel
theorem dX7_least_1 : decode cX7_least 1 = .ok (.iconst 0, 1) := by decide +kernel
theorem dX7_least_2 : decode cX7_least 2 = .ok (.iaload, 1) := by decide +kernel
