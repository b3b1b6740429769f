theorem dX0_init_0 : decode cX0_init 0 = .ok (.aload_n 0, 1) := by decide +kernel
theorem dX0_init_1 : decode cX0_init 1 = .ok (.invokespecial 3, 3) := by decide +kernel
theorem dX0_init_4 : decode cX0_init 4 = .ok (.aload_n 0, 1) := by decide +kernel
theorem dX0_init_5 : decode cX0_init 5 = .ok (.bipush 7, 2) := by decide +kernel
theorem dX0_init_7 : decode cX0_init 7 = .ok (.newarray .int, 2) := by decide +kernel
theorem dX0_init_9 : decode cX0_init 9 = .ok (.putfield 9, 3) := by decide +kernel
theorem dX0_init_12 : decode cX0_init 12 = .ok (.aload_n 0, 1) := by decide +kernel
theorem dX0_init_13 : decode cX0_init 13 = .ok (.iconst 3, 1) := by decide +kernel
theorem dX0_init_14 : decode cX0_init 14 = .ok (.newarray .int, 2) := by decide +kernel
theorem dX0_init_16 : decode cX0_init 16 = .ok (.putfield 15, 3) := by decide +kernel
theorem dX0_init_19 : decode cX0_init 19 = .ok (.aload_n 0, 1) := by decide +kernel
theorem dX0_init_20 : decode cX0_init 20 = .ok (.iconst 3, 1) := by decide +kernel
theorem dX0_init_21 : decode cX0_init 21 = .ok (.newarray .int, 2) := by decide +kernel
theorem dX0_init_23 : decode cX0_init 23 = .ok (.putfield 18, 3) := by decide +kernel
theorem dX0_init_26 : decode cX0_init 26 = .ok (.aload_n 0, 1) := by decide +kernel
theorem dX0_init_27 : decode cX0_init 27 = .ok (.iconst 3, 1) := by decide +kernel
theorem dX0_init_28 : decode cX0_init 28 = .ok (.newarray .int, 2) := by decide +kernel
theorem dX0_init_30 : decode cX0_init 30 = .ok (.putfield 21, 3) := by decide +kernel
theorem dX0_init_33 : decode cX0_init 33 = .ok (.aload_n 0, 1) := by decide +kernel
theorem dX0_init_34 : decode cX0_init 34 = .ok (.iconst 3, 1) := by decide +kernel
theorem dX0_init_35 : decode cX0_init 35 = .ok (.newarray .int, 2) := by decide +kernel
theorem dX0_init_37 : decode cX0_init 37 = .ok (.putfield 24, 3) := by decide +kernel
theorem dX0_init_40 : decode cX0_init 40 = .ok (.aload_n 0, 1) := by decide +kernel
theorem dX0_init_41 : decode cX0_init 41 = .ok (.new 27, 3) := by decide +kernel
theorem dX0_init_44 : decode cX0_init 44 = .ok (.dup, 1) := by decide +kernel
theorem dX0_init_45 : decode cX0_init 45 = .ok (.bipush 12, 2) := by decide +kernel
theorem dX0_init_47 : decode cX0_init 47 = .ok (.invokespecial 29, 3) := by decide +kernel
theorem dX0_init_50 : decode cX0_init 50 = .ok (.putfield 32, 3) := by decide +kernel
theorem dX0_init_53 : decode cX0_init 53 = .ok (.aload_n 0, 1) := by decide +kernel
theorem dX0_init_54 : decode cX0_init 54 = .ok (.new 36, 3) := by decide +kernel
theorem dX0_init_57 : decode cX0_init 57 = .ok (.dup, 1) := by decide +kernel
theorem dX0_init_58 : decode cX0_init 58 = .ok (.invokespecial 38, 3) := by decide +kernel
theorem dX0_init_61 : decode cX0_init 61 = .ok (.putfield 39, 3) := by decide +kernel
theorem dX0_init_64 : decode cX0_init 64 = .ok (.aload_n 0, 1) := by decide +kernel
theorem dX0_init_65 : decode cX0_init 65 = .ok (.invokevirtual 43, 3) := by decide +kernel
theorem dX0_init_68 : decode cX0_init 68 = .ok (.return_, 1) := by decide +kernel
theorem dX0_beginAnew_0 : decode cX0_beginAnew 0 = .ok (.getstatic 46, 3) := by decide +kernel
theorem dX0_beginAnew_3 : decode cX0_beginAnew 3 = .ok (.iconst 0, 1) := by decide +kernel
theorem dX0_beginAnew_4 : decode cX0_beginAnew 4 = .ok (.aload_n 0, 1) := by decide +kernel
theorem dX0_beginAnew_5 : decode cX0_beginAnew 5 = .ok (.getfield 9, 3) := by decide +kernel
theorem dX0_beginAnew_8 : decode cX0_beginAnew 8 = .ok (.iconst 0, 1) := by decide +kernel
theorem dX0_beginAnew_9 : decode cX0_beginAnew 9 = .ok (.bipush 7, 2) := by decide +kernel
theorem dX0_beginAnew_11 : decode cX0_beginAnew 11 = .ok (.invokestatic 49, 3) := by decide +kernel
theorem dX0_beginAnew_14 : decode cX0_beginAnew 14 = .ok (.iconst 0, 1) := by decide +kernel
theorem dX0_beginAnew_15 : decode cX0_beginAnew 15 = .ok (.istore_n 1, 1) := by decide +kernel
theorem dX0_beginAnew_16 : decode cX0_beginAnew 16 = .ok (.iload_n 1, 1) := by decide +kernel
theorem dX0_beginAnew_17 : decode cX0_beginAnew 17 = .ok (.iconst 3, 1) := by decide +kernel
theorem dX0_beginAnew_18 : decode cX0_beginAnew 18 = .ok (.if_icmp .ge 37, 3) := by decide +kernel
theorem dX0_beginAnew_21 : decode cX0_beginAnew 21 = .ok (.aload_n 0, 1) := by decide +kernel
theorem dX0_beginAnew_22 : decode cX0_beginAnew 22 = .ok (.getfield 15, 3) := by decide +kernel
theorem dX0_beginAnew_25 : decode cX0_beginAnew 25 = .ok (.iload_n 1, 1) := by decide +kernel
theorem dX0_beginAnew_26 : decode cX0_beginAnew 26 = .ok (.iconst 0, 1) := by decide +kernel
theorem dX0_beginAnew_27 : decode cX0_beginAnew 27 = .ok (.iastore, 1) := by decide +kernel
theorem dX0_beginAnew_28 : decode cX0_beginAnew 28 = .ok (.aload_n 0, 1) := by decide +kernel
theorem dX0_beginAnew_29 : decode cX0_beginAnew 29 = .ok (.getfield 18, 3) := by decide +kernel
theorem dX0_beginAnew_32 : decode cX0_beginAnew 32 = .ok (.iload_n 1, 1) := by decide +kernel
theorem dX0_beginAnew_33 : decode cX0_beginAnew 33 = .ok (.iconst 0, 1) := by decide +kernel
theorem dX0_beginAnew_34 : decode cX0_beginAnew 34 = .ok (.iastore, 1) := by decide +kernel
theorem dX0_beginAnew_35 : decode cX0_beginAnew 35 = .ok (.aload_n 0, 1) := by decide +kernel
theorem dX0_beginAnew_36 : decode cX0_beginAnew 36 = .ok (.getfield 21, 3) := by decide +kernel
theorem dX0_beginAnew_39 : decode cX0_beginAnew 39 = .ok (.iload_n 1, 1) := by decide +kernel
theorem dX0_beginAnew_40 : decode cX0_beginAnew 40 = .ok (.iconst 0, 1) := by decide +kernel
theorem dX0_beginAnew_41 : decode cX0_beginAnew 41 = .ok (.iastore, 1) := by decide +kernel
theorem dX0_beginAnew_42 : decode cX0_beginAnew 42 = .ok (.aload_n 0, 1) := by decide +kernel
theorem dX0_beginAnew_43 : decode cX0_beginAnew 43 = .ok (.getfield 24, 3) := by decide +kernel
theorem dX0_beginAnew_46 : decode cX0_beginAnew 46 = .ok (.iload_n 1, 1) := by decide +kernel
theorem dX0_beginAnew_47 : decode cX0_beginAnew 47 = .ok (.iconst 0, 1) := by decide +kernel
theorem dX0_beginAnew_48 : decode cX0_beginAnew 48 = .ok (.iastore, 1) := by decide +kernel
theorem dX0_beginAnew_49 : decode cX0_beginAnew 49 = .ok (.iinc 1 1, 3) := by decide +kernel
theorem dX0_beginAnew_52 : decode cX0_beginAnew 52 = .ok (.goto (-36), 3) := by decide +kernel
theorem dX0_beginAnew_55 : decode cX0_beginAnew 55 = .ok (.aload_n 0, 1) := by decide +kernel
theorem dX0_beginAnew_56 : decode cX0_beginAnew 56 = .ok (.getfield 32, 3) := by decide +kernel
theorem dX0_beginAnew_59 : decode cX0_beginAnew 59 = .ok (.iconst 0, 1) := by decide +kernel
theorem dX0_beginAnew_60 : decode cX0_beginAnew 60 = .ok (.invokevirtual 55, 3) := by decide +kernel
theorem dX0_beginAnew_63 : decode cX0_beginAnew 63 = .ok (.aload_n 0, 1) := by decide +kernel
theorem dX0_beginAnew_64 : decode cX0_beginAnew 64 = .ok (.iconst 0, 1) := by decide +kernel
theorem dX0_beginAnew_65 : decode cX0_beginAnew 65 = .ok (.putfield 58, 3) := by decide +kernel
theorem dX0_beginAnew_68 : decode cX0_beginAnew 68 = .ok (.return_, 1) := by decide +kernel
theorem dX0_becomeLike_0 : decode cX0_becomeLike 0 = .ok (.aload_n 1, 1) := by decide +kernel
theorem dX0_becomeLike_1 : decode cX0_becomeLike 1 = .ok (.getfield 9, 3) := by decide +kernel
theorem dX0_becomeLike_4 : decode cX0_becomeLike 4 = .ok (.iconst 0, 1) := by decide +kernel
theorem dX0_becomeLike_5 : decode cX0_becomeLike 5 = .ok (.aload_n 0, 1) := by decide +kernel
theorem dX0_becomeLike_6 : decode cX0_becomeLike 6 = .ok (.getfield 9, 3) := by decide +kernel
theorem dX0_becomeLike_9 : decode cX0_becomeLike 9 = .ok (.iconst 0, 1) := by decide +kernel
theorem dX0_becomeLike_10 : decode cX0_becomeLike 10 = .ok (.bipush 7, 2) := by decide +kernel
theorem dX0_becomeLike_12 : decode cX0_becomeLike 12 = .ok (.invokestatic 49, 3) := by decide +kernel
theorem dX0_becomeLike_15 : decode cX0_becomeLike 15 = .ok (.aload_n 1, 1) := by decide +kernel
theorem dX0_becomeLike_16 : decode cX0_becomeLike 16 = .ok (.getfield 15, 3) := by decide +kernel
theorem dX0_becomeLike_19 : decode cX0_becomeLike 19 = .ok (.iconst 0, 1) := by decide +kernel
theorem dX0_becomeLike_20 : decode cX0_becomeLike 20 = .ok (.aload_n 0, 1) := by decide +kernel
theorem dX0_becomeLike_21 : decode cX0_becomeLike 21 = .ok (.getfield 15, 3) := by decide +kernel
theorem dX0_becomeLike_24 : decode cX0_becomeLike 24 = .ok (.iconst 0, 1) := by decide +kernel
theorem dX0_becomeLike_25 : decode cX0_becomeLike 25 = .ok (.iconst 3, 1) := by decide +kernel
theorem dX0_becomeLike_26 : decode cX0_becomeLike 26 = .ok (.invokestatic 49, 3) := by decide +kernel
theorem dX0_becomeLike_29 : decode cX0_becomeLike 29 = .ok (.aload_n 1, 1) := by decide +kernel
theorem dX0_becomeLike_30 : decode cX0_becomeLike 30 = .ok (.getfield 18, 3) := by decide +kernel
theorem dX0_becomeLike_33 : decode cX0_becomeLike 33 = .ok (.iconst 0, 1) := by decide +kernel
theorem dX0_becomeLike_34 : decode cX0_becomeLike 34 = .ok (.aload_n 0, 1) := by decide +kernel
theorem dX0_becomeLike_35 : decode cX0_becomeLike 35 = .ok (.getfield 18, 3) := by decide +kernel
theorem dX0_becomeLike_38 : decode cX0_becomeLike 38 = .ok (.iconst 0, 1) := by decide +kernel
theorem dX0_becomeLike_39 : decode cX0_becomeLike 39 = .ok (.iconst 3, 1) := by decide +kernel
theorem dX0_becomeLike_40 : decode cX0_becomeLike 40 = .ok (.invokestatic 49, 3) := by decide +kernel
theorem dX0_becomeLike_43 : decode cX0_becomeLike 43 = .ok (.aload_n 1, 1) := by decide +kernel
theorem dX0_becomeLike_44 : decode cX0_becomeLike 44 = .ok (.getfield 21, 3) := by decide +kernel
theorem dX0_becomeLike_47 : decode cX0_becomeLike 47 = .ok (.iconst 0, 1) := by decide +kernel
theorem dX0_becomeLike_48 : decode cX0_becomeLike 48 = .ok (.aload_n 0, 1) := by decide +kernel
theorem dX0_becomeLike_49 : decode cX0_becomeLike 49 = .ok (.getfield 21, 3) := by decide +kernel
theorem dX0_becomeLike_52 : decode cX0_becomeLike 52 = .ok (.iconst 0, 1) := by decide +kernel
theorem dX0_becomeLike_53 : decode cX0_becomeLike 53 = .ok (.iconst 3, 1) := by decide +kernel
theorem dX0_becomeLike_54 : decode cX0_becomeLike 54 = .ok (.invokestatic 49, 3) := by decide +kernel
theorem dX0_becomeLike_57 : decode cX0_becomeLike 57 = .ok (.aload_n 1, 1) := by decide +kernel
theorem dX0_becomeLike_58 : decode cX0_becomeLike 58 = .ok (.getfield 24, 3) := by decide +kernel
theorem dX0_becomeLike_61 : decode cX0_becomeLike 61 = .ok (.iconst 0, 1) := by decide +kernel
theorem dX0_becomeLike_62 : decode cX0_becomeLike 62 = .ok (.aload_n 0, 1) := by decide +kernel
theorem dX0_becomeLike_63 : decode cX0_becomeLike 63 = .ok (.getfield 24, 3) := by decide +kernel
theorem dX0_becomeLike_66 : decode cX0_becomeLike 66 = .ok (.iconst 0, 1) := by decide +kernel
theorem dX0_becomeLike_67 : decode cX0_becomeLike 67 = .ok (.iconst 3, 1) := by decide +kernel
theorem dX0_becomeLike_68 : decode cX0_becomeLike 68 = .ok (.invokestatic 49, 3) := by decide +kernel
theorem dX0_becomeLike_71 : decode cX0_becomeLike 71 = .ok (.aload_n 0, 1) := by decide +kernel
theorem dX0_becomeLike_72 : decode cX0_becomeLike 72 = .ok (.getfield 32, 3) := by decide +kernel
theorem dX0_becomeLike_75 : decode cX0_becomeLike 75 = .ok (.iconst 0, 1) := by decide +kernel
theorem dX0_becomeLike_76 : decode cX0_becomeLike 76 = .ok (.invokevirtual 55, 3) := by decide +kernel
theorem dX0_becomeLike_79 : decode cX0_becomeLike 79 = .ok (.aload_n 0, 1) := by decide +kernel
theorem dX0_becomeLike_80 : decode cX0_becomeLike 80 = .ok (.getfield 32, 3) := by decide +kernel
theorem dX0_becomeLike_83 : decode cX0_becomeLike 83 = .ok (.aload_n 1, 1) := by decide +kernel
theorem dX0_becomeLike_84 : decode cX0_becomeLike 84 = .ok (.getfield 32, 3) := by decide +kernel
theorem dX0_becomeLike_87 : decode cX0_becomeLike 87 = .ok (.invokevirtual 62, 3) := by decide +kernel
theorem dX0_becomeLike_90 : decode cX0_becomeLike 90 = .ok (.aload_n 0, 1) := by decide +kernel
theorem dX0_becomeLike_91 : decode cX0_becomeLike 91 = .ok (.aload_n 1, 1) := by decide +kernel
theorem dX0_becomeLike_92 : decode cX0_becomeLike 92 = .ok (.getfield 58, 3) := by decide +kernel
theorem dX0_becomeLike_95 : decode cX0_becomeLike 95 = .ok (.putfield 58, 3) := by decide +kernel
theorem dX0_becomeLike_98 : decode cX0_becomeLike 98 = .ok (.return_, 1) := by decide +kernel
theorem dX0_makePlan_0 : decode cX0_makePlan 0 = .ok (.aload_n 0, 1) := by decide +kernel
theorem dX0_makePlan_1 : decode cX0_makePlan 1 = .ok (.getfield 39, 3) := by decide +kernel
theorem dX0_makePlan_4 : decode cX0_makePlan 4 = .ok (.aload_n 0, 1) := by decide +kernel
theorem dX0_makePlan_5 : decode cX0_makePlan 5 = .ok (.getfield 9, 3) := by decide +kernel
theorem dX0_makePlan_8 : decode cX0_makePlan 8 = .ok (.aload_n 0, 1) := by decide +kernel
theorem dX0_makePlan_9 : decode cX0_makePlan 9 = .ok (.getfield 15, 3) := by decide +kernel
theorem dX0_makePlan_12 : decode cX0_makePlan 12 = .ok (.aload_n 0, 1) := by decide +kernel
theorem dX0_makePlan_13 : decode cX0_makePlan 13 = .ok (.getfield 18, 3) := by decide +kernel
theorem dX0_makePlan_16 : decode cX0_makePlan 16 = .ok (.invokevirtual 66, 3) := by decide +kernel
theorem dX0_makePlan_19 : decode cX0_makePlan 19 = .ok (.return_, 1) := by decide +kernel
theorem dX0_stepOnce_0 : decode cX0_stepOnce 0 = .ok (.aload_n 0, 1) := by decide +kernel
theorem dX0_stepOnce_1 : decode cX0_stepOnce 1 = .ok (.invokevirtual 70, 3) := by decide +kernel
theorem dX0_stepOnce_4 : decode cX0_stepOnce 4 = .ok (.aload_n 0, 1) := by decide +kernel
theorem dX0_stepOnce_5 : decode cX0_stepOnce 5 = .ok (.getfield 9, 3) := by decide +kernel
theorem dX0_stepOnce_8 : decode cX0_stepOnce 8 = .ok (.bipush 6, 2) := by decide +kernel
theorem dX0_stepOnce_10 : decode cX0_stepOnce 10 = .ok (.iaload, 1) := by decide +kernel
theorem dX0_stepOnce_11 : decode cX0_stepOnce 11 = .ok (.iconst 1, 1) := by decide +kernel
theorem dX0_stepOnce_12 : decode cX0_stepOnce 12 = .ok (.if_icmp .ne 7, 3) := by decide +kernel
theorem dX0_stepOnce_15 : decode cX0_stepOnce 15 = .ok (.aload_n 0, 1) := by decide +kernel
theorem dX0_stepOnce_16 : decode cX0_stepOnce 16 = .ok (.invokevirtual 73, 3) := by decide +kernel
theorem dX0_stepOnce_19 : decode cX0_stepOnce 19 = .ok (.aload_n 0, 1) := by decide +kernel
theorem dX0_stepOnce_20 : decode cX0_stepOnce 20 = .ok (.invokevirtual 76, 3) := by decide +kernel
theorem dX0_stepOnce_23 : decode cX0_stepOnce 23 = .ok (.aload_n 0, 1) := by decide +kernel
theorem dX0_stepOnce_24 : decode cX0_stepOnce 24 = .ok (.invokevirtual 79, 3) := by decide +kernel
theorem dX0_stepOnce_27 : decode cX0_stepOnce 27 = .ok (.aload_n 0, 1) := by decide +kernel
theorem dX0_stepOnce_28 : decode cX0_stepOnce 28 = .ok (.dup, 1) := by decide +kernel
theorem dX0_stepOnce_29 : decode cX0_stepOnce 29 = .ok (.getfield 58, 3) := by decide +kernel
theorem dX0_stepOnce_32 : decode cX0_stepOnce 32 = .ok (.iconst 1, 1) := by decide +kernel
theorem dX0_stepOnce_33 : decode cX0_stepOnce 33 = .ok (.iadd, 1) := by decide +kernel
theorem dX0_stepOnce_34 : decode cX0_stepOnce 34 = .ok (.putfield 58, 3) := by decide +kernel
theorem dX0_stepOnce_37 : decode cX0_stepOnce 37 = .ok (.aload_n 0, 1) := by decide +kernel
theorem dX0_stepOnce_38 : decode cX0_stepOnce 38 = .ok (.getfield 39, 3) := by decide +kernel
theorem dX0_stepOnce_41 : decode cX0_stepOnce 41 = .ok (.getfield 82, 3) := by decide +kernel
theorem dX0_stepOnce_44 : decode cX0_stepOnce 44 = .ok (.ireturn, 1) := by decide +kernel
theorem dX0_takeWishesThatHaveCome_0 : decode cX0_takeWishesThatHaveCome 0 = .ok (.iconst 0, 1) := by decide +kernel
theorem dX0_takeWishesThatHaveCome_1 : decode cX0_takeWishesThatHaveCome 1 = .ok (.istore_n 1, 1) := by decide +kernel
theorem dX0_takeWishesThatHaveCome_2 : decode cX0_takeWishesThatHaveCome 2 = .ok (.iconst 0, 1) := by decide +kernel
theorem dX0_takeWishesThatHaveCome_3 : decode cX0_takeWishesThatHaveCome 3 = .ok (.istore_n 2, 1) := by decide +kernel
theorem dX0_takeWishesThatHaveCome_4 : decode cX0_takeWishesThatHaveCome 4 = .ok (.iload_n 2, 1) := by decide +kernel
theorem dX0_takeWishesThatHaveCome_5 : decode cX0_takeWishesThatHaveCome 5 = .ok (.aload_n 0, 1) := by decide +kernel
theorem dX0_takeWishesThatHaveCome_6 : decode cX0_takeWishesThatHaveCome 6 = .ok (.getfield 32, 3) := by decide +kernel
theorem dX0_takeWishesThatHaveCome_9 : decode cX0_takeWishesThatHaveCome 9 = .ok (.getfield 86, 3) := by decide +kernel
theorem dX0_takeWishesThatHaveCome_12 : decode cX0_takeWishesThatHaveCome 12 = .ok (.if_icmp .ge 65, 3) := by decide +kernel
theorem dX0_takeWishesThatHaveCome_15 : decode cX0_takeWishesThatHaveCome 15 = .ok (.aload_n 0, 1) := by decide +kernel
theorem dX0_takeWishesThatHaveCome_16 : decode cX0_takeWishesThatHaveCome 16 = .ok (.getfield 32, 3) := by decide +kernel
theorem dX0_takeWishesThatHaveCome_19 : decode cX0_takeWishesThatHaveCome 19 = .ok (.iconst 0, 1) := by decide +kernel
theorem dX0_takeWishesThatHaveCome_20 : decode cX0_takeWishesThatHaveCome 20 = .ok (.iload_n 2, 1) := by decide +kernel
theorem dX0_takeWishesThatHaveCome_21 : decode cX0_takeWishesThatHaveCome 21 = .ok (.iconst 1, 1) := by decide +kernel
theorem dX0_takeWishesThatHaveCome_22 : decode cX0_takeWishesThatHaveCome 22 = .ok (.invokevirtual 89, 3) := by decide +kernel
theorem dX0_takeWishesThatHaveCome_25 : decode cX0_takeWishesThatHaveCome 25 = .ok (.aload_n 0, 1) := by decide +kernel
theorem dX0_takeWishesThatHaveCome_26 : decode cX0_takeWishesThatHaveCome 26 = .ok (.getfield 58, 3) := by decide +kernel
theorem dX0_takeWishesThatHaveCome_29 : decode cX0_takeWishesThatHaveCome 29 = .ok (.if_icmp .le 18, 3) := by decide +kernel
theorem dX0_takeWishesThatHaveCome_32 : decode cX0_takeWishesThatHaveCome 32 = .ok (.aload_n 0, 1) := by decide +kernel
theorem dX0_takeWishesThatHaveCome_33 : decode cX0_takeWishesThatHaveCome 33 = .ok (.getfield 32, 3) := by decide +kernel
theorem dX0_takeWishesThatHaveCome_36 : decode cX0_takeWishesThatHaveCome 36 = .ok (.iload_n 2, 1) := by decide +kernel
theorem dX0_takeWishesThatHaveCome_37 : decode cX0_takeWishesThatHaveCome 37 = .ok (.iload_n 1, 1) := by decide +kernel
theorem dX0_takeWishesThatHaveCome_38 : decode cX0_takeWishesThatHaveCome 38 = .ok (.invokevirtual 93, 3) := by decide +kernel
theorem dX0_takeWishesThatHaveCome_41 : decode cX0_takeWishesThatHaveCome 41 = .ok (.iinc 1 1, 3) := by decide +kernel
theorem dX0_takeWishesThatHaveCome_44 : decode cX0_takeWishesThatHaveCome 44 = .ok (.goto 27, 3) := by decide +kernel
theorem dX0_takeWishesThatHaveCome_47 : decode cX0_takeWishesThatHaveCome 47 = .ok (.aload_n 0, 1) := by decide +kernel
theorem dX0_takeWishesThatHaveCome_48 : decode cX0_takeWishesThatHaveCome 48 = .ok (.aload_n 0, 1) := by decide +kernel
theorem dX0_takeWishesThatHaveCome_49 : decode cX0_takeWishesThatHaveCome 49 = .ok (.getfield 32, 3) := by decide +kernel
theorem dX0_takeWishesThatHaveCome_52 : decode cX0_takeWishesThatHaveCome 52 = .ok (.iconst (-1), 1) := by decide +kernel
theorem dX0_takeWishesThatHaveCome_53 : decode cX0_takeWishesThatHaveCome 53 = .ok (.iload_n 2, 1) := by decide +kernel
theorem dX0_takeWishesThatHaveCome_54 : decode cX0_takeWishesThatHaveCome 54 = .ok (.iconst 0, 1) := by decide +kernel
theorem dX0_takeWishesThatHaveCome_55 : decode cX0_takeWishesThatHaveCome 55 = .ok (.invokevirtual 89, 3) := by decide +kernel
theorem dX0_takeWishesThatHaveCome_58 : decode cX0_takeWishesThatHaveCome 58 = .ok (.aload_n 0, 1) := by decide +kernel
theorem dX0_takeWishesThatHaveCome_59 : decode cX0_takeWishesThatHaveCome 59 = .ok (.getfield 32, 3) := by decide +kernel
theorem dX0_takeWishesThatHaveCome_62 : decode cX0_takeWishesThatHaveCome 62 = .ok (.iconst 0, 1) := by decide +kernel
theorem dX0_takeWishesThatHaveCome_63 : decode cX0_takeWishesThatHaveCome 63 = .ok (.iload_n 2, 1) := by decide +kernel
theorem dX0_takeWishesThatHaveCome_64 : decode cX0_takeWishesThatHaveCome 64 = .ok (.iconst 2, 1) := by decide +kernel
theorem dX0_takeWishesThatHaveCome_65 : decode cX0_takeWishesThatHaveCome 65 = .ok (.invokevirtual 89, 3) := by decide +kernel
theorem dX0_takeWishesThatHaveCome_68 : decode cX0_takeWishesThatHaveCome 68 = .ok (.invokevirtual 97, 3) := by decide +kernel
theorem dX0_takeWishesThatHaveCome_71 : decode cX0_takeWishesThatHaveCome 71 = .ok (.iinc 2 1, 3) := by decide +kernel
theorem dX0_takeWishesThatHaveCome_74 : decode cX0_takeWishesThatHaveCome 74 = .ok (.goto (-70), 3) := by decide +kernel
theorem dX0_takeWishesThatHaveCome_77 : decode cX0_takeWishesThatHaveCome 77 = .ok (.aload_n 0, 1) := by decide +kernel
theorem dX0_takeWishesThatHaveCome_78 : decode cX0_takeWishesThatHaveCome 78 = .ok (.getfield 32, 3) := by decide +kernel
theorem dX0_takeWishesThatHaveCome_81 : decode cX0_takeWishesThatHaveCome 81 = .ok (.iload_n 1, 1) := by decide +kernel
theorem dX0_takeWishesThatHaveCome_82 : decode cX0_takeWishesThatHaveCome 82 = .ok (.invokevirtual 55, 3) := by decide +kernel
theorem dX0_takeWishesThatHaveCome_85 : decode cX0_takeWishesThatHaveCome 85 = .ok (.return_, 1) := by decide +kernel
theorem dX0_takeWant_0 : decode cX0_takeWant 0 = .ok (.iload_n 1, 1) := by decide +kernel
theorem dX0_takeWant_1 : decode cX0_takeWant 1 = .ok (.invokestatic 100, 3) := by decide +kernel
theorem dX0_takeWant_4 : decode cX0_takeWant 4 = .ok (.ifCond .eq 10, 3) := by decide +kernel
theorem dX0_takeWant_7 : decode cX0_takeWant 7 = .ok (.aload_n 0, 1) := by decide +kernel
theorem dX0_takeWant_8 : decode cX0_takeWant 8 = .ok (.getfield 21, 3) := by decide +kernel
theorem dX0_takeWant_11 : decode cX0_takeWant 11 = .ok (.iload_n 1, 1) := by decide +kernel
theorem dX0_takeWant_12 : decode cX0_takeWant 12 = .ok (.iload_n 2, 1) := by decide +kernel
theorem dX0_takeWant_13 : decode cX0_takeWant 13 = .ok (.iastore, 1) := by decide +kernel
theorem dX0_takeWant_14 : decode cX0_takeWant 14 = .ok (.return_, 1) := by decide +kernel
theorem dX0_steer_0 : decode cX0_steer 0 = .ok (.aload_n 0, 1) := by decide +kernel
theorem dX0_steer_1 : decode cX0_steer 1 = .ok (.getfield 15, 3) := by decide +kernel
theorem dX0_steer_4 : decode cX0_steer 4 = .ok (.invokestatic 104, 3) := by decide +kernel
theorem dX0_steer_7 : decode cX0_steer 7 = .ok (.aload_n 0, 1) := by decide +kernel
theorem dX0_steer_8 : decode cX0_steer 8 = .ok (.getfield 15, 3) := by decide +kernel
theorem dX0_steer_11 : decode cX0_steer 11 = .ok (.invokestatic 108, 3) := by decide +kernel
theorem dX0_steer_14 : decode cX0_steer 14 = .ok (.isub, 1) := by decide +kernel
theorem dX0_steer_15 : decode cX0_steer 15 = .ok (.aload_n 0, 1) := by decide +kernel
theorem dX0_steer_16 : decode cX0_steer 16 = .ok (.getfield 9, 3) := by decide +kernel
theorem dX0_steer_19 : decode cX0_steer 19 = .ok (.iconst 0, 1) := by decide +kernel
theorem dX0_steer_20 : decode cX0_steer 20 = .ok (.iaload, 1) := by decide +kernel
theorem dX0_steer_21 : decode cX0_steer 21 = .ok (.if_icmp .le 7, 3) := by decide +kernel
theorem dX0_steer_24 : decode cX0_steer 24 = .ok (.iconst 1, 1) := by decide +kernel
theorem dX0_steer_25 : decode cX0_steer 25 = .ok (.goto 4, 3) := by decide +kernel
theorem dX0_steer_28 : decode cX0_steer 28 = .ok (.iconst 0, 1) := by decide +kernel
theorem dX0_steer_29 : decode cX0_steer 29 = .ok (.istore_n 1, 1) := by decide +kernel
theorem dX0_steer_30 : decode cX0_steer 30 = .ok (.iconst 0, 1) := by decide +kernel
theorem dX0_steer_31 : decode cX0_steer 31 = .ok (.istore_n 2, 1) := by decide +kernel
theorem dX0_steer_32 : decode cX0_steer 32 = .ok (.iload_n 2, 1) := by decide +kernel
theorem dX0_steer_33 : decode cX0_steer 33 = .ok (.iconst 3, 1) := by decide +kernel
theorem dX0_steer_34 : decode cX0_steer 34 = .ok (.if_icmp .ge 135, 3) := by decide +kernel
theorem dX0_steer_37 : decode cX0_steer 37 = .ok (.aload_n 0, 1) := by decide +kernel
theorem dX0_steer_38 : decode cX0_steer 38 = .ok (.getfield 21, 3) := by decide +kernel
theorem dX0_steer_41 : decode cX0_steer 41 = .ok (.iload_n 2, 1) := by decide +kernel
theorem dX0_steer_42 : decode cX0_steer 42 = .ok (.iaload, 1) := by decide +kernel
theorem dX0_steer_43 : decode cX0_steer 43 = .ok (.aload_n 0, 1) := by decide +kernel
theorem dX0_steer_44 : decode cX0_steer 44 = .ok (.getfield 18, 3) := by decide +kernel
theorem dX0_steer_47 : decode cX0_steer 47 = .ok (.iload_n 2, 1) := by decide +kernel
theorem dX0_steer_48 : decode cX0_steer 48 = .ok (.iaload, 1) := by decide +kernel
theorem dX0_steer_49 : decode cX0_steer 49 = .ok (.isub, 1) := by decide +kernel
theorem dX0_steer_50 : decode cX0_steer 50 = .ok (.istore_n 3, 1) := by decide +kernel
theorem dX0_steer_51 : decode cX0_steer 51 = .ok (.iload_n 3, 1) := by decide +kernel
theorem dX0_steer_52 : decode cX0_steer 52 = .ok (.ifCond .le 12, 3) := by decide +kernel
theorem dX0_steer_55 : decode cX0_steer 55 = .ok (.aload_n 0, 1) := by decide +kernel
theorem dX0_steer_56 : decode cX0_steer 56 = .ok (.getfield 24, 3) := by decide +kernel
theorem dX0_steer_59 : decode cX0_steer 59 = .ok (.iload_n 2, 1) := by decide +kernel
theorem dX0_steer_60 : decode cX0_steer 60 = .ok (.iaload, 1) := by decide +kernel
theorem dX0_steer_61 : decode cX0_steer 61 = .ok (.ifCond .gt 16, 3) := by decide +kernel
theorem dX0_steer_64 : decode cX0_steer 64 = .ok (.iload_n 3, 1) := by decide +kernel
theorem dX0_steer_65 : decode cX0_steer 65 = .ok (.ifCond .ge 16, 3) := by decide +kernel
theorem dX0_steer_68 : decode cX0_steer 68 = .ok (.aload_n 0, 1) := by decide +kernel
theorem dX0_steer_69 : decode cX0_steer 69 = .ok (.getfield 24, 3) := by decide +kernel
theorem dX0_steer_72 : decode cX0_steer 72 = .ok (.iload_n 2, 1) := by decide +kernel
theorem dX0_steer_73 : decode cX0_steer 73 = .ok (.iaload, 1) := by decide +kernel
theorem dX0_steer_74 : decode cX0_steer 74 = .ok (.ifCond .ge 7, 3) := by decide +kernel
theorem dX0_steer_77 : decode cX0_steer 77 = .ok (.iconst 1, 1) := by decide +kernel
theorem dX0_steer_78 : decode cX0_steer 78 = .ok (.goto 4, 3) := by decide +kernel
theorem dX0_steer_81 : decode cX0_steer 81 = .ok (.iconst 0, 1) := by decide +kernel
theorem dX0_steer_82 : decode cX0_steer 82 = .ok (.istore 4, 2) := by decide +kernel
theorem dX0_steer_84 : decode cX0_steer 84 = .ok (.iload_n 1, 1) := by decide +kernel
theorem dX0_steer_85 : decode cX0_steer 85 = .ok (.ifCond .eq 8, 3) := by decide +kernel
theorem dX0_steer_88 : decode cX0_steer 88 = .ok (.iload 4, 2) := by decide +kernel
theorem dX0_steer_90 : decode cX0_steer 90 = .ok (.ifCond .ne 26, 3) := by decide +kernel
theorem dX0_steer_93 : decode cX0_steer 93 = .ok (.aload_n 0, 1) := by decide +kernel
theorem dX0_steer_94 : decode cX0_steer 94 = .ok (.getfield 24, 3) := by decide +kernel
theorem dX0_steer_97 : decode cX0_steer 97 = .ok (.iload_n 2, 1) := by decide +kernel
theorem dX0_steer_98 : decode cX0_steer 98 = .ok (.aload_n 0, 1) := by decide +kernel
theorem dX0_steer_99 : decode cX0_steer 99 = .ok (.getfield 24, 3) := by decide +kernel
theorem dX0_steer_102 : decode cX0_steer 102 = .ok (.iload_n 2, 1) := by decide +kernel
theorem dX0_steer_103 : decode cX0_steer 103 = .ok (.iaload, 1) := by decide +kernel
theorem dX0_steer_104 : decode cX0_steer 104 = .ok (.iload_n 3, 1) := by decide +kernel
theorem dX0_steer_105 : decode cX0_steer 105 = .ok (.iadd, 1) := by decide +kernel
theorem dX0_steer_106 : decode cX0_steer 106 = .ok (.sipush (-5000), 3) := by decide +kernel
theorem dX0_steer_109 : decode cX0_steer 109 = .ok (.sipush 5000, 3) := by decide +kernel
theorem dX0_steer_112 : decode cX0_steer 112 = .ok (.invokestatic 111, 3) := by decide +kernel
theorem dX0_steer_115 : decode cX0_steer 115 = .ok (.iastore, 1) := by decide +kernel
theorem dX0_steer_116 : decode cX0_steer 116 = .ok (.iload_n 3, 1) := by decide +kernel
theorem dX0_steer_117 : decode cX0_steer 117 = .ok (.aload_n 0, 1) := by decide +kernel
theorem dX0_steer_118 : decode cX0_steer 118 = .ok (.getfield 9, 3) := by decide +kernel
theorem dX0_steer_121 : decode cX0_steer 121 = .ok (.iconst 4, 1) := by decide +kernel
theorem dX0_steer_122 : decode cX0_steer 122 = .ok (.iaload, 1) := by decide +kernel
theorem dX0_steer_123 : decode cX0_steer 123 = .ok (.imul, 1) := by decide +kernel
theorem dX0_steer_124 : decode cX0_steer 124 = .ok (.bipush 16, 2) := by decide +kernel
theorem dX0_steer_126 : decode cX0_steer 126 = .ok (.idiv, 1) := by decide +kernel
theorem dX0_steer_127 : decode cX0_steer 127 = .ok (.aload_n 0, 1) := by decide +kernel
theorem dX0_steer_128 : decode cX0_steer 128 = .ok (.getfield 24, 3) := by decide +kernel
theorem dX0_steer_131 : decode cX0_steer 131 = .ok (.iload_n 2, 1) := by decide +kernel
theorem dX0_steer_132 : decode cX0_steer 132 = .ok (.iaload, 1) := by decide +kernel
theorem dX0_steer_133 : decode cX0_steer 133 = .ok (.aload_n 0, 1) := by decide +kernel
theorem dX0_steer_134 : decode cX0_steer 134 = .ok (.getfield 9, 3) := by decide +kernel
theorem dX0_steer_137 : decode cX0_steer 137 = .ok (.iconst 5, 1) := by decide +kernel
theorem dX0_steer_138 : decode cX0_steer 138 = .ok (.iaload, 1) := by decide +kernel
theorem dX0_steer_139 : decode cX0_steer 139 = .ok (.imul, 1) := by decide +kernel
theorem dX0_steer_140 : decode cX0_steer 140 = .ok (.bipush 64, 2) := by decide +kernel
theorem dX0_steer_142 : decode cX0_steer 142 = .ok (.idiv, 1) := by decide +kernel
theorem dX0_steer_143 : decode cX0_steer 143 = .ok (.iadd, 1) := by decide +kernel
theorem dX0_steer_144 : decode cX0_steer 144 = .ok (.istore 5, 2) := by decide +kernel
theorem dX0_steer_146 : decode cX0_steer 146 = .ok (.aload_n 0, 1) := by decide +kernel
theorem dX0_steer_147 : decode cX0_steer 147 = .ok (.getfield 15, 3) := by decide +kernel
theorem dX0_steer_150 : decode cX0_steer 150 = .ok (.iload_n 2, 1) := by decide +kernel
theorem dX0_steer_151 : decode cX0_steer 151 = .ok (.iload 5, 2) := by decide +kernel
theorem dX0_steer_153 : decode cX0_steer 153 = .ok (.sipush (-200), 3) := by decide +kernel
theorem dX0_steer_156 : decode cX0_steer 156 = .ok (.sipush 200, 3) := by decide +kernel
theorem dX0_steer_159 : decode cX0_steer 159 = .ok (.invokestatic 111, 3) := by decide +kernel
theorem dX0_steer_162 : decode cX0_steer 162 = .ok (.iastore, 1) := by decide +kernel
theorem dX0_steer_163 : decode cX0_steer 163 = .ok (.iinc 2 1, 3) := by decide +kernel
theorem dX0_steer_166 : decode cX0_steer 166 = .ok (.goto (-134), 3) := by decide +kernel
theorem dX0_steer_169 : decode cX0_steer 169 = .ok (.return_, 1) := by decide +kernel
theorem dX0_moveCurrents_0 : decode cX0_moveCurrents 0 = .ok (.aload_n 0, 1) := by decide +kernel
theorem dX0_moveCurrents_1 : decode cX0_moveCurrents 1 = .ok (.getfield 39, 3) := by decide +kernel
theorem dX0_moveCurrents_4 : decode cX0_moveCurrents 4 = .ok (.iconst 0, 1) := by decide +kernel
theorem dX0_moveCurrents_5 : decode cX0_moveCurrents 5 = .ok (.invokevirtual 114, 3) := by decide +kernel
theorem dX0_moveCurrents_8 : decode cX0_moveCurrents 8 = .ok (.aload_n 0, 1) := by decide +kernel
theorem dX0_moveCurrents_9 : decode cX0_moveCurrents 9 = .ok (.getfield 39, 3) := by decide +kernel
theorem dX0_moveCurrents_12 : decode cX0_moveCurrents 12 = .ok (.iconst 1, 1) := by decide +kernel
theorem dX0_moveCurrents_13 : decode cX0_moveCurrents 13 = .ok (.invokevirtual 114, 3) := by decide +kernel
theorem dX0_moveCurrents_16 : decode cX0_moveCurrents 16 = .ok (.iadd, 1) := by decide +kernel
theorem dX0_moveCurrents_17 : decode cX0_moveCurrents 17 = .ok (.aload_n 0, 1) := by decide +kernel
theorem dX0_moveCurrents_18 : decode cX0_moveCurrents 18 = .ok (.getfield 39, 3) := by decide +kernel
theorem dX0_moveCurrents_21 : decode cX0_moveCurrents 21 = .ok (.iconst 2, 1) := by decide +kernel
theorem dX0_moveCurrents_22 : decode cX0_moveCurrents 22 = .ok (.invokevirtual 114, 3) := by decide +kernel
theorem dX0_moveCurrents_25 : decode cX0_moveCurrents 25 = .ok (.iadd, 1) := by decide +kernel
theorem dX0_moveCurrents_26 : decode cX0_moveCurrents 26 = .ok (.istore_n 1, 1) := by decide +kernel
theorem dX0_moveCurrents_27 : decode cX0_moveCurrents 27 = .ok (.iconst 0, 1) := by decide +kernel
theorem dX0_moveCurrents_28 : decode cX0_moveCurrents 28 = .ok (.istore_n 2, 1) := by decide +kernel
theorem dX0_moveCurrents_29 : decode cX0_moveCurrents 29 = .ok (.iload_n 2, 1) := by decide +kernel
theorem dX0_moveCurrents_30 : decode cX0_moveCurrents 30 = .ok (.iconst 3, 1) := by decide +kernel
theorem dX0_moveCurrents_31 : decode cX0_moveCurrents 31 = .ok (.if_icmp .ge 53, 3) := by decide +kernel
theorem dX0_moveCurrents_34 : decode cX0_moveCurrents 34 = .ok (.aload_n 0, 1) := by decide +kernel
theorem dX0_moveCurrents_35 : decode cX0_moveCurrents 35 = .ok (.getfield 18, 3) := by decide +kernel
theorem dX0_moveCurrents_38 : decode cX0_moveCurrents 38 = .ok (.iload_n 2, 1) := by decide +kernel
theorem dX0_moveCurrents_39 : decode cX0_moveCurrents 39 = .ok (.iaload, 1) := by decide +kernel
theorem dX0_moveCurrents_40 : decode cX0_moveCurrents 40 = .ok (.iconst 3, 1) := by decide +kernel
theorem dX0_moveCurrents_41 : decode cX0_moveCurrents 41 = .ok (.aload_n 0, 1) := by decide +kernel
theorem dX0_moveCurrents_42 : decode cX0_moveCurrents 42 = .ok (.getfield 39, 3) := by decide +kernel
theorem dX0_moveCurrents_45 : decode cX0_moveCurrents 45 = .ok (.iload_n 2, 1) := by decide +kernel
theorem dX0_moveCurrents_46 : decode cX0_moveCurrents 46 = .ok (.invokevirtual 114, 3) := by decide +kernel
theorem dX0_moveCurrents_49 : decode cX0_moveCurrents 49 = .ok (.imul, 1) := by decide +kernel
theorem dX0_moveCurrents_50 : decode cX0_moveCurrents 50 = .ok (.iload_n 1, 1) := by decide +kernel
theorem dX0_moveCurrents_51 : decode cX0_moveCurrents 51 = .ok (.isub, 1) := by decide +kernel
theorem dX0_moveCurrents_52 : decode cX0_moveCurrents 52 = .ok (.bipush 6, 2) := by decide +kernel
theorem dX0_moveCurrents_54 : decode cX0_moveCurrents 54 = .ok (.idiv, 1) := by decide +kernel
theorem dX0_moveCurrents_55 : decode cX0_moveCurrents 55 = .ok (.iadd, 1) := by decide +kernel
theorem dX0_moveCurrents_56 : decode cX0_moveCurrents 56 = .ok (.istore_n 3, 1) := by decide +kernel
theorem dX0_moveCurrents_57 : decode cX0_moveCurrents 57 = .ok (.aload_n 0, 1) := by decide +kernel
theorem dX0_moveCurrents_58 : decode cX0_moveCurrents 58 = .ok (.getfield 18, 3) := by decide +kernel
theorem dX0_moveCurrents_61 : decode cX0_moveCurrents 61 = .ok (.iload_n 2, 1) := by decide +kernel
theorem dX0_moveCurrents_62 : decode cX0_moveCurrents 62 = .ok (.iload_n 3, 1) := by decide +kernel
theorem dX0_moveCurrents_63 : decode cX0_moveCurrents 63 = .ok (.iload_n 3, 1) := by decide +kernel
theorem dX0_moveCurrents_64 : decode cX0_moveCurrents 64 = .ok (.bipush 8, 2) := by decide +kernel
theorem dX0_moveCurrents_66 : decode cX0_moveCurrents 66 = .ok (.idiv, 1) := by decide +kernel
theorem dX0_moveCurrents_67 : decode cX0_moveCurrents 67 = .ok (.isub, 1) := by decide +kernel
theorem dX0_moveCurrents_68 : decode cX0_moveCurrents 68 = .ok (.sipush (-999), 3) := by decide +kernel
theorem dX0_moveCurrents_71 : decode cX0_moveCurrents 71 = .ok (.sipush 999, 3) := by decide +kernel
theorem dX0_moveCurrents_74 : decode cX0_moveCurrents 74 = .ok (.invokestatic 111, 3) := by decide +kernel
theorem dX0_moveCurrents_77 : decode cX0_moveCurrents 77 = .ok (.iastore, 1) := by decide +kernel
theorem dX0_moveCurrents_78 : decode cX0_moveCurrents 78 = .ok (.iinc 2 1, 3) := by decide +kernel
theorem dX0_moveCurrents_81 : decode cX0_moveCurrents 81 = .ok (.goto (-52), 3) := by decide +kernel
theorem dX0_moveCurrents_84 : decode cX0_moveCurrents 84 = .ok (.return_, 1) := by decide +kernel
theorem dX0_dropWishesOf_0 : decode cX0_dropWishesOf 0 = .ok (.iconst 0, 1) := by decide +kernel
theorem dX0_dropWishesOf_1 : decode cX0_dropWishesOf 1 = .ok (.istore_n 2, 1) := by decide +kernel
theorem dX0_dropWishesOf_2 : decode cX0_dropWishesOf 2 = .ok (.aload_n 0, 1) := by decide +kernel
theorem dX0_dropWishesOf_3 : decode cX0_dropWishesOf 3 = .ok (.getfield 32, 3) := by decide +kernel
theorem dX0_dropWishesOf_6 : decode cX0_dropWishesOf 6 = .ok (.getfield 86, 3) := by decide +kernel
theorem dX0_dropWishesOf_9 : decode cX0_dropWishesOf 9 = .ok (.istore_n 3, 1) := by decide +kernel
theorem dX0_dropWishesOf_10 : decode cX0_dropWishesOf 10 = .ok (.iconst 0, 1) := by decide +kernel
theorem dX0_dropWishesOf_11 : decode cX0_dropWishesOf 11 = .ok (.istore 4, 2) := by decide +kernel
theorem dX0_dropWishesOf_13 : decode cX0_dropWishesOf 13 = .ok (.iload 4, 2) := by decide +kernel
theorem dX0_dropWishesOf_15 : decode cX0_dropWishesOf 15 = .ok (.iload_n 3, 1) := by decide +kernel
theorem dX0_dropWishesOf_16 : decode cX0_dropWishesOf 16 = .ok (.if_icmp .ge 37, 3) := by decide +kernel
theorem dX0_dropWishesOf_19 : decode cX0_dropWishesOf 19 = .ok (.aload_n 0, 1) := by decide +kernel
theorem dX0_dropWishesOf_20 : decode cX0_dropWishesOf 20 = .ok (.getfield 32, 3) := by decide +kernel
theorem dX0_dropWishesOf_23 : decode cX0_dropWishesOf 23 = .ok (.iconst (-1), 1) := by decide +kernel
theorem dX0_dropWishesOf_24 : decode cX0_dropWishesOf 24 = .ok (.iload 4, 2) := by decide +kernel
theorem dX0_dropWishesOf_26 : decode cX0_dropWishesOf 26 = .ok (.iconst 0, 1) := by decide +kernel
theorem dX0_dropWishesOf_27 : decode cX0_dropWishesOf 27 = .ok (.invokevirtual 89, 3) := by decide +kernel
theorem dX0_dropWishesOf_30 : decode cX0_dropWishesOf 30 = .ok (.iload_n 1, 1) := by decide +kernel
theorem dX0_dropWishesOf_31 : decode cX0_dropWishesOf 31 = .ok (.if_icmp .eq 16, 3) := by decide +kernel
theorem dX0_dropWishesOf_34 : decode cX0_dropWishesOf 34 = .ok (.aload_n 0, 1) := by decide +kernel
theorem dX0_dropWishesOf_35 : decode cX0_dropWishesOf 35 = .ok (.getfield 32, 3) := by decide +kernel
theorem dX0_dropWishesOf_38 : decode cX0_dropWishesOf 38 = .ok (.iload 4, 2) := by decide +kernel
theorem dX0_dropWishesOf_40 : decode cX0_dropWishesOf 40 = .ok (.iload_n 2, 1) := by decide +kernel
theorem dX0_dropWishesOf_41 : decode cX0_dropWishesOf 41 = .ok (.invokevirtual 93, 3) := by decide +kernel
theorem dX0_dropWishesOf_44 : decode cX0_dropWishesOf 44 = .ok (.iinc 2 1, 3) := by decide +kernel
theorem dX0_dropWishesOf_47 : decode cX0_dropWishesOf 47 = .ok (.iinc 4 1, 3) := by decide +kernel
theorem dX0_dropWishesOf_50 : decode cX0_dropWishesOf 50 = .ok (.goto (-37), 3) := by decide +kernel
theorem dX0_dropWishesOf_53 : decode cX0_dropWishesOf 53 = .ok (.aload_n 0, 1) := by decide +kernel
theorem dX0_dropWishesOf_54 : decode cX0_dropWishesOf 54 = .ok (.getfield 32, 3) := by decide +kernel
theorem dX0_dropWishesOf_57 : decode cX0_dropWishesOf 57 = .ok (.iload_n 2, 1) := by decide +kernel
theorem dX0_dropWishesOf_58 : decode cX0_dropWishesOf 58 = .ok (.invokevirtual 55, 3) := by decide +kernel
theorem dX0_dropWishesOf_61 : decode cX0_dropWishesOf 61 = .ok (.iload_n 3, 1) := by decide +kernel
theorem dX0_dropWishesOf_62 : decode cX0_dropWishesOf 62 = .ok (.iload_n 2, 1) := by decide +kernel
theorem dX0_dropWishesOf_63 : decode cX0_dropWishesOf 63 = .ok (.isub, 1) := by decide +kernel
theorem dX0_dropWishesOf_64 : decode cX0_dropWishesOf 64 = .ok (.ireturn, 1) := by decide +kernel
theorem dX0_isSettled_0 : decode cX0_isSettled 0 = .ok (.iconst 0, 1) := by decide +kernel
theorem dX0_isSettled_1 : decode cX0_isSettled 1 = .ok (.istore_n 2, 1) := by decide +kernel
theorem dX0_isSettled_2 : decode cX0_isSettled 2 = .ok (.iload_n 2, 1) := by decide +kernel
theorem dX0_isSettled_3 : decode cX0_isSettled 3 = .ok (.iconst 3, 1) := by decide +kernel
theorem dX0_isSettled_4 : decode cX0_isSettled 4 = .ok (.if_icmp .ge 31, 3) := by decide +kernel
theorem dX0_isSettled_7 : decode cX0_isSettled 7 = .ok (.aload_n 0, 1) := by decide +kernel
theorem dX0_isSettled_8 : decode cX0_isSettled 8 = .ok (.getfield 18, 3) := by decide +kernel
theorem dX0_isSettled_11 : decode cX0_isSettled 11 = .ok (.iload_n 2, 1) := by decide +kernel
theorem dX0_isSettled_12 : decode cX0_isSettled 12 = .ok (.iaload, 1) := by decide +kernel
theorem dX0_isSettled_13 : decode cX0_isSettled 13 = .ok (.aload_n 0, 1) := by decide +kernel
theorem dX0_isSettled_14 : decode cX0_isSettled 14 = .ok (.getfield 21, 3) := by decide +kernel
theorem dX0_isSettled_17 : decode cX0_isSettled 17 = .ok (.iload_n 2, 1) := by decide +kernel
theorem dX0_isSettled_18 : decode cX0_isSettled 18 = .ok (.iaload, 1) := by decide +kernel
theorem dX0_isSettled_19 : decode cX0_isSettled 19 = .ok (.isub, 1) := by decide +kernel
theorem dX0_isSettled_20 : decode cX0_isSettled 20 = .ok (.invokestatic 118, 3) := by decide +kernel
theorem dX0_isSettled_23 : decode cX0_isSettled 23 = .ok (.iload_n 1, 1) := by decide +kernel
theorem dX0_isSettled_24 : decode cX0_isSettled 24 = .ok (.if_icmp .le 5, 3) := by decide +kernel
theorem dX0_isSettled_27 : decode cX0_isSettled 27 = .ok (.iconst 0, 1) := by decide +kernel
theorem dX0_isSettled_28 : decode cX0_isSettled 28 = .ok (.ireturn, 1) := by decide +kernel
theorem dX0_isSettled_29 : decode cX0_isSettled 29 = .ok (.iinc 2 1, 3) := by decide +kernel
theorem dX0_isSettled_32 : decode cX0_isSettled 32 = .ok (.goto (-30), 3) := by decide +kernel
theorem dX0_isSettled_35 : decode cX0_isSettled 35 = .ok (.aload_n 0, 1) := by decide +kernel
theorem dX0_isSettled_36 : decode cX0_isSettled 36 = .ok (.getfield 32, 3) := by decide +kernel
theorem dX0_isSettled_39 : decode cX0_isSettled 39 = .ok (.getfield 86, 3) := by decide +kernel
theorem dX0_isSettled_42 : decode cX0_isSettled 42 = .ok (.ifCond .ne 7, 3) := by decide +kernel
theorem dX0_isSettled_45 : decode cX0_isSettled 45 = .ok (.iconst 1, 1) := by decide +kernel
theorem dX0_isSettled_46 : decode cX0_isSettled 46 = .ok (.goto 4, 3) := by decide +kernel
theorem dX0_isSettled_49 : decode cX0_isSettled 49 = .ok (.iconst 0, 1) := by decide +kernel
theorem dX0_isSettled_50 : decode cX0_isSettled 50 = .ok (.ireturn, 1) := by decide +kernel
theorem dX1_init_0 : decode cX1_init 0 = .ok (.aload_n 0, 1) := by decide +kernel
theorem dX1_init_1 : decode cX1_init 1 = .ok (.invokespecial 3, 3) := by decide +kernel
theorem dX1_init_4 : decode cX1_init 4 = .ok (.aload_n 0, 1) := by decide +kernel
theorem dX1_init_5 : decode cX1_init 5 = .ok (.iconst 3, 1) := by decide +kernel
theorem dX1_init_6 : decode cX1_init 6 = .ok (.newarray .int, 2) := by decide +kernel
theorem dX1_init_8 : decode cX1_init 8 = .ok (.putfield 9, 3) := by decide +kernel
theorem dX1_init_11 : decode cX1_init 11 = .ok (.aload_n 0, 1) := by decide +kernel
theorem dX1_init_12 : decode cX1_init 12 = .ok (.iconst 3, 1) := by decide +kernel
theorem dX1_init_13 : decode cX1_init 13 = .ok (.newarray .int, 2) := by decide +kernel
theorem dX1_init_15 : decode cX1_init 15 = .ok (.putfield 15, 3) := by decide +kernel
theorem dX1_init_18 : decode cX1_init 18 = .ok (.aload_n 0, 1) := by decide +kernel
theorem dX1_init_19 : decode cX1_init 19 = .ok (.iconst 3, 1) := by decide +kernel
theorem dX1_init_20 : decode cX1_init 20 = .ok (.newarray .int, 2) := by decide +kernel
theorem dX1_init_22 : decode cX1_init 22 = .ok (.putfield 18, 3) := by decide +kernel
theorem dX1_init_25 : decode cX1_init 25 = .ok (.aload_n 0, 1) := by decide +kernel
theorem dX1_init_26 : decode cX1_init 26 = .ok (.iconst 3, 1) := by decide +kernel
theorem dX1_init_27 : decode cX1_init 27 = .ok (.newarray .int, 2) := by decide +kernel
theorem dX1_init_29 : decode cX1_init 29 = .ok (.putfield 21, 3) := by decide +kernel
theorem dX1_init_32 : decode cX1_init 32 = .ok (.return_, 1) := by decide +kernel
theorem dX1_make_0 : decode cX1_make 0 = .ok (.aload_n 0, 1) := by decide +kernel
theorem dX1_make_1 : decode cX1_make 1 = .ok (.aload_n 1, 1) := by decide +kernel
theorem dX1_make_2 : decode cX1_make 2 = .ok (.iconst 0, 1) := by decide +kernel
theorem dX1_make_3 : decode cX1_make 3 = .ok (.iaload, 1) := by decide +kernel
theorem dX1_make_4 : decode cX1_make 4 = .ok (.putfield 24, 3) := by decide +kernel
theorem dX1_make_7 : decode cX1_make 7 = .ok (.aload_n 0, 1) := by decide +kernel
theorem dX1_make_8 : decode cX1_make 8 = .ok (.aload_n 1, 1) := by decide +kernel
theorem dX1_make_9 : decode cX1_make 9 = .ok (.iconst 1, 1) := by decide +kernel
theorem dX1_make_10 : decode cX1_make 10 = .ok (.iaload, 1) := by decide +kernel
theorem dX1_make_11 : decode cX1_make 11 = .ok (.putfield 28, 3) := by decide +kernel
theorem dX1_make_14 : decode cX1_make 14 = .ok (.aload_n 0, 1) := by decide +kernel
theorem dX1_make_15 : decode cX1_make 15 = .ok (.aload_n 1, 1) := by decide +kernel
theorem dX1_make_16 : decode cX1_make 16 = .ok (.iconst 2, 1) := by decide +kernel
theorem dX1_make_17 : decode cX1_make 17 = .ok (.iaload, 1) := by decide +kernel
theorem dX1_make_18 : decode cX1_make 18 = .ok (.iconst 1, 1) := by decide +kernel
theorem dX1_make_19 : decode cX1_make 19 = .ok (.if_icmp .ne 7, 3) := by decide +kernel
theorem dX1_make_22 : decode cX1_make 22 = .ok (.iconst 1, 1) := by decide +kernel
theorem dX1_make_23 : decode cX1_make 23 = .ok (.goto 4, 3) := by decide +kernel
theorem dX1_make_26 : decode cX1_make 26 = .ok (.iconst 0, 1) := by decide +kernel
theorem dX1_make_27 : decode cX1_make 27 = .ok (.putfield 31, 3) := by decide +kernel
theorem dX1_make_30 : decode cX1_make 30 = .ok (.aload_n 2, 1) := by decide +kernel
theorem dX1_make_31 : decode cX1_make 31 = .ok (.invokestatic 35, 3) := by decide +kernel
theorem dX1_make_34 : decode cX1_make 34 = .ok (.istore 4, 2) := by decide +kernel
theorem dX1_make_36 : decode cX1_make 36 = .ok (.aload_n 2, 1) := by decide +kernel
theorem dX1_make_37 : decode cX1_make 37 = .ok (.invokestatic 39, 3) := by decide +kernel
theorem dX1_make_40 : decode cX1_make 40 = .ok (.istore 5, 2) := by decide +kernel
theorem dX1_make_42 : decode cX1_make 42 = .ok (.aload_n 0, 1) := by decide +kernel
theorem dX1_make_43 : decode cX1_make 43 = .ok (.iload 4, 2) := by decide +kernel
theorem dX1_make_45 : decode cX1_make 45 = .ok (.iload 5, 2) := by decide +kernel
theorem dX1_make_47 : decode cX1_make 47 = .ok (.isub, 1) := by decide +kernel
theorem dX1_make_48 : decode cX1_make 48 = .ok (.putfield 42, 3) := by decide +kernel
theorem dX1_make_51 : decode cX1_make 51 = .ok (.aload_n 0, 1) := by decide +kernel
theorem dX1_make_52 : decode cX1_make 52 = .ok (.aload_n 0, 1) := by decide +kernel
theorem dX1_make_53 : decode cX1_make 53 = .ok (.getfield 42, 3) := by decide +kernel
theorem dX1_make_56 : decode cX1_make 56 = .ok (.aload_n 0, 1) := by decide +kernel
theorem dX1_make_57 : decode cX1_make 57 = .ok (.getfield 24, 3) := by decide +kernel
theorem dX1_make_60 : decode cX1_make 60 = .ok (.if_icmp .le 7, 3) := by decide +kernel
theorem dX1_make_63 : decode cX1_make 63 = .ok (.iconst 1, 1) := by decide +kernel
theorem dX1_make_64 : decode cX1_make 64 = .ok (.goto 4, 3) := by decide +kernel
theorem dX1_make_67 : decode cX1_make 67 = .ok (.iconst 0, 1) := by decide +kernel
theorem dX1_make_68 : decode cX1_make 68 = .ok (.putfield 45, 3) := by decide +kernel
theorem dX1_make_71 : decode cX1_make 71 = .ok (.aload_n 0, 1) := by decide +kernel
theorem dX1_make_72 : decode cX1_make 72 = .ok (.iload 4, 2) := by decide +kernel
theorem dX1_make_74 : decode cX1_make 74 = .ok (.invokevirtual 48, 3) := by decide +kernel
theorem dX1_make_77 : decode cX1_make 77 = .ok (.aload_n 0, 1) := by decide +kernel
theorem dX1_make_78 : decode cX1_make 78 = .ok (.iload 5, 2) := by decide +kernel
theorem dX1_make_80 : decode cX1_make 80 = .ok (.invokevirtual 48, 3) := by decide +kernel
theorem dX1_make_83 : decode cX1_make 83 = .ok (.iadd, 1) := by decide +kernel
theorem dX1_make_84 : decode cX1_make 84 = .ok (.istore 6, 2) := by decide +kernel
theorem dX1_make_86 : decode cX1_make 86 = .ok (.iconst 0, 1) := by decide +kernel
theorem dX1_make_87 : decode cX1_make 87 = .ok (.istore 7, 2) := by decide +kernel
theorem dX1_make_89 : decode cX1_make 89 = .ok (.iload 7, 2) := by decide +kernel
theorem dX1_make_91 : decode cX1_make 91 = .ok (.iconst 3, 1) := by decide +kernel
theorem dX1_make_92 : decode cX1_make 92 = .ok (.if_icmp .ge 97, 3) := by decide +kernel
theorem dX1_make_95 : decode cX1_make 95 = .ok (.aload_n 0, 1) := by decide +kernel
theorem dX1_make_96 : decode cX1_make 96 = .ok (.getfield 21, 3) := by decide +kernel
theorem dX1_make_99 : decode cX1_make 99 = .ok (.iload 7, 2) := by decide +kernel
theorem dX1_make_101 : decode cX1_make 101 = .ok (.aload_n 3, 1) := by decide +kernel
theorem dX1_make_102 : decode cX1_make 102 = .ok (.iload 7, 2) := by decide +kernel
theorem dX1_make_104 : decode cX1_make 104 = .ok (.iaload, 1) := by decide +kernel
theorem dX1_make_105 : decode cX1_make 105 = .ok (.iastore, 1) := by decide +kernel
theorem dX1_make_106 : decode cX1_make 106 = .ok (.aload_n 0, 1) := by decide +kernel
theorem dX1_make_107 : decode cX1_make 107 = .ok (.getfield 24, 3) := by decide +kernel
theorem dX1_make_110 : decode cX1_make 110 = .ok (.iconst 2, 1) := by decide +kernel
theorem dX1_make_111 : decode cX1_make 111 = .ok (.aload_n 0, 1) := by decide +kernel
theorem dX1_make_112 : decode cX1_make 112 = .ok (.aload_n 2, 1) := by decide +kernel
theorem dX1_make_113 : decode cX1_make 113 = .ok (.iload 7, 2) := by decide +kernel
theorem dX1_make_115 : decode cX1_make 115 = .ok (.iaload, 1) := by decide +kernel
theorem dX1_make_116 : decode cX1_make 116 = .ok (.invokevirtual 48, 3) := by decide +kernel
theorem dX1_make_119 : decode cX1_make 119 = .ok (.imul, 1) := by decide +kernel
theorem dX1_make_120 : decode cX1_make 120 = .ok (.iadd, 1) := by decide +kernel
theorem dX1_make_121 : decode cX1_make 121 = .ok (.iload 6, 2) := by decide +kernel
theorem dX1_make_123 : decode cX1_make 123 = .ok (.isub, 1) := by decide +kernel
theorem dX1_make_124 : decode cX1_make 124 = .ok (.iconst 2, 1) := by decide +kernel
theorem dX1_make_125 : decode cX1_make 125 = .ok (.idiv, 1) := by decide +kernel
theorem dX1_make_126 : decode cX1_make 126 = .ok (.istore 8, 2) := by decide +kernel
theorem dX1_make_128 : decode cX1_make 128 = .ok (.aload_n 0, 1) := by decide +kernel
theorem dX1_make_129 : decode cX1_make 129 = .ok (.getfield 9, 3) := by decide +kernel
theorem dX1_make_132 : decode cX1_make 132 = .ok (.iload 7, 2) := by decide +kernel
theorem dX1_make_134 : decode cX1_make 134 = .ok (.iload 8, 2) := by decide +kernel
theorem dX1_make_136 : decode cX1_make 136 = .ok (.iconst 0, 1) := by decide +kernel
theorem dX1_make_137 : decode cX1_make 137 = .ok (.aload_n 0, 1) := by decide +kernel
theorem dX1_make_138 : decode cX1_make 138 = .ok (.getfield 24, 3) := by decide +kernel
theorem dX1_make_141 : decode cX1_make 141 = .ok (.invokestatic 52, 3) := by decide +kernel
theorem dX1_make_144 : decode cX1_make 144 = .ok (.iastore, 1) := by decide +kernel
theorem dX1_make_145 : decode cX1_make 145 = .ok (.aload_n 0, 1) := by decide +kernel
theorem dX1_make_146 : decode cX1_make 146 = .ok (.getfield 15, 3) := by decide +kernel
theorem dX1_make_149 : decode cX1_make 149 = .ok (.iload 7, 2) := by decide +kernel
theorem dX1_make_151 : decode cX1_make 151 = .ok (.aload_n 0, 1) := by decide +kernel
theorem dX1_make_152 : decode cX1_make 152 = .ok (.iload 7, 2) := by decide +kernel
theorem dX1_make_154 : decode cX1_make 154 = .ok (.aload_n 0, 1) := by decide +kernel
theorem dX1_make_155 : decode cX1_make 155 = .ok (.getfield 28, 3) := by decide +kernel
theorem dX1_make_158 : decode cX1_make 158 = .ok (.invokevirtual 56, 3) := by decide +kernel
theorem dX1_make_161 : decode cX1_make 161 = .ok (.iastore, 1) := by decide +kernel
theorem dX1_make_162 : decode cX1_make 162 = .ok (.aload_n 0, 1) := by decide +kernel
theorem dX1_make_163 : decode cX1_make 163 = .ok (.getfield 18, 3) := by decide +kernel
theorem dX1_make_166 : decode cX1_make 166 = .ok (.iload 7, 2) := by decide +kernel
theorem dX1_make_168 : decode cX1_make 168 = .ok (.aload_n 0, 1) := by decide +kernel
theorem dX1_make_169 : decode cX1_make 169 = .ok (.getfield 24, 3) := by decide +kernel
theorem dX1_make_172 : decode cX1_make 172 = .ok (.aload_n 0, 1) := by decide +kernel
theorem dX1_make_173 : decode cX1_make 173 = .ok (.getfield 15, 3) := by decide +kernel
theorem dX1_make_176 : decode cX1_make 176 = .ok (.iload 7, 2) := by decide +kernel
theorem dX1_make_178 : decode cX1_make 178 = .ok (.iaload, 1) := by decide +kernel
theorem dX1_make_179 : decode cX1_make 179 = .ok (.isub, 1) := by decide +kernel
theorem dX1_make_180 : decode cX1_make 180 = .ok (.iconst 2, 1) := by decide +kernel
theorem dX1_make_181 : decode cX1_make 181 = .ok (.idiv, 1) := by decide +kernel
theorem dX1_make_182 : decode cX1_make 182 = .ok (.iastore, 1) := by decide +kernel
theorem dX1_make_183 : decode cX1_make 183 = .ok (.iinc 7 1, 3) := by decide +kernel
theorem dX1_make_186 : decode cX1_make 186 = .ok (.goto (-97), 3) := by decide +kernel
theorem dX1_make_189 : decode cX1_make 189 = .ok (.return_, 1) := by decide +kernel
theorem dX1_demandThatCounts_0 : decode cX1_demandThatCounts 0 = .ok (.aload_n 0, 1) := by decide +kernel
theorem dX1_demandThatCounts_1 : decode cX1_demandThatCounts 1 = .ok (.getfield 45, 3) := by decide +kernel
theorem dX1_demandThatCounts_4 : decode cX1_demandThatCounts 4 = .ok (.ifCond .eq 24, 3) := by decide +kernel
theorem dX1_demandThatCounts_7 : decode cX1_demandThatCounts 7 = .ok (.aload_n 0, 1) := by decide +kernel
theorem dX1_demandThatCounts_8 : decode cX1_demandThatCounts 8 = .ok (.getfield 42, 3) := by decide +kernel
theorem dX1_demandThatCounts_11 : decode cX1_demandThatCounts 11 = .ok (.ifCond .le 17, 3) := by decide +kernel
theorem dX1_demandThatCounts_14 : decode cX1_demandThatCounts 14 = .ok (.iload_n 1, 1) := by decide +kernel
theorem dX1_demandThatCounts_15 : decode cX1_demandThatCounts 15 = .ok (.aload_n 0, 1) := by decide +kernel
theorem dX1_demandThatCounts_16 : decode cX1_demandThatCounts 16 = .ok (.getfield 24, 3) := by decide +kernel
theorem dX1_demandThatCounts_19 : decode cX1_demandThatCounts 19 = .ok (.imul, 1) := by decide +kernel
theorem dX1_demandThatCounts_20 : decode cX1_demandThatCounts 20 = .ok (.aload_n 0, 1) := by decide +kernel
theorem dX1_demandThatCounts_21 : decode cX1_demandThatCounts 21 = .ok (.getfield 42, 3) := by decide +kernel
theorem dX1_demandThatCounts_24 : decode cX1_demandThatCounts 24 = .ok (.idiv, 1) := by decide +kernel
theorem dX1_demandThatCounts_25 : decode cX1_demandThatCounts 25 = .ok (.goto 4, 3) := by decide +kernel
theorem dX1_demandThatCounts_28 : decode cX1_demandThatCounts 28 = .ok (.iload_n 1, 1) := by decide +kernel
theorem dX1_demandThatCounts_29 : decode cX1_demandThatCounts 29 = .ok (.ireturn, 1) := by decide +kernel
theorem dX1_highWithDead_0 : decode cX1_highWithDead 0 = .ok (.aload_n 0, 1) := by decide +kernel
theorem dX1_highWithDead_1 : decode cX1_highWithDead 1 = .ok (.getfield 31, 3) := by decide +kernel
theorem dX1_highWithDead_4 : decode cX1_highWithDead 4 = .ok (.ifCond .eq 12, 3) := by decide +kernel
theorem dX1_highWithDead_7 : decode cX1_highWithDead 7 = .ok (.aload_n 0, 1) := by decide +kernel
theorem dX1_highWithDead_8 : decode cX1_highWithDead 8 = .ok (.getfield 21, 3) := by decide +kernel
theorem dX1_highWithDead_11 : decode cX1_highWithDead 11 = .ok (.iload_n 1, 1) := by decide +kernel
theorem dX1_highWithDead_12 : decode cX1_highWithDead 12 = .ok (.iaload, 1) := by decide +kernel
theorem dX1_highWithDead_13 : decode cX1_highWithDead 13 = .ok (.ifCond .ne 10, 3) := by decide +kernel
theorem dX1_highWithDead_16 : decode cX1_highWithDead 16 = .ok (.aload_n 0, 1) := by decide +kernel
theorem dX1_highWithDead_17 : decode cX1_highWithDead 17 = .ok (.getfield 9, 3) := by decide +kernel
theorem dX1_highWithDead_20 : decode cX1_highWithDead 20 = .ok (.iload_n 1, 1) := by decide +kernel
theorem dX1_highWithDead_21 : decode cX1_highWithDead 21 = .ok (.iaload, 1) := by decide +kernel
theorem dX1_highWithDead_22 : decode cX1_highWithDead 22 = .ok (.ireturn, 1) := by decide +kernel
theorem dX1_highWithDead_23 : decode cX1_highWithDead 23 = .ok (.aload_n 0, 1) := by decide +kernel
theorem dX1_highWithDead_24 : decode cX1_highWithDead 24 = .ok (.getfield 21, 3) := by decide +kernel
theorem dX1_highWithDead_27 : decode cX1_highWithDead 27 = .ok (.iload_n 1, 1) := by decide +kernel
theorem dX1_highWithDead_28 : decode cX1_highWithDead 28 = .ok (.iaload, 1) := by decide +kernel
theorem dX1_highWithDead_29 : decode cX1_highWithDead 29 = .ok (.ifCond .le 7, 3) := by decide +kernel
theorem dX1_highWithDead_32 : decode cX1_highWithDead 32 = .ok (.iload_n 2, 1) := by decide +kernel
theorem dX1_highWithDead_33 : decode cX1_highWithDead 33 = .ok (.goto 5, 3) := by decide +kernel
theorem dX1_highWithDead_36 : decode cX1_highWithDead 36 = .ok (.iload_n 2, 1) := by decide +kernel
theorem dX1_highWithDead_37 : decode cX1_highWithDead 37 = .ok (.ineg, 1) := by decide +kernel
theorem dX1_highWithDead_38 : decode cX1_highWithDead 38 = .ok (.istore_n 3, 1) := by decide +kernel
theorem dX1_highWithDead_39 : decode cX1_highWithDead 39 = .ok (.aload_n 0, 1) := by decide +kernel
theorem dX1_highWithDead_40 : decode cX1_highWithDead 40 = .ok (.getfield 9, 3) := by decide +kernel
theorem dX1_highWithDead_43 : decode cX1_highWithDead 43 = .ok (.iload_n 1, 1) := by decide +kernel
theorem dX1_highWithDead_44 : decode cX1_highWithDead 44 = .ok (.iaload, 1) := by decide +kernel
theorem dX1_highWithDead_45 : decode cX1_highWithDead 45 = .ok (.iload_n 3, 1) := by decide +kernel
theorem dX1_highWithDead_46 : decode cX1_highWithDead 46 = .ok (.iadd, 1) := by decide +kernel
theorem dX1_highWithDead_47 : decode cX1_highWithDead 47 = .ok (.iconst 0, 1) := by decide +kernel
theorem dX1_highWithDead_48 : decode cX1_highWithDead 48 = .ok (.aload_n 0, 1) := by decide +kernel
theorem dX1_highWithDead_49 : decode cX1_highWithDead 49 = .ok (.getfield 24, 3) := by decide +kernel
theorem dX1_highWithDead_52 : decode cX1_highWithDead 52 = .ok (.invokestatic 52, 3) := by decide +kernel
theorem dX1_highWithDead_55 : decode cX1_highWithDead 55 = .ok (.ireturn, 1) := by decide +kernel
theorem dX1_isWanted_0 : decode cX1_isWanted 0 = .ok (.iload_n 2, 1) := by decide +kernel
theorem dX1_isWanted_1 : decode cX1_isWanted 1 = .ok (.aload_n 0, 1) := by decide +kernel
theorem dX1_isWanted_2 : decode cX1_isWanted 2 = .ok (.getfield 18, 3) := by decide +kernel
theorem dX1_isWanted_5 : decode cX1_isWanted 5 = .ok (.iload_n 1, 1) := by decide +kernel
theorem dX1_isWanted_6 : decode cX1_isWanted 6 = .ok (.iaload, 1) := by decide +kernel
theorem dX1_isWanted_7 : decode cX1_isWanted 7 = .ok (.if_icmp .lt 24, 3) := by decide +kernel
theorem dX1_isWanted_10 : decode cX1_isWanted 10 = .ok (.iload_n 2, 1) := by decide +kernel
theorem dX1_isWanted_11 : decode cX1_isWanted 11 = .ok (.aload_n 0, 1) := by decide +kernel
theorem dX1_isWanted_12 : decode cX1_isWanted 12 = .ok (.getfield 18, 3) := by decide +kernel
theorem dX1_isWanted_15 : decode cX1_isWanted 15 = .ok (.iload_n 1, 1) := by decide +kernel
theorem dX1_isWanted_16 : decode cX1_isWanted 16 = .ok (.iaload, 1) := by decide +kernel
theorem dX1_isWanted_17 : decode cX1_isWanted 17 = .ok (.aload_n 0, 1) := by decide +kernel
theorem dX1_isWanted_18 : decode cX1_isWanted 18 = .ok (.getfield 15, 3) := by decide +kernel
theorem dX1_isWanted_21 : decode cX1_isWanted 21 = .ok (.iload_n 1, 1) := by decide +kernel
theorem dX1_isWanted_22 : decode cX1_isWanted 22 = .ok (.iaload, 1) := by decide +kernel
theorem dX1_isWanted_23 : decode cX1_isWanted 23 = .ok (.iadd, 1) := by decide +kernel
theorem dX1_isWanted_24 : decode cX1_isWanted 24 = .ok (.if_icmp .ge 7, 3) := by decide +kernel
theorem dX1_isWanted_27 : decode cX1_isWanted 27 = .ok (.iconst 1, 1) := by decide +kernel
theorem dX1_isWanted_28 : decode cX1_isWanted 28 = .ok (.goto 4, 3) := by decide +kernel
theorem dX1_isWanted_31 : decode cX1_isWanted 31 = .ok (.iconst 0, 1) := by decide +kernel
theorem dX1_isWanted_32 : decode cX1_isWanted 32 = .ok (.ireturn, 1) := by decide +kernel
theorem dX1_tickBehindBy_0 : decode cX1_tickBehindBy 0 = .ok (.iload_n 2, 1) := by decide +kernel
theorem dX1_tickBehindBy_1 : decode cX1_tickBehindBy 1 = .ok (.iload_n 1, 1) := by decide +kernel
theorem dX1_tickBehindBy_2 : decode cX1_tickBehindBy 2 = .ok (.if_icmp .lt 9, 3) := by decide +kernel
theorem dX1_tickBehindBy_5 : decode cX1_tickBehindBy 5 = .ok (.iload_n 2, 1) := by decide +kernel
theorem dX1_tickBehindBy_6 : decode cX1_tickBehindBy 6 = .ok (.iload_n 1, 1) := by decide +kernel
theorem dX1_tickBehindBy_7 : decode cX1_tickBehindBy 7 = .ok (.isub, 1) := by decide +kernel
theorem dX1_tickBehindBy_8 : decode cX1_tickBehindBy 8 = .ok (.goto 11, 3) := by decide +kernel
theorem dX1_tickBehindBy_11 : decode cX1_tickBehindBy 11 = .ok (.iload_n 2, 1) := by decide +kernel
theorem dX1_tickBehindBy_12 : decode cX1_tickBehindBy 12 = .ok (.iload_n 1, 1) := by decide +kernel
theorem dX1_tickBehindBy_13 : decode cX1_tickBehindBy 13 = .ok (.isub, 1) := by decide +kernel
theorem dX1_tickBehindBy_14 : decode cX1_tickBehindBy 14 = .ok (.aload_n 0, 1) := by decide +kernel
theorem dX1_tickBehindBy_15 : decode cX1_tickBehindBy 15 = .ok (.getfield 24, 3) := by decide +kernel
theorem dX1_tickBehindBy_18 : decode cX1_tickBehindBy 18 = .ok (.iadd, 1) := by decide +kernel
theorem dX1_tickBehindBy_19 : decode cX1_tickBehindBy 19 = .ok (.ireturn, 1) := by decide +kernel
theorem dX1_isOn_0 : decode cX1_isOn 0 = .ok (.iload_n 2, 1) := by decide +kernel
theorem dX1_isOn_1 : decode cX1_isOn 1 = .ok (.ifCond .ne 7, 3) := by decide +kernel
theorem dX1_isOn_4 : decode cX1_isOn 4 = .ok (.iconst 1, 1) := by decide +kernel
theorem dX1_isOn_5 : decode cX1_isOn 5 = .ok (.goto 4, 3) := by decide +kernel
theorem dX1_isOn_8 : decode cX1_isOn 8 = .ok (.iconst 0, 1) := by decide +kernel
theorem dX1_isOn_9 : decode cX1_isOn 9 = .ok (.istore 4, 2) := by decide +kernel
theorem dX1_isOn_11 : decode cX1_isOn 11 = .ok (.iconst 0, 1) := by decide +kernel
theorem dX1_isOn_12 : decode cX1_isOn 12 = .ok (.istore 5, 2) := by decide +kernel
theorem dX1_isOn_14 : decode cX1_isOn 14 = .ok (.iload 5, 2) := by decide +kernel
theorem dX1_isOn_16 : decode cX1_isOn 16 = .ok (.aload_n 0, 1) := by decide +kernel
theorem dX1_isOn_17 : decode cX1_isOn 17 = .ok (.getfield 28, 3) := by decide +kernel
theorem dX1_isOn_20 : decode cX1_isOn 20 = .ok (.if_icmp .gt 28, 3) := by decide +kernel
theorem dX1_isOn_23 : decode cX1_isOn 23 = .ok (.aload_n 0, 1) := by decide +kernel
theorem dX1_isOn_24 : decode cX1_isOn 24 = .ok (.iload_n 1, 1) := by decide +kernel
theorem dX1_isOn_25 : decode cX1_isOn 25 = .ok (.aload_n 0, 1) := by decide +kernel
theorem dX1_isOn_26 : decode cX1_isOn 26 = .ok (.iload 5, 2) := by decide +kernel
theorem dX1_isOn_28 : decode cX1_isOn 28 = .ok (.iload_n 3, 1) := by decide +kernel
theorem dX1_isOn_29 : decode cX1_isOn 29 = .ok (.invokevirtual 60, 3) := by decide +kernel
theorem dX1_isOn_32 : decode cX1_isOn 32 = .ok (.invokevirtual 63, 3) := by decide +kernel
theorem dX1_isOn_35 : decode cX1_isOn 35 = .ok (.iload 4, 2) := by decide +kernel
theorem dX1_isOn_37 : decode cX1_isOn 37 = .ok (.if_icmp .eq 5, 3) := by decide +kernel
theorem dX1_isOn_40 : decode cX1_isOn 40 = .ok (.iconst 0, 1) := by decide +kernel
theorem dX1_isOn_41 : decode cX1_isOn 41 = .ok (.ireturn, 1) := by decide +kernel
theorem dX1_isOn_42 : decode cX1_isOn 42 = .ok (.iinc 5 1, 3) := by decide +kernel
theorem dX1_isOn_45 : decode cX1_isOn 45 = .ok (.goto (-31), 3) := by decide +kernel
theorem dX1_isOn_48 : decode cX1_isOn 48 = .ok (.iconst 1, 1) := by decide +kernel
theorem dX1_isOn_49 : decode cX1_isOn 49 = .ok (.ireturn, 1) := by decide +kernel
theorem dX1_givesOne_0 : decode cX1_givesOne 0 = .ok (.aload_n 0, 1) := by decide +kernel
theorem dX1_givesOne_1 : decode cX1_givesOne 1 = .ok (.iload_n 1, 1) := by decide +kernel
theorem dX1_givesOne_2 : decode cX1_givesOne 2 = .ok (.iconst 0, 1) := by decide +kernel
theorem dX1_givesOne_3 : decode cX1_givesOne 3 = .ok (.iload_n 2, 1) := by decide +kernel
theorem dX1_givesOne_4 : decode cX1_givesOne 4 = .ok (.invokevirtual 67, 3) := by decide +kernel
theorem dX1_givesOne_7 : decode cX1_givesOne 7 = .ok (.ifCond .eq 5, 3) := by decide +kernel
theorem dX1_givesOne_10 : decode cX1_givesOne 10 = .ok (.iconst 1, 1) := by decide +kernel
theorem dX1_givesOne_11 : decode cX1_givesOne 11 = .ok (.ireturn, 1) := by decide +kernel
theorem dX1_givesOne_12 : decode cX1_givesOne 12 = .ok (.aload_n 0, 1) := by decide +kernel
theorem dX1_givesOne_13 : decode cX1_givesOne 13 = .ok (.iload_n 1, 1) := by decide +kernel
theorem dX1_givesOne_14 : decode cX1_givesOne 14 = .ok (.iconst 1, 1) := by decide +kernel
theorem dX1_givesOne_15 : decode cX1_givesOne 15 = .ok (.iload_n 2, 1) := by decide +kernel
theorem dX1_givesOne_16 : decode cX1_givesOne 16 = .ok (.invokevirtual 67, 3) := by decide +kernel
theorem dX1_givesOne_19 : decode cX1_givesOne 19 = .ok (.ifCond .ne 16, 3) := by decide +kernel
theorem dX1_givesOne_22 : decode cX1_givesOne 22 = .ok (.aload_n 0, 1) := by decide +kernel
theorem dX1_givesOne_23 : decode cX1_givesOne 23 = .ok (.getfield 21, 3) := by decide +kernel
theorem dX1_givesOne_26 : decode cX1_givesOne 26 = .ok (.iload_n 1, 1) := by decide +kernel
theorem dX1_givesOne_27 : decode cX1_givesOne 27 = .ok (.iaload, 1) := by decide +kernel
theorem dX1_givesOne_28 : decode cX1_givesOne 28 = .ok (.ifCond .ge 7, 3) := by decide +kernel
theorem dX1_givesOne_31 : decode cX1_givesOne 31 = .ok (.iconst 1, 1) := by decide +kernel
theorem dX1_givesOne_32 : decode cX1_givesOne 32 = .ok (.goto 4, 3) := by decide +kernel
theorem dX1_givesOne_35 : decode cX1_givesOne 35 = .ok (.iconst 0, 1) := by decide +kernel
theorem dX1_givesOne_36 : decode cX1_givesOne 36 = .ok (.ireturn, 1) := by decide +kernel
theorem dX1_ticksOn_0 : decode cX1_ticksOn 0 = .ok (.iload_n 1, 1) := by decide +kernel
theorem dX1_ticksOn_1 : decode cX1_ticksOn 1 = .ok (.aload_n 0, 1) := by decide +kernel
theorem dX1_ticksOn_2 : decode cX1_ticksOn 2 = .ok (.getfield 24, 3) := by decide +kernel
theorem dX1_ticksOn_5 : decode cX1_ticksOn 5 = .ok (.if_icmp .lt 10, 3) := by decide +kernel
theorem dX1_ticksOn_8 : decode cX1_ticksOn 8 = .ok (.aload_n 0, 1) := by decide +kernel
theorem dX1_ticksOn_9 : decode cX1_ticksOn 9 = .ok (.getfield 24, 3) := by decide +kernel
theorem dX1_ticksOn_12 : decode cX1_ticksOn 12 = .ok (.goto 10, 3) := by decide +kernel
theorem dX1_ticksOn_15 : decode cX1_ticksOn 15 = .ok (.iconst 0, 1) := by decide +kernel
theorem dX1_ticksOn_16 : decode cX1_ticksOn 16 = .ok (.iload_n 1, 1) := by decide +kernel
theorem dX1_ticksOn_17 : decode cX1_ticksOn 17 = .ok (.iload_n 2, 1) := by decide +kernel
theorem dX1_ticksOn_18 : decode cX1_ticksOn 18 = .ok (.isub, 1) := by decide +kernel
theorem dX1_ticksOn_19 : decode cX1_ticksOn 19 = .ok (.invokestatic 71, 3) := by decide +kernel
theorem dX1_ticksOn_22 : decode cX1_ticksOn 22 = .ok (.ireturn, 1) := by decide +kernel
theorem dX1_upperTicks_0 : decode cX1_upperTicks 0 = .ok (.aload_n 0, 1) := by decide +kernel
theorem dX1_upperTicks_1 : decode cX1_upperTicks 1 = .ok (.aload_n 0, 1) := by decide +kernel
theorem dX1_upperTicks_2 : decode cX1_upperTicks 2 = .ok (.getfield 15, 3) := by decide +kernel
theorem dX1_upperTicks_5 : decode cX1_upperTicks 5 = .ok (.iload_n 1, 1) := by decide +kernel
theorem dX1_upperTicks_6 : decode cX1_upperTicks 6 = .ok (.iaload, 1) := by decide +kernel
theorem dX1_upperTicks_7 : decode cX1_upperTicks 7 = .ok (.aload_n 0, 1) := by decide +kernel
theorem dX1_upperTicks_8 : decode cX1_upperTicks 8 = .ok (.getfield 28, 3) := by decide +kernel
theorem dX1_upperTicks_11 : decode cX1_upperTicks 11 = .ok (.invokevirtual 76, 3) := by decide +kernel
theorem dX1_upperTicks_14 : decode cX1_upperTicks 14 = .ok (.ireturn, 1) := by decide +kernel
theorem dX1_lowerTicks_0 : decode cX1_lowerTicks 0 = .ok (.aload_n 0, 1) := by decide +kernel
theorem dX1_lowerTicks_1 : decode cX1_lowerTicks 1 = .ok (.aload_n 0, 1) := by decide +kernel
theorem dX1_lowerTicks_2 : decode cX1_lowerTicks 2 = .ok (.getfield 24, 3) := by decide +kernel
theorem dX1_lowerTicks_5 : decode cX1_lowerTicks 5 = .ok (.aload_n 0, 1) := by decide +kernel
theorem dX1_lowerTicks_6 : decode cX1_lowerTicks 6 = .ok (.getfield 15, 3) := by decide +kernel
theorem dX1_lowerTicks_9 : decode cX1_lowerTicks 9 = .ok (.iload_n 1, 1) := by decide +kernel
theorem dX1_lowerTicks_10 : decode cX1_lowerTicks 10 = .ok (.iaload, 1) := by decide +kernel
theorem dX1_lowerTicks_11 : decode cX1_lowerTicks 11 = .ok (.isub, 1) := by decide +kernel
theorem dX1_lowerTicks_12 : decode cX1_lowerTicks 12 = .ok (.aload_n 0, 1) := by decide +kernel
theorem dX1_lowerTicks_13 : decode cX1_lowerTicks 13 = .ok (.getfield 28, 3) := by decide +kernel
theorem dX1_lowerTicks_16 : decode cX1_lowerTicks 16 = .ok (.invokevirtual 76, 3) := by decide +kernel
theorem dX1_lowerTicks_19 : decode cX1_lowerTicks 19 = .ok (.ireturn, 1) := by decide +kernel
theorem dX1_neitherTicks_0 : decode cX1_neitherTicks 0 = .ok (.aload_n 0, 1) := by decide +kernel
theorem dX1_neitherTicks_1 : decode cX1_neitherTicks 1 = .ok (.getfield 24, 3) := by decide +kernel
theorem dX1_neitherTicks_4 : decode cX1_neitherTicks 4 = .ok (.aload_n 0, 1) := by decide +kernel
theorem dX1_neitherTicks_5 : decode cX1_neitherTicks 5 = .ok (.iload_n 1, 1) := by decide +kernel
theorem dX1_neitherTicks_6 : decode cX1_neitherTicks 6 = .ok (.invokevirtual 79, 3) := by decide +kernel
theorem dX1_neitherTicks_9 : decode cX1_neitherTicks 9 = .ok (.isub, 1) := by decide +kernel
theorem dX1_neitherTicks_10 : decode cX1_neitherTicks 10 = .ok (.aload_n 0, 1) := by decide +kernel
theorem dX1_neitherTicks_11 : decode cX1_neitherTicks 11 = .ok (.iload_n 1, 1) := by decide +kernel
theorem dX1_neitherTicks_12 : decode cX1_neitherTicks 12 = .ok (.invokevirtual 82, 3) := by decide +kernel
theorem dX1_neitherTicks_15 : decode cX1_neitherTicks 15 = .ok (.isub, 1) := by decide +kernel
theorem dX1_neitherTicks_16 : decode cX1_neitherTicks 16 = .ok (.ireturn, 1) := by decide +kernel
theorem dX1_mean_0 : decode cX1_mean 0 = .ok (.aload_n 0, 1) := by decide +kernel
theorem dX1_mean_1 : decode cX1_mean 1 = .ok (.getfield 21, 3) := by decide +kernel
theorem dX1_mean_4 : decode cX1_mean 4 = .ok (.iload_n 1, 1) := by decide +kernel
theorem dX1_mean_5 : decode cX1_mean 5 = .ok (.iaload, 1) := by decide +kernel
theorem dX1_mean_6 : decode cX1_mean 6 = .ok (.ifCond .ge 16, 3) := by decide +kernel
theorem dX1_mean_9 : decode cX1_mean 9 = .ok (.aload_n 0, 1) := by decide +kernel
theorem dX1_mean_10 : decode cX1_mean 10 = .ok (.getfield 24, 3) := by decide +kernel
theorem dX1_mean_13 : decode cX1_mean 13 = .ok (.aload_n 0, 1) := by decide +kernel
theorem dX1_mean_14 : decode cX1_mean 14 = .ok (.iload_n 1, 1) := by decide +kernel
theorem dX1_mean_15 : decode cX1_mean 15 = .ok (.invokevirtual 82, 3) := by decide +kernel
theorem dX1_mean_18 : decode cX1_mean 18 = .ok (.isub, 1) := by decide +kernel
theorem dX1_mean_19 : decode cX1_mean 19 = .ok (.goto 8, 3) := by decide +kernel
theorem dX1_mean_22 : decode cX1_mean 22 = .ok (.aload_n 0, 1) := by decide +kernel
theorem dX1_mean_23 : decode cX1_mean 23 = .ok (.iload_n 1, 1) := by decide +kernel
theorem dX1_mean_24 : decode cX1_mean 24 = .ok (.invokevirtual 79, 3) := by decide +kernel
theorem dX1_mean_27 : decode cX1_mean 27 = .ok (.ireturn, 1) := by decide +kernel
theorem dX1_timesUpperComesOn_0 : decode cX1_timesUpperComesOn 0 = .ok (.aload_n 0, 1) := by decide +kernel
theorem dX1_timesUpperComesOn_1 : decode cX1_timesUpperComesOn 1 = .ok (.iload_n 1, 1) := by decide +kernel
theorem dX1_timesUpperComesOn_2 : decode cX1_timesUpperComesOn 2 = .ok (.invokevirtual 79, 3) := by decide +kernel
theorem dX1_timesUpperComesOn_5 : decode cX1_timesUpperComesOn 5 = .ok (.istore_n 2, 1) := by decide +kernel
theorem dX1_timesUpperComesOn_6 : decode cX1_timesUpperComesOn 6 = .ok (.iload_n 2, 1) := by decide +kernel
theorem dX1_timesUpperComesOn_7 : decode cX1_timesUpperComesOn 7 = .ok (.ifCond .le 15, 3) := by decide +kernel
theorem dX1_timesUpperComesOn_10 : decode cX1_timesUpperComesOn 10 = .ok (.iload_n 2, 1) := by decide +kernel
theorem dX1_timesUpperComesOn_11 : decode cX1_timesUpperComesOn 11 = .ok (.aload_n 0, 1) := by decide +kernel
theorem dX1_timesUpperComesOn_12 : decode cX1_timesUpperComesOn 12 = .ok (.getfield 24, 3) := by decide +kernel
theorem dX1_timesUpperComesOn_15 : decode cX1_timesUpperComesOn 15 = .ok (.if_icmp .ge 7, 3) := by decide +kernel
theorem dX1_timesUpperComesOn_18 : decode cX1_timesUpperComesOn 18 = .ok (.iconst 1, 1) := by decide +kernel
theorem dX1_timesUpperComesOn_19 : decode cX1_timesUpperComesOn 19 = .ok (.goto 4, 3) := by decide +kernel
theorem dX1_timesUpperComesOn_22 : decode cX1_timesUpperComesOn 22 = .ok (.iconst 0, 1) := by decide +kernel
theorem dX1_timesUpperComesOn_23 : decode cX1_timesUpperComesOn 23 = .ok (.ireturn, 1) := by decide +kernel
theorem dX1_leastDeadWithoutUpper_0 : decode cX1_leastDeadWithoutUpper 0 = .ok (.iconst (-1), 1) := by decide +kernel
theorem dX1_leastDeadWithoutUpper_1 : decode cX1_leastDeadWithoutUpper 1 = .ok (.istore_n 2, 1) := by decide +kernel
theorem dX1_leastDeadWithoutUpper_2 : decode cX1_leastDeadWithoutUpper 2 = .ok (.iconst 5, 1) := by decide +kernel
theorem dX1_leastDeadWithoutUpper_3 : decode cX1_leastDeadWithoutUpper 3 = .ok (.istore_n 3, 1) := by decide +kernel
theorem dX1_leastDeadWithoutUpper_4 : decode cX1_leastDeadWithoutUpper 4 = .ok (.iload_n 3, 1) := by decide +kernel
theorem dX1_leastDeadWithoutUpper_5 : decode cX1_leastDeadWithoutUpper 5 = .ok (.ifCond .lt 25, 3) := by decide +kernel
theorem dX1_leastDeadWithoutUpper_8 : decode cX1_leastDeadWithoutUpper 8 = .ok (.aload_n 0, 1) := by decide +kernel
theorem dX1_leastDeadWithoutUpper_9 : decode cX1_leastDeadWithoutUpper 9 = .ok (.aload_n 0, 1) := by decide +kernel
theorem dX1_leastDeadWithoutUpper_10 : decode cX1_leastDeadWithoutUpper 10 = .ok (.iload_n 1, 1) := by decide +kernel
theorem dX1_leastDeadWithoutUpper_11 : decode cX1_leastDeadWithoutUpper 11 = .ok (.iload_n 3, 1) := by decide +kernel
theorem dX1_leastDeadWithoutUpper_12 : decode cX1_leastDeadWithoutUpper 12 = .ok (.invokevirtual 56, 3) := by decide +kernel
theorem dX1_leastDeadWithoutUpper_15 : decode cX1_leastDeadWithoutUpper 15 = .ok (.iload_n 3, 1) := by decide +kernel
theorem dX1_leastDeadWithoutUpper_16 : decode cX1_leastDeadWithoutUpper 16 = .ok (.invokevirtual 76, 3) := by decide +kernel
theorem dX1_leastDeadWithoutUpper_19 : decode cX1_leastDeadWithoutUpper 19 = .ok (.ifCond .ne 11, 3) := by decide +kernel
theorem dX1_leastDeadWithoutUpper_22 : decode cX1_leastDeadWithoutUpper 22 = .ok (.iload_n 3, 1) := by decide +kernel
theorem dX1_leastDeadWithoutUpper_23 : decode cX1_leastDeadWithoutUpper 23 = .ok (.istore_n 2, 1) := by decide +kernel
theorem dX1_leastDeadWithoutUpper_24 : decode cX1_leastDeadWithoutUpper 24 = .ok (.iinc 3 (-1), 3) := by decide +kernel
theorem dX1_leastDeadWithoutUpper_27 : decode cX1_leastDeadWithoutUpper 27 = .ok (.goto (-23), 3) := by decide +kernel
theorem dX1_leastDeadWithoutUpper_30 : decode cX1_leastDeadWithoutUpper 30 = .ok (.iload_n 2, 1) := by decide +kernel
theorem dX1_leastDeadWithoutUpper_31 : decode cX1_leastDeadWithoutUpper 31 = .ok (.ireturn, 1) := by decide +kernel
theorem dX1_listEvents_0 : decode cX1_listEvents 0 = .ok (.aload_n 1, 1) := by decide +kernel
theorem dX1_listEvents_1 : decode cX1_listEvents 1 = .ok (.iconst 0, 1) := by decide +kernel
theorem dX1_listEvents_2 : decode cX1_listEvents 2 = .ok (.invokevirtual 85, 3) := by decide +kernel
theorem dX1_listEvents_5 : decode cX1_listEvents 5 = .ok (.iconst 0, 1) := by decide +kernel
theorem dX1_listEvents_6 : decode cX1_listEvents 6 = .ok (.istore_n 2, 1) := by decide +kernel
theorem dX1_listEvents_7 : decode cX1_listEvents 7 = .ok (.iload_n 2, 1) := by decide +kernel
theorem dX1_listEvents_8 : decode cX1_listEvents 8 = .ok (.aload_n 0, 1) := by decide +kernel
theorem dX1_listEvents_9 : decode cX1_listEvents 9 = .ok (.getfield 24, 3) := by decide +kernel
theorem dX1_listEvents_12 : decode cX1_listEvents 12 = .ok (.if_icmp .ge 38, 3) := by decide +kernel
theorem dX1_listEvents_15 : decode cX1_listEvents 15 = .ok (.iconst 0, 1) := by decide +kernel
theorem dX1_listEvents_16 : decode cX1_listEvents 16 = .ok (.istore_n 3, 1) := by decide +kernel
theorem dX1_listEvents_17 : decode cX1_listEvents 17 = .ok (.iload_n 3, 1) := by decide +kernel
theorem dX1_listEvents_18 : decode cX1_listEvents 18 = .ok (.iconst 3, 1) := by decide +kernel
theorem dX1_listEvents_19 : decode cX1_listEvents 19 = .ok (.if_icmp .ge 25, 3) := by decide +kernel
theorem dX1_listEvents_22 : decode cX1_listEvents 22 = .ok (.aload_n 0, 1) := by decide +kernel
theorem dX1_listEvents_23 : decode cX1_listEvents 23 = .ok (.aload_n 1, 1) := by decide +kernel
theorem dX1_listEvents_24 : decode cX1_listEvents 24 = .ok (.iload_n 2, 1) := by decide +kernel
theorem dX1_listEvents_25 : decode cX1_listEvents 25 = .ok (.iload_n 3, 1) := by decide +kernel
theorem dX1_listEvents_26 : decode cX1_listEvents 26 = .ok (.iconst 0, 1) := by decide +kernel
theorem dX1_listEvents_27 : decode cX1_listEvents 27 = .ok (.invokevirtual 91, 3) := by decide +kernel
theorem dX1_listEvents_30 : decode cX1_listEvents 30 = .ok (.aload_n 0, 1) := by decide +kernel
theorem dX1_listEvents_31 : decode cX1_listEvents 31 = .ok (.aload_n 1, 1) := by decide +kernel
theorem dX1_listEvents_32 : decode cX1_listEvents 32 = .ok (.iload_n 2, 1) := by decide +kernel
theorem dX1_listEvents_33 : decode cX1_listEvents 33 = .ok (.iload_n 3, 1) := by decide +kernel
theorem dX1_listEvents_34 : decode cX1_listEvents 34 = .ok (.iconst 1, 1) := by decide +kernel
theorem dX1_listEvents_35 : decode cX1_listEvents 35 = .ok (.invokevirtual 91, 3) := by decide +kernel
theorem dX1_listEvents_38 : decode cX1_listEvents 38 = .ok (.iinc 3 1, 3) := by decide +kernel
theorem dX1_listEvents_41 : decode cX1_listEvents 41 = .ok (.goto (-24), 3) := by decide +kernel
theorem dX1_listEvents_44 : decode cX1_listEvents 44 = .ok (.iinc 2 1, 3) := by decide +kernel
theorem dX1_listEvents_47 : decode cX1_listEvents 47 = .ok (.goto (-40), 3) := by decide +kernel
theorem dX1_listEvents_50 : decode cX1_listEvents 50 = .ok (.return_, 1) := by decide +kernel
theorem dX1_listEvent_0 : decode cX1_listEvent 0 = .ok (.aload_n 0, 1) := by decide +kernel
theorem dX1_listEvent_1 : decode cX1_listEvent 1 = .ok (.iload_n 3, 1) := by decide +kernel
theorem dX1_listEvent_2 : decode cX1_listEvent 2 = .ok (.iload 4, 2) := by decide +kernel
theorem dX1_listEvent_4 : decode cX1_listEvent 4 = .ok (.iload_n 2, 1) := by decide +kernel
theorem dX1_listEvent_5 : decode cX1_listEvent 5 = .ok (.invokevirtual 67, 3) := by decide +kernel
theorem dX1_listEvent_8 : decode cX1_listEvent 8 = .ok (.istore 5, 2) := by decide +kernel
theorem dX1_listEvent_10 : decode cX1_listEvent 10 = .ok (.aload_n 0, 1) := by decide +kernel
theorem dX1_listEvent_11 : decode cX1_listEvent 11 = .ok (.iload_n 3, 1) := by decide +kernel
theorem dX1_listEvent_12 : decode cX1_listEvent 12 = .ok (.iload 4, 2) := by decide +kernel
theorem dX1_listEvent_14 : decode cX1_listEvent 14 = .ok (.aload_n 0, 1) := by decide +kernel
theorem dX1_listEvent_15 : decode cX1_listEvent 15 = .ok (.iconst 1, 1) := by decide +kernel
theorem dX1_listEvent_16 : decode cX1_listEvent 16 = .ok (.iload_n 2, 1) := by decide +kernel
theorem dX1_listEvent_17 : decode cX1_listEvent 17 = .ok (.invokevirtual 60, 3) := by decide +kernel
theorem dX1_listEvent_20 : decode cX1_listEvent 20 = .ok (.invokevirtual 67, 3) := by decide +kernel
theorem dX1_listEvent_23 : decode cX1_listEvent 23 = .ok (.istore 6, 2) := by decide +kernel
theorem dX1_listEvent_25 : decode cX1_listEvent 25 = .ok (.iload 5, 2) := by decide +kernel
theorem dX1_listEvent_27 : decode cX1_listEvent 27 = .ok (.iload 6, 2) := by decide +kernel
theorem dX1_listEvent_29 : decode cX1_listEvent 29 = .ok (.if_icmp .eq 21, 3) := by decide +kernel
theorem dX1_listEvent_32 : decode cX1_listEvent 32 = .ok (.aload_n 1, 1) := by decide +kernel
theorem dX1_listEvent_33 : decode cX1_listEvent 33 = .ok (.iload_n 2, 1) := by decide +kernel
theorem dX1_listEvent_34 : decode cX1_listEvent 34 = .ok (.iload_n 3, 1) := by decide +kernel
theorem dX1_listEvent_35 : decode cX1_listEvent 35 = .ok (.iload 4, 2) := by decide +kernel
theorem dX1_listEvent_37 : decode cX1_listEvent 37 = .ok (.iload 5, 2) := by decide +kernel
theorem dX1_listEvent_39 : decode cX1_listEvent 39 = .ok (.ifCond .eq 7, 3) := by decide +kernel
theorem dX1_listEvent_42 : decode cX1_listEvent 42 = .ok (.iconst 1, 1) := by decide +kernel
theorem dX1_listEvent_43 : decode cX1_listEvent 43 = .ok (.goto 4, 3) := by decide +kernel
theorem dX1_listEvent_46 : decode cX1_listEvent 46 = .ok (.iconst 0, 1) := by decide +kernel
theorem dX1_listEvent_47 : decode cX1_listEvent 47 = .ok (.invokevirtual 95, 3) := by decide +kernel
theorem dX1_listEvent_50 : decode cX1_listEvent 50 = .ok (.return_, 1) := by decide +kernel
theorem dX2_init_0 : decode cX2_init 0 = .ok (.aload_n 0, 1) := by decide +kernel
theorem dX2_init_1 : decode cX2_init 1 = .ok (.invokespecial 3, 3) := by decide +kernel
theorem dX2_init_4 : decode cX2_init 4 = .ok (.aload_n 0, 1) := by decide +kernel
theorem dX2_init_5 : decode cX2_init 5 = .ok (.new 9, 3) := by decide +kernel
theorem dX2_init_8 : decode cX2_init 8 = .ok (.dup, 1) := by decide +kernel
theorem dX2_init_9 : decode cX2_init 9 = .ok (.bipush 7, 2) := by decide +kernel
theorem dX2_init_11 : decode cX2_init 11 = .ok (.invokespecial 11, 3) := by decide +kernel
theorem dX2_init_14 : decode cX2_init 14 = .ok (.putfield 14, 3) := by decide +kernel
theorem dX2_init_17 : decode cX2_init 17 = .ok (.return_, 1) := by decide +kernel
theorem dX2_find_0 : decode cX2_find 0 = .ok (.aload_n 0, 1) := by decide +kernel
theorem dX2_find_1 : decode cX2_find 1 = .ok (.getfield 14, 3) := by decide +kernel
theorem dX2_find_4 : decode cX2_find 4 = .ok (.iconst 0, 1) := by decide +kernel
theorem dX2_find_5 : decode cX2_find 5 = .ok (.invokevirtual 20, 3) := by decide +kernel
theorem dX2_find_8 : decode cX2_find 8 = .ok (.aload_n 0, 1) := by decide +kernel
theorem dX2_find_9 : decode cX2_find 9 = .ok (.iconst 0, 1) := by decide +kernel
theorem dX2_find_10 : decode cX2_find 10 = .ok (.putfield 23, 3) := by decide +kernel
theorem dX2_find_13 : decode cX2_find 13 = .ok (.iconst 0, 1) := by decide +kernel
theorem dX2_find_14 : decode cX2_find 14 = .ok (.istore 5, 2) := by decide +kernel
theorem dX2_find_16 : decode cX2_find 16 = .ok (.iconst 0, 1) := by decide +kernel
theorem dX2_find_17 : decode cX2_find 17 = .ok (.istore 6, 2) := by decide +kernel
theorem dX2_find_19 : decode cX2_find 19 = .ok (.iload 6, 2) := by decide +kernel
theorem dX2_find_21 : decode cX2_find 21 = .ok (.bipush 7, 2) := by decide +kernel
theorem dX2_find_23 : decode cX2_find 23 = .ok (.if_icmp .ge 98, 3) := by decide +kernel
theorem dX2_find_26 : decode cX2_find 26 = .ok (.iload 5, 2) := by decide +kernel
theorem dX2_find_28 : decode cX2_find 28 = .ok (.iload_n 1, 1) := by decide +kernel
theorem dX2_find_29 : decode cX2_find 29 = .ok (.if_icmp .ge 92, 3) := by decide +kernel
theorem dX2_find_32 : decode cX2_find 32 = .ok (.iload 5, 2) := by decide +kernel
theorem dX2_find_34 : decode cX2_find 34 = .ok (.iload_n 1, 1) := by decide +kernel
theorem dX2_find_35 : decode cX2_find 35 = .ok (.aload_n 3, 1) := by decide +kernel
theorem dX2_find_36 : decode cX2_find 36 = .ok (.aload 4, 2) := by decide +kernel
theorem dX2_find_38 : decode cX2_find 38 = .ok (.invokestatic 27, 3) := by decide +kernel
theorem dX2_find_41 : decode cX2_find 41 = .ok (.istore 7, 2) := by decide +kernel
theorem dX2_find_43 : decode cX2_find 43 = .ok (.iload 5, 2) := by decide +kernel
theorem dX2_find_45 : decode cX2_find 45 = .ok (.aload_n 3, 1) := by decide +kernel
theorem dX2_find_46 : decode cX2_find 46 = .ok (.aload 4, 2) := by decide +kernel
theorem dX2_find_48 : decode cX2_find 48 = .ok (.invokestatic 31, 3) := by decide +kernel
theorem dX2_find_51 : decode cX2_find 51 = .ok (.istore 8, 2) := by decide +kernel
theorem dX2_find_53 : decode cX2_find 53 = .ok (.iload 7, 2) := by decide +kernel
theorem dX2_find_55 : decode cX2_find 55 = .ok (.iload 5, 2) := by decide +kernel
theorem dX2_find_57 : decode cX2_find 57 = .ok (.isub, 1) := by decide +kernel
theorem dX2_find_58 : decode cX2_find 58 = .ok (.iload_n 2, 1) := by decide +kernel
theorem dX2_find_59 : decode cX2_find 59 = .ok (.if_icmp .lt 12, 3) := by decide +kernel
theorem dX2_find_62 : decode cX2_find 62 = .ok (.getstatic 35, 3) := by decide +kernel
theorem dX2_find_65 : decode cX2_find 65 = .ok (.iload 8, 2) := by decide +kernel
theorem dX2_find_67 : decode cX2_find 67 = .ok (.iaload, 1) := by decide +kernel
theorem dX2_find_68 : decode cX2_find 68 = .ok (.goto 4, 3) := by decide +kernel
theorem dX2_find_71 : decode cX2_find 71 = .ok (.iconst (-1), 1) := by decide +kernel
theorem dX2_find_72 : decode cX2_find 72 = .ok (.istore 9, 2) := by decide +kernel
theorem dX2_find_74 : decode cX2_find 74 = .ok (.iload 9, 2) := by decide +kernel
theorem dX2_find_76 : decode cX2_find 76 = .ok (.iconst (-1), 1) := by decide +kernel
theorem dX2_find_77 : decode cX2_find 77 = .ok (.if_icmp .eq 16, 3) := by decide +kernel
theorem dX2_find_80 : decode cX2_find 80 = .ok (.aload_n 0, 1) := by decide +kernel
theorem dX2_find_81 : decode cX2_find 81 = .ok (.dup, 1) := by decide +kernel
theorem dX2_find_82 : decode cX2_find 82 = .ok (.getfield 23, 3) := by decide +kernel
theorem dX2_find_85 : decode cX2_find 85 = .ok (.iconst 1, 1) := by decide +kernel
theorem dX2_find_86 : decode cX2_find 86 = .ok (.iload 9, 2) := by decide +kernel
theorem dX2_find_88 : decode cX2_find 88 = .ok (.ishl, 1) := by decide +kernel
theorem dX2_find_89 : decode cX2_find 89 = .ok (.ior, 1) := by decide +kernel
theorem dX2_find_90 : decode cX2_find 90 = .ok (.putfield 23, 3) := by decide +kernel
theorem dX2_find_93 : decode cX2_find 93 = .ok (.aload_n 0, 1) := by decide +kernel
theorem dX2_find_94 : decode cX2_find 94 = .ok (.getfield 14, 3) := by decide +kernel
theorem dX2_find_97 : decode cX2_find 97 = .ok (.iload 5, 2) := by decide +kernel
theorem dX2_find_99 : decode cX2_find 99 = .ok (.iload 7, 2) := by decide +kernel
theorem dX2_find_101 : decode cX2_find 101 = .ok (.iload 5, 2) := by decide +kernel
theorem dX2_find_103 : decode cX2_find 103 = .ok (.isub, 1) := by decide +kernel
theorem dX2_find_104 : decode cX2_find 104 = .ok (.iload 8, 2) := by decide +kernel
theorem dX2_find_106 : decode cX2_find 106 = .ok (.iload 9, 2) := by decide +kernel
theorem dX2_find_108 : decode cX2_find 108 = .ok (.invokevirtual 39, 3) := by decide +kernel
theorem dX2_find_111 : decode cX2_find 111 = .ok (.iload 7, 2) := by decide +kernel
theorem dX2_find_113 : decode cX2_find 113 = .ok (.istore 5, 2) := by decide +kernel
theorem dX2_find_115 : decode cX2_find 115 = .ok (.iinc 6 1, 3) := by decide +kernel
theorem dX2_find_118 : decode cX2_find 118 = .ok (.goto (-99), 3) := by decide +kernel
theorem dX2_find_121 : decode cX2_find 121 = .ok (.return_, 1) := by decide +kernel
theorem dX2_nextChange_0 : decode cX2_nextChange 0 = .ok (.iload_n 1, 1) := by decide +kernel
theorem dX2_nextChange_1 : decode cX2_nextChange 1 = .ok (.istore 4, 2) := by decide +kernel
theorem dX2_nextChange_3 : decode cX2_nextChange 3 = .ok (.iconst 0, 1) := by decide +kernel
theorem dX2_nextChange_4 : decode cX2_nextChange 4 = .ok (.istore 5, 2) := by decide +kernel
theorem dX2_nextChange_6 : decode cX2_nextChange 6 = .ok (.iload 5, 2) := by decide +kernel
theorem dX2_nextChange_8 : decode cX2_nextChange 8 = .ok (.iconst 3, 1) := by decide +kernel
theorem dX2_nextChange_9 : decode cX2_nextChange 9 = .ok (.if_icmp .ge 71, 3) := by decide +kernel
theorem dX2_nextChange_12 : decode cX2_nextChange 12 = .ok (.aload_n 2, 1) := by decide +kernel
theorem dX2_nextChange_13 : decode cX2_nextChange 13 = .ok (.iload 5, 2) := by decide +kernel
theorem dX2_nextChange_15 : decode cX2_nextChange 15 = .ok (.iaload, 1) := by decide +kernel
theorem dX2_nextChange_16 : decode cX2_nextChange 16 = .ok (.aload_n 3, 1) := by decide +kernel
theorem dX2_nextChange_17 : decode cX2_nextChange 17 = .ok (.iload 5, 2) := by decide +kernel
theorem dX2_nextChange_19 : decode cX2_nextChange 19 = .ok (.iaload, 1) := by decide +kernel
theorem dX2_nextChange_20 : decode cX2_nextChange 20 = .ok (.iadd, 1) := by decide +kernel
theorem dX2_nextChange_21 : decode cX2_nextChange 21 = .ok (.istore 6, 2) := by decide +kernel
theorem dX2_nextChange_23 : decode cX2_nextChange 23 = .ok (.aload_n 2, 1) := by decide +kernel
theorem dX2_nextChange_24 : decode cX2_nextChange 24 = .ok (.iload 5, 2) := by decide +kernel
theorem dX2_nextChange_26 : decode cX2_nextChange 26 = .ok (.iaload, 1) := by decide +kernel
theorem dX2_nextChange_27 : decode cX2_nextChange 27 = .ok (.iload_n 0, 1) := by decide +kernel
theorem dX2_nextChange_28 : decode cX2_nextChange 28 = .ok (.if_icmp .le 24, 3) := by decide +kernel
theorem dX2_nextChange_31 : decode cX2_nextChange 31 = .ok (.aload_n 3, 1) := by decide +kernel
theorem dX2_nextChange_32 : decode cX2_nextChange 32 = .ok (.iload 5, 2) := by decide +kernel
theorem dX2_nextChange_34 : decode cX2_nextChange 34 = .ok (.iaload, 1) := by decide +kernel
theorem dX2_nextChange_35 : decode cX2_nextChange 35 = .ok (.ifCond .le 17, 3) := by decide +kernel
theorem dX2_nextChange_38 : decode cX2_nextChange 38 = .ok (.iload 4, 2) := by decide +kernel
theorem dX2_nextChange_40 : decode cX2_nextChange 40 = .ok (.aload_n 2, 1) := by decide +kernel
theorem dX2_nextChange_41 : decode cX2_nextChange 41 = .ok (.iload 5, 2) := by decide +kernel
theorem dX2_nextChange_43 : decode cX2_nextChange 43 = .ok (.iaload, 1) := by decide +kernel
theorem dX2_nextChange_44 : decode cX2_nextChange 44 = .ok (.invokestatic 43, 3) := by decide +kernel
theorem dX2_nextChange_47 : decode cX2_nextChange 47 = .ok (.istore 4, 2) := by decide +kernel
theorem dX2_nextChange_49 : decode cX2_nextChange 49 = .ok (.goto 25, 3) := by decide +kernel
theorem dX2_nextChange_52 : decode cX2_nextChange 52 = .ok (.iload 6, 2) := by decide +kernel
theorem dX2_nextChange_54 : decode cX2_nextChange 54 = .ok (.iload_n 0, 1) := by decide +kernel
theorem dX2_nextChange_55 : decode cX2_nextChange 55 = .ok (.if_icmp .le 19, 3) := by decide +kernel
theorem dX2_nextChange_58 : decode cX2_nextChange 58 = .ok (.aload_n 3, 1) := by decide +kernel
theorem dX2_nextChange_59 : decode cX2_nextChange 59 = .ok (.iload 5, 2) := by decide +kernel
theorem dX2_nextChange_61 : decode cX2_nextChange 61 = .ok (.iaload, 1) := by decide +kernel
theorem dX2_nextChange_62 : decode cX2_nextChange 62 = .ok (.ifCond .le 12, 3) := by decide +kernel
theorem dX2_nextChange_65 : decode cX2_nextChange 65 = .ok (.iload 4, 2) := by decide +kernel
theorem dX2_nextChange_67 : decode cX2_nextChange 67 = .ok (.iload 6, 2) := by decide +kernel
theorem dX2_nextChange_69 : decode cX2_nextChange 69 = .ok (.invokestatic 43, 3) := by decide +kernel
theorem dX2_nextChange_72 : decode cX2_nextChange 72 = .ok (.istore 4, 2) := by decide +kernel
theorem dX2_nextChange_74 : decode cX2_nextChange 74 = .ok (.iinc 5 1, 3) := by decide +kernel
theorem dX2_nextChange_77 : decode cX2_nextChange 77 = .ok (.goto (-71), 3) := by decide +kernel
theorem dX2_nextChange_80 : decode cX2_nextChange 80 = .ok (.iload 4, 2) := by decide +kernel
theorem dX2_nextChange_82 : decode cX2_nextChange 82 = .ok (.ireturn, 1) := by decide +kernel
theorem dX2_patternAt_0 : decode cX2_patternAt 0 = .ok (.iconst 0, 1) := by decide +kernel
theorem dX2_patternAt_1 : decode cX2_patternAt 1 = .ok (.istore_n 3, 1) := by decide +kernel
theorem dX2_patternAt_2 : decode cX2_patternAt 2 = .ok (.iconst 0, 1) := by decide +kernel
theorem dX2_patternAt_3 : decode cX2_patternAt 3 = .ok (.istore 4, 2) := by decide +kernel
theorem dX2_patternAt_5 : decode cX2_patternAt 5 = .ok (.iload 4, 2) := by decide +kernel
theorem dX2_patternAt_7 : decode cX2_patternAt 7 = .ok (.iconst 3, 1) := by decide +kernel
theorem dX2_patternAt_8 : decode cX2_patternAt 8 = .ok (.if_icmp .ge 37, 3) := by decide +kernel
theorem dX2_patternAt_11 : decode cX2_patternAt 11 = .ok (.iload_n 0, 1) := by decide +kernel
theorem dX2_patternAt_12 : decode cX2_patternAt 12 = .ok (.aload_n 1, 1) := by decide +kernel
theorem dX2_patternAt_13 : decode cX2_patternAt 13 = .ok (.iload 4, 2) := by decide +kernel
theorem dX2_patternAt_15 : decode cX2_patternAt 15 = .ok (.iaload, 1) := by decide +kernel
theorem dX2_patternAt_16 : decode cX2_patternAt 16 = .ok (.if_icmp .lt 23, 3) := by decide +kernel
theorem dX2_patternAt_19 : decode cX2_patternAt 19 = .ok (.iload_n 0, 1) := by decide +kernel
theorem dX2_patternAt_20 : decode cX2_patternAt 20 = .ok (.aload_n 1, 1) := by decide +kernel
theorem dX2_patternAt_21 : decode cX2_patternAt 21 = .ok (.iload 4, 2) := by decide +kernel
theorem dX2_patternAt_23 : decode cX2_patternAt 23 = .ok (.iaload, 1) := by decide +kernel
theorem dX2_patternAt_24 : decode cX2_patternAt 24 = .ok (.aload_n 2, 1) := by decide +kernel
theorem dX2_patternAt_25 : decode cX2_patternAt 25 = .ok (.iload 4, 2) := by decide +kernel
theorem dX2_patternAt_27 : decode cX2_patternAt 27 = .ok (.iaload, 1) := by decide +kernel
theorem dX2_patternAt_28 : decode cX2_patternAt 28 = .ok (.iadd, 1) := by decide +kernel
theorem dX2_patternAt_29 : decode cX2_patternAt 29 = .ok (.if_icmp .ge 10, 3) := by decide +kernel
theorem dX2_patternAt_32 : decode cX2_patternAt 32 = .ok (.iload_n 3, 1) := by decide +kernel
theorem dX2_patternAt_33 : decode cX2_patternAt 33 = .ok (.iconst 1, 1) := by decide +kernel
theorem dX2_patternAt_34 : decode cX2_patternAt 34 = .ok (.iload 4, 2) := by decide +kernel
theorem dX2_patternAt_36 : decode cX2_patternAt 36 = .ok (.ishl, 1) := by decide +kernel
theorem dX2_patternAt_37 : decode cX2_patternAt 37 = .ok (.ior, 1) := by decide +kernel
theorem dX2_patternAt_38 : decode cX2_patternAt 38 = .ok (.istore_n 3, 1) := by decide +kernel
theorem dX2_patternAt_39 : decode cX2_patternAt 39 = .ok (.iinc 4 1, 3) := by decide +kernel
theorem dX2_patternAt_42 : decode cX2_patternAt 42 = .ok (.goto (-37), 3) := by decide +kernel
theorem dX2_patternAt_45 : decode cX2_patternAt 45 = .ok (.iload_n 3, 1) := by decide +kernel
theorem dX2_patternAt_46 : decode cX2_patternAt 46 = .ok (.ireturn, 1) := by decide +kernel
theorem dX2_sees_0 : decode cX2_sees 0 = .ok (.aload_n 0, 1) := by decide +kernel
theorem dX2_sees_1 : decode cX2_sees 1 = .ok (.getfield 23, 3) := by decide +kernel
theorem dX2_sees_4 : decode cX2_sees 4 = .ok (.iload_n 1, 1) := by decide +kernel
theorem dX2_sees_5 : decode cX2_sees 5 = .ok (.ishr, 1) := by decide +kernel
theorem dX2_sees_6 : decode cX2_sees 6 = .ok (.iconst 1, 1) := by decide +kernel
theorem dX2_sees_7 : decode cX2_sees 7 = .ok (.iand, 1) := by decide +kernel
theorem dX2_sees_8 : decode cX2_sees 8 = .ok (.iconst 1, 1) := by decide +kernel
theorem dX2_sees_9 : decode cX2_sees 9 = .ok (.if_icmp .ne 7, 3) := by decide +kernel
theorem dX2_sees_12 : decode cX2_sees 12 = .ok (.iconst 1, 1) := by decide +kernel
theorem dX2_sees_13 : decode cX2_sees 13 = .ok (.goto 4, 3) := by decide +kernel
theorem dX2_sees_16 : decode cX2_sees 16 = .ok (.iconst 0, 1) := by decide +kernel
theorem dX2_sees_17 : decode cX2_sees 17 = .ok (.ireturn, 1) := by decide +kernel
theorem dX2_howManySeen_0 : decode cX2_howManySeen 0 = .ok (.aload_n 0, 1) := by decide +kernel
theorem dX2_howManySeen_1 : decode cX2_howManySeen 1 = .ok (.getfield 23, 3) := by decide +kernel
theorem dX2_howManySeen_4 : decode cX2_howManySeen 4 = .ok (.invokestatic 49, 3) := by decide +kernel
theorem dX2_howManySeen_7 : decode cX2_howManySeen 7 = .ok (.ireturn, 1) := by decide +kernel
theorem dX2_ticksOf_0 : decode cX2_ticksOf 0 = .ok (.iconst 0, 1) := by decide +kernel
theorem dX2_ticksOf_1 : decode cX2_ticksOf 1 = .ok (.istore_n 2, 1) := by decide +kernel
theorem dX2_ticksOf_2 : decode cX2_ticksOf 2 = .ok (.iconst 0, 1) := by decide +kernel
theorem dX2_ticksOf_3 : decode cX2_ticksOf 3 = .ok (.istore_n 3, 1) := by decide +kernel
theorem dX2_ticksOf_4 : decode cX2_ticksOf 4 = .ok (.iload_n 3, 1) := by decide +kernel
theorem dX2_ticksOf_5 : decode cX2_ticksOf 5 = .ok (.aload_n 0, 1) := by decide +kernel
theorem dX2_ticksOf_6 : decode cX2_ticksOf 6 = .ok (.getfield 14, 3) := by decide +kernel
theorem dX2_ticksOf_9 : decode cX2_ticksOf 9 = .ok (.getfield 55, 3) := by decide +kernel
theorem dX2_ticksOf_12 : decode cX2_ticksOf 12 = .ok (.if_icmp .ge 36, 3) := by decide +kernel
theorem dX2_ticksOf_15 : decode cX2_ticksOf 15 = .ok (.aload_n 0, 1) := by decide +kernel
theorem dX2_ticksOf_16 : decode cX2_ticksOf 16 = .ok (.getfield 14, 3) := by decide +kernel
theorem dX2_ticksOf_19 : decode cX2_ticksOf 19 = .ok (.iconst (-1), 1) := by decide +kernel
theorem dX2_ticksOf_20 : decode cX2_ticksOf 20 = .ok (.iload_n 3, 1) := by decide +kernel
theorem dX2_ticksOf_21 : decode cX2_ticksOf 21 = .ok (.iconst 2, 1) := by decide +kernel
theorem dX2_ticksOf_22 : decode cX2_ticksOf 22 = .ok (.invokevirtual 58, 3) := by decide +kernel
theorem dX2_ticksOf_25 : decode cX2_ticksOf 25 = .ok (.iload_n 1, 1) := by decide +kernel
theorem dX2_ticksOf_26 : decode cX2_ticksOf 26 = .ok (.if_icmp .ne 16, 3) := by decide +kernel
theorem dX2_ticksOf_29 : decode cX2_ticksOf 29 = .ok (.iload_n 2, 1) := by decide +kernel
theorem dX2_ticksOf_30 : decode cX2_ticksOf 30 = .ok (.aload_n 0, 1) := by decide +kernel
theorem dX2_ticksOf_31 : decode cX2_ticksOf 31 = .ok (.getfield 14, 3) := by decide +kernel
theorem dX2_ticksOf_34 : decode cX2_ticksOf 34 = .ok (.iconst 0, 1) := by decide +kernel
theorem dX2_ticksOf_35 : decode cX2_ticksOf 35 = .ok (.iload_n 3, 1) := by decide +kernel
theorem dX2_ticksOf_36 : decode cX2_ticksOf 36 = .ok (.iconst 1, 1) := by decide +kernel
theorem dX2_ticksOf_37 : decode cX2_ticksOf 37 = .ok (.invokevirtual 58, 3) := by decide +kernel
theorem dX2_ticksOf_40 : decode cX2_ticksOf 40 = .ok (.iadd, 1) := by decide +kernel
theorem dX2_ticksOf_41 : decode cX2_ticksOf 41 = .ok (.istore_n 2, 1) := by decide +kernel
theorem dX2_ticksOf_42 : decode cX2_ticksOf 42 = .ok (.iinc 3 1, 3) := by decide +kernel
theorem dX2_ticksOf_45 : decode cX2_ticksOf 45 = .ok (.goto (-41), 3) := by decide +kernel
theorem dX2_ticksOf_48 : decode cX2_ticksOf 48 = .ok (.iload_n 2, 1) := by decide +kernel
theorem dX2_ticksOf_49 : decode cX2_ticksOf 49 = .ok (.ireturn, 1) := by decide +kernel
theorem dX3_init_0 : decode cX3_init 0 = .ok (.aload_n 0, 1) := by decide +kernel
theorem dX3_init_1 : decode cX3_init 1 = .ok (.invokespecial 3, 3) := by decide +kernel
theorem dX3_init_4 : decode cX3_init 4 = .ok (.aload_n 0, 1) := by decide +kernel
theorem dX3_init_5 : decode cX3_init 5 = .ok (.new 9, 3) := by decide +kernel
theorem dX3_init_8 : decode cX3_init 8 = .ok (.dup, 1) := by decide +kernel
theorem dX3_init_9 : decode cX3_init 9 = .ok (.invokespecial 11, 3) := by decide +kernel
theorem dX3_init_12 : decode cX3_init 12 = .ok (.putfield 12, 3) := by decide +kernel
theorem dX3_init_15 : decode cX3_init 15 = .ok (.aload_n 0, 1) := by decide +kernel
theorem dX3_init_16 : decode cX3_init 16 = .ok (.iconst 3, 1) := by decide +kernel
theorem dX3_init_17 : decode cX3_init 17 = .ok (.newarray .int, 2) := by decide +kernel
theorem dX3_init_19 : decode cX3_init 19 = .ok (.putfield 18, 3) := by decide +kernel
theorem dX3_init_22 : decode cX3_init 22 = .ok (.aload_n 0, 1) := by decide +kernel
theorem dX3_init_23 : decode cX3_init 23 = .ok (.iconst 3, 1) := by decide +kernel
theorem dX3_init_24 : decode cX3_init 24 = .ok (.newarray .int, 2) := by decide +kernel
theorem dX3_init_26 : decode cX3_init 26 = .ok (.putfield 22, 3) := by decide +kernel
theorem dX3_init_29 : decode cX3_init 29 = .ok (.aload_n 0, 1) := by decide +kernel
theorem dX3_init_30 : decode cX3_init 30 = .ok (.iconst 3, 1) := by decide +kernel
theorem dX3_init_31 : decode cX3_init 31 = .ok (.newarray .int, 2) := by decide +kernel
theorem dX3_init_33 : decode cX3_init 33 = .ok (.putfield 25, 3) := by decide +kernel
theorem dX3_init_36 : decode cX3_init 36 = .ok (.return_, 1) := by decide +kernel
theorem dX3_search_0 : decode cX3_search 0 = .ok (.aload_n 0, 1) := by decide +kernel
theorem dX3_search_1 : decode cX3_search 1 = .ok (.iconst 0, 1) := by decide +kernel
theorem dX3_search_2 : decode cX3_search 2 = .ok (.putfield 28, 3) := by decide +kernel
theorem dX3_search_5 : decode cX3_search 5 = .ok (.iconst 0, 1) := by decide +kernel
theorem dX3_search_6 : decode cX3_search 6 = .ok (.istore_n 3, 1) := by decide +kernel
theorem dX3_search_7 : decode cX3_search 7 = .ok (.iload_n 3, 1) := by decide +kernel
theorem dX3_search_8 : decode cX3_search 8 = .ok (.bipush 18, 2) := by decide +kernel
theorem dX3_search_10 : decode cX3_search 10 = .ok (.if_icmp .gt 28, 3) := by decide +kernel
theorem dX3_search_13 : decode cX3_search 13 = .ok (.aload_n 0, 1) := by decide +kernel
theorem dX3_search_14 : decode cX3_search 14 = .ok (.getfield 28, 3) := by decide +kernel
theorem dX3_search_17 : decode cX3_search 17 = .ok (.ifCond .ne 21, 3) := by decide +kernel
theorem dX3_search_20 : decode cX3_search 20 = .ok (.aload_n 0, 1) := by decide +kernel
theorem dX3_search_21 : decode cX3_search 21 = .ok (.iload_n 3, 1) := by decide +kernel
theorem dX3_search_22 : decode cX3_search 22 = .ok (.putfield 32, 3) := by decide +kernel
theorem dX3_search_25 : decode cX3_search 25 = .ok (.aload_n 0, 1) := by decide +kernel
theorem dX3_search_26 : decode cX3_search 26 = .ok (.iload_n 3, 1) := by decide +kernel
theorem dX3_search_27 : decode cX3_search 27 = .ok (.aload_n 1, 1) := by decide +kernel
theorem dX3_search_28 : decode cX3_search 28 = .ok (.iload_n 2, 1) := by decide +kernel
theorem dX3_search_29 : decode cX3_search 29 = .ok (.invokevirtual 35, 3) := by decide +kernel
theorem dX3_search_32 : decode cX3_search 32 = .ok (.iinc 3 1, 3) := by decide +kernel
theorem dX3_search_35 : decode cX3_search 35 = .ok (.goto (-28), 3) := by decide +kernel
theorem dX3_search_38 : decode cX3_search 38 = .ok (.return_, 1) := by decide +kernel
theorem dX3_searchAllOf_0 : decode cX3_searchAllOf 0 = .ok (.bipush (-6), 2) := by decide +kernel
theorem dX3_searchAllOf_2 : decode cX3_searchAllOf 2 = .ok (.istore 4, 2) := by decide +kernel
theorem dX3_searchAllOf_4 : decode cX3_searchAllOf 4 = .ok (.iload 4, 2) := by decide +kernel
theorem dX3_searchAllOf_6 : decode cX3_searchAllOf 6 = .ok (.bipush 6, 2) := by decide +kernel
theorem dX3_searchAllOf_8 : decode cX3_searchAllOf 8 = .ok (.if_icmp .gt 85, 3) := by decide +kernel
theorem dX3_searchAllOf_11 : decode cX3_searchAllOf 11 = .ok (.bipush (-6), 2) := by decide +kernel
theorem dX3_searchAllOf_13 : decode cX3_searchAllOf 13 = .ok (.istore 5, 2) := by decide +kernel
theorem dX3_searchAllOf_15 : decode cX3_searchAllOf 15 = .ok (.iload 5, 2) := by decide +kernel
theorem dX3_searchAllOf_17 : decode cX3_searchAllOf 17 = .ok (.bipush 6, 2) := by decide +kernel
theorem dX3_searchAllOf_19 : decode cX3_searchAllOf 19 = .ok (.if_icmp .gt 68, 3) := by decide +kernel
theorem dX3_searchAllOf_22 : decode cX3_searchAllOf 22 = .ok (.iload_n 1, 1) := by decide +kernel
theorem dX3_searchAllOf_23 : decode cX3_searchAllOf 23 = .ok (.iload 4, 2) := by decide +kernel
theorem dX3_searchAllOf_25 : decode cX3_searchAllOf 25 = .ok (.invokestatic 39, 3) := by decide +kernel
theorem dX3_searchAllOf_28 : decode cX3_searchAllOf 28 = .ok (.isub, 1) := by decide +kernel
theorem dX3_searchAllOf_29 : decode cX3_searchAllOf 29 = .ok (.iload 5, 2) := by decide +kernel
theorem dX3_searchAllOf_31 : decode cX3_searchAllOf 31 = .ok (.invokestatic 39, 3) := by decide +kernel
theorem dX3_searchAllOf_34 : decode cX3_searchAllOf 34 = .ok (.isub, 1) := by decide +kernel
theorem dX3_searchAllOf_35 : decode cX3_searchAllOf 35 = .ok (.istore 6, 2) := by decide +kernel
theorem dX3_searchAllOf_37 : decode cX3_searchAllOf 37 = .ok (.iload 6, 2) := by decide +kernel
theorem dX3_searchAllOf_39 : decode cX3_searchAllOf 39 = .ok (.iconst 0, 1) := by decide +kernel
theorem dX3_searchAllOf_40 : decode cX3_searchAllOf 40 = .ok (.bipush 6, 2) := by decide +kernel
theorem dX3_searchAllOf_42 : decode cX3_searchAllOf 42 = .ok (.invokestatic 45, 3) := by decide +kernel
theorem dX3_searchAllOf_45 : decode cX3_searchAllOf 45 = .ok (.ifCond .ne 6, 3) := by decide +kernel
theorem dX3_searchAllOf_48 : decode cX3_searchAllOf 48 = .ok (.goto 33, 3) := by decide +kernel
theorem dX3_searchAllOf_51 : decode cX3_searchAllOf 51 = .ok (.aload_n 0, 1) := by decide +kernel
theorem dX3_searchAllOf_52 : decode cX3_searchAllOf 52 = .ok (.iload 4, 2) := by decide +kernel
theorem dX3_searchAllOf_54 : decode cX3_searchAllOf 54 = .ok (.iload 5, 2) := by decide +kernel
theorem dX3_searchAllOf_56 : decode cX3_searchAllOf 56 = .ok (.iload 6, 2) := by decide +kernel
theorem dX3_searchAllOf_58 : decode cX3_searchAllOf 58 = .ok (.ineg, 1) := by decide +kernel
theorem dX3_searchAllOf_59 : decode cX3_searchAllOf 59 = .ok (.aload_n 2, 1) := by decide +kernel
theorem dX3_searchAllOf_60 : decode cX3_searchAllOf 60 = .ok (.iload_n 3, 1) := by decide +kernel
theorem dX3_searchAllOf_61 : decode cX3_searchAllOf 61 = .ok (.invokevirtual 49, 3) := by decide +kernel
theorem dX3_searchAllOf_64 : decode cX3_searchAllOf 64 = .ok (.iload 6, 2) := by decide +kernel
theorem dX3_searchAllOf_66 : decode cX3_searchAllOf 66 = .ok (.ifCond .le 15, 3) := by decide +kernel
theorem dX3_searchAllOf_69 : decode cX3_searchAllOf 69 = .ok (.aload_n 0, 1) := by decide +kernel
theorem dX3_searchAllOf_70 : decode cX3_searchAllOf 70 = .ok (.iload 4, 2) := by decide +kernel
theorem dX3_searchAllOf_72 : decode cX3_searchAllOf 72 = .ok (.iload 5, 2) := by decide +kernel
theorem dX3_searchAllOf_74 : decode cX3_searchAllOf 74 = .ok (.iload 6, 2) := by decide +kernel
theorem dX3_searchAllOf_76 : decode cX3_searchAllOf 76 = .ok (.aload_n 2, 1) := by decide +kernel
theorem dX3_searchAllOf_77 : decode cX3_searchAllOf 77 = .ok (.iload_n 3, 1) := by decide +kernel
theorem dX3_searchAllOf_78 : decode cX3_searchAllOf 78 = .ok (.invokevirtual 49, 3) := by decide +kernel
theorem dX3_searchAllOf_81 : decode cX3_searchAllOf 81 = .ok (.iinc 5 1, 3) := by decide +kernel
theorem dX3_searchAllOf_84 : decode cX3_searchAllOf 84 = .ok (.goto (-69), 3) := by decide +kernel
theorem dX3_searchAllOf_87 : decode cX3_searchAllOf 87 = .ok (.iinc 4 1, 3) := by decide +kernel
theorem dX3_searchAllOf_90 : decode cX3_searchAllOf 90 = .ok (.goto (-86), 3) := by decide +kernel
theorem dX3_searchAllOf_93 : decode cX3_searchAllOf 93 = .ok (.return_, 1) := by decide +kernel
theorem dX3_tryOne_0 : decode cX3_tryOne 0 = .ok (.aload_n 0, 1) := by decide +kernel
theorem dX3_tryOne_1 : decode cX3_tryOne 1 = .ok (.getfield 18, 3) := by decide +kernel
theorem dX3_tryOne_4 : decode cX3_tryOne 4 = .ok (.iconst 0, 1) := by decide +kernel
theorem dX3_tryOne_5 : decode cX3_tryOne 5 = .ok (.iload_n 1, 1) := by decide +kernel
theorem dX3_tryOne_6 : decode cX3_tryOne 6 = .ok (.iastore, 1) := by decide +kernel
theorem dX3_tryOne_7 : decode cX3_tryOne 7 = .ok (.aload_n 0, 1) := by decide +kernel
theorem dX3_tryOne_8 : decode cX3_tryOne 8 = .ok (.getfield 18, 3) := by decide +kernel
theorem dX3_tryOne_11 : decode cX3_tryOne 11 = .ok (.iconst 1, 1) := by decide +kernel
theorem dX3_tryOne_12 : decode cX3_tryOne 12 = .ok (.iload_n 2, 1) := by decide +kernel
theorem dX3_tryOne_13 : decode cX3_tryOne 13 = .ok (.iastore, 1) := by decide +kernel
theorem dX3_tryOne_14 : decode cX3_tryOne 14 = .ok (.aload_n 0, 1) := by decide +kernel
theorem dX3_tryOne_15 : decode cX3_tryOne 15 = .ok (.getfield 18, 3) := by decide +kernel
theorem dX3_tryOne_18 : decode cX3_tryOne 18 = .ok (.iconst 2, 1) := by decide +kernel
