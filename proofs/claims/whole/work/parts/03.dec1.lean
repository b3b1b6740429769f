theorem dX3_tryOne_19 : decode cX3_tryOne 19 = .ok (.iload_n 3, 1) := by decide +kernel
theorem dX3_tryOne_20 : decode cX3_tryOne 20 = .ok (.iastore, 1) := by decide +kernel
theorem dX3_tryOne_21 : decode cX3_tryOne 21 = .ok (.iconst 0, 1) := by decide +kernel
theorem dX3_tryOne_22 : decode cX3_tryOne 22 = .ok (.istore 6, 2) := by decide +kernel
theorem dX3_tryOne_24 : decode cX3_tryOne 24 = .ok (.iload 6, 2) := by decide +kernel
theorem dX3_tryOne_26 : decode cX3_tryOne 26 = .ok (.iconst 3, 1) := by decide +kernel
theorem dX3_tryOne_27 : decode cX3_tryOne 27 = .ok (.if_icmp .ge 50, 3) := by decide +kernel
theorem dX3_tryOne_30 : decode cX3_tryOne 30 = .ok (.aload 4, 2) := by decide +kernel
theorem dX3_tryOne_32 : decode cX3_tryOne 32 = .ok (.iload 6, 2) := by decide +kernel
theorem dX3_tryOne_34 : decode cX3_tryOne 34 = .ok (.aload_n 0, 1) := by decide +kernel
theorem dX3_tryOne_35 : decode cX3_tryOne 35 = .ok (.getfield 18, 3) := by decide +kernel
theorem dX3_tryOne_38 : decode cX3_tryOne 38 = .ok (.iload 6, 2) := by decide +kernel
theorem dX3_tryOne_40 : decode cX3_tryOne 40 = .ok (.iaload, 1) := by decide +kernel
theorem dX3_tryOne_41 : decode cX3_tryOne 41 = .ok (.invokestatic 53, 3) := by decide +kernel
theorem dX3_tryOne_44 : decode cX3_tryOne 44 = .ok (.ifCond .ne 4, 3) := by decide +kernel
theorem dX3_tryOne_47 : decode cX3_tryOne 47 = .ok (.return_, 1) := by decide +kernel
theorem dX3_tryOne_48 : decode cX3_tryOne 48 = .ok (.aload_n 0, 1) := by decide +kernel
theorem dX3_tryOne_49 : decode cX3_tryOne 49 = .ok (.getfield 22, 3) := by decide +kernel
theorem dX3_tryOne_52 : decode cX3_tryOne 52 = .ok (.iload 6, 2) := by decide +kernel
theorem dX3_tryOne_54 : decode cX3_tryOne 54 = .ok (.aload 4, 2) := by decide +kernel
theorem dX3_tryOne_56 : decode cX3_tryOne 56 = .ok (.getfield 57, 3) := by decide +kernel
theorem dX3_tryOne_59 : decode cX3_tryOne 59 = .ok (.iload 6, 2) := by decide +kernel
theorem dX3_tryOne_61 : decode cX3_tryOne 61 = .ok (.iaload, 1) := by decide +kernel
theorem dX3_tryOne_62 : decode cX3_tryOne 62 = .ok (.aload_n 0, 1) := by decide +kernel
theorem dX3_tryOne_63 : decode cX3_tryOne 63 = .ok (.getfield 18, 3) := by decide +kernel
theorem dX3_tryOne_66 : decode cX3_tryOne 66 = .ok (.iload 6, 2) := by decide +kernel
theorem dX3_tryOne_68 : decode cX3_tryOne 68 = .ok (.iaload, 1) := by decide +kernel
theorem dX3_tryOne_69 : decode cX3_tryOne 69 = .ok (.iadd, 1) := by decide +kernel
theorem dX3_tryOne_70 : decode cX3_tryOne 70 = .ok (.iastore, 1) := by decide +kernel
theorem dX3_tryOne_71 : decode cX3_tryOne 71 = .ok (.iinc 6 1, 3) := by decide +kernel
theorem dX3_tryOne_74 : decode cX3_tryOne 74 = .ok (.goto (-50), 3) := by decide +kernel
theorem dX3_tryOne_77 : decode cX3_tryOne 77 = .ok (.aload_n 0, 1) := by decide +kernel
theorem dX3_tryOne_78 : decode cX3_tryOne 78 = .ok (.getfield 12, 3) := by decide +kernel
theorem dX3_tryOne_81 : decode cX3_tryOne 81 = .ok (.aload 4, 2) := by decide +kernel
theorem dX3_tryOne_83 : decode cX3_tryOne 83 = .ok (.getfield 62, 3) := by decide +kernel
theorem dX3_tryOne_86 : decode cX3_tryOne 86 = .ok (.iload 5, 2) := by decide +kernel
theorem dX3_tryOne_88 : decode cX3_tryOne 88 = .ok (.aload_n 0, 1) := by decide +kernel
theorem dX3_tryOne_89 : decode cX3_tryOne 89 = .ok (.getfield 22, 3) := by decide +kernel
theorem dX3_tryOne_92 : decode cX3_tryOne 92 = .ok (.aload 4, 2) := by decide +kernel
theorem dX3_tryOne_94 : decode cX3_tryOne 94 = .ok (.getfield 65, 3) := by decide +kernel
theorem dX3_tryOne_97 : decode cX3_tryOne 97 = .ok (.invokevirtual 68, 3) := by decide +kernel
theorem dX3_tryOne_100 : decode cX3_tryOne 100 = .ok (.aload_n 0, 1) := by decide +kernel
theorem dX3_tryOne_101 : decode cX3_tryOne 101 = .ok (.getfield 12, 3) := by decide +kernel
theorem dX3_tryOne_104 : decode cX3_tryOne 104 = .ok (.invokevirtual 72, 3) := by decide +kernel
theorem dX3_tryOne_107 : decode cX3_tryOne 107 = .ok (.iconst 2, 1) := by decide +kernel
theorem dX3_tryOne_108 : decode cX3_tryOne 108 = .ok (.if_icmp .ge 4, 3) := by decide +kernel
theorem dX3_tryOne_111 : decode cX3_tryOne 111 = .ok (.return_, 1) := by decide +kernel
theorem dX3_tryOne_112 : decode cX3_tryOne 112 = .ok (.aload_n 0, 1) := by decide +kernel
theorem dX3_tryOne_113 : decode cX3_tryOne 113 = .ok (.getfield 28, 3) := by decide +kernel
theorem dX3_tryOne_116 : decode cX3_tryOne 116 = .ok (.ifCond .ne 17, 3) := by decide +kernel
theorem dX3_tryOne_119 : decode cX3_tryOne 119 = .ok (.aload_n 0, 1) := by decide +kernel
theorem dX3_tryOne_120 : decode cX3_tryOne 120 = .ok (.getfield 18, 3) := by decide +kernel
theorem dX3_tryOne_123 : decode cX3_tryOne 123 = .ok (.iconst 0, 1) := by decide +kernel
theorem dX3_tryOne_124 : decode cX3_tryOne 124 = .ok (.aload_n 0, 1) := by decide +kernel
theorem dX3_tryOne_125 : decode cX3_tryOne 125 = .ok (.getfield 25, 3) := by decide +kernel
theorem dX3_tryOne_128 : decode cX3_tryOne 128 = .ok (.iconst 0, 1) := by decide +kernel
theorem dX3_tryOne_129 : decode cX3_tryOne 129 = .ok (.iconst 3, 1) := by decide +kernel
theorem dX3_tryOne_130 : decode cX3_tryOne 130 = .ok (.invokestatic 76, 3) := by decide +kernel
theorem dX3_tryOne_133 : decode cX3_tryOne 133 = .ok (.aload_n 0, 1) := by decide +kernel
theorem dX3_tryOne_134 : decode cX3_tryOne 134 = .ok (.dup, 1) := by decide +kernel
theorem dX3_tryOne_135 : decode cX3_tryOne 135 = .ok (.getfield 28, 3) := by decide +kernel
theorem dX3_tryOne_138 : decode cX3_tryOne 138 = .ok (.iconst 1, 1) := by decide +kernel
theorem dX3_tryOne_139 : decode cX3_tryOne 139 = .ok (.iadd, 1) := by decide +kernel
theorem dX3_tryOne_140 : decode cX3_tryOne 140 = .ok (.putfield 28, 3) := by decide +kernel
theorem dX3_tryOne_143 : decode cX3_tryOne 143 = .ok (.return_, 1) := by decide +kernel
theorem dX3_mayMove_0 : decode cX3_mayMove 0 = .ok (.aload_n 0, 1) := by decide +kernel
theorem dX3_mayMove_1 : decode cX3_mayMove 1 = .ok (.getfield 65, 3) := by decide +kernel
theorem dX3_mayMove_4 : decode cX3_mayMove 4 = .ok (.iload_n 1, 1) := by decide +kernel
theorem dX3_mayMove_5 : decode cX3_mayMove 5 = .ok (.iaload, 1) := by decide +kernel
theorem dX3_mayMove_6 : decode cX3_mayMove 6 = .ok (.ifCond .ne 13, 3) := by decide +kernel
theorem dX3_mayMove_9 : decode cX3_mayMove 9 = .ok (.iload_n 2, 1) := by decide +kernel
theorem dX3_mayMove_10 : decode cX3_mayMove 10 = .ok (.ifCond .ne 7, 3) := by decide +kernel
theorem dX3_mayMove_13 : decode cX3_mayMove 13 = .ok (.iconst 1, 1) := by decide +kernel
theorem dX3_mayMove_14 : decode cX3_mayMove 14 = .ok (.goto 4, 3) := by decide +kernel
theorem dX3_mayMove_17 : decode cX3_mayMove 17 = .ok (.iconst 0, 1) := by decide +kernel
theorem dX3_mayMove_18 : decode cX3_mayMove 18 = .ok (.ireturn, 1) := by decide +kernel
theorem dX3_mayMove_19 : decode cX3_mayMove 19 = .ok (.aload_n 0, 1) := by decide +kernel
theorem dX3_mayMove_20 : decode cX3_mayMove 20 = .ok (.getfield 57, 3) := by decide +kernel
theorem dX3_mayMove_23 : decode cX3_mayMove 23 = .ok (.iload_n 1, 1) := by decide +kernel
theorem dX3_mayMove_24 : decode cX3_mayMove 24 = .ok (.iaload, 1) := by decide +kernel
theorem dX3_mayMove_25 : decode cX3_mayMove 25 = .ok (.iload_n 2, 1) := by decide +kernel
theorem dX3_mayMove_26 : decode cX3_mayMove 26 = .ok (.iadd, 1) := by decide +kernel
theorem dX3_mayMove_27 : decode cX3_mayMove 27 = .ok (.istore_n 3, 1) := by decide +kernel
theorem dX3_mayMove_28 : decode cX3_mayMove 28 = .ok (.iload_n 3, 1) := by decide +kernel
theorem dX3_mayMove_29 : decode cX3_mayMove 29 = .ok (.ifCond .lt 22, 3) := by decide +kernel
theorem dX3_mayMove_32 : decode cX3_mayMove 32 = .ok (.iload_n 3, 1) := by decide +kernel
theorem dX3_mayMove_33 : decode cX3_mayMove 33 = .ok (.aload_n 0, 1) := by decide +kernel
theorem dX3_mayMove_34 : decode cX3_mayMove 34 = .ok (.getfield 65, 3) := by decide +kernel
theorem dX3_mayMove_37 : decode cX3_mayMove 37 = .ok (.iload_n 1, 1) := by decide +kernel
theorem dX3_mayMove_38 : decode cX3_mayMove 38 = .ok (.iaload, 1) := by decide +kernel
theorem dX3_mayMove_39 : decode cX3_mayMove 39 = .ok (.iadd, 1) := by decide +kernel
theorem dX3_mayMove_40 : decode cX3_mayMove 40 = .ok (.aload_n 0, 1) := by decide +kernel
theorem dX3_mayMove_41 : decode cX3_mayMove 41 = .ok (.getfield 62, 3) := by decide +kernel
theorem dX3_mayMove_44 : decode cX3_mayMove 44 = .ok (.if_icmp .gt 7, 3) := by decide +kernel
theorem dX3_mayMove_47 : decode cX3_mayMove 47 = .ok (.iconst 1, 1) := by decide +kernel
theorem dX3_mayMove_48 : decode cX3_mayMove 48 = .ok (.goto 4, 3) := by decide +kernel
theorem dX3_mayMove_51 : decode cX3_mayMove 51 = .ok (.iconst 0, 1) := by decide +kernel
theorem dX3_mayMove_52 : decode cX3_mayMove 52 = .ok (.ireturn, 1) := by decide +kernel
theorem dX4_init_0 : decode cX4_init 0 = .ok (.aload_n 0, 1) := by decide +kernel
theorem dX4_init_1 : decode cX4_init 1 = .ok (.invokespecial 3, 3) := by decide +kernel
theorem dX4_init_4 : decode cX4_init 4 = .ok (.aload_n 0, 1) := by decide +kernel
theorem dX4_init_5 : decode cX4_init 5 = .ok (.iconst 0, 1) := by decide +kernel
theorem dX4_init_6 : decode cX4_init 6 = .ok (.iload_n 1, 1) := by decide +kernel
theorem dX4_init_7 : decode cX4_init 7 = .ok (.invokestatic 9, 3) := by decide +kernel
theorem dX4_init_10 : decode cX4_init 10 = .ok (.putfield 15, 3) := by decide +kernel
theorem dX4_init_13 : decode cX4_init 13 = .ok (.aload_n 0, 1) := by decide +kernel
theorem dX4_init_14 : decode cX4_init 14 = .ok (.aload_n 0, 1) := by decide +kernel
theorem dX4_init_15 : decode cX4_init 15 = .ok (.getfield 15, 3) := by decide +kernel
theorem dX4_init_18 : decode cX4_init 18 = .ok (.iconst 4, 1) := by decide +kernel
theorem dX4_init_19 : decode cX4_init 19 = .ok (.imul, 1) := by decide +kernel
theorem dX4_init_20 : decode cX4_init 20 = .ok (.newarray .int, 2) := by decide +kernel
theorem dX4_init_22 : decode cX4_init 22 = .ok (.putfield 21, 3) := by decide +kernel
theorem dX4_init_25 : decode cX4_init 25 = .ok (.return_, 1) := by decide +kernel
theorem dX4_isFull_0 : decode cX4_isFull 0 = .ok (.aload_n 0, 1) := by decide +kernel
theorem dX4_isFull_1 : decode cX4_isFull 1 = .ok (.getfield 25, 3) := by decide +kernel
theorem dX4_isFull_4 : decode cX4_isFull 4 = .ok (.aload_n 0, 1) := by decide +kernel
theorem dX4_isFull_5 : decode cX4_isFull 5 = .ok (.getfield 15, 3) := by decide +kernel
theorem dX4_isFull_8 : decode cX4_isFull 8 = .ok (.if_icmp .lt 7, 3) := by decide +kernel
theorem dX4_isFull_11 : decode cX4_isFull 11 = .ok (.iconst 1, 1) := by decide +kernel
theorem dX4_isFull_12 : decode cX4_isFull 12 = .ok (.goto 4, 3) := by decide +kernel
theorem dX4_isFull_15 : decode cX4_isFull 15 = .ok (.iconst 0, 1) := by decide +kernel
theorem dX4_isFull_16 : decode cX4_isFull 16 = .ok (.ireturn, 1) := by decide +kernel
theorem dX4_add_0 : decode cX4_add 0 = .ok (.aload_n 0, 1) := by decide +kernel
theorem dX4_add_1 : decode cX4_add 1 = .ok (.invokevirtual 28, 3) := by decide +kernel
theorem dX4_add_4 : decode cX4_add 4 = .ok (.ifCond .eq 4, 3) := by decide +kernel
theorem dX4_add_7 : decode cX4_add 7 = .ok (.return_, 1) := by decide +kernel
theorem dX4_add_8 : decode cX4_add 8 = .ok (.aload_n 0, 1) := by decide +kernel
theorem dX4_add_9 : decode cX4_add 9 = .ok (.getfield 25, 3) := by decide +kernel
theorem dX4_add_12 : decode cX4_add 12 = .ok (.iconst 4, 1) := by decide +kernel
theorem dX4_add_13 : decode cX4_add 13 = .ok (.imul, 1) := by decide +kernel
theorem dX4_add_14 : decode cX4_add 14 = .ok (.istore 5, 2) := by decide +kernel
theorem dX4_add_16 : decode cX4_add 16 = .ok (.aload_n 0, 1) := by decide +kernel
theorem dX4_add_17 : decode cX4_add 17 = .ok (.getfield 21, 3) := by decide +kernel
theorem dX4_add_20 : decode cX4_add 20 = .ok (.iload 5, 2) := by decide +kernel
theorem dX4_add_22 : decode cX4_add 22 = .ok (.iload_n 1, 1) := by decide +kernel
theorem dX4_add_23 : decode cX4_add 23 = .ok (.iastore, 1) := by decide +kernel
theorem dX4_add_24 : decode cX4_add 24 = .ok (.aload_n 0, 1) := by decide +kernel
theorem dX4_add_25 : decode cX4_add 25 = .ok (.getfield 21, 3) := by decide +kernel
theorem dX4_add_28 : decode cX4_add 28 = .ok (.iload 5, 2) := by decide +kernel
theorem dX4_add_30 : decode cX4_add 30 = .ok (.iconst 1, 1) := by decide +kernel
theorem dX4_add_31 : decode cX4_add 31 = .ok (.iadd, 1) := by decide +kernel
theorem dX4_add_32 : decode cX4_add 32 = .ok (.iload_n 2, 1) := by decide +kernel
theorem dX4_add_33 : decode cX4_add 33 = .ok (.iastore, 1) := by decide +kernel
theorem dX4_add_34 : decode cX4_add 34 = .ok (.aload_n 0, 1) := by decide +kernel
theorem dX4_add_35 : decode cX4_add 35 = .ok (.getfield 21, 3) := by decide +kernel
theorem dX4_add_38 : decode cX4_add 38 = .ok (.iload 5, 2) := by decide +kernel
theorem dX4_add_40 : decode cX4_add 40 = .ok (.iconst 2, 1) := by decide +kernel
theorem dX4_add_41 : decode cX4_add 41 = .ok (.iadd, 1) := by decide +kernel
theorem dX4_add_42 : decode cX4_add 42 = .ok (.iload_n 3, 1) := by decide +kernel
theorem dX4_add_43 : decode cX4_add 43 = .ok (.iastore, 1) := by decide +kernel
theorem dX4_add_44 : decode cX4_add 44 = .ok (.aload_n 0, 1) := by decide +kernel
theorem dX4_add_45 : decode cX4_add 45 = .ok (.getfield 21, 3) := by decide +kernel
theorem dX4_add_48 : decode cX4_add 48 = .ok (.iload 5, 2) := by decide +kernel
theorem dX4_add_50 : decode cX4_add 50 = .ok (.iconst 3, 1) := by decide +kernel
theorem dX4_add_51 : decode cX4_add 51 = .ok (.iadd, 1) := by decide +kernel
theorem dX4_add_52 : decode cX4_add 52 = .ok (.iload 4, 2) := by decide +kernel
theorem dX4_add_54 : decode cX4_add 54 = .ok (.iastore, 1) := by decide +kernel
theorem dX4_add_55 : decode cX4_add 55 = .ok (.aload_n 0, 1) := by decide +kernel
theorem dX4_add_56 : decode cX4_add 56 = .ok (.dup, 1) := by decide +kernel
theorem dX4_add_57 : decode cX4_add 57 = .ok (.getfield 25, 3) := by decide +kernel
theorem dX4_add_60 : decode cX4_add 60 = .ok (.iconst 1, 1) := by decide +kernel
theorem dX4_add_61 : decode cX4_add 61 = .ok (.iadd, 1) := by decide +kernel
theorem dX4_add_62 : decode cX4_add 62 = .ok (.putfield 25, 3) := by decide +kernel
theorem dX4_add_65 : decode cX4_add 65 = .ok (.return_, 1) := by decide +kernel
theorem dX4_addAll_0 : decode cX4_addAll 0 = .ok (.iconst 0, 1) := by decide +kernel
theorem dX4_addAll_1 : decode cX4_addAll 1 = .ok (.istore_n 2, 1) := by decide +kernel
theorem dX4_addAll_2 : decode cX4_addAll 2 = .ok (.iload_n 2, 1) := by decide +kernel
theorem dX4_addAll_3 : decode cX4_addAll 3 = .ok (.aload_n 1, 1) := by decide +kernel
theorem dX4_addAll_4 : decode cX4_addAll 4 = .ok (.getfield 25, 3) := by decide +kernel
theorem dX4_addAll_7 : decode cX4_addAll 7 = .ok (.if_icmp .ge 47, 3) := by decide +kernel
theorem dX4_addAll_10 : decode cX4_addAll 10 = .ok (.iload_n 2, 1) := by decide +kernel
theorem dX4_addAll_11 : decode cX4_addAll 11 = .ok (.iconst 4, 1) := by decide +kernel
theorem dX4_addAll_12 : decode cX4_addAll 12 = .ok (.imul, 1) := by decide +kernel
theorem dX4_addAll_13 : decode cX4_addAll 13 = .ok (.istore_n 3, 1) := by decide +kernel
theorem dX4_addAll_14 : decode cX4_addAll 14 = .ok (.aload_n 0, 1) := by decide +kernel
theorem dX4_addAll_15 : decode cX4_addAll 15 = .ok (.aload_n 1, 1) := by decide +kernel
theorem dX4_addAll_16 : decode cX4_addAll 16 = .ok (.getfield 21, 3) := by decide +kernel
theorem dX4_addAll_19 : decode cX4_addAll 19 = .ok (.iload_n 3, 1) := by decide +kernel
theorem dX4_addAll_20 : decode cX4_addAll 20 = .ok (.iaload, 1) := by decide +kernel
theorem dX4_addAll_21 : decode cX4_addAll 21 = .ok (.aload_n 1, 1) := by decide +kernel
theorem dX4_addAll_22 : decode cX4_addAll 22 = .ok (.getfield 21, 3) := by decide +kernel
theorem dX4_addAll_25 : decode cX4_addAll 25 = .ok (.iload_n 3, 1) := by decide +kernel
theorem dX4_addAll_26 : decode cX4_addAll 26 = .ok (.iconst 1, 1) := by decide +kernel
theorem dX4_addAll_27 : decode cX4_addAll 27 = .ok (.iadd, 1) := by decide +kernel
theorem dX4_addAll_28 : decode cX4_addAll 28 = .ok (.iaload, 1) := by decide +kernel
theorem dX4_addAll_29 : decode cX4_addAll 29 = .ok (.aload_n 1, 1) := by decide +kernel
theorem dX4_addAll_30 : decode cX4_addAll 30 = .ok (.getfield 21, 3) := by decide +kernel
theorem dX4_addAll_33 : decode cX4_addAll 33 = .ok (.iload_n 3, 1) := by decide +kernel
theorem dX4_addAll_34 : decode cX4_addAll 34 = .ok (.iconst 2, 1) := by decide +kernel
theorem dX4_addAll_35 : decode cX4_addAll 35 = .ok (.iadd, 1) := by decide +kernel
theorem dX4_addAll_36 : decode cX4_addAll 36 = .ok (.iaload, 1) := by decide +kernel
theorem dX4_addAll_37 : decode cX4_addAll 37 = .ok (.aload_n 1, 1) := by decide +kernel
theorem dX4_addAll_38 : decode cX4_addAll 38 = .ok (.getfield 21, 3) := by decide +kernel
theorem dX4_addAll_41 : decode cX4_addAll 41 = .ok (.iload_n 3, 1) := by decide +kernel
theorem dX4_addAll_42 : decode cX4_addAll 42 = .ok (.iconst 3, 1) := by decide +kernel
theorem dX4_addAll_43 : decode cX4_addAll 43 = .ok (.iadd, 1) := by decide +kernel
theorem dX4_addAll_44 : decode cX4_addAll 44 = .ok (.iaload, 1) := by decide +kernel
theorem dX4_addAll_45 : decode cX4_addAll 45 = .ok (.invokevirtual 32, 3) := by decide +kernel
theorem dX4_addAll_48 : decode cX4_addAll 48 = .ok (.iinc 2 1, 3) := by decide +kernel
theorem dX4_addAll_51 : decode cX4_addAll 51 = .ok (.goto (-49), 3) := by decide +kernel
theorem dX4_addAll_54 : decode cX4_addAll 54 = .ok (.return_, 1) := by decide +kernel
theorem dX4_cellOr_0 : decode cX4_cellOr 0 = .ok (.iload_n 2, 1) := by decide +kernel
theorem dX4_cellOr_1 : decode cX4_cellOr 1 = .ok (.iconst 0, 1) := by decide +kernel
theorem dX4_cellOr_2 : decode cX4_cellOr 2 = .ok (.aload_n 0, 1) := by decide +kernel
theorem dX4_cellOr_3 : decode cX4_cellOr 3 = .ok (.getfield 25, 3) := by decide +kernel
theorem dX4_cellOr_6 : decode cX4_cellOr 6 = .ok (.iconst 1, 1) := by decide +kernel
theorem dX4_cellOr_7 : decode cX4_cellOr 7 = .ok (.isub, 1) := by decide +kernel
theorem dX4_cellOr_8 : decode cX4_cellOr 8 = .ok (.invokestatic 36, 3) := by decide +kernel
theorem dX4_cellOr_11 : decode cX4_cellOr 11 = .ok (.ifCond .eq 12, 3) := by decide +kernel
theorem dX4_cellOr_14 : decode cX4_cellOr 14 = .ok (.iload_n 3, 1) := by decide +kernel
theorem dX4_cellOr_15 : decode cX4_cellOr 15 = .ok (.iconst 0, 1) := by decide +kernel
theorem dX4_cellOr_16 : decode cX4_cellOr 16 = .ok (.iconst 3, 1) := by decide +kernel
theorem dX4_cellOr_17 : decode cX4_cellOr 17 = .ok (.invokestatic 36, 3) := by decide +kernel
theorem dX4_cellOr_20 : decode cX4_cellOr 20 = .ok (.ifCond .ne 5, 3) := by decide +kernel
theorem dX4_cellOr_23 : decode cX4_cellOr 23 = .ok (.iload_n 1, 1) := by decide +kernel
theorem dX4_cellOr_24 : decode cX4_cellOr 24 = .ok (.ireturn, 1) := by decide +kernel
theorem dX4_cellOr_25 : decode cX4_cellOr 25 = .ok (.aload_n 0, 1) := by decide +kernel
theorem dX4_cellOr_26 : decode cX4_cellOr 26 = .ok (.getfield 21, 3) := by decide +kernel
theorem dX4_cellOr_29 : decode cX4_cellOr 29 = .ok (.iload_n 2, 1) := by decide +kernel
theorem dX4_cellOr_30 : decode cX4_cellOr 30 = .ok (.iconst 4, 1) := by decide +kernel
theorem dX4_cellOr_31 : decode cX4_cellOr 31 = .ok (.imul, 1) := by decide +kernel
theorem dX4_cellOr_32 : decode cX4_cellOr 32 = .ok (.iload_n 3, 1) := by decide +kernel
theorem dX4_cellOr_33 : decode cX4_cellOr 33 = .ok (.iadd, 1) := by decide +kernel
theorem dX4_cellOr_34 : decode cX4_cellOr 34 = .ok (.iaload, 1) := by decide +kernel
theorem dX4_cellOr_35 : decode cX4_cellOr 35 = .ok (.ireturn, 1) := by decide +kernel
theorem dX4_moveRow_0 : decode cX4_moveRow 0 = .ok (.iload_n 1, 1) := by decide +kernel
theorem dX4_moveRow_1 : decode cX4_moveRow 1 = .ok (.iconst 0, 1) := by decide +kernel
theorem dX4_moveRow_2 : decode cX4_moveRow 2 = .ok (.aload_n 0, 1) := by decide +kernel
theorem dX4_moveRow_3 : decode cX4_moveRow 3 = .ok (.getfield 25, 3) := by decide +kernel
theorem dX4_moveRow_6 : decode cX4_moveRow 6 = .ok (.iconst 1, 1) := by decide +kernel
theorem dX4_moveRow_7 : decode cX4_moveRow 7 = .ok (.isub, 1) := by decide +kernel
theorem dX4_moveRow_8 : decode cX4_moveRow 8 = .ok (.invokestatic 36, 3) := by decide +kernel
theorem dX4_moveRow_11 : decode cX4_moveRow 11 = .ok (.ifCond .eq 35, 3) := by decide +kernel
theorem dX4_moveRow_14 : decode cX4_moveRow 14 = .ok (.iload_n 2, 1) := by decide +kernel
theorem dX4_moveRow_15 : decode cX4_moveRow 15 = .ok (.iconst 0, 1) := by decide +kernel
theorem dX4_moveRow_16 : decode cX4_moveRow 16 = .ok (.aload_n 0, 1) := by decide +kernel
theorem dX4_moveRow_17 : decode cX4_moveRow 17 = .ok (.getfield 25, 3) := by decide +kernel
theorem dX4_moveRow_20 : decode cX4_moveRow 20 = .ok (.iconst 1, 1) := by decide +kernel
theorem dX4_moveRow_21 : decode cX4_moveRow 21 = .ok (.isub, 1) := by decide +kernel
theorem dX4_moveRow_22 : decode cX4_moveRow 22 = .ok (.invokestatic 36, 3) := by decide +kernel
theorem dX4_moveRow_25 : decode cX4_moveRow 25 = .ok (.ifCond .eq 21, 3) := by decide +kernel
theorem dX4_moveRow_28 : decode cX4_moveRow 28 = .ok (.aload_n 0, 1) := by decide +kernel
theorem dX4_moveRow_29 : decode cX4_moveRow 29 = .ok (.getfield 21, 3) := by decide +kernel
theorem dX4_moveRow_32 : decode cX4_moveRow 32 = .ok (.iload_n 1, 1) := by decide +kernel
theorem dX4_moveRow_33 : decode cX4_moveRow 33 = .ok (.iconst 4, 1) := by decide +kernel
theorem dX4_moveRow_34 : decode cX4_moveRow 34 = .ok (.imul, 1) := by decide +kernel
theorem dX4_moveRow_35 : decode cX4_moveRow 35 = .ok (.aload_n 0, 1) := by decide +kernel
theorem dX4_moveRow_36 : decode cX4_moveRow 36 = .ok (.getfield 21, 3) := by decide +kernel
theorem dX4_moveRow_39 : decode cX4_moveRow 39 = .ok (.iload_n 2, 1) := by decide +kernel
theorem dX4_moveRow_40 : decode cX4_moveRow 40 = .ok (.iconst 4, 1) := by decide +kernel
theorem dX4_moveRow_41 : decode cX4_moveRow 41 = .ok (.imul, 1) := by decide +kernel
theorem dX4_moveRow_42 : decode cX4_moveRow 42 = .ok (.iconst 4, 1) := by decide +kernel
theorem dX4_moveRow_43 : decode cX4_moveRow 43 = .ok (.invokestatic 40, 3) := by decide +kernel
theorem dX4_moveRow_46 : decode cX4_moveRow 46 = .ok (.return_, 1) := by decide +kernel
theorem dX4_cutTo_0 : decode cX4_cutTo 0 = .ok (.aload_n 0, 1) := by decide +kernel
theorem dX4_cutTo_1 : decode cX4_cutTo 1 = .ok (.iload_n 1, 1) := by decide +kernel
theorem dX4_cutTo_2 : decode cX4_cutTo 2 = .ok (.iconst 0, 1) := by decide +kernel
theorem dX4_cutTo_3 : decode cX4_cutTo 3 = .ok (.aload_n 0, 1) := by decide +kernel
theorem dX4_cutTo_4 : decode cX4_cutTo 4 = .ok (.getfield 25, 3) := by decide +kernel
theorem dX4_cutTo_7 : decode cX4_cutTo 7 = .ok (.invokestatic 46, 3) := by decide +kernel
theorem dX4_cutTo_10 : decode cX4_cutTo 10 = .ok (.putfield 25, 3) := by decide +kernel
theorem dX4_cutTo_13 : decode cX4_cutTo 13 = .ok (.return_, 1) := by decide +kernel
theorem dX4_dropFirst_0 : decode cX4_dropFirst 0 = .ok (.iconst 1, 1) := by decide +kernel
theorem dX4_dropFirst_1 : decode cX4_dropFirst 1 = .ok (.istore_n 1, 1) := by decide +kernel
theorem dX4_dropFirst_2 : decode cX4_dropFirst 2 = .ok (.iload_n 1, 1) := by decide +kernel
theorem dX4_dropFirst_3 : decode cX4_dropFirst 3 = .ok (.aload_n 0, 1) := by decide +kernel
theorem dX4_dropFirst_4 : decode cX4_dropFirst 4 = .ok (.getfield 25, 3) := by decide +kernel
theorem dX4_dropFirst_7 : decode cX4_dropFirst 7 = .ok (.if_icmp .ge 17, 3) := by decide +kernel
theorem dX4_dropFirst_10 : decode cX4_dropFirst 10 = .ok (.aload_n 0, 1) := by decide +kernel
theorem dX4_dropFirst_11 : decode cX4_dropFirst 11 = .ok (.iload_n 1, 1) := by decide +kernel
theorem dX4_dropFirst_12 : decode cX4_dropFirst 12 = .ok (.iload_n 1, 1) := by decide +kernel
theorem dX4_dropFirst_13 : decode cX4_dropFirst 13 = .ok (.iconst 1, 1) := by decide +kernel
theorem dX4_dropFirst_14 : decode cX4_dropFirst 14 = .ok (.isub, 1) := by decide +kernel
theorem dX4_dropFirst_15 : decode cX4_dropFirst 15 = .ok (.invokevirtual 50, 3) := by decide +kernel
theorem dX4_dropFirst_18 : decode cX4_dropFirst 18 = .ok (.iinc 1 1, 3) := by decide +kernel
theorem dX4_dropFirst_21 : decode cX4_dropFirst 21 = .ok (.goto (-19), 3) := by decide +kernel
theorem dX4_dropFirst_24 : decode cX4_dropFirst 24 = .ok (.aload_n 0, 1) := by decide +kernel
theorem dX4_dropFirst_25 : decode cX4_dropFirst 25 = .ok (.aload_n 0, 1) := by decide +kernel
theorem dX4_dropFirst_26 : decode cX4_dropFirst 26 = .ok (.getfield 25, 3) := by decide +kernel
theorem dX4_dropFirst_29 : decode cX4_dropFirst 29 = .ok (.iconst 1, 1) := by decide +kernel
theorem dX4_dropFirst_30 : decode cX4_dropFirst 30 = .ok (.isub, 1) := by decide +kernel
theorem dX4_dropFirst_31 : decode cX4_dropFirst 31 = .ok (.invokevirtual 54, 3) := by decide +kernel
theorem dX4_dropFirst_34 : decode cX4_dropFirst 34 = .ok (.return_, 1) := by decide +kernel
theorem dX4_greatestOr_0 : decode cX4_greatestOr 0 = .ok (.aload_n 0, 1) := by decide +kernel
theorem dX4_greatestOr_1 : decode cX4_greatestOr 1 = .ok (.iload_n 1, 1) := by decide +kernel
theorem dX4_greatestOr_2 : decode cX4_greatestOr 2 = .ok (.iconst 0, 1) := by decide +kernel
theorem dX4_greatestOr_3 : decode cX4_greatestOr 3 = .ok (.iload_n 2, 1) := by decide +kernel
theorem dX4_greatestOr_4 : decode cX4_greatestOr 4 = .ok (.invokevirtual 58, 3) := by decide +kernel
theorem dX4_greatestOr_7 : decode cX4_greatestOr 7 = .ok (.istore_n 3, 1) := by decide +kernel
theorem dX4_greatestOr_8 : decode cX4_greatestOr 8 = .ok (.iconst 1, 1) := by decide +kernel
theorem dX4_greatestOr_9 : decode cX4_greatestOr 9 = .ok (.istore 4, 2) := by decide +kernel
theorem dX4_greatestOr_11 : decode cX4_greatestOr 11 = .ok (.iload 4, 2) := by decide +kernel
theorem dX4_greatestOr_13 : decode cX4_greatestOr 13 = .ok (.aload_n 0, 1) := by decide +kernel
theorem dX4_greatestOr_14 : decode cX4_greatestOr 14 = .ok (.getfield 25, 3) := by decide +kernel
theorem dX4_greatestOr_17 : decode cX4_greatestOr 17 = .ok (.if_icmp .ge 22, 3) := by decide +kernel
theorem dX4_greatestOr_20 : decode cX4_greatestOr 20 = .ok (.iload_n 3, 1) := by decide +kernel
theorem dX4_greatestOr_21 : decode cX4_greatestOr 21 = .ok (.aload_n 0, 1) := by decide +kernel
theorem dX4_greatestOr_22 : decode cX4_greatestOr 22 = .ok (.iload_n 1, 1) := by decide +kernel
theorem dX4_greatestOr_23 : decode cX4_greatestOr 23 = .ok (.iload 4, 2) := by decide +kernel
theorem dX4_greatestOr_25 : decode cX4_greatestOr 25 = .ok (.iload_n 2, 1) := by decide +kernel
theorem dX4_greatestOr_26 : decode cX4_greatestOr 26 = .ok (.invokevirtual 58, 3) := by decide +kernel
theorem dX4_greatestOr_29 : decode cX4_greatestOr 29 = .ok (.invokestatic 9, 3) := by decide +kernel
theorem dX4_greatestOr_32 : decode cX4_greatestOr 32 = .ok (.istore_n 3, 1) := by decide +kernel
theorem dX4_greatestOr_33 : decode cX4_greatestOr 33 = .ok (.iinc 4 1, 3) := by decide +kernel
theorem dX4_greatestOr_36 : decode cX4_greatestOr 36 = .ok (.goto (-25), 3) := by decide +kernel
theorem dX4_greatestOr_39 : decode cX4_greatestOr 39 = .ok (.iload_n 3, 1) := by decide +kernel
theorem dX4_greatestOr_40 : decode cX4_greatestOr 40 = .ok (.ireturn, 1) := by decide +kernel
theorem dX4_leastOr_0 : decode cX4_leastOr 0 = .ok (.aload_n 0, 1) := by decide +kernel
theorem dX4_leastOr_1 : decode cX4_leastOr 1 = .ok (.iload_n 1, 1) := by decide +kernel
theorem dX4_leastOr_2 : decode cX4_leastOr 2 = .ok (.iconst 0, 1) := by decide +kernel
theorem dX4_leastOr_3 : decode cX4_leastOr 3 = .ok (.iload_n 2, 1) := by decide +kernel
theorem dX4_leastOr_4 : decode cX4_leastOr 4 = .ok (.invokevirtual 58, 3) := by decide +kernel
theorem dX4_leastOr_7 : decode cX4_leastOr 7 = .ok (.istore_n 3, 1) := by decide +kernel
theorem dX4_leastOr_8 : decode cX4_leastOr 8 = .ok (.iconst 1, 1) := by decide +kernel
theorem dX4_leastOr_9 : decode cX4_leastOr 9 = .ok (.istore 4, 2) := by decide +kernel
theorem dX4_leastOr_11 : decode cX4_leastOr 11 = .ok (.iload 4, 2) := by decide +kernel
theorem dX4_leastOr_13 : decode cX4_leastOr 13 = .ok (.aload_n 0, 1) := by decide +kernel
theorem dX4_leastOr_14 : decode cX4_leastOr 14 = .ok (.getfield 25, 3) := by decide +kernel
theorem dX4_leastOr_17 : decode cX4_leastOr 17 = .ok (.if_icmp .ge 22, 3) := by decide +kernel
theorem dX4_leastOr_20 : decode cX4_leastOr 20 = .ok (.iload_n 3, 1) := by decide +kernel
theorem dX4_leastOr_21 : decode cX4_leastOr 21 = .ok (.aload_n 0, 1) := by decide +kernel
theorem dX4_leastOr_22 : decode cX4_leastOr 22 = .ok (.iload_n 1, 1) := by decide +kernel
theorem dX4_leastOr_23 : decode cX4_leastOr 23 = .ok (.iload 4, 2) := by decide +kernel
theorem dX4_leastOr_25 : decode cX4_leastOr 25 = .ok (.iload_n 2, 1) := by decide +kernel
theorem dX4_leastOr_26 : decode cX4_leastOr 26 = .ok (.invokevirtual 58, 3) := by decide +kernel
theorem dX4_leastOr_29 : decode cX4_leastOr 29 = .ok (.invokestatic 61, 3) := by decide +kernel
theorem dX4_leastOr_32 : decode cX4_leastOr 32 = .ok (.istore_n 3, 1) := by decide +kernel
theorem dX4_leastOr_33 : decode cX4_leastOr 33 = .ok (.iinc 4 1, 3) := by decide +kernel
theorem dX4_leastOr_36 : decode cX4_leastOr 36 = .ok (.goto (-25), 3) := by decide +kernel
theorem dX4_leastOr_39 : decode cX4_leastOr 39 = .ok (.iload_n 3, 1) := by decide +kernel
theorem dX4_leastOr_40 : decode cX4_leastOr 40 = .ok (.ireturn, 1) := by decide +kernel
theorem dX4_totalOr_0 : decode cX4_totalOr 0 = .ok (.aload_n 0, 1) := by decide +kernel
theorem dX4_totalOr_1 : decode cX4_totalOr 1 = .ok (.iload_n 1, 1) := by decide +kernel
theorem dX4_totalOr_2 : decode cX4_totalOr 2 = .ok (.iconst 0, 1) := by decide +kernel
theorem dX4_totalOr_3 : decode cX4_totalOr 3 = .ok (.iload_n 2, 1) := by decide +kernel
theorem dX4_totalOr_4 : decode cX4_totalOr 4 = .ok (.invokevirtual 58, 3) := by decide +kernel
theorem dX4_totalOr_7 : decode cX4_totalOr 7 = .ok (.istore_n 3, 1) := by decide +kernel
theorem dX4_totalOr_8 : decode cX4_totalOr 8 = .ok (.iconst 1, 1) := by decide +kernel
theorem dX4_totalOr_9 : decode cX4_totalOr 9 = .ok (.istore 4, 2) := by decide +kernel
theorem dX4_totalOr_11 : decode cX4_totalOr 11 = .ok (.iload 4, 2) := by decide +kernel
theorem dX4_totalOr_13 : decode cX4_totalOr 13 = .ok (.aload_n 0, 1) := by decide +kernel
theorem dX4_totalOr_14 : decode cX4_totalOr 14 = .ok (.getfield 25, 3) := by decide +kernel
theorem dX4_totalOr_17 : decode cX4_totalOr 17 = .ok (.if_icmp .ge 20, 3) := by decide +kernel
theorem dX4_totalOr_20 : decode cX4_totalOr 20 = .ok (.iload_n 3, 1) := by decide +kernel
theorem dX4_totalOr_21 : decode cX4_totalOr 21 = .ok (.aload_n 0, 1) := by decide +kernel
theorem dX4_totalOr_22 : decode cX4_totalOr 22 = .ok (.iload_n 1, 1) := by decide +kernel
theorem dX4_totalOr_23 : decode cX4_totalOr 23 = .ok (.iload 4, 2) := by decide +kernel
theorem dX4_totalOr_25 : decode cX4_totalOr 25 = .ok (.iload_n 2, 1) := by decide +kernel
theorem dX4_totalOr_26 : decode cX4_totalOr 26 = .ok (.invokevirtual 58, 3) := by decide +kernel
theorem dX4_totalOr_29 : decode cX4_totalOr 29 = .ok (.iadd, 1) := by decide +kernel
theorem dX4_totalOr_30 : decode cX4_totalOr 30 = .ok (.istore_n 3, 1) := by decide +kernel
theorem dX4_totalOr_31 : decode cX4_totalOr 31 = .ok (.iinc 4 1, 3) := by decide +kernel
theorem dX4_totalOr_34 : decode cX4_totalOr 34 = .ok (.goto (-23), 3) := by decide +kernel
theorem dX4_totalOr_37 : decode cX4_totalOr 37 = .ok (.iload_n 3, 1) := by decide +kernel
theorem dX4_totalOr_38 : decode cX4_totalOr 38 = .ok (.ireturn, 1) := by decide +kernel
theorem dX5_init_0 : decode cX5_init 0 = .ok (.aload_n 0, 1) := by decide +kernel
theorem dX5_init_1 : decode cX5_init 1 = .ok (.invokespecial 3, 3) := by decide +kernel
theorem dX5_init_4 : decode cX5_init 4 = .ok (.aload_n 0, 1) := by decide +kernel
theorem dX5_init_5 : decode cX5_init 5 = .ok (.bipush 120, 2) := by decide +kernel
theorem dX5_init_7 : decode cX5_init 7 = .ok (.newarray .int, 2) := by decide +kernel
theorem dX5_init_9 : decode cX5_init 9 = .ok (.putfield 9, 3) := by decide +kernel
theorem dX5_init_12 : decode cX5_init 12 = .ok (.aload_n 0, 1) := by decide +kernel
theorem dX5_init_13 : decode cX5_init 13 = .ok (.new 15, 3) := by decide +kernel
theorem dX5_init_16 : decode cX5_init 16 = .ok (.dup, 1) := by decide +kernel
theorem dX5_init_17 : decode cX5_init 17 = .ok (.bipush 12, 2) := by decide +kernel
theorem dX5_init_19 : decode cX5_init 19 = .ok (.invokespecial 17, 3) := by decide +kernel
theorem dX5_init_22 : decode cX5_init 22 = .ok (.putfield 20, 3) := by decide +kernel
theorem dX5_init_25 : decode cX5_init 25 = .ok (.return_, 1) := by decide +kernel
theorem dX5_append_0 : decode cX5_append 0 = .ok (.aload_n 0, 1) := by decide +kernel
theorem dX5_append_1 : decode cX5_append 1 = .ok (.getfield 24, 3) := by decide +kernel
theorem dX5_append_4 : decode cX5_append 4 = .ok (.bipush 120, 2) := by decide +kernel
theorem dX5_append_6 : decode cX5_append 6 = .ok (.if_icmp .ge 23, 3) := by decide +kernel
theorem dX5_append_9 : decode cX5_append 9 = .ok (.aload_n 0, 1) := by decide +kernel
theorem dX5_append_10 : decode cX5_append 10 = .ok (.getfield 9, 3) := by decide +kernel
theorem dX5_append_13 : decode cX5_append 13 = .ok (.aload_n 0, 1) := by decide +kernel
theorem dX5_append_14 : decode cX5_append 14 = .ok (.getfield 24, 3) := by decide +kernel
theorem dX5_append_17 : decode cX5_append 17 = .ok (.iload_n 1, 1) := by decide +kernel
theorem dX5_append_18 : decode cX5_append 18 = .ok (.iastore, 1) := by decide +kernel
theorem dX5_append_19 : decode cX5_append 19 = .ok (.aload_n 0, 1) := by decide +kernel
theorem dX5_append_20 : decode cX5_append 20 = .ok (.dup, 1) := by decide +kernel
theorem dX5_append_21 : decode cX5_append 21 = .ok (.getfield 24, 3) := by decide +kernel
theorem dX5_append_24 : decode cX5_append 24 = .ok (.iconst 1, 1) := by decide +kernel
theorem dX5_append_25 : decode cX5_append 25 = .ok (.iadd, 1) := by decide +kernel
theorem dX5_append_26 : decode cX5_append 26 = .ok (.putfield 24, 3) := by decide +kernel
theorem dX5_append_29 : decode cX5_append 29 = .ok (.return_, 1) := by decide +kernel
theorem dX5_faultOfWishes_0 : decode cX5_faultOfWishes 0 = .ok (.aload_n 0, 1) := by decide +kernel
theorem dX5_faultOfWishes_1 : decode cX5_faultOfWishes 1 = .ok (.getfield 20, 3) := by decide +kernel
theorem dX5_faultOfWishes_4 : decode cX5_faultOfWishes 4 = .ok (.iconst 0, 1) := by decide +kernel
theorem dX5_faultOfWishes_5 : decode cX5_faultOfWishes 5 = .ok (.invokevirtual 28, 3) := by decide +kernel
theorem dX5_faultOfWishes_8 : decode cX5_faultOfWishes 8 = .ok (.aload_n 0, 1) := by decide +kernel
theorem dX5_faultOfWishes_9 : decode cX5_faultOfWishes 9 = .ok (.iconst 0, 1) := by decide +kernel
theorem dX5_faultOfWishes_10 : decode cX5_faultOfWishes 10 = .ok (.putfield 31, 3) := by decide +kernel
theorem dX5_faultOfWishes_13 : decode cX5_faultOfWishes 13 = .ok (.aload_n 0, 1) := by decide +kernel
theorem dX5_faultOfWishes_14 : decode cX5_faultOfWishes 14 = .ok (.iconst (-1), 1) := by decide +kernel
theorem dX5_faultOfWishes_15 : decode cX5_faultOfWishes 15 = .ok (.putfield 34, 3) := by decide +kernel
theorem dX5_faultOfWishes_18 : decode cX5_faultOfWishes 18 = .ok (.aload_n 0, 1) := by decide +kernel
theorem dX5_faultOfWishes_19 : decode cX5_faultOfWishes 19 = .ok (.invokevirtual 37, 3) := by decide +kernel
theorem dX5_faultOfWishes_22 : decode cX5_faultOfWishes 22 = .ok (.aload_n 0, 1) := by decide +kernel
theorem dX5_faultOfWishes_23 : decode cX5_faultOfWishes 23 = .ok (.getfield 31, 3) := by decide +kernel
theorem dX5_faultOfWishes_26 : decode cX5_faultOfWishes 26 = .ok (.aload_n 0, 1) := by decide +kernel
theorem dX5_faultOfWishes_27 : decode cX5_faultOfWishes 27 = .ok (.getfield 24, 3) := by decide +kernel
theorem dX5_faultOfWishes_30 : decode cX5_faultOfWishes 30 = .ok (.if_icmp .lt 8, 3) := by decide +kernel
theorem dX5_faultOfWishes_33 : decode cX5_faultOfWishes 33 = .ok (.aload_n 0, 1) := by decide +kernel
theorem dX5_faultOfWishes_34 : decode cX5_faultOfWishes 34 = .ok (.getfield 24, 3) := by decide +kernel
theorem dX5_faultOfWishes_37 : decode cX5_faultOfWishes 37 = .ok (.ireturn, 1) := by decide +kernel
theorem dX5_faultOfWishes_38 : decode cX5_faultOfWishes 38 = .ok (.iconst 0, 1) := by decide +kernel
theorem dX5_faultOfWishes_39 : decode cX5_faultOfWishes 39 = .ok (.istore_n 3, 1) := by decide +kernel
theorem dX5_faultOfWishes_40 : decode cX5_faultOfWishes 40 = .ok (.iload_n 3, 1) := by decide +kernel
theorem dX5_faultOfWishes_41 : decode cX5_faultOfWishes 41 = .ok (.bipush 12, 2) := by decide +kernel
theorem dX5_faultOfWishes_43 : decode cX5_faultOfWishes 43 = .ok (.if_icmp .gt 38, 3) := by decide +kernel
theorem dX5_faultOfWishes_46 : decode cX5_faultOfWishes 46 = .ok (.aload_n 0, 1) := by decide +kernel
theorem dX5_faultOfWishes_47 : decode cX5_faultOfWishes 47 = .ok (.getfield 31, 3) := by decide +kernel
theorem dX5_faultOfWishes_50 : decode cX5_faultOfWishes 50 = .ok (.aload_n 0, 1) := by decide +kernel
theorem dX5_faultOfWishes_51 : decode cX5_faultOfWishes 51 = .ok (.getfield 24, 3) := by decide +kernel
theorem dX5_faultOfWishes_54 : decode cX5_faultOfWishes 54 = .ok (.if_icmp .ge 27, 3) := by decide +kernel
theorem dX5_faultOfWishes_57 : decode cX5_faultOfWishes 57 = .ok (.aload_n 0, 1) := by decide +kernel
theorem dX5_faultOfWishes_58 : decode cX5_faultOfWishes 58 = .ok (.getfield 34, 3) := by decide +kernel
theorem dX5_faultOfWishes_61 : decode cX5_faultOfWishes 61 = .ok (.iconst (-1), 1) := by decide +kernel
theorem dX5_faultOfWishes_62 : decode cX5_faultOfWishes 62 = .ok (.if_icmp .ne 19, 3) := by decide +kernel
theorem dX5_faultOfWishes_65 : decode cX5_faultOfWishes 65 = .ok (.aload_n 0, 1) := by decide +kernel
theorem dX5_faultOfWishes_66 : decode cX5_faultOfWishes 66 = .ok (.iload_n 1, 1) := by decide +kernel
theorem dX5_faultOfWishes_67 : decode cX5_faultOfWishes 67 = .ok (.iload_n 2, 1) := by decide +kernel
theorem dX5_faultOfWishes_68 : decode cX5_faultOfWishes 68 = .ok (.invokevirtual 40, 3) := by decide +kernel
theorem dX5_faultOfWishes_71 : decode cX5_faultOfWishes 71 = .ok (.aload_n 0, 1) := by decide +kernel
theorem dX5_faultOfWishes_72 : decode cX5_faultOfWishes 72 = .ok (.invokevirtual 37, 3) := by decide +kernel
theorem dX5_faultOfWishes_75 : decode cX5_faultOfWishes 75 = .ok (.iinc 3 1, 3) := by decide +kernel
theorem dX5_faultOfWishes_78 : decode cX5_faultOfWishes 78 = .ok (.goto (-38), 3) := by decide +kernel
theorem dX5_faultOfWishes_81 : decode cX5_faultOfWishes 81 = .ok (.aload_n 0, 1) := by decide +kernel
theorem dX5_faultOfWishes_82 : decode cX5_faultOfWishes 82 = .ok (.getfield 34, 3) := by decide +kernel
theorem dX5_faultOfWishes_85 : decode cX5_faultOfWishes 85 = .ok (.ireturn, 1) := by decide +kernel
theorem dX5_readWish_0 : decode cX5_readWish 0 = .ok (.aload_n 0, 1) := by decide +kernel
theorem dX5_readWish_1 : decode cX5_readWish 1 = .ok (.invokevirtual 44, 3) := by decide +kernel
theorem dX5_readWish_4 : decode cX5_readWish 4 = .ok (.bipush 117, 2) := by decide +kernel
theorem dX5_readWish_6 : decode cX5_readWish 6 = .ok (.isub, 1) := by decide +kernel
theorem dX5_readWish_7 : decode cX5_readWish 7 = .ok (.istore_n 3, 1) := by decide +kernel
theorem dX5_readWish_8 : decode cX5_readWish 8 = .ok (.iload_n 3, 1) := by decide +kernel
theorem dX5_readWish_9 : decode cX5_readWish 9 = .ok (.invokestatic 48, 3) := by decide +kernel
theorem dX5_readWish_12 : decode cX5_readWish 12 = .ok (.ifCond .eq 14, 3) := by decide +kernel
theorem dX5_readWish_15 : decode cX5_readWish 15 = .ok (.aload_n 0, 1) := by decide +kernel
theorem dX5_readWish_16 : decode cX5_readWish 16 = .ok (.getfield 20, 3) := by decide +kernel
theorem dX5_readWish_19 : decode cX5_readWish 19 = .ok (.getfield 52, 3) := by decide +kernel
theorem dX5_readWish_22 : decode cX5_readWish 22 = .ok (.iload_n 1, 1) := by decide +kernel
theorem dX5_readWish_23 : decode cX5_readWish 23 = .ok (.if_icmp .lt 12, 3) := by decide +kernel
theorem dX5_readWish_26 : decode cX5_readWish 26 = .ok (.aload_n 0, 1) := by decide +kernel
theorem dX5_readWish_27 : decode cX5_readWish 27 = .ok (.aload_n 0, 1) := by decide +kernel
theorem dX5_readWish_28 : decode cX5_readWish 28 = .ok (.getfield 31, 3) := by decide +kernel
theorem dX5_readWish_31 : decode cX5_readWish 31 = .ok (.invokevirtual 55, 3) := by decide +kernel
theorem dX5_readWish_34 : decode cX5_readWish 34 = .ok (.return_, 1) := by decide +kernel
theorem dX5_readWish_35 : decode cX5_readWish 35 = .ok (.aload_n 0, 1) := by decide +kernel
theorem dX5_readWish_36 : decode cX5_readWish 36 = .ok (.dup, 1) := by decide +kernel
theorem dX5_readWish_37 : decode cX5_readWish 37 = .ok (.getfield 31, 3) := by decide +kernel
theorem dX5_readWish_40 : decode cX5_readWish 40 = .ok (.iconst 1, 1) := by decide +kernel
theorem dX5_readWish_41 : decode cX5_readWish 41 = .ok (.iadd, 1) := by decide +kernel
theorem dX5_readWish_42 : decode cX5_readWish 42 = .ok (.putfield 31, 3) := by decide +kernel
theorem dX5_readWish_45 : decode cX5_readWish 45 = .ok (.aload_n 0, 1) := by decide +kernel
theorem dX5_readWish_46 : decode cX5_readWish 46 = .ok (.invokevirtual 58, 3) := by decide +kernel
theorem dX5_readWish_49 : decode cX5_readWish 49 = .ok (.istore 4, 2) := by decide +kernel
theorem dX5_readWish_51 : decode cX5_readWish 51 = .ok (.aload_n 0, 1) := by decide +kernel
theorem dX5_readWish_52 : decode cX5_readWish 52 = .ok (.getfield 34, 3) := by decide +kernel
theorem dX5_readWish_55 : decode cX5_readWish 55 = .ok (.iconst (-1), 1) := by decide +kernel
theorem dX5_readWish_56 : decode cX5_readWish 56 = .ok (.if_icmp .ne 11, 3) := by decide +kernel
theorem dX5_readWish_59 : decode cX5_readWish 59 = .ok (.aload_n 0, 1) := by decide +kernel
theorem dX5_readWish_60 : decode cX5_readWish 60 = .ok (.iload_n 2, 1) := by decide +kernel
theorem dX5_readWish_61 : decode cX5_readWish 61 = .ok (.invokevirtual 61, 3) := by decide +kernel
theorem dX5_readWish_64 : decode cX5_readWish 64 = .ok (.goto 4, 3) := by decide +kernel
theorem dX5_readWish_67 : decode cX5_readWish 67 = .ok (.iconst 0, 1) := by decide +kernel
theorem dX5_readWish_68 : decode cX5_readWish 68 = .ok (.istore 5, 2) := by decide +kernel
theorem dX5_readWish_70 : decode cX5_readWish 70 = .ok (.aload_n 0, 1) := by decide +kernel
theorem dX5_readWish_71 : decode cX5_readWish 71 = .ok (.getfield 34, 3) := by decide +kernel
theorem dX5_readWish_74 : decode cX5_readWish 74 = .ok (.iconst (-1), 1) := by decide +kernel
theorem dX5_readWish_75 : decode cX5_readWish 75 = .ok (.if_icmp .ne 23, 3) := by decide +kernel
theorem dX5_readWish_78 : decode cX5_readWish 78 = .ok (.aload_n 0, 1) := by decide +kernel
theorem dX5_readWish_79 : decode cX5_readWish 79 = .ok (.invokevirtual 65, 3) := by decide +kernel
theorem dX5_readWish_82 : decode cX5_readWish 82 = .ok (.ifCond .eq 16, 3) := by decide +kernel
theorem dX5_readWish_85 : decode cX5_readWish 85 = .ok (.aload_n 0, 1) := by decide +kernel
theorem dX5_readWish_86 : decode cX5_readWish 86 = .ok (.getfield 20, 3) := by decide +kernel
theorem dX5_readWish_89 : decode cX5_readWish 89 = .ok (.iload_n 3, 1) := by decide +kernel
theorem dX5_readWish_90 : decode cX5_readWish 90 = .ok (.iload 5, 2) := by decide +kernel
theorem dX5_readWish_92 : decode cX5_readWish 92 = .ok (.iload 4, 2) := by decide +kernel
theorem dX5_readWish_94 : decode cX5_readWish 94 = .ok (.iconst 0, 1) := by decide +kernel
theorem dX5_readWish_95 : decode cX5_readWish 95 = .ok (.invokevirtual 69, 3) := by decide +kernel
theorem dX5_readWish_98 : decode cX5_readWish 98 = .ok (.return_, 1) := by decide +kernel
theorem dX5_readEnd_0 : decode cX5_readEnd 0 = .ok (.aload_n 0, 1) := by decide +kernel
theorem dX5_readEnd_1 : decode cX5_readEnd 1 = .ok (.invokevirtual 37, 3) := by decide +kernel
theorem dX5_readEnd_4 : decode cX5_readEnd 4 = .ok (.aload_n 0, 1) := by decide +kernel
theorem dX5_readEnd_5 : decode cX5_readEnd 5 = .ok (.invokevirtual 44, 3) := by decide +kernel
theorem dX5_readEnd_8 : decode cX5_readEnd 8 = .ok (.bipush 59, 2) := by decide +kernel
theorem dX5_readEnd_10 : decode cX5_readEnd 10 = .ok (.if_icmp .eq 13, 3) := by decide +kernel
theorem dX5_readEnd_13 : decode cX5_readEnd 13 = .ok (.aload_n 0, 1) := by decide +kernel
theorem dX5_readEnd_14 : decode cX5_readEnd 14 = .ok (.aload_n 0, 1) := by decide +kernel
theorem dX5_readEnd_15 : decode cX5_readEnd 15 = .ok (.getfield 31, 3) := by decide +kernel
theorem dX5_readEnd_18 : decode cX5_readEnd 18 = .ok (.invokevirtual 55, 3) := by decide +kernel
theorem dX5_readEnd_21 : decode cX5_readEnd 21 = .ok (.iconst 0, 1) := by decide +kernel
theorem dX5_readEnd_22 : decode cX5_readEnd 22 = .ok (.ireturn, 1) := by decide +kernel
theorem dX5_readEnd_23 : decode cX5_readEnd 23 = .ok (.aload_n 0, 1) := by decide +kernel
theorem dX5_readEnd_24 : decode cX5_readEnd 24 = .ok (.dup, 1) := by decide +kernel
theorem dX5_readEnd_25 : decode cX5_readEnd 25 = .ok (.getfield 31, 3) := by decide +kernel
theorem dX5_readEnd_28 : decode cX5_readEnd 28 = .ok (.iconst 1, 1) := by decide +kernel
theorem dX5_readEnd_29 : decode cX5_readEnd 29 = .ok (.iadd, 1) := by decide +kernel
theorem dX5_readEnd_30 : decode cX5_readEnd 30 = .ok (.putfield 31, 3) := by decide +kernel
theorem dX5_readEnd_33 : decode cX5_readEnd 33 = .ok (.iconst 1, 1) := by decide +kernel
theorem dX5_readEnd_34 : decode cX5_readEnd 34 = .ok (.ireturn, 1) := by decide +kernel
theorem dX5_readWant_0 : decode cX5_readWant 0 = .ok (.aload_n 0, 1) := by decide +kernel
theorem dX5_readWant_1 : decode cX5_readWant 1 = .ok (.invokevirtual 37, 3) := by decide +kernel
theorem dX5_readWant_4 : decode cX5_readWant 4 = .ok (.aload_n 0, 1) := by decide +kernel
theorem dX5_readWant_5 : decode cX5_readWant 5 = .ok (.invokevirtual 44, 3) := by decide +kernel
theorem dX5_readWant_8 : decode cX5_readWant 8 = .ok (.istore_n 1, 1) := by decide +kernel
theorem dX5_readWant_9 : decode cX5_readWant 9 = .ok (.iload_n 1, 1) := by decide +kernel
theorem dX5_readWant_10 : decode cX5_readWant 10 = .ok (.bipush 43, 2) := by decide +kernel
theorem dX5_readWant_12 : decode cX5_readWant 12 = .ok (.if_icmp .eq 11, 3) := by decide +kernel
theorem dX5_readWant_15 : decode cX5_readWant 15 = .ok (.iload_n 1, 1) := by decide +kernel
theorem dX5_readWant_16 : decode cX5_readWant 16 = .ok (.bipush 45, 2) := by decide +kernel
theorem dX5_readWant_18 : decode cX5_readWant 18 = .ok (.if_icmp .eq 5, 3) := by decide +kernel
theorem dX5_readWant_21 : decode cX5_readWant 21 = .ok (.iconst 0, 1) := by decide +kernel
theorem dX5_readWant_22 : decode cX5_readWant 22 = .ok (.ireturn, 1) := by decide +kernel
theorem dX5_readWant_23 : decode cX5_readWant 23 = .ok (.aload_n 0, 1) := by decide +kernel
theorem dX5_readWant_24 : decode cX5_readWant 24 = .ok (.dup, 1) := by decide +kernel
theorem dX5_readWant_25 : decode cX5_readWant 25 = .ok (.getfield 31, 3) := by decide +kernel
theorem dX5_readWant_28 : decode cX5_readWant 28 = .ok (.iconst 1, 1) := by decide +kernel
theorem dX5_readWant_29 : decode cX5_readWant 29 = .ok (.iadd, 1) := by decide +kernel
theorem dX5_readWant_30 : decode cX5_readWant 30 = .ok (.putfield 31, 3) := by decide +kernel
theorem dX5_readWant_33 : decode cX5_readWant 33 = .ok (.aload_n 0, 1) := by decide +kernel
theorem dX5_readWant_34 : decode cX5_readWant 34 = .ok (.sipush 500, 3) := by decide +kernel
theorem dX5_readWant_37 : decode cX5_readWant 37 = .ok (.invokevirtual 73, 3) := by decide +kernel
theorem dX5_readWant_40 : decode cX5_readWant 40 = .ok (.istore_n 2, 1) := by decide +kernel
theorem dX5_readWant_41 : decode cX5_readWant 41 = .ok (.iload_n 1, 1) := by decide +kernel
theorem dX5_readWant_42 : decode cX5_readWant 42 = .ok (.bipush 45, 2) := by decide +kernel
theorem dX5_readWant_44 : decode cX5_readWant 44 = .ok (.if_icmp .ne 8, 3) := by decide +kernel
theorem dX5_readWant_47 : decode cX5_readWant 47 = .ok (.iload_n 2, 1) := by decide +kernel
theorem dX5_readWant_48 : decode cX5_readWant 48 = .ok (.ineg, 1) := by decide +kernel
theorem dX5_readWant_49 : decode cX5_readWant 49 = .ok (.goto 4, 3) := by decide +kernel
theorem dX5_readWant_52 : decode cX5_readWant 52 = .ok (.iload_n 2, 1) := by decide +kernel
theorem dX5_readWant_53 : decode cX5_readWant 53 = .ok (.ireturn, 1) := by decide +kernel
theorem dX5_readPeriod_0 : decode cX5_readPeriod 0 = .ok (.aload_n 0, 1) := by decide +kernel
theorem dX5_readPeriod_1 : decode cX5_readPeriod 1 = .ok (.invokevirtual 37, 3) := by decide +kernel
theorem dX5_readPeriod_4 : decode cX5_readPeriod 4 = .ok (.aload_n 0, 1) := by decide +kernel
theorem dX5_readPeriod_5 : decode cX5_readPeriod 5 = .ok (.invokevirtual 44, 3) := by decide +kernel
theorem dX5_readPeriod_8 : decode cX5_readPeriod 8 = .ok (.bipush 64, 2) := by decide +kernel
theorem dX5_readPeriod_10 : decode cX5_readPeriod 10 = .ok (.if_icmp .eq 5, 3) := by decide +kernel
theorem dX5_readPeriod_13 : decode cX5_readPeriod 13 = .ok (.iload_n 1, 1) := by decide +kernel
theorem dX5_readPeriod_14 : decode cX5_readPeriod 14 = .ok (.ireturn, 1) := by decide +kernel
theorem dX5_readPeriod_15 : decode cX5_readPeriod 15 = .ok (.aload_n 0, 1) := by decide +kernel
theorem dX5_readPeriod_16 : decode cX5_readPeriod 16 = .ok (.dup, 1) := by decide +kernel
theorem dX5_readPeriod_17 : decode cX5_readPeriod 17 = .ok (.getfield 31, 3) := by decide +kernel
theorem dX5_readPeriod_20 : decode cX5_readPeriod 20 = .ok (.iconst 1, 1) := by decide +kernel
theorem dX5_readPeriod_21 : decode cX5_readPeriod 21 = .ok (.iadd, 1) := by decide +kernel
theorem dX5_readPeriod_22 : decode cX5_readPeriod 22 = .ok (.putfield 31, 3) := by decide +kernel
theorem dX5_readPeriod_25 : decode cX5_readPeriod 25 = .ok (.aload_n 0, 1) := by decide +kernel
theorem dX5_readPeriod_26 : decode cX5_readPeriod 26 = .ok (.sipush 999, 3) := by decide +kernel
theorem dX5_readPeriod_29 : decode cX5_readPeriod 29 = .ok (.invokevirtual 73, 3) := by decide +kernel
theorem dX5_readPeriod_32 : decode cX5_readPeriod 32 = .ok (.ireturn, 1) := by decide +kernel
theorem dX5_readNumber_0 : decode cX5_readNumber 0 = .ok (.aload_n 0, 1) := by decide +kernel
theorem dX5_readNumber_1 : decode cX5_readNumber 1 = .ok (.invokevirtual 37, 3) := by decide +kernel
theorem dX5_readNumber_4 : decode cX5_readNumber 4 = .ok (.aload_n 0, 1) := by decide +kernel
theorem dX5_readNumber_5 : decode cX5_readNumber 5 = .ok (.getfield 31, 3) := by decide +kernel
theorem dX5_readNumber_8 : decode cX5_readNumber 8 = .ok (.istore_n 2, 1) := by decide +kernel
theorem dX5_readNumber_9 : decode cX5_readNumber 9 = .ok (.iconst 0, 1) := by decide +kernel
theorem dX5_readNumber_10 : decode cX5_readNumber 10 = .ok (.istore_n 3, 1) := by decide +kernel
theorem dX5_readNumber_11 : decode cX5_readNumber 11 = .ok (.aload_n 0, 1) := by decide +kernel
theorem dX5_readNumber_12 : decode cX5_readNumber 12 = .ok (.getfield 31, 3) := by decide +kernel
theorem dX5_readNumber_15 : decode cX5_readNumber 15 = .ok (.aload_n 0, 1) := by decide +kernel
theorem dX5_readNumber_16 : decode cX5_readNumber 16 = .ok (.getfield 24, 3) := by decide +kernel
theorem dX5_readNumber_19 : decode cX5_readNumber 19 = .ok (.if_icmp .ge 53, 3) := by decide +kernel
theorem dX5_readNumber_22 : decode cX5_readNumber 22 = .ok (.aload_n 0, 1) := by decide +kernel
theorem dX5_readNumber_23 : decode cX5_readNumber 23 = .ok (.invokevirtual 44, 3) := by decide +kernel
theorem dX5_readNumber_26 : decode cX5_readNumber 26 = .ok (.bipush 48, 2) := by decide +kernel
theorem dX5_readNumber_28 : decode cX5_readNumber 28 = .ok (.bipush 57, 2) := by decide +kernel
theorem dX5_readNumber_30 : decode cX5_readNumber 30 = .ok (.invokestatic 76, 3) := by decide +kernel
theorem dX5_readNumber_33 : decode cX5_readNumber 33 = .ok (.ifCond .eq 39, 3) := by decide +kernel
theorem dX5_readNumber_36 : decode cX5_readNumber 36 = .ok (.aload_n 0, 1) := by decide +kernel
theorem dX5_readNumber_37 : decode cX5_readNumber 37 = .ok (.getfield 31, 3) := by decide +kernel
theorem dX5_readNumber_40 : decode cX5_readNumber 40 = .ok (.iload_n 2, 1) := by decide +kernel
theorem dX5_readNumber_41 : decode cX5_readNumber 41 = .ok (.isub, 1) := by decide +kernel
theorem dX5_readNumber_42 : decode cX5_readNumber 42 = .ok (.iconst 3, 1) := by decide +kernel
theorem dX5_readNumber_43 : decode cX5_readNumber 43 = .ok (.if_icmp .ge 16, 3) := by decide +kernel
theorem dX5_readNumber_46 : decode cX5_readNumber 46 = .ok (.iload_n 3, 1) := by decide +kernel
theorem dX5_readNumber_47 : decode cX5_readNumber 47 = .ok (.bipush 10, 2) := by decide +kernel
theorem dX5_readNumber_49 : decode cX5_readNumber 49 = .ok (.imul, 1) := by decide +kernel
theorem dX5_readNumber_50 : decode cX5_readNumber 50 = .ok (.aload_n 0, 1) := by decide +kernel
theorem dX5_readNumber_51 : decode cX5_readNumber 51 = .ok (.invokevirtual 44, 3) := by decide +kernel
theorem dX5_readNumber_54 : decode cX5_readNumber 54 = .ok (.iadd, 1) := by decide +kernel
theorem dX5_readNumber_55 : decode cX5_readNumber 55 = .ok (.bipush 48, 2) := by decide +kernel
theorem dX5_readNumber_57 : decode cX5_readNumber 57 = .ok (.isub, 1) := by decide +kernel
theorem dX5_readNumber_58 : decode cX5_readNumber 58 = .ok (.istore_n 3, 1) := by decide +kernel
theorem dX5_readNumber_59 : decode cX5_readNumber 59 = .ok (.aload_n 0, 1) := by decide +kernel
theorem dX5_readNumber_60 : decode cX5_readNumber 60 = .ok (.dup, 1) := by decide +kernel
theorem dX5_readNumber_61 : decode cX5_readNumber 61 = .ok (.getfield 31, 3) := by decide +kernel
theorem dX5_readNumber_64 : decode cX5_readNumber 64 = .ok (.iconst 1, 1) := by decide +kernel
theorem dX5_readNumber_65 : decode cX5_readNumber 65 = .ok (.iadd, 1) := by decide +kernel
theorem dX5_readNumber_66 : decode cX5_readNumber 66 = .ok (.putfield 31, 3) := by decide +kernel
theorem dX5_readNumber_69 : decode cX5_readNumber 69 = .ok (.goto (-58), 3) := by decide +kernel
theorem dX5_readNumber_72 : decode cX5_readNumber 72 = .ok (.aload_n 0, 1) := by decide +kernel
theorem dX5_readNumber_73 : decode cX5_readNumber 73 = .ok (.getfield 31, 3) := by decide +kernel
theorem dX5_readNumber_76 : decode cX5_readNumber 76 = .ok (.iload_n 2, 1) := by decide +kernel
theorem dX5_readNumber_77 : decode cX5_readNumber 77 = .ok (.isub, 1) := by decide +kernel
theorem dX5_readNumber_78 : decode cX5_readNumber 78 = .ok (.istore 4, 2) := by decide +kernel
theorem dX5_readNumber_80 : decode cX5_readNumber 80 = .ok (.iload 4, 2) := by decide +kernel
theorem dX5_readNumber_82 : decode cX5_readNumber 82 = .ok (.ifCond .eq 14, 3) := by decide +kernel
theorem dX5_readNumber_85 : decode cX5_readNumber 85 = .ok (.iload 4, 2) := by decide +kernel
theorem dX5_readNumber_87 : decode cX5_readNumber 87 = .ok (.iconst 3, 1) := by decide +kernel
theorem dX5_readNumber_88 : decode cX5_readNumber 88 = .ok (.if_icmp .gt 8, 3) := by decide +kernel
theorem dX5_readNumber_91 : decode cX5_readNumber 91 = .ok (.iload_n 3, 1) := by decide +kernel
theorem dX5_readNumber_92 : decode cX5_readNumber 92 = .ok (.iload_n 1, 1) := by decide +kernel
theorem dX5_readNumber_93 : decode cX5_readNumber 93 = .ok (.if_icmp .le 10, 3) := by decide +kernel
theorem dX5_readNumber_96 : decode cX5_readNumber 96 = .ok (.aload_n 0, 1) := by decide +kernel
theorem dX5_readNumber_97 : decode cX5_readNumber 97 = .ok (.iload_n 2, 1) := by decide +kernel
theorem dX5_readNumber_98 : decode cX5_readNumber 98 = .ok (.invokevirtual 55, 3) := by decide +kernel
theorem dX5_readNumber_101 : decode cX5_readNumber 101 = .ok (.iconst 0, 1) := by decide +kernel
theorem dX5_readNumber_102 : decode cX5_readNumber 102 = .ok (.ireturn, 1) := by decide +kernel
theorem dX5_readNumber_103 : decode cX5_readNumber 103 = .ok (.iload_n 3, 1) := by decide +kernel
theorem dX5_readNumber_104 : decode cX5_readNumber 104 = .ok (.ireturn, 1) := by decide +kernel
theorem dX5_skipBlanks_0 : decode cX5_skipBlanks 0 = .ok (.aload_n 0, 1) := by decide +kernel
theorem dX5_skipBlanks_1 : decode cX5_skipBlanks 1 = .ok (.getfield 31, 3) := by decide +kernel
theorem dX5_skipBlanks_4 : decode cX5_skipBlanks 4 = .ok (.aload_n 0, 1) := by decide +kernel
theorem dX5_skipBlanks_5 : decode cX5_skipBlanks 5 = .ok (.getfield 24, 3) := by decide +kernel
theorem dX5_skipBlanks_8 : decode cX5_skipBlanks 8 = .ok (.if_icmp .ge 25, 3) := by decide +kernel
theorem dX5_skipBlanks_11 : decode cX5_skipBlanks 11 = .ok (.aload_n 0, 1) := by decide +kernel
theorem dX5_skipBlanks_12 : decode cX5_skipBlanks 12 = .ok (.invokevirtual 44, 3) := by decide +kernel
theorem dX5_skipBlanks_15 : decode cX5_skipBlanks 15 = .ok (.bipush 32, 2) := by decide +kernel
theorem dX5_skipBlanks_17 : decode cX5_skipBlanks 17 = .ok (.if_icmp .ne 16, 3) := by decide +kernel
theorem dX5_skipBlanks_20 : decode cX5_skipBlanks 20 = .ok (.aload_n 0, 1) := by decide +kernel
theorem dX5_skipBlanks_21 : decode cX5_skipBlanks 21 = .ok (.dup, 1) := by decide +kernel
theorem dX5_skipBlanks_22 : decode cX5_skipBlanks 22 = .ok (.getfield 31, 3) := by decide +kernel
theorem dX5_skipBlanks_25 : decode cX5_skipBlanks 25 = .ok (.iconst 1, 1) := by decide +kernel
theorem dX5_skipBlanks_26 : decode cX5_skipBlanks 26 = .ok (.iadd, 1) := by decide +kernel
theorem dX5_skipBlanks_27 : decode cX5_skipBlanks 27 = .ok (.putfield 31, 3) := by decide +kernel
theorem dX5_skipBlanks_30 : decode cX5_skipBlanks 30 = .ok (.goto (-30), 3) := by decide +kernel
theorem dX5_skipBlanks_33 : decode cX5_skipBlanks 33 = .ok (.return_, 1) := by decide +kernel
theorem dX5_byteHere_0 : decode cX5_byteHere 0 = .ok (.aload_n 0, 1) := by decide +kernel
theorem dX5_byteHere_1 : decode cX5_byteHere 1 = .ok (.getfield 31, 3) := by decide +kernel
theorem dX5_byteHere_4 : decode cX5_byteHere 4 = .ok (.ifCond .lt 35, 3) := by decide +kernel
theorem dX5_byteHere_7 : decode cX5_byteHere 7 = .ok (.aload_n 0, 1) := by decide +kernel
theorem dX5_byteHere_8 : decode cX5_byteHere 8 = .ok (.getfield 31, 3) := by decide +kernel
theorem dX5_byteHere_11 : decode cX5_byteHere 11 = .ok (.aload_n 0, 1) := by decide +kernel
theorem dX5_byteHere_12 : decode cX5_byteHere 12 = .ok (.getfield 24, 3) := by decide +kernel
theorem dX5_byteHere_15 : decode cX5_byteHere 15 = .ok (.if_icmp .ge 24, 3) := by decide +kernel
theorem dX5_byteHere_18 : decode cX5_byteHere 18 = .ok (.aload_n 0, 1) := by decide +kernel
theorem dX5_byteHere_19 : decode cX5_byteHere 19 = .ok (.getfield 31, 3) := by decide +kernel
theorem dX5_byteHere_22 : decode cX5_byteHere 22 = .ok (.bipush 120, 2) := by decide +kernel
theorem dX5_byteHere_24 : decode cX5_byteHere 24 = .ok (.if_icmp .ge 15, 3) := by decide +kernel
theorem dX5_byteHere_27 : decode cX5_byteHere 27 = .ok (.aload_n 0, 1) := by decide +kernel
theorem dX5_byteHere_28 : decode cX5_byteHere 28 = .ok (.getfield 9, 3) := by decide +kernel
theorem dX5_byteHere_31 : decode cX5_byteHere 31 = .ok (.aload_n 0, 1) := by decide +kernel
theorem dX5_byteHere_32 : decode cX5_byteHere 32 = .ok (.getfield 31, 3) := by decide +kernel
theorem dX5_byteHere_35 : decode cX5_byteHere 35 = .ok (.iaload, 1) := by decide +kernel
theorem dX5_byteHere_36 : decode cX5_byteHere 36 = .ok (.goto 4, 3) := by decide +kernel
theorem dX5_byteHere_39 : decode cX5_byteHere 39 = .ok (.iconst (-1), 1) := by decide +kernel
theorem dX5_byteHere_40 : decode cX5_byteHere 40 = .ok (.ireturn, 1) := by decide +kernel
theorem dX5_failAt_0 : decode cX5_failAt 0 = .ok (.aload_n 0, 1) := by decide +kernel
theorem dX5_failAt_1 : decode cX5_failAt 1 = .ok (.iload_n 1, 1) := by decide +kernel
theorem dX5_failAt_2 : decode cX5_failAt 2 = .ok (.putfield 34, 3) := by decide +kernel
theorem dX5_failAt_5 : decode cX5_failAt 5 = .ok (.return_, 1) := by decide +kernel
theorem dX6_init_0 : decode cX6_init 0 = .ok (.aload_n 0, 1) := by decide +kernel
theorem dX6_init_1 : decode cX6_init 1 = .ok (.invokespecial 1, 3) := by decide +kernel
theorem dX6_init_4 : decode cX6_init 4 = .ok (.aload_n 0, 1) := by decide +kernel
theorem dX6_init_5 : decode cX6_init 5 = .ok (.new 7, 3) := by decide +kernel
theorem dX6_init_8 : decode cX6_init 8 = .ok (.dup, 1) := by decide +kernel
theorem dX6_init_9 : decode cX6_init 9 = .ok (.invokespecial 9, 3) := by decide +kernel
theorem dX6_init_12 : decode cX6_init 12 = .ok (.putfield 10, 3) := by decide +kernel
theorem dX6_init_15 : decode cX6_init 15 = .ok (.aload_n 0, 1) := by decide +kernel
theorem dX6_init_16 : decode cX6_init 16 = .ok (.new 7, 3) := by decide +kernel
theorem dX6_init_19 : decode cX6_init 19 = .ok (.dup, 1) := by decide +kernel
theorem dX6_init_20 : decode cX6_init 20 = .ok (.invokespecial 9, 3) := by decide +kernel
theorem dX6_init_23 : decode cX6_init 23 = .ok (.putfield 16, 3) := by decide +kernel
theorem dX6_init_26 : decode cX6_init 26 = .ok (.aload_n 0, 1) := by decide +kernel
theorem dX6_init_27 : decode cX6_init 27 = .ok (.new 19, 3) := by decide +kernel
theorem dX6_init_30 : decode cX6_init 30 = .ok (.dup, 1) := by decide +kernel
theorem dX6_init_31 : decode cX6_init 31 = .ok (.invokespecial 21, 3) := by decide +kernel
theorem dX6_init_34 : decode cX6_init 34 = .ok (.putfield 22, 3) := by decide +kernel
theorem dX6_init_37 : decode cX6_init 37 = .ok (.aload_n 0, 1) := by decide +kernel
theorem dX6_init_38 : decode cX6_init 38 = .ok (.new 26, 3) := by decide +kernel
theorem dX6_init_41 : decode cX6_init 41 = .ok (.dup, 1) := by decide +kernel
theorem dX6_init_42 : decode cX6_init 42 = .ok (.bipush 12, 2) := by decide +kernel
theorem dX6_init_44 : decode cX6_init 44 = .ok (.invokespecial 28, 3) := by decide +kernel
theorem dX6_init_47 : decode cX6_init 47 = .ok (.putfield 31, 3) := by decide +kernel
theorem dX6_init_50 : decode cX6_init 50 = .ok (.aload_n 0, 1) := by decide +kernel
theorem dX6_init_51 : decode cX6_init 51 = .ok (.new 35, 3) := by decide +kernel
theorem dX6_init_54 : decode cX6_init 54 = .ok (.dup, 1) := by decide +kernel
theorem dX6_init_55 : decode cX6_init 55 = .ok (.invokespecial 37, 3) := by decide +kernel
theorem dX6_init_58 : decode cX6_init 58 = .ok (.putfield 38, 3) := by decide +kernel
theorem dX6_init_61 : decode cX6_init 61 = .ok (.aload_n 0, 1) := by decide +kernel
theorem dX6_init_62 : decode cX6_init 62 = .ok (.new 26, 3) := by decide +kernel
theorem dX6_init_65 : decode cX6_init 65 = .ok (.dup, 1) := by decide +kernel
theorem dX6_init_66 : decode cX6_init 66 = .ok (.bipush 10, 2) := by decide +kernel
theorem dX6_init_68 : decode cX6_init 68 = .ok (.invokespecial 28, 3) := by decide +kernel
theorem dX6_init_71 : decode cX6_init 71 = .ok (.putfield 42, 3) := by decide +kernel
theorem dX6_init_74 : decode cX6_init 74 = .ok (.aload_n 0, 1) := by decide +kernel
theorem dX6_init_75 : decode cX6_init 75 = .ok (.new 45, 3) := by decide +kernel
theorem dX6_init_78 : decode cX6_init 78 = .ok (.dup, 1) := by decide +kernel
theorem dX6_init_79 : decode cX6_init 79 = .ok (.invokespecial 47, 3) := by decide +kernel
theorem dX6_init_82 : decode cX6_init 82 = .ok (.putfield 48, 3) := by decide +kernel
theorem dX6_init_85 : decode cX6_init 85 = .ok (.aload_n 0, 1) := by decide +kernel
theorem dX6_init_86 : decode cX6_init 86 = .ok (.iconst 3, 1) := by decide +kernel
theorem dX6_init_87 : decode cX6_init 87 = .ok (.newarray .int, 2) := by decide +kernel
theorem dX6_init_89 : decode cX6_init 89 = .ok (.putfield 52, 3) := by decide +kernel
theorem dX6_init_92 : decode cX6_init 92 = .ok (.return_, 1) := by decide +kernel
theorem dX6_sets_0 : decode cX6_sets 0 = .ok (.iload_n 1, 1) := by decide +kernel
theorem dX6_sets_1 : decode cX6_sets 1 = .ok (.iconst 0, 1) := by decide +kernel
theorem dX6_sets_2 : decode cX6_sets 2 = .ok (.bipush 6, 2) := by decide +kernel
theorem dX6_sets_4 : decode cX6_sets 4 = .ok (.invokestatic 56, 3) := by decide +kernel
theorem dX6_sets_7 : decode cX6_sets 7 = .ok (.ifCond .eq 20, 3) := by decide +kernel
theorem dX6_sets_10 : decode cX6_sets 10 = .ok (.iload_n 2, 1) := by decide +kernel
theorem dX6_sets_11 : decode cX6_sets 11 = .ok (.getstatic 60, 3) := by decide +kernel
theorem dX6_sets_14 : decode cX6_sets 14 = .ok (.iload_n 1, 1) := by decide +kernel
theorem dX6_sets_15 : decode cX6_sets 15 = .ok (.iaload, 1) := by decide +kernel
theorem dX6_sets_16 : decode cX6_sets 16 = .ok (.getstatic 63, 3) := by decide +kernel
theorem dX6_sets_19 : decode cX6_sets 19 = .ok (.iload_n 1, 1) := by decide +kernel
theorem dX6_sets_20 : decode cX6_sets 20 = .ok (.iaload, 1) := by decide +kernel
theorem dX6_sets_21 : decode cX6_sets 21 = .ok (.invokestatic 56, 3) := by decide +kernel
theorem dX6_sets_24 : decode cX6_sets 24 = .ok (.ifCond .ne 8, 3) := by decide +kernel
theorem dX6_sets_27 : decode cX6_sets 27 = .ok (.aload_n 0, 1) := by decide +kernel
theorem dX6_sets_28 : decode cX6_sets 28 = .ok (.invokevirtual 66, 3) := by decide +kernel
theorem dX6_sets_31 : decode cX6_sets 31 = .ok (.ireturn, 1) := by decide +kernel
theorem dX6_sets_32 : decode cX6_sets 32 = .ok (.iload_n 1, 1) := by decide +kernel
theorem dX6_sets_33 : decode cX6_sets 33 = .ok (.ifCond .ne 14, 3) := by decide +kernel
theorem dX6_sets_36 : decode cX6_sets 36 = .ok (.iload_n 2, 1) := by decide +kernel
theorem dX6_sets_37 : decode cX6_sets 37 = .ok (.iconst 2, 1) := by decide +kernel
theorem dX6_sets_38 : decode cX6_sets 38 = .ok (.irem, 1) := by decide +kernel
theorem dX6_sets_39 : decode cX6_sets 39 = .ok (.ifCond .eq 8, 3) := by decide +kernel
theorem dX6_sets_42 : decode cX6_sets 42 = .ok (.aload_n 0, 1) := by decide +kernel
theorem dX6_sets_43 : decode cX6_sets 43 = .ok (.invokevirtual 66, 3) := by decide +kernel
theorem dX6_sets_46 : decode cX6_sets 46 = .ok (.ireturn, 1) := by decide +kernel
theorem dX6_sets_47 : decode cX6_sets 47 = .ok (.aload_n 0, 1) := by decide +kernel
theorem dX6_sets_48 : decode cX6_sets 48 = .ok (.getfield 10, 3) := by decide +kernel
theorem dX6_sets_51 : decode cX6_sets 51 = .ok (.getfield 70, 3) := by decide +kernel
theorem dX6_sets_54 : decode cX6_sets 54 = .ok (.iload_n 1, 1) := by decide +kernel
theorem dX6_sets_55 : decode cX6_sets 55 = .ok (.iaload, 1) := by decide +kernel
theorem dX6_sets_56 : decode cX6_sets 56 = .ok (.istore_n 3, 1) := by decide +kernel
theorem dX6_sets_57 : decode cX6_sets 57 = .ok (.aload_n 0, 1) := by decide +kernel
theorem dX6_sets_58 : decode cX6_sets 58 = .ok (.getfield 10, 3) := by decide +kernel
theorem dX6_sets_61 : decode cX6_sets 61 = .ok (.getfield 70, 3) := by decide +kernel
theorem dX6_sets_64 : decode cX6_sets 64 = .ok (.iload_n 1, 1) := by decide +kernel
theorem dX6_sets_65 : decode cX6_sets 65 = .ok (.iload_n 2, 1) := by decide +kernel
theorem dX6_sets_66 : decode cX6_sets 66 = .ok (.iastore, 1) := by decide +kernel
theorem dX6_sets_67 : decode cX6_sets 67 = .ok (.iload_n 3, 1) := by decide +kernel
theorem dX6_sets_68 : decode cX6_sets 68 = .ok (.ireturn, 1) := by decide +kernel
theorem dX6_leg_0 : decode cX6_leg 0 = .ok (.iload_n 1, 1) := by decide +kernel
theorem dX6_leg_1 : decode cX6_leg 1 = .ok (.invokestatic 73, 3) := by decide +kernel
theorem dX6_leg_4 : decode cX6_leg 4 = .ok (.ifCond .eq 12, 3) := by decide +kernel
theorem dX6_leg_7 : decode cX6_leg 7 = .ok (.iload_n 2, 1) := by decide +kernel
theorem dX6_leg_8 : decode cX6_leg 8 = .ok (.iconst 0, 1) := by decide +kernel
theorem dX6_leg_9 : decode cX6_leg 9 = .ok (.iconst 1, 1) := by decide +kernel
theorem dX6_leg_10 : decode cX6_leg 10 = .ok (.invokestatic 56, 3) := by decide +kernel
theorem dX6_leg_13 : decode cX6_leg 13 = .ok (.ifCond .ne 8, 3) := by decide +kernel
theorem dX6_leg_16 : decode cX6_leg 16 = .ok (.aload_n 0, 1) := by decide +kernel
theorem dX6_leg_17 : decode cX6_leg 17 = .ok (.invokevirtual 66, 3) := by decide +kernel
theorem dX6_leg_20 : decode cX6_leg 20 = .ok (.ireturn, 1) := by decide +kernel
theorem dX6_leg_21 : decode cX6_leg 21 = .ok (.iload_n 2, 1) := by decide +kernel
theorem dX6_leg_22 : decode cX6_leg 22 = .ok (.ifCond .ne 9, 3) := by decide +kernel
theorem dX6_leg_25 : decode cX6_leg 25 = .ok (.sipush 200, 3) := by decide +kernel
theorem dX6_leg_28 : decode cX6_leg 28 = .ok (.goto 6, 3) := by decide +kernel
theorem dX6_leg_31 : decode cX6_leg 31 = .ok (.sipush 999, 3) := by decide +kernel
theorem dX6_leg_34 : decode cX6_leg 34 = .ok (.istore 4, 2) := by decide +kernel
theorem dX6_leg_36 : decode cX6_leg 36 = .ok (.iload_n 3, 1) := by decide +kernel
theorem dX6_leg_37 : decode cX6_leg 37 = .ok (.iload 4, 2) := by decide +kernel
theorem dX6_leg_39 : decode cX6_leg 39 = .ok (.ineg, 1) := by decide +kernel
theorem dX6_leg_40 : decode cX6_leg 40 = .ok (.iload 4, 2) := by decide +kernel
theorem dX6_leg_42 : decode cX6_leg 42 = .ok (.invokestatic 56, 3) := by decide +kernel
theorem dX6_leg_45 : decode cX6_leg 45 = .ok (.ifCond .ne 8, 3) := by decide +kernel
theorem dX6_leg_48 : decode cX6_leg 48 = .ok (.aload_n 0, 1) := by decide +kernel
theorem dX6_leg_49 : decode cX6_leg 49 = .ok (.invokevirtual 66, 3) := by decide +kernel
theorem dX6_leg_52 : decode cX6_leg 52 = .ok (.ireturn, 1) := by decide +kernel
theorem dX6_leg_53 : decode cX6_leg 53 = .ok (.iload_n 2, 1) := by decide +kernel
theorem dX6_leg_54 : decode cX6_leg 54 = .ok (.ifCond .ne 13, 3) := by decide +kernel
theorem dX6_leg_57 : decode cX6_leg 57 = .ok (.aload_n 0, 1) := by decide +kernel
theorem dX6_leg_58 : decode cX6_leg 58 = .ok (.getfield 10, 3) := by decide +kernel
theorem dX6_leg_61 : decode cX6_leg 61 = .ok (.getfield 77, 3) := by decide +kernel
theorem dX6_leg_64 : decode cX6_leg 64 = .ok (.goto 10, 3) := by decide +kernel
theorem dX6_leg_67 : decode cX6_leg 67 = .ok (.aload_n 0, 1) := by decide +kernel
theorem dX6_leg_68 : decode cX6_leg 68 = .ok (.getfield 10, 3) := by decide +kernel
theorem dX6_leg_71 : decode cX6_leg 71 = .ok (.getfield 80, 3) := by decide +kernel
theorem dX6_leg_74 : decode cX6_leg 74 = .ok (.astore 5, 2) := by decide +kernel
theorem dX6_leg_76 : decode cX6_leg 76 = .ok (.aload 5, 2) := by decide +kernel
theorem dX6_leg_78 : decode cX6_leg 78 = .ok (.iload_n 1, 1) := by decide +kernel
theorem dX6_leg_79 : decode cX6_leg 79 = .ok (.iaload, 1) := by decide +kernel
theorem dX6_leg_80 : decode cX6_leg 80 = .ok (.istore 6, 2) := by decide +kernel
theorem dX6_leg_82 : decode cX6_leg 82 = .ok (.aload 5, 2) := by decide +kernel
theorem dX6_leg_84 : decode cX6_leg 84 = .ok (.iload_n 1, 1) := by decide +kernel
theorem dX6_leg_85 : decode cX6_leg 85 = .ok (.iload_n 3, 1) := by decide +kernel
theorem dX6_leg_86 : decode cX6_leg 86 = .ok (.iastore, 1) := by decide +kernel
theorem dX6_leg_87 : decode cX6_leg 87 = .ok (.iload 6, 2) := by decide +kernel
theorem dX6_leg_89 : decode cX6_leg 89 = .ok (.ireturn, 1) := by decide +kernel
theorem dX6_anew_0 : decode cX6_anew 0 = .ok (.aload_n 0, 1) := by decide +kernel
theorem dX6_anew_1 : decode cX6_anew 1 = .ok (.getfield 10, 3) := by decide +kernel
theorem dX6_anew_4 : decode cX6_anew 4 = .ok (.getfield 83, 3) := by decide +kernel
theorem dX6_anew_7 : decode cX6_anew 7 = .ok (.istore_n 1, 1) := by decide +kernel
theorem dX6_anew_8 : decode cX6_anew 8 = .ok (.aload_n 0, 1) := by decide +kernel
theorem dX6_anew_9 : decode cX6_anew 9 = .ok (.getfield 10, 3) := by decide +kernel
theorem dX6_anew_12 : decode cX6_anew 12 = .ok (.invokevirtual 87, 3) := by decide +kernel
theorem dX6_anew_15 : decode cX6_anew 15 = .ok (.aload_n 0, 1) := by decide +kernel
theorem dX6_anew_16 : decode cX6_anew 16 = .ok (.getfield 42, 3) := by decide +kernel
theorem dX6_anew_19 : decode cX6_anew 19 = .ok (.iconst 0, 1) := by decide +kernel
theorem dX6_anew_20 : decode cX6_anew 20 = .ok (.invokevirtual 90, 3) := by decide +kernel
theorem dX6_anew_23 : decode cX6_anew 23 = .ok (.iload_n 1, 1) := by decide +kernel
theorem dX6_anew_24 : decode cX6_anew 24 = .ok (.ireturn, 1) := by decide +kernel
theorem dX6_draw_0 : decode cX6_draw 0 = .ok (.iload_n 1, 1) := by decide +kernel
theorem dX6_draw_1 : decode cX6_draw 1 = .ok (.iconst 0, 1) := by decide +kernel
theorem dX6_draw_2 : decode cX6_draw 2 = .ok (.ldc 93, 2) := by decide +kernel
theorem dX6_draw_4 : decode cX6_draw 4 = .ok (.invokestatic 56, 3) := by decide +kernel
theorem dX6_draw_7 : decode cX6_draw 7 = .ok (.ifCond .ne 8, 3) := by decide +kernel
theorem dX6_draw_10 : decode cX6_draw 10 = .ok (.aload_n 0, 1) := by decide +kernel
theorem dX6_draw_11 : decode cX6_draw 11 = .ok (.invokevirtual 66, 3) := by decide +kernel
theorem dX6_draw_14 : decode cX6_draw 14 = .ok (.ireturn, 1) := by decide +kernel
theorem dX6_draw_15 : decode cX6_draw 15 = .ok (.iload_n 1, 1) := by decide +kernel
theorem dX6_draw_16 : decode cX6_draw 16 = .ok (.i2l, 1) := by decide +kernel
theorem dX6_draw_17 : decode cX6_draw 17 = .ok (.lstore_n 2, 1) := by decide +kernel
theorem dX6_draw_18 : decode cX6_draw 18 = .ok (.iconst 0, 1) := by decide +kernel
theorem dX6_draw_19 : decode cX6_draw 19 = .ok (.istore 4, 2) := by decide +kernel
theorem dX6_draw_21 : decode cX6_draw 21 = .ok (.iload 4, 2) := by decide +kernel
theorem dX6_draw_23 : decode cX6_draw 23 = .ok (.iconst 3, 1) := by decide +kernel
theorem dX6_draw_24 : decode cX6_draw 24 = .ok (.if_icmp .ge 70, 3) := by decide +kernel
theorem dX6_draw_27 : decode cX6_draw 27 = .ok (.lload_n 2, 1) := by decide +kernel
theorem dX6_draw_28 : decode cX6_draw 28 = .ok (.ldc2_w 94, 3) := by decide +kernel
theorem dX6_draw_31 : decode cX6_draw 31 = .ok (.lmul, 1) := by decide +kernel
theorem dX6_draw_32 : decode cX6_draw 32 = .ok (.ldc2_w 96, 3) := by decide +kernel
theorem dX6_draw_35 : decode cX6_draw 35 = .ok (.ladd, 1) := by decide +kernel
theorem dX6_draw_36 : decode cX6_draw 36 = .ok (.ldc2_w 98, 3) := by decide +kernel
theorem dX6_draw_39 : decode cX6_draw 39 = .ok (.lrem, 1) := by decide +kernel
theorem dX6_draw_40 : decode cX6_draw 40 = .ok (.lstore_n 2, 1) := by decide +kernel
theorem dX6_draw_41 : decode cX6_draw 41 = .ok (.aload_n 0, 1) := by decide +kernel
theorem dX6_draw_42 : decode cX6_draw 42 = .ok (.getfield 10, 3) := by decide +kernel
theorem dX6_draw_45 : decode cX6_draw 45 = .ok (.getfield 77, 3) := by decide +kernel
theorem dX6_draw_48 : decode cX6_draw 48 = .ok (.iload 4, 2) := by decide +kernel
theorem dX6_draw_50 : decode cX6_draw 50 = .ok (.lload_n 2, 1) := by decide +kernel
theorem dX6_draw_51 : decode cX6_draw 51 = .ok (.ldc2_w 100, 3) := by decide +kernel
theorem dX6_draw_54 : decode cX6_draw 54 = .ok (.ldiv, 1) := by decide +kernel
theorem dX6_draw_55 : decode cX6_draw 55 = .ok (.ldc2_w 102, 3) := by decide +kernel
theorem dX6_draw_58 : decode cX6_draw 58 = .ok (.lrem, 1) := by decide +kernel
theorem dX6_draw_59 : decode cX6_draw 59 = .ok (.l2i, 1) := by decide +kernel
theorem dX6_draw_60 : decode cX6_draw 60 = .ok (.bipush 100, 2) := by decide +kernel
theorem dX6_draw_62 : decode cX6_draw 62 = .ok (.isub, 1) := by decide +kernel
theorem dX6_draw_63 : decode cX6_draw 63 = .ok (.iastore, 1) := by decide +kernel
theorem dX6_draw_64 : decode cX6_draw 64 = .ok (.aload_n 0, 1) := by decide +kernel
theorem dX6_draw_65 : decode cX6_draw 65 = .ok (.getfield 10, 3) := by decide +kernel
theorem dX6_draw_68 : decode cX6_draw 68 = .ok (.getfield 80, 3) := by decide +kernel
theorem dX6_draw_71 : decode cX6_draw 71 = .ok (.iload 4, 2) := by decide +kernel
theorem dX6_draw_73 : decode cX6_draw 73 = .ok (.lload_n 2, 1) := by decide +kernel
theorem dX6_draw_74 : decode cX6_draw 74 = .ok (.ldc2_w 104, 3) := by decide +kernel
theorem dX6_draw_77 : decode cX6_draw 77 = .ok (.ldiv, 1) := by decide +kernel
theorem dX6_draw_78 : decode cX6_draw 78 = .ok (.ldc2_w 106, 3) := by decide +kernel
theorem dX6_draw_81 : decode cX6_draw 81 = .ok (.lrem, 1) := by decide +kernel
theorem dX6_draw_82 : decode cX6_draw 82 = .ok (.l2i, 1) := by decide +kernel
theorem dX6_draw_83 : decode cX6_draw 83 = .ok (.sipush 200, 3) := by decide +kernel
theorem dX6_draw_86 : decode cX6_draw 86 = .ok (.isub, 1) := by decide +kernel
theorem dX6_draw_87 : decode cX6_draw 87 = .ok (.iastore, 1) := by decide +kernel
theorem dX6_draw_88 : decode cX6_draw 88 = .ok (.iinc 4 1, 3) := by decide +kernel
theorem dX6_draw_91 : decode cX6_draw 91 = .ok (.goto (-70), 3) := by decide +kernel
theorem dX6_draw_94 : decode cX6_draw 94 = .ok (.aload_n 0, 1) := by decide +kernel
theorem dX6_draw_95 : decode cX6_draw 95 = .ok (.invokevirtual 108, 3) := by decide +kernel
theorem dX6_draw_98 : decode cX6_draw 98 = .ok (.getfield 112, 3) := by decide +kernel
theorem dX6_draw_101 : decode cX6_draw 101 = .ok (.ireturn, 1) := by decide +kernel
theorem dX6_plan_0 : decode cX6_plan 0 = .ok (.iload_n 1, 1) := by decide +kernel
theorem dX6_plan_1 : decode cX6_plan 1 = .ok (.tableswitch 89 0 4 #[35, 43, 59, 68, 78], 35) := by decide +kernel
theorem dX6_plan_36 : decode cX6_plan 36 = .ok (.aload_n 0, 1) := by decide +kernel
theorem dX6_plan_37 : decode cX6_plan 37 = .ok (.invokevirtual 108, 3) := by decide +kernel
theorem dX6_plan_40 : decode cX6_plan 40 = .ok (.getfield 112, 3) := by decide +kernel
theorem dX6_plan_43 : decode cX6_plan 43 = .ok (.ireturn, 1) := by decide +kernel
theorem dX6_plan_44 : decode cX6_plan 44 = .ok (.aload_n 0, 1) := by decide +kernel
theorem dX6_plan_45 : decode cX6_plan 45 = .ok (.invokevirtual 108, 3) := by decide +kernel
theorem dX6_plan_48 : decode cX6_plan 48 = .ok (.getfield 117, 3) := by decide +kernel
theorem dX6_plan_51 : decode cX6_plan 51 = .ok (.ifCond .eq 7, 3) := by decide +kernel
theorem dX6_plan_54 : decode cX6_plan 54 = .ok (.iconst 1, 1) := by decide +kernel
theorem dX6_plan_55 : decode cX6_plan 55 = .ok (.goto 4, 3) := by decide +kernel
theorem dX6_plan_58 : decode cX6_plan 58 = .ok (.iconst 0, 1) := by decide +kernel
theorem dX6_plan_59 : decode cX6_plan 59 = .ok (.ireturn, 1) := by decide +kernel
theorem dX6_plan_60 : decode cX6_plan 60 = .ok (.aload_n 0, 1) := by decide +kernel
theorem dX6_plan_61 : decode cX6_plan 61 = .ok (.invokevirtual 121, 3) := by decide +kernel
theorem dX6_plan_64 : decode cX6_plan 64 = .ok (.iconst 0, 1) := by decide +kernel
theorem dX6_plan_65 : decode cX6_plan 65 = .ok (.invokevirtual 125, 3) := by decide +kernel
theorem dX6_plan_68 : decode cX6_plan 68 = .ok (.ireturn, 1) := by decide +kernel
theorem dX6_plan_69 : decode cX6_plan 69 = .ok (.aload_n 0, 1) := by decide +kernel
theorem dX6_plan_70 : decode cX6_plan 70 = .ok (.invokevirtual 121, 3) := by decide +kernel
theorem dX6_plan_73 : decode cX6_plan 73 = .ok (.bipush 7, 2) := by decide +kernel
theorem dX6_plan_75 : decode cX6_plan 75 = .ok (.invokevirtual 125, 3) := by decide +kernel
theorem dX6_plan_78 : decode cX6_plan 78 = .ok (.ireturn, 1) := by decide +kernel
theorem dX6_plan_79 : decode cX6_plan 79 = .ok (.aload_n 0, 1) := by decide +kernel
theorem dX6_plan_80 : decode cX6_plan 80 = .ok (.invokevirtual 121, 3) := by decide +kernel
theorem dX6_plan_83 : decode cX6_plan 83 = .ok (.getfield 129, 3) := by decide +kernel
theorem dX6_plan_86 : decode cX6_plan 86 = .ok (.getfield 132, 3) := by decide +kernel
theorem dX6_plan_89 : decode cX6_plan 89 = .ok (.ireturn, 1) := by decide +kernel
theorem dX6_plan_90 : decode cX6_plan 90 = .ok (.aload_n 0, 1) := by decide +kernel
theorem dX6_plan_91 : decode cX6_plan 91 = .ok (.invokevirtual 66, 3) := by decide +kernel
theorem dX6_plan_94 : decode cX6_plan 94 = .ok (.ireturn, 1) := by decide +kernel
theorem dX6_of_0 : decode cX6_of 0 = .ok (.iload_n 1, 1) := by decide +kernel
theorem dX6_of_1 : decode cX6_of 1 = .ok (.invokestatic 73, 3) := by decide +kernel
theorem dX6_of_4 : decode cX6_of 4 = .ok (.ifCond .ne 8, 3) := by decide +kernel
theorem dX6_of_7 : decode cX6_of 7 = .ok (.aload_n 0, 1) := by decide +kernel
theorem dX6_of_8 : decode cX6_of 8 = .ok (.invokevirtual 66, 3) := by decide +kernel
theorem dX6_of_11 : decode cX6_of 11 = .ok (.ireturn, 1) := by decide +kernel
theorem dX6_of_12 : decode cX6_of 12 = .ok (.aload_n 0, 1) := by decide +kernel
theorem dX6_of_13 : decode cX6_of 13 = .ok (.invokevirtual 108, 3) := by decide +kernel
theorem dX6_of_16 : decode cX6_of 16 = .ok (.astore_n 3, 1) := by decide +kernel
theorem dX6_of_17 : decode cX6_of 17 = .ok (.iload_n 2, 1) := by decide +kernel
theorem dX6_of_18 : decode cX6_of 18 = .ok (.tableswitch 86 0 6 #[42, 49, 56, 62, 68, 74, 80], 42) := by decide +kernel
theorem dX6_of_60 : decode cX6_of 60 = .ok (.aload_n 3, 1) := by decide +kernel
theorem dX6_of_61 : decode cX6_of 61 = .ok (.getfield 135, 3) := by decide +kernel
theorem dX6_of_64 : decode cX6_of 64 = .ok (.iload_n 1, 1) := by decide +kernel
theorem dX6_of_65 : decode cX6_of 65 = .ok (.iaload, 1) := by decide +kernel
theorem dX6_of_66 : decode cX6_of 66 = .ok (.ireturn, 1) := by decide +kernel
theorem dX6_of_67 : decode cX6_of 67 = .ok (.aload_n 3, 1) := by decide +kernel
theorem dX6_of_68 : decode cX6_of 68 = .ok (.getfield 138, 3) := by decide +kernel
theorem dX6_of_71 : decode cX6_of 71 = .ok (.iload_n 1, 1) := by decide +kernel
theorem dX6_of_72 : decode cX6_of 72 = .ok (.iaload, 1) := by decide +kernel
theorem dX6_of_73 : decode cX6_of 73 = .ok (.ireturn, 1) := by decide +kernel
theorem dX6_of_74 : decode cX6_of 74 = .ok (.aload_n 3, 1) := by decide +kernel
theorem dX6_of_75 : decode cX6_of 75 = .ok (.iload_n 1, 1) := by decide +kernel
theorem dX6_of_76 : decode cX6_of 76 = .ok (.invokevirtual 141, 3) := by decide +kernel
theorem dX6_of_79 : decode cX6_of 79 = .ok (.ireturn, 1) := by decide +kernel
theorem dX6_of_80 : decode cX6_of 80 = .ok (.aload_n 3, 1) := by decide +kernel
theorem dX6_of_81 : decode cX6_of 81 = .ok (.iload_n 1, 1) := by decide +kernel
theorem dX6_of_82 : decode cX6_of 82 = .ok (.invokevirtual 144, 3) := by decide +kernel
theorem dX6_of_85 : decode cX6_of 85 = .ok (.ireturn, 1) := by decide +kernel
theorem dX6_of_86 : decode cX6_of 86 = .ok (.aload_n 3, 1) := by decide +kernel
theorem dX6_of_87 : decode cX6_of 87 = .ok (.iload_n 1, 1) := by decide +kernel
theorem dX6_of_88 : decode cX6_of 88 = .ok (.invokevirtual 147, 3) := by decide +kernel
theorem dX6_of_91 : decode cX6_of 91 = .ok (.ireturn, 1) := by decide +kernel
theorem dX6_of_92 : decode cX6_of 92 = .ok (.aload_n 3, 1) := by decide +kernel
theorem dX6_of_93 : decode cX6_of 93 = .ok (.iload_n 1, 1) := by decide +kernel
theorem dX6_of_94 : decode cX6_of 94 = .ok (.invokevirtual 150, 3) := by decide +kernel
theorem dX6_of_97 : decode cX6_of 97 = .ok (.ireturn, 1) := by decide +kernel
theorem dX6_of_98 : decode cX6_of 98 = .ok (.aload_n 3, 1) := by decide +kernel
theorem dX6_of_99 : decode cX6_of 99 = .ok (.iload_n 1, 1) := by decide +kernel
theorem dX6_of_100 : decode cX6_of 100 = .ok (.invokevirtual 153, 3) := by decide +kernel
theorem dX6_of_103 : decode cX6_of 103 = .ok (.ireturn, 1) := by decide +kernel
theorem dX6_of_104 : decode cX6_of 104 = .ok (.aload_n 0, 1) := by decide +kernel
theorem dX6_of_105 : decode cX6_of 105 = .ok (.invokevirtual 66, 3) := by decide +kernel
theorem dX6_of_108 : decode cX6_of 108 = .ok (.ireturn, 1) := by decide +kernel
theorem dX6_at_0 : decode cX6_at 0 = .ok (.iload_n 1, 1) := by decide +kernel
theorem dX6_at_1 : decode cX6_at 1 = .ok (.invokestatic 73, 3) := by decide +kernel
theorem dX6_at_4 : decode cX6_at 4 = .ok (.ifCond .eq 22, 3) := by decide +kernel
theorem dX6_at_7 : decode cX6_at 7 = .ok (.iload_n 2, 1) := by decide +kernel
theorem dX6_at_8 : decode cX6_at 8 = .ok (.iconst 0, 1) := by decide +kernel
theorem dX6_at_9 : decode cX6_at 9 = .ok (.aload_n 0, 1) := by decide +kernel
theorem dX6_at_10 : decode cX6_at 10 = .ok (.getfield 10, 3) := by decide +kernel
theorem dX6_at_13 : decode cX6_at 13 = .ok (.getfield 70, 3) := by decide +kernel
theorem dX6_at_16 : decode cX6_at 16 = .ok (.iconst 0, 1) := by decide +kernel
theorem dX6_at_17 : decode cX6_at 17 = .ok (.iaload, 1) := by decide +kernel
theorem dX6_at_18 : decode cX6_at 18 = .ok (.iconst 1, 1) := by decide +kernel
theorem dX6_at_19 : decode cX6_at 19 = .ok (.isub, 1) := by decide +kernel
theorem dX6_at_20 : decode cX6_at 20 = .ok (.invokestatic 56, 3) := by decide +kernel
theorem dX6_at_23 : decode cX6_at 23 = .ok (.ifCond .ne 8, 3) := by decide +kernel
theorem dX6_at_26 : decode cX6_at 26 = .ok (.aload_n 0, 1) := by decide +kernel
theorem dX6_at_27 : decode cX6_at 27 = .ok (.invokevirtual 66, 3) := by decide +kernel
theorem dX6_at_30 : decode cX6_at 30 = .ok (.ireturn, 1) := by decide +kernel
theorem dX6_at_31 : decode cX6_at 31 = .ok (.aload_n 0, 1) := by decide +kernel
theorem dX6_at_32 : decode cX6_at 32 = .ok (.invokevirtual 108, 3) := by decide +kernel
theorem dX6_at_35 : decode cX6_at 35 = .ok (.astore 4, 2) := by decide +kernel
theorem dX6_at_37 : decode cX6_at 37 = .ok (.iload_n 3, 1) := by decide +kernel
theorem dX6_at_38 : decode cX6_at 38 = .ok (.tableswitch 96 0 3 #[30, 46, 63, 80], 30) := by decide +kernel
theorem dX6_at_68 : decode cX6_at 68 = .ok (.aload 4, 2) := by decide +kernel
theorem dX6_at_70 : decode cX6_at 70 = .ok (.iload_n 1, 1) := by decide +kernel
theorem dX6_at_71 : decode cX6_at 71 = .ok (.iload_n 2, 1) := by decide +kernel
theorem dX6_at_72 : decode cX6_at 72 = .ok (.invokevirtual 156, 3) := by decide +kernel
theorem dX6_at_75 : decode cX6_at 75 = .ok (.ifCond .eq 7, 3) := by decide +kernel
theorem dX6_at_78 : decode cX6_at 78 = .ok (.iconst 1, 1) := by decide +kernel
theorem dX6_at_79 : decode cX6_at 79 = .ok (.goto 4, 3) := by decide +kernel
theorem dX6_at_82 : decode cX6_at 82 = .ok (.iconst 0, 1) := by decide +kernel
theorem dX6_at_83 : decode cX6_at 83 = .ok (.ireturn, 1) := by decide +kernel
theorem dX6_at_84 : decode cX6_at 84 = .ok (.aload 4, 2) := by decide +kernel
theorem dX6_at_86 : decode cX6_at 86 = .ok (.iload_n 1, 1) := by decide +kernel
theorem dX6_at_87 : decode cX6_at 87 = .ok (.iconst 0, 1) := by decide +kernel
theorem dX6_at_88 : decode cX6_at 88 = .ok (.iload_n 2, 1) := by decide +kernel
theorem dX6_at_89 : decode cX6_at 89 = .ok (.invokevirtual 160, 3) := by decide +kernel
theorem dX6_at_92 : decode cX6_at 92 = .ok (.ifCond .eq 7, 3) := by decide +kernel
theorem dX6_at_95 : decode cX6_at 95 = .ok (.iconst 1, 1) := by decide +kernel
theorem dX6_at_96 : decode cX6_at 96 = .ok (.goto 4, 3) := by decide +kernel
theorem dX6_at_99 : decode cX6_at 99 = .ok (.iconst 0, 1) := by decide +kernel
theorem dX6_at_100 : decode cX6_at 100 = .ok (.ireturn, 1) := by decide +kernel
theorem dX6_at_101 : decode cX6_at 101 = .ok (.aload 4, 2) := by decide +kernel
theorem dX6_at_103 : decode cX6_at 103 = .ok (.iload_n 1, 1) := by decide +kernel
theorem dX6_at_104 : decode cX6_at 104 = .ok (.iconst 1, 1) := by decide +kernel
theorem dX6_at_105 : decode cX6_at 105 = .ok (.iload_n 2, 1) := by decide +kernel
theorem dX6_at_106 : decode cX6_at 106 = .ok (.invokevirtual 160, 3) := by decide +kernel
theorem dX6_at_109 : decode cX6_at 109 = .ok (.ifCond .eq 7, 3) := by decide +kernel
theorem dX6_at_112 : decode cX6_at 112 = .ok (.iconst 1, 1) := by decide +kernel
theorem dX6_at_113 : decode cX6_at 113 = .ok (.goto 4, 3) := by decide +kernel
theorem dX6_at_116 : decode cX6_at 116 = .ok (.iconst 0, 1) := by decide +kernel
theorem dX6_at_117 : decode cX6_at 117 = .ok (.ireturn, 1) := by decide +kernel
theorem dX6_at_118 : decode cX6_at 118 = .ok (.aload 4, 2) := by decide +kernel
theorem dX6_at_120 : decode cX6_at 120 = .ok (.iload_n 1, 1) := by decide +kernel
theorem dX6_at_121 : decode cX6_at 121 = .ok (.iload_n 2, 1) := by decide +kernel
theorem dX6_at_122 : decode cX6_at 122 = .ok (.invokevirtual 163, 3) := by decide +kernel
theorem dX6_at_125 : decode cX6_at 125 = .ok (.ifCond .eq 7, 3) := by decide +kernel
theorem dX6_at_128 : decode cX6_at 128 = .ok (.iconst 1, 1) := by decide +kernel
theorem dX6_at_129 : decode cX6_at 129 = .ok (.goto 4, 3) := by decide +kernel
theorem dX6_at_132 : decode cX6_at 132 = .ok (.iconst 0, 1) := by decide +kernel
theorem dX6_at_133 : decode cX6_at 133 = .ok (.ireturn, 1) := by decide +kernel
theorem dX6_at_134 : decode cX6_at 134 = .ok (.aload_n 0, 1) := by decide +kernel
theorem dX6_at_135 : decode cX6_at 135 = .ok (.invokevirtual 66, 3) := by decide +kernel
theorem dX6_at_138 : decode cX6_at 138 = .ok (.ireturn, 1) := by decide +kernel
theorem dX6_run_0 : decode cX6_run 0 = .ok (.iload_n 1, 1) := by decide +kernel
theorem dX6_run_1 : decode cX6_run 1 = .ok (.ifCond .lt 12, 3) := by decide +kernel
theorem dX6_run_4 : decode cX6_run 4 = .ok (.iload_n 2, 1) := by decide +kernel
theorem dX6_run_5 : decode cX6_run 5 = .ok (.iconst 0, 1) := by decide +kernel
theorem dX6_run_6 : decode cX6_run 6 = .ok (.iconst 3, 1) := by decide +kernel
theorem dX6_run_7 : decode cX6_run 7 = .ok (.invokestatic 56, 3) := by decide +kernel
theorem dX6_run_10 : decode cX6_run 10 = .ok (.ifCond .ne 8, 3) := by decide +kernel
theorem dX6_run_13 : decode cX6_run 13 = .ok (.aload_n 0, 1) := by decide +kernel
theorem dX6_run_14 : decode cX6_run 14 = .ok (.invokevirtual 66, 3) := by decide +kernel
theorem dX6_run_17 : decode cX6_run 17 = .ok (.ireturn, 1) := by decide +kernel
theorem dX6_run_18 : decode cX6_run 18 = .ok (.aload_n 0, 1) := by decide +kernel
theorem dX6_run_19 : decode cX6_run 19 = .ok (.invokevirtual 121, 3) := by decide +kernel
theorem dX6_run_22 : decode cX6_run 22 = .ok (.getfield 129, 3) := by decide +kernel
theorem dX6_run_25 : decode cX6_run 25 = .ok (.iconst (-1), 1) := by decide +kernel
theorem dX6_run_26 : decode cX6_run 26 = .ok (.iload_n 1, 1) := by decide +kernel
theorem dX6_run_27 : decode cX6_run 27 = .ok (.iload_n 2, 1) := by decide +kernel
theorem dX6_run_28 : decode cX6_run 28 = .ok (.invokevirtual 166, 3) := by decide +kernel
theorem dX6_run_31 : decode cX6_run 31 = .ok (.ireturn, 1) := by decide +kernel
theorem dX6_seen_0 : decode cX6_seen 0 = .ok (.iload_n 1, 1) := by decide +kernel
theorem dX6_seen_1 : decode cX6_seen 1 = .ok (.lookupswitch 43 #[(0, 27), (1, 35)], 27) := by decide +kernel
theorem dX6_seen_28 : decode cX6_seen 28 = .ok (.aload_n 0, 1) := by decide +kernel
theorem dX6_seen_29 : decode cX6_seen 29 = .ok (.invokevirtual 121, 3) := by decide +kernel
theorem dX6_seen_32 : decode cX6_seen 32 = .ok (.getfield 170, 3) := by decide +kernel
theorem dX6_seen_35 : decode cX6_seen 35 = .ok (.ireturn, 1) := by decide +kernel
theorem dX6_seen_36 : decode cX6_seen 36 = .ok (.aload_n 0, 1) := by decide +kernel
theorem dX6_seen_37 : decode cX6_seen 37 = .ok (.invokevirtual 121, 3) := by decide +kernel
theorem dX6_seen_40 : decode cX6_seen 40 = .ok (.invokevirtual 173, 3) := by decide +kernel
theorem dX6_seen_43 : decode cX6_seen 43 = .ok (.ireturn, 1) := by decide +kernel
theorem dX6_seen_44 : decode cX6_seen 44 = .ok (.aload_n 0, 1) := by decide +kernel
theorem dX6_seen_45 : decode cX6_seen 45 = .ok (.invokevirtual 66, 3) := by decide +kernel
theorem dX6_seen_48 : decode cX6_seen 48 = .ok (.ireturn, 1) := by decide +kernel
theorem dX6_told_0 : decode cX6_told 0 = .ok (.iload_n 1, 1) := by decide +kernel
theorem dX6_told_1 : decode cX6_told 1 = .ok (.invokestatic 73, 3) := by decide +kernel
theorem dX6_told_4 : decode cX6_told 4 = .ok (.ifCond .ne 8, 3) := by decide +kernel
theorem dX6_told_7 : decode cX6_told 7 = .ok (.aload_n 0, 1) := by decide +kernel
theorem dX6_told_8 : decode cX6_told 8 = .ok (.invokevirtual 66, 3) := by decide +kernel
theorem dX6_told_11 : decode cX6_told 11 = .ok (.ireturn, 1) := by decide +kernel
theorem dX6_told_12 : decode cX6_told 12 = .ok (.aload_n 0, 1) := by decide +kernel
theorem dX6_told_13 : decode cX6_told 13 = .ok (.invokevirtual 121, 3) := by decide +kernel
theorem dX6_told_16 : decode cX6_told 16 = .ok (.astore_n 2, 1) := by decide +kernel
theorem dX6_told_17 : decode cX6_told 17 = .ok (.aload_n 2, 1) := by decide +kernel
theorem dX6_told_18 : decode cX6_told 18 = .ok (.iload_n 1, 1) := by decide +kernel
theorem dX6_told_19 : decode cX6_told 19 = .ok (.invokevirtual 176, 3) := by decide +kernel
theorem dX6_told_22 : decode cX6_told 22 = .ok (.ifCond .eq 13, 3) := by decide +kernel
theorem dX6_told_25 : decode cX6_told 25 = .ok (.aload_n 0, 1) := by decide +kernel
theorem dX6_told_26 : decode cX6_told 26 = .ok (.getfield 10, 3) := by decide +kernel
theorem dX6_told_29 : decode cX6_told 29 = .ok (.getfield 80, 3) := by decide +kernel
theorem dX6_told_32 : decode cX6_told 32 = .ok (.iload_n 1, 1) := by decide +kernel
theorem dX6_told_33 : decode cX6_told 33 = .ok (.iaload, 1) := by decide +kernel
theorem dX6_told_34 : decode cX6_told 34 = .ok (.ireturn, 1) := by decide +kernel
theorem dX6_told_35 : decode cX6_told 35 = .ok (.aload_n 2, 1) := by decide +kernel
theorem dX6_told_36 : decode cX6_told 36 = .ok (.invokevirtual 173, 3) := by decide +kernel
theorem dX6_told_39 : decode cX6_told 39 = .ok (.iconst 2, 1) := by decide +kernel
theorem dX6_told_40 : decode cX6_told 40 = .ok (.if_icmp .ne 11, 3) := by decide +kernel
theorem dX6_told_43 : decode cX6_told 43 = .ok (.aload_n 0, 1) := by decide +kernel
theorem dX6_told_44 : decode cX6_told 44 = .ok (.iload_n 1, 1) := by decide +kernel
theorem dX6_told_45 : decode cX6_told 45 = .ok (.invokevirtual 179, 3) := by decide +kernel
theorem dX6_told_48 : decode cX6_told 48 = .ok (.goto 6, 3) := by decide +kernel
theorem dX6_told_51 : decode cX6_told 51 = .ok (.sipush (-1000), 3) := by decide +kernel
theorem dX6_told_54 : decode cX6_told 54 = .ok (.ireturn, 1) := by decide +kernel
theorem dX6_both_0 : decode cX6_both 0 = .ok (.aload_n 0, 1) := by decide +kernel
theorem dX6_both_1 : decode cX6_both 1 = .ok (.invokevirtual 108, 3) := by decide +kernel
theorem dX6_both_4 : decode cX6_both 4 = .ok (.astore_n 1, 1) := by decide +kernel
theorem dX6_both_5 : decode cX6_both 5 = .ok (.iconst 0, 1) := by decide +kernel
theorem dX6_both_6 : decode cX6_both 6 = .ok (.istore_n 2, 1) := by decide +kernel
theorem dX6_both_7 : decode cX6_both 7 = .ok (.iload_n 2, 1) := by decide +kernel
theorem dX6_both_8 : decode cX6_both 8 = .ok (.iconst 3, 1) := by decide +kernel
theorem dX6_both_9 : decode cX6_both 9 = .ok (.if_icmp .ge 47, 3) := by decide +kernel
theorem dX6_both_12 : decode cX6_both 12 = .ok (.iconst 0, 1) := by decide +kernel
theorem dX6_both_13 : decode cX6_both 13 = .ok (.istore_n 3, 1) := by decide +kernel
theorem dX6_both_14 : decode cX6_both 14 = .ok (.iload_n 3, 1) := by decide +kernel
theorem dX6_both_15 : decode cX6_both 15 = .ok (.aload_n 1, 1) := by decide +kernel
theorem dX6_both_16 : decode cX6_both 16 = .ok (.getfield 182, 3) := by decide +kernel
theorem dX6_both_19 : decode cX6_both 19 = .ok (.if_icmp .ge 31, 3) := by decide +kernel
theorem dX6_both_22 : decode cX6_both 22 = .ok (.aload_n 1, 1) := by decide +kernel
theorem dX6_both_23 : decode cX6_both 23 = .ok (.iload_n 2, 1) := by decide +kernel
theorem dX6_both_24 : decode cX6_both 24 = .ok (.iconst 0, 1) := by decide +kernel
theorem dX6_both_25 : decode cX6_both 25 = .ok (.iload_n 3, 1) := by decide +kernel
theorem dX6_both_26 : decode cX6_both 26 = .ok (.invokevirtual 160, 3) := by decide +kernel
theorem dX6_both_29 : decode cX6_both 29 = .ok (.ifCond .eq 15, 3) := by decide +kernel
theorem dX6_both_32 : decode cX6_both 32 = .ok (.aload_n 1, 1) := by decide +kernel
theorem dX6_both_33 : decode cX6_both 33 = .ok (.iload_n 2, 1) := by decide +kernel
theorem dX6_both_34 : decode cX6_both 34 = .ok (.iconst 1, 1) := by decide +kernel
theorem dX6_both_35 : decode cX6_both 35 = .ok (.iload_n 3, 1) := by decide +kernel
theorem dX6_both_36 : decode cX6_both 36 = .ok (.invokevirtual 160, 3) := by decide +kernel
theorem dX6_both_39 : decode cX6_both 39 = .ok (.ifCond .eq 5, 3) := by decide +kernel
theorem dX6_both_42 : decode cX6_both 42 = .ok (.iconst 1, 1) := by decide +kernel
theorem dX6_both_43 : decode cX6_both 43 = .ok (.ireturn, 1) := by decide +kernel
theorem dX6_both_44 : decode cX6_both 44 = .ok (.iinc 3 1, 3) := by decide +kernel
theorem dX6_both_47 : decode cX6_both 47 = .ok (.goto (-33), 3) := by decide +kernel
theorem dX6_both_50 : decode cX6_both 50 = .ok (.iinc 2 1, 3) := by decide +kernel
theorem dX6_both_53 : decode cX6_both 53 = .ok (.goto (-46), 3) := by decide +kernel
theorem dX6_both_56 : decode cX6_both 56 = .ok (.iconst 0, 1) := by decide +kernel
theorem dX6_both_57 : decode cX6_both 57 = .ok (.ireturn, 1) := by decide +kernel
theorem dX6_off_0 : decode cX6_off 0 = .ok (.iload_n 1, 1) := by decide +kernel
theorem dX6_off_1 : decode cX6_off 1 = .ok (.invokestatic 73, 3) := by decide +kernel
theorem dX6_off_4 : decode cX6_off 4 = .ok (.ifCond .ne 8, 3) := by decide +kernel
theorem dX6_off_7 : decode cX6_off 7 = .ok (.aload_n 0, 1) := by decide +kernel
theorem dX6_off_8 : decode cX6_off 8 = .ok (.invokevirtual 66, 3) := by decide +kernel
theorem dX6_off_11 : decode cX6_off 11 = .ok (.ireturn, 1) := by decide +kernel
theorem dX6_off_12 : decode cX6_off 12 = .ok (.aload_n 0, 1) := by decide +kernel
theorem dX6_off_13 : decode cX6_off 13 = .ok (.invokevirtual 108, 3) := by decide +kernel
theorem dX6_off_16 : decode cX6_off 16 = .ok (.astore_n 2, 1) := by decide +kernel
theorem dX6_off_17 : decode cX6_off 17 = .ok (.aload_n 2, 1) := by decide +kernel
theorem dX6_off_18 : decode cX6_off 18 = .ok (.iload_n 1, 1) := by decide +kernel
theorem dX6_off_19 : decode cX6_off 19 = .ok (.invokevirtual 141, 3) := by decide +kernel
theorem dX6_off_22 : decode cX6_off 22 = .ok (.aload_n 2, 1) := by decide +kernel
theorem dX6_off_23 : decode cX6_off 23 = .ok (.getfield 185, 3) := by decide +kernel
theorem dX6_off_26 : decode cX6_off 26 = .ok (.iload_n 1, 1) := by decide +kernel
theorem dX6_off_27 : decode cX6_off 27 = .ok (.iaload, 1) := by decide +kernel
theorem dX6_off_28 : decode cX6_off 28 = .ok (.isub, 1) := by decide +kernel
theorem dX6_off_29 : decode cX6_off 29 = .ok (.ireturn, 1) := by decide +kernel
theorem dX6_dies_0 : decode cX6_dies 0 = .ok (.iload_n 1, 1) := by decide +kernel
theorem dX6_dies_1 : decode cX6_dies 1 = .ok (.invokestatic 73, 3) := by decide +kernel
theorem dX6_dies_4 : decode cX6_dies 4 = .ok (.ifCond .ne 8, 3) := by decide +kernel
theorem dX6_dies_7 : decode cX6_dies 7 = .ok (.aload_n 0, 1) := by decide +kernel
theorem dX6_dies_8 : decode cX6_dies 8 = .ok (.invokevirtual 66, 3) := by decide +kernel
theorem dX6_dies_11 : decode cX6_dies 11 = .ok (.ireturn, 1) := by decide +kernel
theorem dX6_dies_12 : decode cX6_dies 12 = .ok (.aload_n 0, 1) := by decide +kernel
theorem dX6_dies_13 : decode cX6_dies 13 = .ok (.invokevirtual 108, 3) := by decide +kernel
theorem dX6_dies_16 : decode cX6_dies 16 = .ok (.iload_n 1, 1) := by decide +kernel
theorem dX6_dies_17 : decode cX6_dies 17 = .ok (.invokevirtual 188, 3) := by decide +kernel
theorem dX6_dies_20 : decode cX6_dies 20 = .ok (.ireturn, 1) := by decide +kernel
theorem dX6_event_0 : decode cX6_event 0 = .ok (.iload_n 1, 1) := by decide +kernel
theorem dX6_event_1 : decode cX6_event 1 = .ok (.ifCond .lt 12, 3) := by decide +kernel
theorem dX6_event_4 : decode cX6_event 4 = .ok (.iload_n 2, 1) := by decide +kernel
theorem dX6_event_5 : decode cX6_event 5 = .ok (.iconst 0, 1) := by decide +kernel
theorem dX6_event_6 : decode cX6_event 6 = .ok (.iconst 3, 1) := by decide +kernel
theorem dX6_event_7 : decode cX6_event 7 = .ok (.invokestatic 56, 3) := by decide +kernel
theorem dX6_event_10 : decode cX6_event 10 = .ok (.ifCond .ne 8, 3) := by decide +kernel
theorem dX6_event_13 : decode cX6_event 13 = .ok (.aload_n 0, 1) := by decide +kernel
theorem dX6_event_14 : decode cX6_event 14 = .ok (.invokevirtual 66, 3) := by decide +kernel
theorem dX6_event_17 : decode cX6_event 17 = .ok (.ireturn, 1) := by decide +kernel
theorem dX6_event_18 : decode cX6_event 18 = .ok (.aload_n 0, 1) := by decide +kernel
theorem dX6_event_19 : decode cX6_event 19 = .ok (.invokevirtual 191, 3) := by decide +kernel
theorem dX6_event_22 : decode cX6_event 22 = .ok (.iconst (-1), 1) := by decide +kernel
theorem dX6_event_23 : decode cX6_event 23 = .ok (.iload_n 1, 1) := by decide +kernel
theorem dX6_event_24 : decode cX6_event 24 = .ok (.iload_n 2, 1) := by decide +kernel
theorem dX6_event_25 : decode cX6_event 25 = .ok (.invokevirtual 166, 3) := by decide +kernel
theorem dX6_event_28 : decode cX6_event 28 = .ok (.ireturn, 1) := by decide +kernel
theorem dX6_events_0 : decode cX6_events 0 = .ok (.aload_n 0, 1) := by decide +kernel
theorem dX6_events_1 : decode cX6_events 1 = .ok (.invokevirtual 191, 3) := by decide +kernel
theorem dX6_events_4 : decode cX6_events 4 = .ok (.getfield 132, 3) := by decide +kernel
theorem dX6_events_7 : decode cX6_events 7 = .ok (.ireturn, 1) := by decide +kernel
theorem dX6_shift_0 : decode cX6_shift 0 = .ok (.iload_n 1, 1) := by decide +kernel
theorem dX6_shift_1 : decode cX6_shift 1 = .ok (.iconst 0, 1) := by decide +kernel
theorem dX6_shift_2 : decode cX6_shift 2 = .ok (.iconst 4, 1) := by decide +kernel
theorem dX6_shift_3 : decode cX6_shift 3 = .ok (.invokestatic 56, 3) := by decide +kernel
theorem dX6_shift_6 : decode cX6_shift 6 = .ok (.ifCond .ne 8, 3) := by decide +kernel
theorem dX6_shift_9 : decode cX6_shift 9 = .ok (.aload_n 0, 1) := by decide +kernel
theorem dX6_shift_10 : decode cX6_shift 10 = .ok (.invokevirtual 66, 3) := by decide +kernel
theorem dX6_shift_13 : decode cX6_shift 13 = .ok (.ireturn, 1) := by decide +kernel
theorem dX6_shift_14 : decode cX6_shift 14 = .ok (.aload_n 0, 1) := by decide +kernel
theorem dX6_shift_15 : decode cX6_shift 15 = .ok (.getfield 38, 3) := by decide +kernel
theorem dX6_shift_18 : decode cX6_shift 18 = .ok (.aload_n 0, 1) := by decide +kernel
theorem dX6_shift_19 : decode cX6_shift 19 = .ok (.invokevirtual 108, 3) := by decide +kernel
theorem dX6_shift_22 : decode cX6_shift 22 = .ok (.aload_n 0, 1) := by decide +kernel
theorem dX6_shift_23 : decode cX6_shift 23 = .ok (.getfield 10, 3) := by decide +kernel
theorem dX6_shift_26 : decode cX6_shift 26 = .ok (.getfield 70, 3) := by decide +kernel
theorem dX6_shift_29 : decode cX6_shift 29 = .ok (.iconst 3, 1) := by decide +kernel
