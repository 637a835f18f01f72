theorem dX0_init_0 : decode cX0_init 0 = .ok (.aload_n 0, 1) := by decide +kernel
theorem dX0_init_1 : decode cX0_init 1 = .ok (.invokespecial 5, 3) := by decide +kernel
theorem dX0_init_4 : decode cX0_init 4 = .ok (.aload_n 0, 1) := by decide +kernel
theorem dX0_init_5 : decode cX0_init 5 = .ok (.bipush 7, 2) := by decide +kernel
theorem dX0_init_7 : decode cX0_init 7 = .ok (.newarray .int, 2) := by decide +kernel
theorem dX0_init_9 : decode cX0_init 9 = .ok (.dup, 1) := by decide +kernel
theorem dX0_init_10 : decode cX0_init 10 = .ok (.iconst 0, 1) := by decide +kernel
theorem dX0_init_11 : decode cX0_init 11 = .ok (.iconst 0, 1) := by decide +kernel
theorem dX0_init_12 : decode cX0_init 12 = .ok (.iastore, 1) := by decide +kernel
theorem dX0_init_13 : decode cX0_init 13 = .ok (.dup, 1) := by decide +kernel
theorem dX0_init_14 : decode cX0_init 14 = .ok (.iconst 1, 1) := by decide +kernel
theorem dX0_init_15 : decode cX0_init 15 = .ok (.iconst 0, 1) := by decide +kernel
theorem dX0_init_16 : decode cX0_init 16 = .ok (.iastore, 1) := by decide +kernel
theorem dX0_init_17 : decode cX0_init 17 = .ok (.dup, 1) := by decide +kernel
theorem dX0_init_18 : decode cX0_init 18 = .ok (.iconst 2, 1) := by decide +kernel
theorem dX0_init_19 : decode cX0_init 19 = .ok (.bipush 10, 2) := by decide +kernel
theorem dX0_init_21 : decode cX0_init 21 = .ok (.iastore, 1) := by decide +kernel
theorem dX0_init_22 : decode cX0_init 22 = .ok (.dup, 1) := by decide +kernel
theorem dX0_init_23 : decode cX0_init 23 = .ok (.iconst 3, 1) := by decide +kernel
theorem dX0_init_24 : decode cX0_init 24 = .ok (.bipush 10, 2) := by decide +kernel
theorem dX0_init_26 : decode cX0_init 26 = .ok (.iastore, 1) := by decide +kernel
theorem dX0_init_27 : decode cX0_init 27 = .ok (.dup, 1) := by decide +kernel
theorem dX0_init_28 : decode cX0_init 28 = .ok (.iconst 4, 1) := by decide +kernel
theorem dX0_init_29 : decode cX0_init 29 = .ok (.bipush 10, 2) := by decide +kernel
theorem dX0_init_31 : decode cX0_init 31 = .ok (.iastore, 1) := by decide +kernel
theorem dX0_init_32 : decode cX0_init 32 = .ok (.dup, 1) := by decide +kernel
theorem dX0_init_33 : decode cX0_init 33 = .ok (.iconst 5, 1) := by decide +kernel
theorem dX0_init_34 : decode cX0_init 34 = .ok (.bipush 10, 2) := by decide +kernel
theorem dX0_init_36 : decode cX0_init 36 = .ok (.iastore, 1) := by decide +kernel
theorem dX0_init_37 : decode cX0_init 37 = .ok (.dup, 1) := by decide +kernel
theorem dX0_init_38 : decode cX0_init 38 = .ok (.bipush 6, 2) := by decide +kernel
theorem dX0_init_40 : decode cX0_init 40 = .ok (.bipush 10, 2) := by decide +kernel
theorem dX0_init_42 : decode cX0_init 42 = .ok (.iastore, 1) := by decide +kernel
theorem dX0_init_43 : decode cX0_init 43 = .ok (.putfield 11, 3) := by decide +kernel
theorem dX0_init_46 : decode cX0_init 46 = .ok (.aload_n 0, 1) := by decide +kernel
theorem dX0_init_47 : decode cX0_init 47 = .ok (.bipush 11, 2) := by decide +kernel
theorem dX0_init_49 : decode cX0_init 49 = .ok (.newarray .int, 2) := by decide +kernel
theorem dX0_init_51 : decode cX0_init 51 = .ok (.putfield 15, 3) := by decide +kernel
theorem dX0_init_54 : decode cX0_init 54 = .ok (.aload_n 0, 1) := by decide +kernel
theorem dX0_init_55 : decode cX0_init 55 = .ok (.bipush 11, 2) := by decide +kernel
theorem dX0_init_57 : decode cX0_init 57 = .ok (.newarray .int, 2) := by decide +kernel
theorem dX0_init_59 : decode cX0_init 59 = .ok (.putfield 18, 3) := by decide +kernel
theorem dX0_init_62 : decode cX0_init 62 = .ok (.aload_n 0, 1) := by decide +kernel
theorem dX0_init_63 : decode cX0_init 63 = .ok (.iconst 5, 1) := by decide +kernel
theorem dX0_init_64 : decode cX0_init 64 = .ok (.newarray .int, 2) := by decide +kernel
theorem dX0_init_66 : decode cX0_init 66 = .ok (.putfield 21, 3) := by decide +kernel
theorem dX0_init_69 : decode cX0_init 69 = .ok (.aload_n 0, 1) := by decide +kernel
theorem dX0_init_70 : decode cX0_init 70 = .ok (.iconst 0, 1) := by decide +kernel
theorem dX0_init_71 : decode cX0_init 71 = .ok (.putfield 24, 3) := by decide +kernel
theorem dX0_init_74 : decode cX0_init 74 = .ok (.return_, 1) := by decide +kernel
theorem dX0_chooseBest_0 : decode cX0_chooseBest 0 = .ok (.iload_n 3, 1) := by decide +kernel
theorem dX0_chooseBest_1 : decode cX0_chooseBest 1 = .ok (.invokestatic 28, 3) := by decide +kernel
theorem dX0_chooseBest_4 : decode cX0_chooseBest 4 = .ok (.istore 4, 2) := by decide +kernel
theorem dX0_chooseBest_6 : decode cX0_chooseBest 6 = .ok (.iload 4, 2) := by decide +kernel
theorem dX0_chooseBest_8 : decode cX0_chooseBest 8 = .ok (.istore 5, 2) := by decide +kernel
theorem dX0_chooseBest_10 : decode cX0_chooseBest 10 = .ok (.iload 5, 2) := by decide +kernel
theorem dX0_chooseBest_12 : decode cX0_chooseBest 12 = .ok (.ifCond .lt 18, 3) := by decide +kernel
theorem dX0_chooseBest_15 : decode cX0_chooseBest 15 = .ok (.aload_n 0, 1) := by decide +kernel
theorem dX0_chooseBest_16 : decode cX0_chooseBest 16 = .ok (.aload_n 1, 1) := by decide +kernel
theorem dX0_chooseBest_17 : decode cX0_chooseBest 17 = .ok (.iload_n 2, 1) := by decide +kernel
theorem dX0_chooseBest_18 : decode cX0_chooseBest 18 = .ok (.iload_n 3, 1) := by decide +kernel
theorem dX0_chooseBest_19 : decode cX0_chooseBest 19 = .ok (.iload 5, 2) := by decide +kernel
theorem dX0_chooseBest_21 : decode cX0_chooseBest 21 = .ok (.invokevirtual 34, 3) := by decide +kernel
theorem dX0_chooseBest_24 : decode cX0_chooseBest 24 = .ok (.iinc 5 (-1), 3) := by decide +kernel
theorem dX0_chooseBest_27 : decode cX0_chooseBest 27 = .ok (.goto (-17), 3) := by decide +kernel
theorem dX0_chooseBest_30 : decode cX0_chooseBest 30 = .ok (.aload_n 0, 1) := by decide +kernel
theorem dX0_chooseBest_31 : decode cX0_chooseBest 31 = .ok (.iconst 0, 1) := by decide +kernel
theorem dX0_chooseBest_32 : decode cX0_chooseBest 32 = .ok (.putfield 24, 3) := by decide +kernel
theorem dX0_chooseBest_35 : decode cX0_chooseBest 35 = .ok (.iconst 0, 1) := by decide +kernel
theorem dX0_chooseBest_36 : decode cX0_chooseBest 36 = .ok (.istore 5, 2) := by decide +kernel
theorem dX0_chooseBest_38 : decode cX0_chooseBest 38 = .ok (.iconst 0, 1) := by decide +kernel
theorem dX0_chooseBest_39 : decode cX0_chooseBest 39 = .ok (.istore 6, 2) := by decide +kernel
theorem dX0_chooseBest_41 : decode cX0_chooseBest 41 = .ok (.iload 6, 2) := by decide +kernel
theorem dX0_chooseBest_43 : decode cX0_chooseBest 43 = .ok (.iconst 5, 1) := by decide +kernel
theorem dX0_chooseBest_44 : decode cX0_chooseBest 44 = .ok (.if_icmp .ge 55, 3) := by decide +kernel
theorem dX0_chooseBest_47 : decode cX0_chooseBest 47 = .ok (.aload_n 0, 1) := by decide +kernel
theorem dX0_chooseBest_48 : decode cX0_chooseBest 48 = .ok (.getfield 18, 3) := by decide +kernel
theorem dX0_chooseBest_51 : decode cX0_chooseBest 51 = .ok (.iload 5, 2) := by decide +kernel
theorem dX0_chooseBest_53 : decode cX0_chooseBest 53 = .ok (.iaload, 1) := by decide +kernel
theorem dX0_chooseBest_54 : decode cX0_chooseBest 54 = .ok (.ifCond .le 45, 3) := by decide +kernel
theorem dX0_chooseBest_57 : decode cX0_chooseBest 57 = .ok (.aload_n 0, 1) := by decide +kernel
theorem dX0_chooseBest_58 : decode cX0_chooseBest 58 = .ok (.getfield 21, 3) := by decide +kernel
theorem dX0_chooseBest_61 : decode cX0_chooseBest 61 = .ok (.iload 6, 2) := by decide +kernel
theorem dX0_chooseBest_63 : decode cX0_chooseBest 63 = .ok (.aload_n 0, 1) := by decide +kernel
theorem dX0_chooseBest_64 : decode cX0_chooseBest 64 = .ok (.getfield 18, 3) := by decide +kernel
theorem dX0_chooseBest_67 : decode cX0_chooseBest 67 = .ok (.iload 5, 2) := by decide +kernel
theorem dX0_chooseBest_69 : decode cX0_chooseBest 69 = .ok (.iaload, 1) := by decide +kernel
theorem dX0_chooseBest_70 : decode cX0_chooseBest 70 = .ok (.iastore, 1) := by decide +kernel
theorem dX0_chooseBest_71 : decode cX0_chooseBest 71 = .ok (.iload 5, 2) := by decide +kernel
theorem dX0_chooseBest_73 : decode cX0_chooseBest 73 = .ok (.aload_n 0, 1) := by decide +kernel
theorem dX0_chooseBest_74 : decode cX0_chooseBest 74 = .ok (.getfield 18, 3) := by decide +kernel
theorem dX0_chooseBest_77 : decode cX0_chooseBest 77 = .ok (.iload 5, 2) := by decide +kernel
theorem dX0_chooseBest_79 : decode cX0_chooseBest 79 = .ok (.iaload, 1) := by decide +kernel
theorem dX0_chooseBest_80 : decode cX0_chooseBest 80 = .ok (.iadd, 1) := by decide +kernel
theorem dX0_chooseBest_81 : decode cX0_chooseBest 81 = .ok (.istore 5, 2) := by decide +kernel
theorem dX0_chooseBest_83 : decode cX0_chooseBest 83 = .ok (.aload_n 0, 1) := by decide +kernel
theorem dX0_chooseBest_84 : decode cX0_chooseBest 84 = .ok (.dup, 1) := by decide +kernel
theorem dX0_chooseBest_85 : decode cX0_chooseBest 85 = .ok (.getfield 24, 3) := by decide +kernel
theorem dX0_chooseBest_88 : decode cX0_chooseBest 88 = .ok (.iconst 1, 1) := by decide +kernel
theorem dX0_chooseBest_89 : decode cX0_chooseBest 89 = .ok (.iadd, 1) := by decide +kernel
theorem dX0_chooseBest_90 : decode cX0_chooseBest 90 = .ok (.putfield 24, 3) := by decide +kernel
theorem dX0_chooseBest_93 : decode cX0_chooseBest 93 = .ok (.iinc 6 1, 3) := by decide +kernel
theorem dX0_chooseBest_96 : decode cX0_chooseBest 96 = .ok (.goto (-55), 3) := by decide +kernel
theorem dX0_chooseBest_99 : decode cX0_chooseBest 99 = .ok (.aload_n 0, 1) := by decide +kernel
theorem dX0_chooseBest_100 : decode cX0_chooseBest 100 = .ok (.getfield 15, 3) := by decide +kernel
theorem dX0_chooseBest_103 : decode cX0_chooseBest 103 = .ok (.iconst 0, 1) := by decide +kernel
theorem dX0_chooseBest_104 : decode cX0_chooseBest 104 = .ok (.iaload, 1) := by decide +kernel
theorem dX0_chooseBest_105 : decode cX0_chooseBest 105 = .ok (.ireturn, 1) := by decide +kernel
theorem dX0_weigh_0 : decode cX0_weigh 0 = .ok (.iload_n 3, 1) := by decide +kernel
theorem dX0_weigh_1 : decode cX0_weigh 1 = .ok (.invokestatic 28, 3) := by decide +kernel
theorem dX0_weigh_4 : decode cX0_weigh 4 = .ok (.istore 5, 2) := by decide +kernel
theorem dX0_weigh_6 : decode cX0_weigh 6 = .ok (.aload_n 0, 1) := by decide +kernel
theorem dX0_weigh_7 : decode cX0_weigh 7 = .ok (.getfield 15, 3) := by decide +kernel
theorem dX0_weigh_10 : decode cX0_weigh 10 = .ok (.iload 4, 2) := by decide +kernel
theorem dX0_weigh_12 : decode cX0_weigh 12 = .ok (.iconst (-1), 1) := by decide +kernel
theorem dX0_weigh_13 : decode cX0_weigh 13 = .ok (.iastore, 1) := by decide +kernel
theorem dX0_weigh_14 : decode cX0_weigh 14 = .ok (.aload_n 0, 1) := by decide +kernel
theorem dX0_weigh_15 : decode cX0_weigh 15 = .ok (.getfield 18, 3) := by decide +kernel
theorem dX0_weigh_18 : decode cX0_weigh 18 = .ok (.iload 4, 2) := by decide +kernel
theorem dX0_weigh_20 : decode cX0_weigh 20 = .ok (.iconst 0, 1) := by decide +kernel
theorem dX0_weigh_21 : decode cX0_weigh 21 = .ok (.iastore, 1) := by decide +kernel
theorem dX0_weigh_22 : decode cX0_weigh 22 = .ok (.iconst 2, 1) := by decide +kernel
theorem dX0_weigh_23 : decode cX0_weigh 23 = .ok (.istore 6, 2) := by decide +kernel
theorem dX0_weigh_25 : decode cX0_weigh 25 = .ok (.iload 6, 2) := by decide +kernel
theorem dX0_weigh_27 : decode cX0_weigh 27 = .ok (.bipush 6, 2) := by decide +kernel
theorem dX0_weigh_29 : decode cX0_weigh 29 = .ok (.if_icmp .gt 82, 3) := by decide +kernel
theorem dX0_weigh_32 : decode cX0_weigh 32 = .ok (.iload 4, 2) := by decide +kernel
theorem dX0_weigh_34 : decode cX0_weigh 34 = .ok (.iload 6, 2) := by decide +kernel
theorem dX0_weigh_36 : decode cX0_weigh 36 = .ok (.iadd, 1) := by decide +kernel
theorem dX0_weigh_37 : decode cX0_weigh 37 = .ok (.iload 5, 2) := by decide +kernel
theorem dX0_weigh_39 : decode cX0_weigh 39 = .ok (.if_icmp .gt 72, 3) := by decide +kernel
theorem dX0_weigh_42 : decode cX0_weigh 42 = .ok (.iload 4, 2) := by decide +kernel
theorem dX0_weigh_44 : decode cX0_weigh 44 = .ok (.iload 6, 2) := by decide +kernel
theorem dX0_weigh_46 : decode cX0_weigh 46 = .ok (.iadd, 1) := by decide +kernel
theorem dX0_weigh_47 : decode cX0_weigh 47 = .ok (.istore 7, 2) := by decide +kernel
theorem dX0_weigh_49 : decode cX0_weigh 49 = .ok (.aload_n 0, 1) := by decide +kernel
theorem dX0_weigh_50 : decode cX0_weigh 50 = .ok (.getfield 11, 3) := by decide +kernel
theorem dX0_weigh_53 : decode cX0_weigh 53 = .ok (.iload 6, 2) := by decide +kernel
theorem dX0_weigh_55 : decode cX0_weigh 55 = .ok (.iaload, 1) := by decide +kernel
theorem dX0_weigh_56 : decode cX0_weigh 56 = .ok (.aload_n 1, 1) := by decide +kernel
theorem dX0_weigh_57 : decode cX0_weigh 57 = .ok (.iload_n 2, 1) := by decide +kernel
theorem dX0_weigh_58 : decode cX0_weigh 58 = .ok (.iload_n 3, 1) := by decide +kernel
theorem dX0_weigh_59 : decode cX0_weigh 59 = .ok (.iload 7, 2) := by decide +kernel
theorem dX0_weigh_61 : decode cX0_weigh 61 = .ok (.invokevirtual 38, 3) := by decide +kernel
theorem dX0_weigh_64 : decode cX0_weigh 64 = .ok (.imul, 1) := by decide +kernel
theorem dX0_weigh_65 : decode cX0_weigh 65 = .ok (.aload_n 0, 1) := by decide +kernel
theorem dX0_weigh_66 : decode cX0_weigh 66 = .ok (.getfield 15, 3) := by decide +kernel
theorem dX0_weigh_69 : decode cX0_weigh 69 = .ok (.iload 7, 2) := by decide +kernel
theorem dX0_weigh_71 : decode cX0_weigh 71 = .ok (.iaload, 1) := by decide +kernel
theorem dX0_weigh_72 : decode cX0_weigh 72 = .ok (.iadd, 1) := by decide +kernel
theorem dX0_weigh_73 : decode cX0_weigh 73 = .ok (.istore 8, 2) := by decide +kernel
theorem dX0_weigh_75 : decode cX0_weigh 75 = .ok (.iload 8, 2) := by decide +kernel
theorem dX0_weigh_77 : decode cX0_weigh 77 = .ok (.aload_n 0, 1) := by decide +kernel
theorem dX0_weigh_78 : decode cX0_weigh 78 = .ok (.getfield 15, 3) := by decide +kernel
theorem dX0_weigh_81 : decode cX0_weigh 81 = .ok (.iload 4, 2) := by decide +kernel
theorem dX0_weigh_83 : decode cX0_weigh 83 = .ok (.iaload, 1) := by decide +kernel
theorem dX0_weigh_84 : decode cX0_weigh 84 = .ok (.if_icmp .le 21, 3) := by decide +kernel
theorem dX0_weigh_87 : decode cX0_weigh 87 = .ok (.aload_n 0, 1) := by decide +kernel
theorem dX0_weigh_88 : decode cX0_weigh 88 = .ok (.getfield 15, 3) := by decide +kernel
theorem dX0_weigh_91 : decode cX0_weigh 91 = .ok (.iload 4, 2) := by decide +kernel
theorem dX0_weigh_93 : decode cX0_weigh 93 = .ok (.iload 8, 2) := by decide +kernel
theorem dX0_weigh_95 : decode cX0_weigh 95 = .ok (.iastore, 1) := by decide +kernel
theorem dX0_weigh_96 : decode cX0_weigh 96 = .ok (.aload_n 0, 1) := by decide +kernel
theorem dX0_weigh_97 : decode cX0_weigh 97 = .ok (.getfield 18, 3) := by decide +kernel
theorem dX0_weigh_100 : decode cX0_weigh 100 = .ok (.iload 4, 2) := by decide +kernel
theorem dX0_weigh_102 : decode cX0_weigh 102 = .ok (.iload 6, 2) := by decide +kernel
theorem dX0_weigh_104 : decode cX0_weigh 104 = .ok (.iastore, 1) := by decide +kernel
theorem dX0_weigh_105 : decode cX0_weigh 105 = .ok (.iinc 6 1, 3) := by decide +kernel
theorem dX0_weigh_108 : decode cX0_weigh 108 = .ok (.goto (-83), 3) := by decide +kernel
theorem dX0_weigh_111 : decode cX0_weigh 111 = .ok (.aload_n 0, 1) := by decide +kernel
theorem dX0_weigh_112 : decode cX0_weigh 112 = .ok (.getfield 18, 3) := by decide +kernel
theorem dX0_weigh_115 : decode cX0_weigh 115 = .ok (.iload 4, 2) := by decide +kernel
theorem dX0_weigh_117 : decode cX0_weigh 117 = .ok (.iaload, 1) := by decide +kernel
theorem dX0_weigh_118 : decode cX0_weigh 118 = .ok (.ifCond .ne 11, 3) := by decide +kernel
theorem dX0_weigh_121 : decode cX0_weigh 121 = .ok (.aload_n 0, 1) := by decide +kernel
theorem dX0_weigh_122 : decode cX0_weigh 122 = .ok (.getfield 15, 3) := by decide +kernel
theorem dX0_weigh_125 : decode cX0_weigh 125 = .ok (.iload 4, 2) := by decide +kernel
theorem dX0_weigh_127 : decode cX0_weigh 127 = .ok (.iconst 0, 1) := by decide +kernel
theorem dX0_weigh_128 : decode cX0_weigh 128 = .ok (.iastore, 1) := by decide +kernel
theorem dX0_weigh_129 : decode cX0_weigh 129 = .ok (.return_, 1) := by decide +kernel
theorem dX0_chooseRow_0 : decode cX0_chooseRow 0 = .ok (.aload_n 0, 1) := by decide +kernel
theorem dX0_chooseRow_1 : decode cX0_chooseRow 1 = .ok (.iload 4, 2) := by decide +kernel
theorem dX0_chooseRow_3 : decode cX0_chooseRow 3 = .ok (.invokevirtual 42, 3) := by decide +kernel
theorem dX0_chooseRow_6 : decode cX0_chooseRow 6 = .ok (.ifCond .ne 5, 3) := by decide +kernel
theorem dX0_chooseRow_9 : decode cX0_chooseRow 9 = .ok (.iconst (-1), 1) := by decide +kernel
theorem dX0_chooseRow_10 : decode cX0_chooseRow 10 = .ok (.ireturn, 1) := by decide +kernel
theorem dX0_chooseRow_11 : decode cX0_chooseRow 11 = .ok (.iconst 0, 1) := by decide +kernel
theorem dX0_chooseRow_12 : decode cX0_chooseRow 12 = .ok (.istore 5, 2) := by decide +kernel
theorem dX0_chooseRow_14 : decode cX0_chooseRow 14 = .ok (.iconst 0, 1) := by decide +kernel
theorem dX0_chooseRow_15 : decode cX0_chooseRow 15 = .ok (.istore 6, 2) := by decide +kernel
theorem dX0_chooseRow_17 : decode cX0_chooseRow 17 = .ok (.iconst 0, 1) := by decide +kernel
theorem dX0_chooseRow_18 : decode cX0_chooseRow 18 = .ok (.istore 7, 2) := by decide +kernel
theorem dX0_chooseRow_20 : decode cX0_chooseRow 20 = .ok (.iload 7, 2) := by decide +kernel
theorem dX0_chooseRow_22 : decode cX0_chooseRow 22 = .ok (.aload_n 0, 1) := by decide +kernel
theorem dX0_chooseRow_23 : decode cX0_chooseRow 23 = .ok (.getfield 24, 3) := by decide +kernel
theorem dX0_chooseRow_26 : decode cX0_chooseRow 26 = .ok (.if_icmp .ge 47, 3) := by decide +kernel
theorem dX0_chooseRow_29 : decode cX0_chooseRow 29 = .ok (.iload 6, 2) := by decide +kernel
theorem dX0_chooseRow_31 : decode cX0_chooseRow 31 = .ok (.aload_n 0, 1) := by decide +kernel
theorem dX0_chooseRow_32 : decode cX0_chooseRow 32 = .ok (.getfield 21, 3) := by decide +kernel
theorem dX0_chooseRow_35 : decode cX0_chooseRow 35 = .ok (.iload 7, 2) := by decide +kernel
theorem dX0_chooseRow_37 : decode cX0_chooseRow 37 = .ok (.iaload, 1) := by decide +kernel
theorem dX0_chooseRow_38 : decode cX0_chooseRow 38 = .ok (.iadd, 1) := by decide +kernel
theorem dX0_chooseRow_39 : decode cX0_chooseRow 39 = .ok (.istore 6, 2) := by decide +kernel
theorem dX0_chooseRow_41 : decode cX0_chooseRow 41 = .ok (.iload 5, 2) := by decide +kernel
theorem dX0_chooseRow_43 : decode cX0_chooseRow 43 = .ok (.aload_n 0, 1) := by decide +kernel
theorem dX0_chooseRow_44 : decode cX0_chooseRow 44 = .ok (.getfield 11, 3) := by decide +kernel
theorem dX0_chooseRow_47 : decode cX0_chooseRow 47 = .ok (.aload_n 0, 1) := by decide +kernel
theorem dX0_chooseRow_48 : decode cX0_chooseRow 48 = .ok (.getfield 21, 3) := by decide +kernel
theorem dX0_chooseRow_51 : decode cX0_chooseRow 51 = .ok (.iload 7, 2) := by decide +kernel
theorem dX0_chooseRow_53 : decode cX0_chooseRow 53 = .ok (.iaload, 1) := by decide +kernel
theorem dX0_chooseRow_54 : decode cX0_chooseRow 54 = .ok (.iaload, 1) := by decide +kernel
theorem dX0_chooseRow_55 : decode cX0_chooseRow 55 = .ok (.aload_n 1, 1) := by decide +kernel
theorem dX0_chooseRow_56 : decode cX0_chooseRow 56 = .ok (.iload_n 2, 1) := by decide +kernel
theorem dX0_chooseRow_57 : decode cX0_chooseRow 57 = .ok (.iload_n 3, 1) := by decide +kernel
theorem dX0_chooseRow_58 : decode cX0_chooseRow 58 = .ok (.iload 6, 2) := by decide +kernel
theorem dX0_chooseRow_60 : decode cX0_chooseRow 60 = .ok (.invokevirtual 38, 3) := by decide +kernel
theorem dX0_chooseRow_63 : decode cX0_chooseRow 63 = .ok (.imul, 1) := by decide +kernel
theorem dX0_chooseRow_64 : decode cX0_chooseRow 64 = .ok (.iadd, 1) := by decide +kernel
theorem dX0_chooseRow_65 : decode cX0_chooseRow 65 = .ok (.istore 5, 2) := by decide +kernel
theorem dX0_chooseRow_67 : decode cX0_chooseRow 67 = .ok (.iinc 7 1, 3) := by decide +kernel
theorem dX0_chooseRow_70 : decode cX0_chooseRow 70 = .ok (.goto (-50), 3) := by decide +kernel
theorem dX0_chooseRow_73 : decode cX0_chooseRow 73 = .ok (.iload 6, 2) := by decide +kernel
theorem dX0_chooseRow_75 : decode cX0_chooseRow 75 = .ok (.iload_n 3, 1) := by decide +kernel
theorem dX0_chooseRow_76 : decode cX0_chooseRow 76 = .ok (.invokestatic 28, 3) := by decide +kernel
theorem dX0_chooseRow_79 : decode cX0_chooseRow 79 = .ok (.if_icmp .gt 8, 3) := by decide +kernel
theorem dX0_chooseRow_82 : decode cX0_chooseRow 82 = .ok (.iload 5, 2) := by decide +kernel
theorem dX0_chooseRow_84 : decode cX0_chooseRow 84 = .ok (.goto 4, 3) := by decide +kernel
theorem dX0_chooseRow_87 : decode cX0_chooseRow 87 = .ok (.iconst (-1), 1) := by decide +kernel
theorem dX0_chooseRow_88 : decode cX0_chooseRow 88 = .ok (.ireturn, 1) := by decide +kernel
theorem dX0_takeFigures_0 : decode cX0_takeFigures 0 = .ok (.aload_n 0, 1) := by decide +kernel
theorem dX0_takeFigures_1 : decode cX0_takeFigures 1 = .ok (.iconst 0, 1) := by decide +kernel
theorem dX0_takeFigures_2 : decode cX0_takeFigures 2 = .ok (.putfield 24, 3) := by decide +kernel
theorem dX0_takeFigures_5 : decode cX0_takeFigures 5 = .ok (.iload_n 1, 1) := by decide +kernel
theorem dX0_takeFigures_6 : decode cX0_takeFigures 6 = .ok (.invokestatic 46, 3) := by decide +kernel
theorem dX0_takeFigures_9 : decode cX0_takeFigures 9 = .ok (.istore_n 2, 1) := by decide +kernel
theorem dX0_takeFigures_10 : decode cX0_takeFigures 10 = .ok (.iload_n 2, 1) := by decide +kernel
theorem dX0_takeFigures_11 : decode cX0_takeFigures 11 = .ok (.iconst 1, 1) := by decide +kernel
theorem dX0_takeFigures_12 : decode cX0_takeFigures 12 = .ok (.if_icmp .lt 8, 3) := by decide +kernel
theorem dX0_takeFigures_15 : decode cX0_takeFigures 15 = .ok (.iload_n 2, 1) := by decide +kernel
theorem dX0_takeFigures_16 : decode cX0_takeFigures 16 = .ok (.iconst 5, 1) := by decide +kernel
theorem dX0_takeFigures_17 : decode cX0_takeFigures 17 = .ok (.if_icmp .le 5, 3) := by decide +kernel
theorem dX0_takeFigures_20 : decode cX0_takeFigures 20 = .ok (.iconst 0, 1) := by decide +kernel
theorem dX0_takeFigures_21 : decode cX0_takeFigures 21 = .ok (.ireturn, 1) := by decide +kernel
theorem dX0_takeFigures_22 : decode cX0_takeFigures 22 = .ok (.iload_n 1, 1) := by decide +kernel
theorem dX0_takeFigures_23 : decode cX0_takeFigures 23 = .ok (.istore_n 3, 1) := by decide +kernel
theorem dX0_takeFigures_24 : decode cX0_takeFigures 24 = .ok (.iload_n 2, 1) := by decide +kernel
theorem dX0_takeFigures_25 : decode cX0_takeFigures 25 = .ok (.iconst 1, 1) := by decide +kernel
theorem dX0_takeFigures_26 : decode cX0_takeFigures 26 = .ok (.isub, 1) := by decide +kernel
theorem dX0_takeFigures_27 : decode cX0_takeFigures 27 = .ok (.istore 4, 2) := by decide +kernel
theorem dX0_takeFigures_29 : decode cX0_takeFigures 29 = .ok (.iload 4, 2) := by decide +kernel
theorem dX0_takeFigures_31 : decode cX0_takeFigures 31 = .ok (.ifCond .lt 42, 3) := by decide +kernel
theorem dX0_takeFigures_34 : decode cX0_takeFigures 34 = .ok (.iload_n 3, 1) := by decide +kernel
theorem dX0_takeFigures_35 : decode cX0_takeFigures 35 = .ok (.bipush 10, 2) := by decide +kernel
theorem dX0_takeFigures_37 : decode cX0_takeFigures 37 = .ok (.irem, 1) := by decide +kernel
theorem dX0_takeFigures_38 : decode cX0_takeFigures 38 = .ok (.istore 5, 2) := by decide +kernel
theorem dX0_takeFigures_40 : decode cX0_takeFigures 40 = .ok (.iload 5, 2) := by decide +kernel
theorem dX0_takeFigures_42 : decode cX0_takeFigures 42 = .ok (.iconst 2, 1) := by decide +kernel
theorem dX0_takeFigures_43 : decode cX0_takeFigures 43 = .ok (.bipush 6, 2) := by decide +kernel
theorem dX0_takeFigures_45 : decode cX0_takeFigures 45 = .ok (.invokestatic 49, 3) := by decide +kernel
theorem dX0_takeFigures_48 : decode cX0_takeFigures 48 = .ok (.ifCond .ne 5, 3) := by decide +kernel
theorem dX0_takeFigures_51 : decode cX0_takeFigures 51 = .ok (.iconst 0, 1) := by decide +kernel
theorem dX0_takeFigures_52 : decode cX0_takeFigures 52 = .ok (.ireturn, 1) := by decide +kernel
theorem dX0_takeFigures_53 : decode cX0_takeFigures 53 = .ok (.aload_n 0, 1) := by decide +kernel
theorem dX0_takeFigures_54 : decode cX0_takeFigures 54 = .ok (.getfield 21, 3) := by decide +kernel
theorem dX0_takeFigures_57 : decode cX0_takeFigures 57 = .ok (.iload 4, 2) := by decide +kernel
theorem dX0_takeFigures_59 : decode cX0_takeFigures 59 = .ok (.iload 5, 2) := by decide +kernel
theorem dX0_takeFigures_61 : decode cX0_takeFigures 61 = .ok (.iastore, 1) := by decide +kernel
theorem dX0_takeFigures_62 : decode cX0_takeFigures 62 = .ok (.iload_n 3, 1) := by decide +kernel
theorem dX0_takeFigures_63 : decode cX0_takeFigures 63 = .ok (.bipush 10, 2) := by decide +kernel
theorem dX0_takeFigures_65 : decode cX0_takeFigures 65 = .ok (.idiv, 1) := by decide +kernel
theorem dX0_takeFigures_66 : decode cX0_takeFigures 66 = .ok (.istore_n 3, 1) := by decide +kernel
theorem dX0_takeFigures_67 : decode cX0_takeFigures 67 = .ok (.iinc 4 (-1), 3) := by decide +kernel
theorem dX0_takeFigures_70 : decode cX0_takeFigures 70 = .ok (.goto (-41), 3) := by decide +kernel
theorem dX0_takeFigures_73 : decode cX0_takeFigures 73 = .ok (.aload_n 0, 1) := by decide +kernel
theorem dX0_takeFigures_74 : decode cX0_takeFigures 74 = .ok (.iload_n 2, 1) := by decide +kernel
theorem dX0_takeFigures_75 : decode cX0_takeFigures 75 = .ok (.putfield 24, 3) := by decide +kernel
theorem dX0_takeFigures_78 : decode cX0_takeFigures 78 = .ok (.iconst 1, 1) := by decide +kernel
theorem dX0_takeFigures_79 : decode cX0_takeFigures 79 = .ok (.ireturn, 1) := by decide +kernel
theorem dX0_figuresOf_0 : decode cX0_figuresOf 0 = .ok (.iconst 0, 1) := by decide +kernel
theorem dX0_figuresOf_1 : decode cX0_figuresOf 1 = .ok (.istore_n 1, 1) := by decide +kernel
theorem dX0_figuresOf_2 : decode cX0_figuresOf 2 = .ok (.iload_n 0, 1) := by decide +kernel
theorem dX0_figuresOf_3 : decode cX0_figuresOf 3 = .ok (.istore_n 2, 1) := by decide +kernel
theorem dX0_figuresOf_4 : decode cX0_figuresOf 4 = .ok (.iload_n 2, 1) := by decide +kernel
theorem dX0_figuresOf_5 : decode cX0_figuresOf 5 = .ok (.ifCond .le 19, 3) := by decide +kernel
theorem dX0_figuresOf_8 : decode cX0_figuresOf 8 = .ok (.iload_n 1, 1) := by decide +kernel
theorem dX0_figuresOf_9 : decode cX0_figuresOf 9 = .ok (.iconst 5, 1) := by decide +kernel
theorem dX0_figuresOf_10 : decode cX0_figuresOf 10 = .ok (.if_icmp .gt 14, 3) := by decide +kernel
theorem dX0_figuresOf_13 : decode cX0_figuresOf 13 = .ok (.iload_n 2, 1) := by decide +kernel
theorem dX0_figuresOf_14 : decode cX0_figuresOf 14 = .ok (.bipush 10, 2) := by decide +kernel
theorem dX0_figuresOf_16 : decode cX0_figuresOf 16 = .ok (.idiv, 1) := by decide +kernel
theorem dX0_figuresOf_17 : decode cX0_figuresOf 17 = .ok (.istore_n 2, 1) := by decide +kernel
theorem dX0_figuresOf_18 : decode cX0_figuresOf 18 = .ok (.iinc 1 1, 3) := by decide +kernel
theorem dX0_figuresOf_21 : decode cX0_figuresOf 21 = .ok (.goto (-17), 3) := by decide +kernel
theorem dX0_figuresOf_24 : decode cX0_figuresOf 24 = .ok (.iload_n 1, 1) := by decide +kernel
theorem dX0_figuresOf_25 : decode cX0_figuresOf 25 = .ok (.ireturn, 1) := by decide +kernel
theorem dX1_init_0 : decode cX1_init 0 = .ok (.aload_n 0, 1) := by decide +kernel
theorem dX1_init_1 : decode cX1_init 1 = .ok (.invokespecial 3, 3) := by decide +kernel
theorem dX1_init_4 : decode cX1_init 4 = .ok (.aload_n 0, 1) := by decide +kernel
theorem dX1_init_5 : decode cX1_init 5 = .ok (.iconst 0, 1) := by decide +kernel
theorem dX1_init_6 : decode cX1_init 6 = .ok (.putfield 9, 3) := by decide +kernel
theorem dX1_init_9 : decode cX1_init 9 = .ok (.aload_n 0, 1) := by decide +kernel
theorem dX1_init_10 : decode cX1_init 10 = .ok (.iconst 0, 1) := by decide +kernel
theorem dX1_init_11 : decode cX1_init 11 = .ok (.putfield 15, 3) := by decide +kernel
theorem dX1_init_14 : decode cX1_init 14 = .ok (.aload_n 0, 1) := by decide +kernel
theorem dX1_init_15 : decode cX1_init 15 = .ok (.iconst 0, 1) := by decide +kernel
theorem dX1_init_16 : decode cX1_init 16 = .ok (.putfield 18, 3) := by decide +kernel
theorem dX1_init_19 : decode cX1_init 19 = .ok (.aload_n 0, 1) := by decide +kernel
theorem dX1_init_20 : decode cX1_init 20 = .ok (.iconst 0, 1) := by decide +kernel
theorem dX1_init_21 : decode cX1_init 21 = .ok (.putfield 21, 3) := by decide +kernel
theorem dX1_init_24 : decode cX1_init 24 = .ok (.aload_n 0, 1) := by decide +kernel
theorem dX1_init_25 : decode cX1_init 25 = .ok (.iload_n 1, 1) := by decide +kernel
theorem dX1_init_26 : decode cX1_init 26 = .ok (.putfield 25, 3) := by decide +kernel
theorem dX1_init_29 : decode cX1_init 29 = .ok (.return_, 1) := by decide +kernel
theorem dX1_closeMonth_0 : decode cX1_closeMonth 0 = .ok (.aload_n 0, 1) := by decide +kernel
theorem dX1_closeMonth_1 : decode cX1_closeMonth 1 = .ok (.dup, 1) := by decide +kernel
theorem dX1_closeMonth_2 : decode cX1_closeMonth 2 = .ok (.getfield 15, 3) := by decide +kernel
theorem dX1_closeMonth_5 : decode cX1_closeMonth 5 = .ok (.iload_n 1, 1) := by decide +kernel
theorem dX1_closeMonth_6 : decode cX1_closeMonth 6 = .ok (.iadd, 1) := by decide +kernel
theorem dX1_closeMonth_7 : decode cX1_closeMonth 7 = .ok (.putfield 15, 3) := by decide +kernel
theorem dX1_closeMonth_10 : decode cX1_closeMonth 10 = .ok (.aload_n 0, 1) := by decide +kernel
theorem dX1_closeMonth_11 : decode cX1_closeMonth 11 = .ok (.getfield 9, 3) := by decide +kernel
theorem dX1_closeMonth_14 : decode cX1_closeMonth 14 = .ok (.aload_n 0, 1) := by decide +kernel
theorem dX1_closeMonth_15 : decode cX1_closeMonth 15 = .ok (.getfield 15, 3) := by decide +kernel
theorem dX1_closeMonth_18 : decode cX1_closeMonth 18 = .ok (.invokestatic 28, 3) := by decide +kernel
theorem dX1_closeMonth_21 : decode cX1_closeMonth 21 = .ok (.istore_n 2, 1) := by decide +kernel
theorem dX1_closeMonth_22 : decode cX1_closeMonth 22 = .ok (.aload_n 0, 1) := by decide +kernel
theorem dX1_closeMonth_23 : decode cX1_closeMonth 23 = .ok (.dup, 1) := by decide +kernel
theorem dX1_closeMonth_24 : decode cX1_closeMonth 24 = .ok (.getfield 15, 3) := by decide +kernel
theorem dX1_closeMonth_27 : decode cX1_closeMonth 27 = .ok (.iload_n 2, 1) := by decide +kernel
theorem dX1_closeMonth_28 : decode cX1_closeMonth 28 = .ok (.isub, 1) := by decide +kernel
theorem dX1_closeMonth_29 : decode cX1_closeMonth 29 = .ok (.putfield 15, 3) := by decide +kernel
theorem dX1_closeMonth_32 : decode cX1_closeMonth 32 = .ok (.aload_n 0, 1) := by decide +kernel
theorem dX1_closeMonth_33 : decode cX1_closeMonth 33 = .ok (.dup, 1) := by decide +kernel
theorem dX1_closeMonth_34 : decode cX1_closeMonth 34 = .ok (.getfield 18, 3) := by decide +kernel
theorem dX1_closeMonth_37 : decode cX1_closeMonth 37 = .ok (.aload_n 0, 1) := by decide +kernel
theorem dX1_closeMonth_38 : decode cX1_closeMonth 38 = .ok (.getfield 9, 3) := by decide +kernel
theorem dX1_closeMonth_41 : decode cX1_closeMonth 41 = .ok (.iload_n 2, 1) := by decide +kernel
theorem dX1_closeMonth_42 : decode cX1_closeMonth 42 = .ok (.isub, 1) := by decide +kernel
theorem dX1_closeMonth_43 : decode cX1_closeMonth 43 = .ok (.iadd, 1) := by decide +kernel
theorem dX1_closeMonth_44 : decode cX1_closeMonth 44 = .ok (.putfield 18, 3) := by decide +kernel
theorem dX1_closeMonth_47 : decode cX1_closeMonth 47 = .ok (.aload_n 0, 1) := by decide +kernel
theorem dX1_closeMonth_48 : decode cX1_closeMonth 48 = .ok (.iconst 0, 1) := by decide +kernel
theorem dX1_closeMonth_49 : decode cX1_closeMonth 49 = .ok (.putfield 9, 3) := by decide +kernel
theorem dX1_closeMonth_52 : decode cX1_closeMonth 52 = .ok (.return_, 1) := by decide +kernel
theorem dX1_settleForGood_0 : decode cX1_settleForGood 0 = .ok (.aload_n 0, 1) := by decide +kernel
theorem dX1_settleForGood_1 : decode cX1_settleForGood 1 = .ok (.getfield 9, 3) := by decide +kernel
theorem dX1_settleForGood_4 : decode cX1_settleForGood 4 = .ok (.aload_n 0, 1) := by decide +kernel
theorem dX1_settleForGood_5 : decode cX1_settleForGood 5 = .ok (.getfield 15, 3) := by decide +kernel
theorem dX1_settleForGood_8 : decode cX1_settleForGood 8 = .ok (.isub, 1) := by decide +kernel
theorem dX1_settleForGood_9 : decode cX1_settleForGood 9 = .ok (.istore_n 1, 1) := by decide +kernel
theorem dX1_settleForGood_10 : decode cX1_settleForGood 10 = .ok (.aload_n 0, 1) := by decide +kernel
theorem dX1_settleForGood_11 : decode cX1_settleForGood 11 = .ok (.iconst 0, 1) := by decide +kernel
theorem dX1_settleForGood_12 : decode cX1_settleForGood 12 = .ok (.putfield 9, 3) := by decide +kernel
theorem dX1_settleForGood_15 : decode cX1_settleForGood 15 = .ok (.aload_n 0, 1) := by decide +kernel
theorem dX1_settleForGood_16 : decode cX1_settleForGood 16 = .ok (.iconst 0, 1) := by decide +kernel
theorem dX1_settleForGood_17 : decode cX1_settleForGood 17 = .ok (.iload_n 1, 1) := by decide +kernel
theorem dX1_settleForGood_18 : decode cX1_settleForGood 18 = .ok (.ineg, 1) := by decide +kernel
theorem dX1_settleForGood_19 : decode cX1_settleForGood 19 = .ok (.invokestatic 34, 3) := by decide +kernel
theorem dX1_settleForGood_22 : decode cX1_settleForGood 22 = .ok (.putfield 15, 3) := by decide +kernel
theorem dX1_settleForGood_25 : decode cX1_settleForGood 25 = .ok (.aload_n 0, 1) := by decide +kernel
theorem dX1_settleForGood_26 : decode cX1_settleForGood 26 = .ok (.dup, 1) := by decide +kernel
theorem dX1_settleForGood_27 : decode cX1_settleForGood 27 = .ok (.getfield 18, 3) := by decide +kernel
theorem dX1_settleForGood_30 : decode cX1_settleForGood 30 = .ok (.iconst 0, 1) := by decide +kernel
theorem dX1_settleForGood_31 : decode cX1_settleForGood 31 = .ok (.iload_n 1, 1) := by decide +kernel
theorem dX1_settleForGood_32 : decode cX1_settleForGood 32 = .ok (.invokestatic 34, 3) := by decide +kernel
theorem dX1_settleForGood_35 : decode cX1_settleForGood 35 = .ok (.iadd, 1) := by decide +kernel
theorem dX1_settleForGood_36 : decode cX1_settleForGood 36 = .ok (.putfield 18, 3) := by decide +kernel
theorem dX1_settleForGood_39 : decode cX1_settleForGood 39 = .ok (.aload_n 0, 1) := by decide +kernel
theorem dX1_settleForGood_40 : decode cX1_settleForGood 40 = .ok (.iconst 1, 1) := by decide +kernel
theorem dX1_settleForGood_41 : decode cX1_settleForGood 41 = .ok (.putfield 21, 3) := by decide +kernel
theorem dX1_settleForGood_44 : decode cX1_settleForGood 44 = .ok (.iload_n 1, 1) := by decide +kernel
theorem dX1_settleForGood_45 : decode cX1_settleForGood 45 = .ok (.ireturn, 1) := by decide +kernel
theorem dX1_told_0 : decode cX1_told 0 = .ok (.iload_n 1, 1) := by decide +kernel
theorem dX1_told_1 : decode cX1_told 1 = .ok (.tableswitch 68 0 4 #[35, 40, 45, 50, 55], 35) := by decide +kernel
theorem dX1_told_36 : decode cX1_told 36 = .ok (.aload_n 0, 1) := by decide +kernel
theorem dX1_told_37 : decode cX1_told 37 = .ok (.getfield 25, 3) := by decide +kernel
theorem dX1_told_40 : decode cX1_told 40 = .ok (.ireturn, 1) := by decide +kernel
theorem dX1_told_41 : decode cX1_told 41 = .ok (.aload_n 0, 1) := by decide +kernel
theorem dX1_told_42 : decode cX1_told 42 = .ok (.getfield 9, 3) := by decide +kernel
theorem dX1_told_45 : decode cX1_told 45 = .ok (.ireturn, 1) := by decide +kernel
theorem dX1_told_46 : decode cX1_told 46 = .ok (.aload_n 0, 1) := by decide +kernel
theorem dX1_told_47 : decode cX1_told 47 = .ok (.getfield 15, 3) := by decide +kernel
theorem dX1_told_50 : decode cX1_told 50 = .ok (.ireturn, 1) := by decide +kernel
theorem dX1_told_51 : decode cX1_told 51 = .ok (.aload_n 0, 1) := by decide +kernel
theorem dX1_told_52 : decode cX1_told 52 = .ok (.getfield 18, 3) := by decide +kernel
theorem dX1_told_55 : decode cX1_told 55 = .ok (.ireturn, 1) := by decide +kernel
theorem dX1_told_56 : decode cX1_told 56 = .ok (.aload_n 0, 1) := by decide +kernel
theorem dX1_told_57 : decode cX1_told 57 = .ok (.getfield 21, 3) := by decide +kernel
theorem dX1_told_60 : decode cX1_told 60 = .ok (.ifCond .eq 7, 3) := by decide +kernel
theorem dX1_told_63 : decode cX1_told 63 = .ok (.iconst 1, 1) := by decide +kernel
theorem dX1_told_64 : decode cX1_told 64 = .ok (.goto 4, 3) := by decide +kernel
theorem dX1_told_67 : decode cX1_told 67 = .ok (.iconst 0, 1) := by decide +kernel
theorem dX1_told_68 : decode cX1_told 68 = .ok (.ireturn, 1) := by decide +kernel
theorem dX1_told_69 : decode cX1_told 69 = .ok (.iconst (-1), 1) := by decide +kernel
theorem dX1_told_70 : decode cX1_told 70 = .ok (.ireturn, 1) := by decide +kernel
theorem dX2_init_0 : decode cX2_init 0 = .ok (.aload_n 0, 1) := by decide +kernel
theorem dX2_init_1 : decode cX2_init 1 = .ok (.invokespecial 3, 3) := by decide +kernel
theorem dX2_init_4 : decode cX2_init 4 = .ok (.aload_n 0, 1) := by decide +kernel
theorem dX2_init_5 : decode cX2_init 5 = .ok (.iconst 4, 1) := by decide +kernel
theorem dX2_init_6 : decode cX2_init 6 = .ok (.newarray .int, 2) := by decide +kernel
theorem dX2_init_8 : decode cX2_init 8 = .ok (.dup, 1) := by decide +kernel
theorem dX2_init_9 : decode cX2_init 9 = .ok (.iconst 0, 1) := by decide +kernel
theorem dX2_init_10 : decode cX2_init 10 = .ok (.iconst (-1), 1) := by decide +kernel
theorem dX2_init_11 : decode cX2_init 11 = .ok (.iastore, 1) := by decide +kernel
theorem dX2_init_12 : decode cX2_init 12 = .ok (.dup, 1) := by decide +kernel
theorem dX2_init_13 : decode cX2_init 13 = .ok (.iconst 1, 1) := by decide +kernel
theorem dX2_init_14 : decode cX2_init 14 = .ok (.iconst (-1), 1) := by decide +kernel
theorem dX2_init_15 : decode cX2_init 15 = .ok (.iastore, 1) := by decide +kernel
theorem dX2_init_16 : decode cX2_init 16 = .ok (.dup, 1) := by decide +kernel
theorem dX2_init_17 : decode cX2_init 17 = .ok (.iconst 2, 1) := by decide +kernel
theorem dX2_init_18 : decode cX2_init 18 = .ok (.iconst (-1), 1) := by decide +kernel
theorem dX2_init_19 : decode cX2_init 19 = .ok (.iastore, 1) := by decide +kernel
theorem dX2_init_20 : decode cX2_init 20 = .ok (.dup, 1) := by decide +kernel
theorem dX2_init_21 : decode cX2_init 21 = .ok (.iconst 3, 1) := by decide +kernel
theorem dX2_init_22 : decode cX2_init 22 = .ok (.iconst (-1), 1) := by decide +kernel
theorem dX2_init_23 : decode cX2_init 23 = .ok (.iastore, 1) := by decide +kernel
theorem dX2_init_24 : decode cX2_init 24 = .ok (.putfield 9, 3) := by decide +kernel
theorem dX2_init_27 : decode cX2_init 27 = .ok (.aload_n 0, 1) := by decide +kernel
theorem dX2_init_28 : decode cX2_init 28 = .ok (.iconst 4, 1) := by decide +kernel
theorem dX2_init_29 : decode cX2_init 29 = .ok (.newarray .boolean, 2) := by decide +kernel
theorem dX2_init_31 : decode cX2_init 31 = .ok (.putfield 15, 3) := by decide +kernel
theorem dX2_init_34 : decode cX2_init 34 = .ok (.aload_n 0, 1) := by decide +kernel
theorem dX2_init_35 : decode cX2_init 35 = .ok (.sipush 160, 3) := by decide +kernel
theorem dX2_init_38 : decode cX2_init 38 = .ok (.newarray .int, 2) := by decide +kernel
theorem dX2_init_40 : decode cX2_init 40 = .ok (.putfield 19, 3) := by decide +kernel
theorem dX2_init_43 : decode cX2_init 43 = .ok (.aload_n 0, 1) := by decide +kernel
theorem dX2_init_44 : decode cX2_init 44 = .ok (.sipush 160, 3) := by decide +kernel
theorem dX2_init_47 : decode cX2_init 47 = .ok (.newarray .boolean, 2) := by decide +kernel
theorem dX2_init_49 : decode cX2_init 49 = .ok (.putfield 22, 3) := by decide +kernel
theorem dX2_init_52 : decode cX2_init 52 = .ok (.return_, 1) := by decide +kernel
theorem dX2_begin_0 : decode cX2_begin 0 = .ok (.aload_n 0, 1) := by decide +kernel
theorem dX2_begin_1 : decode cX2_begin 1 = .ok (.getfield 9, 3) := by decide +kernel
theorem dX2_begin_4 : decode cX2_begin 4 = .ok (.iload_n 1, 1) := by decide +kernel
theorem dX2_begin_5 : decode cX2_begin 5 = .ok (.iload_n 3, 1) := by decide +kernel
theorem dX2_begin_6 : decode cX2_begin 6 = .ok (.iastore, 1) := by decide +kernel
theorem dX2_begin_7 : decode cX2_begin 7 = .ok (.aload_n 0, 1) := by decide +kernel
theorem dX2_begin_8 : decode cX2_begin 8 = .ok (.getfield 15, 3) := by decide +kernel
theorem dX2_begin_11 : decode cX2_begin 11 = .ok (.iload_n 1, 1) := by decide +kernel
theorem dX2_begin_12 : decode cX2_begin 12 = .ok (.iload_n 2, 1) := by decide +kernel
theorem dX2_begin_13 : decode cX2_begin 13 = .ok (.bastore, 1) := by decide +kernel
theorem dX2_begin_14 : decode cX2_begin 14 = .ok (.iconst 0, 1) := by decide +kernel
theorem dX2_begin_15 : decode cX2_begin 15 = .ok (.istore 4, 2) := by decide +kernel
theorem dX2_begin_17 : decode cX2_begin 17 = .ok (.iload 4, 2) := by decide +kernel
theorem dX2_begin_19 : decode cX2_begin 19 = .ok (.bipush 40, 2) := by decide +kernel
theorem dX2_begin_21 : decode cX2_begin 21 = .ok (.if_icmp .ge 35, 3) := by decide +kernel
theorem dX2_begin_24 : decode cX2_begin 24 = .ok (.aload_n 0, 1) := by decide +kernel
theorem dX2_begin_25 : decode cX2_begin 25 = .ok (.getfield 19, 3) := by decide +kernel
theorem dX2_begin_28 : decode cX2_begin 28 = .ok (.iload_n 1, 1) := by decide +kernel
theorem dX2_begin_29 : decode cX2_begin 29 = .ok (.bipush 40, 2) := by decide +kernel
theorem dX2_begin_31 : decode cX2_begin 31 = .ok (.imul, 1) := by decide +kernel
theorem dX2_begin_32 : decode cX2_begin 32 = .ok (.iload 4, 2) := by decide +kernel
theorem dX2_begin_34 : decode cX2_begin 34 = .ok (.iadd, 1) := by decide +kernel
theorem dX2_begin_35 : decode cX2_begin 35 = .ok (.iconst 0, 1) := by decide +kernel
theorem dX2_begin_36 : decode cX2_begin 36 = .ok (.iastore, 1) := by decide +kernel
theorem dX2_begin_37 : decode cX2_begin 37 = .ok (.aload_n 0, 1) := by decide +kernel
theorem dX2_begin_38 : decode cX2_begin 38 = .ok (.getfield 22, 3) := by decide +kernel
theorem dX2_begin_41 : decode cX2_begin 41 = .ok (.iload_n 1, 1) := by decide +kernel
theorem dX2_begin_42 : decode cX2_begin 42 = .ok (.bipush 40, 2) := by decide +kernel
theorem dX2_begin_44 : decode cX2_begin 44 = .ok (.imul, 1) := by decide +kernel
theorem dX2_begin_45 : decode cX2_begin 45 = .ok (.iload 4, 2) := by decide +kernel
theorem dX2_begin_47 : decode cX2_begin 47 = .ok (.iadd, 1) := by decide +kernel
theorem dX2_begin_48 : decode cX2_begin 48 = .ok (.iconst 0, 1) := by decide +kernel
theorem dX2_begin_49 : decode cX2_begin 49 = .ok (.bastore, 1) := by decide +kernel
theorem dX2_begin_50 : decode cX2_begin 50 = .ok (.iinc 4 1, 3) := by decide +kernel
theorem dX2_begin_53 : decode cX2_begin 53 = .ok (.goto (-36), 3) := by decide +kernel
theorem dX2_begin_56 : decode cX2_begin 56 = .ok (.return_, 1) := by decide +kernel
theorem dX2_hasRow_0 : decode cX2_hasRow 0 = .ok (.iload_n 1, 1) := by decide +kernel
theorem dX2_hasRow_1 : decode cX2_hasRow 1 = .ok (.iconst 0, 1) := by decide +kernel
theorem dX2_hasRow_2 : decode cX2_hasRow 2 = .ok (.iconst 3, 1) := by decide +kernel
theorem dX2_hasRow_3 : decode cX2_hasRow 3 = .ok (.invokestatic 25, 3) := by decide +kernel
theorem dX2_hasRow_6 : decode cX2_hasRow 6 = .ok (.ifCond .eq 17, 3) := by decide +kernel
theorem dX2_hasRow_9 : decode cX2_hasRow 9 = .ok (.aload_n 0, 1) := by decide +kernel
theorem dX2_hasRow_10 : decode cX2_hasRow 10 = .ok (.getfield 9, 3) := by decide +kernel
theorem dX2_hasRow_13 : decode cX2_hasRow 13 = .ok (.iload_n 1, 1) := by decide +kernel
theorem dX2_hasRow_14 : decode cX2_hasRow 14 = .ok (.iaload, 1) := by decide +kernel
theorem dX2_hasRow_15 : decode cX2_hasRow 15 = .ok (.iconst (-1), 1) := by decide +kernel
theorem dX2_hasRow_16 : decode cX2_hasRow 16 = .ok (.if_icmp .eq 7, 3) := by decide +kernel
theorem dX2_hasRow_19 : decode cX2_hasRow 19 = .ok (.iconst 1, 1) := by decide +kernel
theorem dX2_hasRow_20 : decode cX2_hasRow 20 = .ok (.goto 4, 3) := by decide +kernel
theorem dX2_hasRow_23 : decode cX2_hasRow 23 = .ok (.iconst 0, 1) := by decide +kernel
theorem dX2_hasRow_24 : decode cX2_hasRow 24 = .ok (.ireturn, 1) := by decide +kernel
theorem dX2_hasPlace_0 : decode cX2_hasPlace 0 = .ok (.aload_n 0, 1) := by decide +kernel
theorem dX2_hasPlace_1 : decode cX2_hasPlace 1 = .ok (.iload_n 1, 1) := by decide +kernel
theorem dX2_hasPlace_2 : decode cX2_hasPlace 2 = .ok (.invokevirtual 29, 3) := by decide +kernel
theorem dX2_hasPlace_5 : decode cX2_hasPlace 5 = .ok (.ifCond .eq 23, 3) := by decide +kernel
theorem dX2_hasPlace_8 : decode cX2_hasPlace 8 = .ok (.iload_n 2, 1) := by decide +kernel
theorem dX2_hasPlace_9 : decode cX2_hasPlace 9 = .ok (.iconst 0, 1) := by decide +kernel
theorem dX2_hasPlace_10 : decode cX2_hasPlace 10 = .ok (.aload_n 0, 1) := by decide +kernel
theorem dX2_hasPlace_11 : decode cX2_hasPlace 11 = .ok (.getfield 9, 3) := by decide +kernel
theorem dX2_hasPlace_14 : decode cX2_hasPlace 14 = .ok (.iload_n 1, 1) := by decide +kernel
theorem dX2_hasPlace_15 : decode cX2_hasPlace 15 = .ok (.iaload, 1) := by decide +kernel
theorem dX2_hasPlace_16 : decode cX2_hasPlace 16 = .ok (.iconst 1, 1) := by decide +kernel
theorem dX2_hasPlace_17 : decode cX2_hasPlace 17 = .ok (.isub, 1) := by decide +kernel
theorem dX2_hasPlace_18 : decode cX2_hasPlace 18 = .ok (.invokestatic 25, 3) := by decide +kernel
theorem dX2_hasPlace_21 : decode cX2_hasPlace 21 = .ok (.ifCond .eq 7, 3) := by decide +kernel
theorem dX2_hasPlace_24 : decode cX2_hasPlace 24 = .ok (.iconst 1, 1) := by decide +kernel
theorem dX2_hasPlace_25 : decode cX2_hasPlace 25 = .ok (.goto 4, 3) := by decide +kernel
theorem dX2_hasPlace_28 : decode cX2_hasPlace 28 = .ok (.iconst 0, 1) := by decide +kernel
theorem dX2_hasPlace_29 : decode cX2_hasPlace 29 = .ok (.ireturn, 1) := by decide +kernel
theorem dX2_put_0 : decode cX2_put 0 = .ok (.aload_n 0, 1) := by decide +kernel
theorem dX2_put_1 : decode cX2_put 1 = .ok (.getfield 15, 3) := by decide +kernel
theorem dX2_put_4 : decode cX2_put 4 = .ok (.iload_n 1, 1) := by decide +kernel
theorem dX2_put_5 : decode cX2_put 5 = .ok (.baload, 1) := by decide +kernel
theorem dX2_put_6 : decode cX2_put 6 = .ok (.ifCond .eq 16, 3) := by decide +kernel
theorem dX2_put_9 : decode cX2_put 9 = .ok (.iload_n 3, 1) := by decide +kernel
theorem dX2_put_10 : decode cX2_put 10 = .ok (.ldc 33, 2) := by decide +kernel
theorem dX2_put_12 : decode cX2_put 12 = .ok (.ldc 34, 2) := by decide +kernel
theorem dX2_put_14 : decode cX2_put 14 = .ok (.invokestatic 25, 3) := by decide +kernel
theorem dX2_put_17 : decode cX2_put 17 = .ok (.ifCond .ne 5, 3) := by decide +kernel
theorem dX2_put_20 : decode cX2_put 20 = .ok (.iconst 0, 1) := by decide +kernel
theorem dX2_put_21 : decode cX2_put 21 = .ok (.ireturn, 1) := by decide +kernel
theorem dX2_put_22 : decode cX2_put 22 = .ok (.aload_n 0, 1) := by decide +kernel
theorem dX2_put_23 : decode cX2_put 23 = .ok (.getfield 15, 3) := by decide +kernel
theorem dX2_put_26 : decode cX2_put 26 = .ok (.iload_n 1, 1) := by decide +kernel
theorem dX2_put_27 : decode cX2_put 27 = .ok (.baload, 1) := by decide +kernel
theorem dX2_put_28 : decode cX2_put 28 = .ok (.ifCond .eq 7, 3) := by decide +kernel
theorem dX2_put_31 : decode cX2_put 31 = .ok (.iload_n 3, 1) := by decide +kernel
theorem dX2_put_32 : decode cX2_put 32 = .ok (.goto 5, 3) := by decide +kernel
theorem dX2_put_35 : decode cX2_put 35 = .ok (.iload_n 3, 1) := by decide +kernel
theorem dX2_put_36 : decode cX2_put 36 = .ok (.i2s, 1) := by decide +kernel
theorem dX2_put_37 : decode cX2_put 37 = .ok (.istore 4, 2) := by decide +kernel
theorem dX2_put_39 : decode cX2_put 39 = .ok (.iload_n 1, 1) := by decide +kernel
theorem dX2_put_40 : decode cX2_put 40 = .ok (.bipush 40, 2) := by decide +kernel
theorem dX2_put_42 : decode cX2_put 42 = .ok (.imul, 1) := by decide +kernel
theorem dX2_put_43 : decode cX2_put 43 = .ok (.iload_n 2, 1) := by decide +kernel
theorem dX2_put_44 : decode cX2_put 44 = .ok (.iadd, 1) := by decide +kernel
theorem dX2_put_45 : decode cX2_put 45 = .ok (.istore 5, 2) := by decide +kernel
theorem dX2_put_47 : decode cX2_put 47 = .ok (.aload_n 0, 1) := by decide +kernel
theorem dX2_put_48 : decode cX2_put 48 = .ok (.getfield 22, 3) := by decide +kernel
theorem dX2_put_51 : decode cX2_put 51 = .ok (.iload 5, 2) := by decide +kernel
theorem dX2_put_53 : decode cX2_put 53 = .ok (.iload 4, 2) := by decide +kernel
theorem dX2_put_55 : decode cX2_put 55 = .ok (.sipush (-32768), 3) := by decide +kernel
theorem dX2_put_58 : decode cX2_put 58 = .ok (.if_icmp .ne 7, 3) := by decide +kernel
theorem dX2_put_61 : decode cX2_put 61 = .ok (.iconst 1, 1) := by decide +kernel
theorem dX2_put_62 : decode cX2_put 62 = .ok (.goto 4, 3) := by decide +kernel
theorem dX2_put_65 : decode cX2_put 65 = .ok (.iconst 0, 1) := by decide +kernel
theorem dX2_put_66 : decode cX2_put 66 = .ok (.bastore, 1) := by decide +kernel
theorem dX2_put_67 : decode cX2_put 67 = .ok (.aload_n 0, 1) := by decide +kernel
theorem dX2_put_68 : decode cX2_put 68 = .ok (.getfield 19, 3) := by decide +kernel
theorem dX2_put_71 : decode cX2_put 71 = .ok (.iload 5, 2) := by decide +kernel
theorem dX2_put_73 : decode cX2_put 73 = .ok (.aload_n 0, 1) := by decide +kernel
theorem dX2_put_74 : decode cX2_put 74 = .ok (.getfield 15, 3) := by decide +kernel
theorem dX2_put_77 : decode cX2_put 77 = .ok (.iload_n 1, 1) := by decide +kernel
theorem dX2_put_78 : decode cX2_put 78 = .ok (.baload, 1) := by decide +kernel
theorem dX2_put_79 : decode cX2_put 79 = .ok (.ifCond .eq 10, 3) := by decide +kernel
theorem dX2_put_82 : decode cX2_put 82 = .ok (.iconst 2, 1) := by decide +kernel
theorem dX2_put_83 : decode cX2_put 83 = .ok (.iload 4, 2) := by decide +kernel
theorem dX2_put_85 : decode cX2_put 85 = .ok (.imul, 1) := by decide +kernel
theorem dX2_put_86 : decode cX2_put 86 = .ok (.goto 8, 3) := by decide +kernel
theorem dX2_put_89 : decode cX2_put 89 = .ok (.bipush 8, 2) := by decide +kernel
theorem dX2_put_91 : decode cX2_put 91 = .ok (.iload 4, 2) := by decide +kernel
theorem dX2_put_93 : decode cX2_put 93 = .ok (.imul, 1) := by decide +kernel
theorem dX2_put_94 : decode cX2_put 94 = .ok (.iastore, 1) := by decide +kernel
theorem dX2_put_95 : decode cX2_put 95 = .ok (.iconst 1, 1) := by decide +kernel
theorem dX2_put_96 : decode cX2_put 96 = .ok (.ireturn, 1) := by decide +kernel
theorem dX2_hasNumber_0 : decode cX2_hasNumber 0 = .ok (.aload_n 0, 1) := by decide +kernel
theorem dX2_hasNumber_1 : decode cX2_hasNumber 1 = .ok (.iload_n 1, 1) := by decide +kernel
theorem dX2_hasNumber_2 : decode cX2_hasNumber 2 = .ok (.iconst 0, 1) := by decide +kernel
theorem dX2_hasNumber_3 : decode cX2_hasNumber 3 = .ok (.invokevirtual 35, 3) := by decide +kernel
theorem dX2_hasNumber_6 : decode cX2_hasNumber 6 = .ok (.iconst (-1), 1) := by decide +kernel
theorem dX2_hasNumber_7 : decode cX2_hasNumber 7 = .ok (.if_icmp .eq 7, 3) := by decide +kernel
theorem dX2_hasNumber_10 : decode cX2_hasNumber 10 = .ok (.iconst 1, 1) := by decide +kernel
theorem dX2_hasNumber_11 : decode cX2_hasNumber 11 = .ok (.goto 4, 3) := by decide +kernel
theorem dX2_hasNumber_14 : decode cX2_hasNumber 14 = .ok (.iconst 0, 1) := by decide +kernel
theorem dX2_hasNumber_15 : decode cX2_hasNumber 15 = .ok (.ireturn, 1) := by decide +kernel
theorem dX2_eighthsAt_0 : decode cX2_eighthsAt 0 = .ok (.aload_n 0, 1) := by decide +kernel
theorem dX2_eighthsAt_1 : decode cX2_eighthsAt 1 = .ok (.iload_n 1, 1) := by decide +kernel
theorem dX2_eighthsAt_2 : decode cX2_eighthsAt 2 = .ok (.iload_n 2, 1) := by decide +kernel
theorem dX2_eighthsAt_3 : decode cX2_eighthsAt 3 = .ok (.invokevirtual 39, 3) := by decide +kernel
theorem dX2_eighthsAt_6 : decode cX2_eighthsAt 6 = .ok (.istore_n 3, 1) := by decide +kernel
theorem dX2_eighthsAt_7 : decode cX2_eighthsAt 7 = .ok (.aload_n 0, 1) := by decide +kernel
theorem dX2_eighthsAt_8 : decode cX2_eighthsAt 8 = .ok (.iload_n 1, 1) := by decide +kernel
theorem dX2_eighthsAt_9 : decode cX2_eighthsAt 9 = .ok (.iload_n 2, 1) := by decide +kernel
theorem dX2_eighthsAt_10 : decode cX2_eighthsAt 10 = .ok (.invokevirtual 35, 3) := by decide +kernel
theorem dX2_eighthsAt_13 : decode cX2_eighthsAt 13 = .ok (.istore 4, 2) := by decide +kernel
theorem dX2_eighthsAt_15 : decode cX2_eighthsAt 15 = .ok (.iload_n 3, 1) := by decide +kernel
theorem dX2_eighthsAt_16 : decode cX2_eighthsAt 16 = .ok (.iconst (-1), 1) := by decide +kernel
theorem dX2_eighthsAt_17 : decode cX2_eighthsAt 17 = .ok (.if_icmp .ne 21, 3) := by decide +kernel
theorem dX2_eighthsAt_20 : decode cX2_eighthsAt 20 = .ok (.iload 4, 2) := by decide +kernel
theorem dX2_eighthsAt_22 : decode cX2_eighthsAt 22 = .ok (.iconst (-1), 1) := by decide +kernel
theorem dX2_eighthsAt_23 : decode cX2_eighthsAt 23 = .ok (.if_icmp .ne 7, 3) := by decide +kernel
theorem dX2_eighthsAt_26 : decode cX2_eighthsAt 26 = .ok (.iconst 0, 1) := by decide +kernel
theorem dX2_eighthsAt_27 : decode cX2_eighthsAt 27 = .ok (.goto 10, 3) := by decide +kernel
theorem dX2_eighthsAt_30 : decode cX2_eighthsAt 30 = .ok (.aload_n 0, 1) := by decide +kernel
theorem dX2_eighthsAt_31 : decode cX2_eighthsAt 31 = .ok (.getfield 19, 3) := by decide +kernel
theorem dX2_eighthsAt_34 : decode cX2_eighthsAt 34 = .ok (.iload 4, 2) := by decide +kernel
theorem dX2_eighthsAt_36 : decode cX2_eighthsAt 36 = .ok (.iaload, 1) := by decide +kernel
theorem dX2_eighthsAt_37 : decode cX2_eighthsAt 37 = .ok (.ireturn, 1) := by decide +kernel
theorem dX2_eighthsAt_38 : decode cX2_eighthsAt 38 = .ok (.iload 4, 2) := by decide +kernel
theorem dX2_eighthsAt_40 : decode cX2_eighthsAt 40 = .ok (.iconst (-1), 1) := by decide +kernel
theorem dX2_eighthsAt_41 : decode cX2_eighthsAt 41 = .ok (.if_icmp .ne 12, 3) := by decide +kernel
theorem dX2_eighthsAt_44 : decode cX2_eighthsAt 44 = .ok (.aload_n 0, 1) := by decide +kernel
theorem dX2_eighthsAt_45 : decode cX2_eighthsAt 45 = .ok (.getfield 19, 3) := by decide +kernel
theorem dX2_eighthsAt_48 : decode cX2_eighthsAt 48 = .ok (.iload_n 3, 1) := by decide +kernel
theorem dX2_eighthsAt_49 : decode cX2_eighthsAt 49 = .ok (.iaload, 1) := by decide +kernel
theorem dX2_eighthsAt_50 : decode cX2_eighthsAt 50 = .ok (.goto 19, 3) := by decide +kernel
theorem dX2_eighthsAt_53 : decode cX2_eighthsAt 53 = .ok (.aload_n 0, 1) := by decide +kernel
theorem dX2_eighthsAt_54 : decode cX2_eighthsAt 54 = .ok (.getfield 19, 3) := by decide +kernel
theorem dX2_eighthsAt_57 : decode cX2_eighthsAt 57 = .ok (.iload_n 3, 1) := by decide +kernel
theorem dX2_eighthsAt_58 : decode cX2_eighthsAt 58 = .ok (.iaload, 1) := by decide +kernel
theorem dX2_eighthsAt_59 : decode cX2_eighthsAt 59 = .ok (.aload_n 0, 1) := by decide +kernel
theorem dX2_eighthsAt_60 : decode cX2_eighthsAt 60 = .ok (.getfield 19, 3) := by decide +kernel
theorem dX2_eighthsAt_63 : decode cX2_eighthsAt 63 = .ok (.iload 4, 2) := by decide +kernel
theorem dX2_eighthsAt_65 : decode cX2_eighthsAt 65 = .ok (.iaload, 1) := by decide +kernel
theorem dX2_eighthsAt_66 : decode cX2_eighthsAt 66 = .ok (.iadd, 1) := by decide +kernel
theorem dX2_eighthsAt_67 : decode cX2_eighthsAt 67 = .ok (.iconst 2, 1) := by decide +kernel
theorem dX2_eighthsAt_68 : decode cX2_eighthsAt 68 = .ok (.idiv, 1) := by decide +kernel
theorem dX2_eighthsAt_69 : decode cX2_eighthsAt 69 = .ok (.ireturn, 1) := by decide +kernel
theorem dX2_lastUpTo_0 : decode cX2_lastUpTo 0 = .ok (.iload_n 2, 1) := by decide +kernel
theorem dX2_lastUpTo_1 : decode cX2_lastUpTo 1 = .ok (.istore_n 3, 1) := by decide +kernel
theorem dX2_lastUpTo_2 : decode cX2_lastUpTo 2 = .ok (.iload_n 3, 1) := by decide +kernel
theorem dX2_lastUpTo_3 : decode cX2_lastUpTo 3 = .ok (.ifCond .lt 30, 3) := by decide +kernel
theorem dX2_lastUpTo_6 : decode cX2_lastUpTo 6 = .ok (.aload_n 0, 1) := by decide +kernel
theorem dX2_lastUpTo_7 : decode cX2_lastUpTo 7 = .ok (.getfield 22, 3) := by decide +kernel
theorem dX2_lastUpTo_10 : decode cX2_lastUpTo 10 = .ok (.iload_n 1, 1) := by decide +kernel
theorem dX2_lastUpTo_11 : decode cX2_lastUpTo 11 = .ok (.bipush 40, 2) := by decide +kernel
theorem dX2_lastUpTo_13 : decode cX2_lastUpTo 13 = .ok (.imul, 1) := by decide +kernel
theorem dX2_lastUpTo_14 : decode cX2_lastUpTo 14 = .ok (.iload_n 3, 1) := by decide +kernel
theorem dX2_lastUpTo_15 : decode cX2_lastUpTo 15 = .ok (.iadd, 1) := by decide +kernel
theorem dX2_lastUpTo_16 : decode cX2_lastUpTo 16 = .ok (.baload, 1) := by decide +kernel
theorem dX2_lastUpTo_17 : decode cX2_lastUpTo 17 = .ok (.ifCond .ne 10, 3) := by decide +kernel
theorem dX2_lastUpTo_20 : decode cX2_lastUpTo 20 = .ok (.iload_n 1, 1) := by decide +kernel
theorem dX2_lastUpTo_21 : decode cX2_lastUpTo 21 = .ok (.bipush 40, 2) := by decide +kernel
theorem dX2_lastUpTo_23 : decode cX2_lastUpTo 23 = .ok (.imul, 1) := by decide +kernel
theorem dX2_lastUpTo_24 : decode cX2_lastUpTo 24 = .ok (.iload_n 3, 1) := by decide +kernel
theorem dX2_lastUpTo_25 : decode cX2_lastUpTo 25 = .ok (.iadd, 1) := by decide +kernel
theorem dX2_lastUpTo_26 : decode cX2_lastUpTo 26 = .ok (.ireturn, 1) := by decide +kernel
theorem dX2_lastUpTo_27 : decode cX2_lastUpTo 27 = .ok (.iinc 3 (-1), 3) := by decide +kernel
theorem dX2_lastUpTo_30 : decode cX2_lastUpTo 30 = .ok (.goto (-28), 3) := by decide +kernel
theorem dX2_lastUpTo_33 : decode cX2_lastUpTo 33 = .ok (.iconst (-1), 1) := by decide +kernel
theorem dX2_lastUpTo_34 : decode cX2_lastUpTo 34 = .ok (.ireturn, 1) := by decide +kernel
theorem dX2_nextFrom_0 : decode cX2_nextFrom 0 = .ok (.iload_n 2, 1) := by decide +kernel
theorem dX2_nextFrom_1 : decode cX2_nextFrom 1 = .ok (.istore_n 3, 1) := by decide +kernel
theorem dX2_nextFrom_2 : decode cX2_nextFrom 2 = .ok (.iload_n 3, 1) := by decide +kernel
theorem dX2_nextFrom_3 : decode cX2_nextFrom 3 = .ok (.aload_n 0, 1) := by decide +kernel
theorem dX2_nextFrom_4 : decode cX2_nextFrom 4 = .ok (.getfield 9, 3) := by decide +kernel
theorem dX2_nextFrom_7 : decode cX2_nextFrom 7 = .ok (.iload_n 1, 1) := by decide +kernel
theorem dX2_nextFrom_8 : decode cX2_nextFrom 8 = .ok (.iaload, 1) := by decide +kernel
theorem dX2_nextFrom_9 : decode cX2_nextFrom 9 = .ok (.if_icmp .ge 30, 3) := by decide +kernel
theorem dX2_nextFrom_12 : decode cX2_nextFrom 12 = .ok (.aload_n 0, 1) := by decide +kernel
theorem dX2_nextFrom_13 : decode cX2_nextFrom 13 = .ok (.getfield 22, 3) := by decide +kernel
theorem dX2_nextFrom_16 : decode cX2_nextFrom 16 = .ok (.iload_n 1, 1) := by decide +kernel
theorem dX2_nextFrom_17 : decode cX2_nextFrom 17 = .ok (.bipush 40, 2) := by decide +kernel
theorem dX2_nextFrom_19 : decode cX2_nextFrom 19 = .ok (.imul, 1) := by decide +kernel
theorem dX2_nextFrom_20 : decode cX2_nextFrom 20 = .ok (.iload_n 3, 1) := by decide +kernel
theorem dX2_nextFrom_21 : decode cX2_nextFrom 21 = .ok (.iadd, 1) := by decide +kernel
theorem dX2_nextFrom_22 : decode cX2_nextFrom 22 = .ok (.baload, 1) := by decide +kernel
theorem dX2_nextFrom_23 : decode cX2_nextFrom 23 = .ok (.ifCond .ne 10, 3) := by decide +kernel
theorem dX2_nextFrom_26 : decode cX2_nextFrom 26 = .ok (.iload_n 1, 1) := by decide +kernel
theorem dX2_nextFrom_27 : decode cX2_nextFrom 27 = .ok (.bipush 40, 2) := by decide +kernel
theorem dX2_nextFrom_29 : decode cX2_nextFrom 29 = .ok (.imul, 1) := by decide +kernel
theorem dX2_nextFrom_30 : decode cX2_nextFrom 30 = .ok (.iload_n 3, 1) := by decide +kernel
theorem dX2_nextFrom_31 : decode cX2_nextFrom 31 = .ok (.iadd, 1) := by decide +kernel
theorem dX2_nextFrom_32 : decode cX2_nextFrom 32 = .ok (.ireturn, 1) := by decide +kernel
theorem dX2_nextFrom_33 : decode cX2_nextFrom 33 = .ok (.iinc 3 1, 3) := by decide +kernel
theorem dX2_nextFrom_36 : decode cX2_nextFrom 36 = .ok (.goto (-34), 3) := by decide +kernel
theorem dX2_nextFrom_39 : decode cX2_nextFrom 39 = .ok (.iconst (-1), 1) := by decide +kernel
theorem dX2_nextFrom_40 : decode cX2_nextFrom 40 = .ok (.ireturn, 1) := by decide +kernel
theorem dX2_sumOf_0 : decode cX2_sumOf 0 = .ok (.iconst 0, 1) := by decide +kernel
theorem dX2_sumOf_1 : decode cX2_sumOf 1 = .ok (.istore_n 2, 1) := by decide +kernel
theorem dX2_sumOf_2 : decode cX2_sumOf 2 = .ok (.iconst 0, 1) := by decide +kernel
theorem dX2_sumOf_3 : decode cX2_sumOf 3 = .ok (.istore_n 3, 1) := by decide +kernel
theorem dX2_sumOf_4 : decode cX2_sumOf 4 = .ok (.iload_n 3, 1) := by decide +kernel
theorem dX2_sumOf_5 : decode cX2_sumOf 5 = .ok (.aload_n 0, 1) := by decide +kernel
theorem dX2_sumOf_6 : decode cX2_sumOf 6 = .ok (.getfield 9, 3) := by decide +kernel
theorem dX2_sumOf_9 : decode cX2_sumOf 9 = .ok (.iload_n 1, 1) := by decide +kernel
theorem dX2_sumOf_10 : decode cX2_sumOf 10 = .ok (.iaload, 1) := by decide +kernel
theorem dX2_sumOf_11 : decode cX2_sumOf 11 = .ok (.if_icmp .ge 18, 3) := by decide +kernel
theorem dX2_sumOf_14 : decode cX2_sumOf 14 = .ok (.iload_n 2, 1) := by decide +kernel
theorem dX2_sumOf_15 : decode cX2_sumOf 15 = .ok (.aload_n 0, 1) := by decide +kernel
theorem dX2_sumOf_16 : decode cX2_sumOf 16 = .ok (.iload_n 1, 1) := by decide +kernel
theorem dX2_sumOf_17 : decode cX2_sumOf 17 = .ok (.iload_n 3, 1) := by decide +kernel
theorem dX2_sumOf_18 : decode cX2_sumOf 18 = .ok (.invokevirtual 42, 3) := by decide +kernel
theorem dX2_sumOf_21 : decode cX2_sumOf 21 = .ok (.iadd, 1) := by decide +kernel
theorem dX2_sumOf_22 : decode cX2_sumOf 22 = .ok (.istore_n 2, 1) := by decide +kernel
theorem dX2_sumOf_23 : decode cX2_sumOf 23 = .ok (.iinc 3 1, 3) := by decide +kernel
theorem dX2_sumOf_26 : decode cX2_sumOf 26 = .ok (.goto (-22), 3) := by decide +kernel
theorem dX2_sumOf_29 : decode cX2_sumOf 29 = .ok (.iload_n 2, 1) := by decide +kernel
theorem dX2_sumOf_30 : decode cX2_sumOf 30 = .ok (.ireturn, 1) := by decide +kernel
theorem dX2_spreadOf_0 : decode cX2_spreadOf 0 = .ok (.aload_n 0, 1) := by decide +kernel
theorem dX2_spreadOf_1 : decode cX2_spreadOf 1 = .ok (.iload_n 1, 1) := by decide +kernel
theorem dX2_spreadOf_2 : decode cX2_spreadOf 2 = .ok (.iconst 0, 1) := by decide +kernel
theorem dX2_spreadOf_3 : decode cX2_spreadOf 3 = .ok (.invokevirtual 42, 3) := by decide +kernel
theorem dX2_spreadOf_6 : decode cX2_spreadOf 6 = .ok (.istore_n 2, 1) := by decide +kernel
theorem dX2_spreadOf_7 : decode cX2_spreadOf 7 = .ok (.iload_n 2, 1) := by decide +kernel
theorem dX2_spreadOf_8 : decode cX2_spreadOf 8 = .ok (.istore_n 3, 1) := by decide +kernel
theorem dX2_spreadOf_9 : decode cX2_spreadOf 9 = .ok (.iconst 1, 1) := by decide +kernel
theorem dX2_spreadOf_10 : decode cX2_spreadOf 10 = .ok (.istore 4, 2) := by decide +kernel
theorem dX2_spreadOf_12 : decode cX2_spreadOf 12 = .ok (.iload 4, 2) := by decide +kernel
theorem dX2_spreadOf_14 : decode cX2_spreadOf 14 = .ok (.aload_n 0, 1) := by decide +kernel
theorem dX2_spreadOf_15 : decode cX2_spreadOf 15 = .ok (.getfield 9, 3) := by decide +kernel
theorem dX2_spreadOf_18 : decode cX2_spreadOf 18 = .ok (.iload_n 1, 1) := by decide +kernel
theorem dX2_spreadOf_19 : decode cX2_spreadOf 19 = .ok (.iaload, 1) := by decide +kernel
theorem dX2_spreadOf_20 : decode cX2_spreadOf 20 = .ok (.if_icmp .ge 32, 3) := by decide +kernel
theorem dX2_spreadOf_23 : decode cX2_spreadOf 23 = .ok (.aload_n 0, 1) := by decide +kernel
theorem dX2_spreadOf_24 : decode cX2_spreadOf 24 = .ok (.iload_n 1, 1) := by decide +kernel
theorem dX2_spreadOf_25 : decode cX2_spreadOf 25 = .ok (.iload 4, 2) := by decide +kernel
theorem dX2_spreadOf_27 : decode cX2_spreadOf 27 = .ok (.invokevirtual 42, 3) := by decide +kernel
theorem dX2_spreadOf_30 : decode cX2_spreadOf 30 = .ok (.istore 5, 2) := by decide +kernel
theorem dX2_spreadOf_32 : decode cX2_spreadOf 32 = .ok (.iload_n 2, 1) := by decide +kernel
theorem dX2_spreadOf_33 : decode cX2_spreadOf 33 = .ok (.iload 5, 2) := by decide +kernel
theorem dX2_spreadOf_35 : decode cX2_spreadOf 35 = .ok (.invokestatic 45, 3) := by decide +kernel
theorem dX2_spreadOf_38 : decode cX2_spreadOf 38 = .ok (.istore_n 2, 1) := by decide +kernel
theorem dX2_spreadOf_39 : decode cX2_spreadOf 39 = .ok (.iload_n 3, 1) := by decide +kernel
theorem dX2_spreadOf_40 : decode cX2_spreadOf 40 = .ok (.iload 5, 2) := by decide +kernel
theorem dX2_spreadOf_42 : decode cX2_spreadOf 42 = .ok (.invokestatic 50, 3) := by decide +kernel
theorem dX2_spreadOf_45 : decode cX2_spreadOf 45 = .ok (.istore_n 3, 1) := by decide +kernel
theorem dX2_spreadOf_46 : decode cX2_spreadOf 46 = .ok (.iinc 4 1, 3) := by decide +kernel
theorem dX2_spreadOf_49 : decode cX2_spreadOf 49 = .ok (.goto (-37), 3) := by decide +kernel
theorem dX2_spreadOf_52 : decode cX2_spreadOf 52 = .ok (.iload_n 3, 1) := by decide +kernel
theorem dX2_spreadOf_53 : decode cX2_spreadOf 53 = .ok (.iload_n 2, 1) := by decide +kernel
theorem dX2_spreadOf_54 : decode cX2_spreadOf 54 = .ok (.isub, 1) := by decide +kernel
theorem dX2_spreadOf_55 : decode cX2_spreadOf 55 = .ok (.ireturn, 1) := by decide +kernel
theorem dX3_init_0 : decode cX3_init 0 = .ok (.aload_n 0, 1) := by decide +kernel
theorem dX3_init_1 : decode cX3_init 1 = .ok (.invokespecial 3, 3) := by decide +kernel
theorem dX3_init_4 : decode cX3_init 4 = .ok (.aload_n 0, 1) := by decide +kernel
theorem dX3_init_5 : decode cX3_init 5 = .ok (.bipush 64, 2) := by decide +kernel
theorem dX3_init_7 : decode cX3_init 7 = .ok (.newarray .int, 2) := by decide +kernel
theorem dX3_init_9 : decode cX3_init 9 = .ok (.putfield 9, 3) := by decide +kernel
theorem dX3_init_12 : decode cX3_init 12 = .ok (.aload_n 0, 1) := by decide +kernel
theorem dX3_init_13 : decode cX3_init 13 = .ok (.bipush 64, 2) := by decide +kernel
theorem dX3_init_15 : decode cX3_init 15 = .ok (.newarray .int, 2) := by decide +kernel
theorem dX3_init_17 : decode cX3_init 17 = .ok (.putfield 15, 3) := by decide +kernel
theorem dX3_init_20 : decode cX3_init 20 = .ok (.aload_n 0, 1) := by decide +kernel
theorem dX3_init_21 : decode cX3_init 21 = .ok (.sipush 1024, 3) := by decide +kernel
theorem dX3_init_24 : decode cX3_init 24 = .ok (.newarray .int, 2) := by decide +kernel
theorem dX3_init_26 : decode cX3_init 26 = .ok (.putfield 18, 3) := by decide +kernel
theorem dX3_init_29 : decode cX3_init 29 = .ok (.aload_n 0, 1) := by decide +kernel
theorem dX3_init_30 : decode cX3_init 30 = .ok (.bipush 64, 2) := by decide +kernel
theorem dX3_init_32 : decode cX3_init 32 = .ok (.newarray .int, 2) := by decide +kernel
theorem dX3_init_34 : decode cX3_init 34 = .ok (.putfield 21, 3) := by decide +kernel
theorem dX3_init_37 : decode cX3_init 37 = .ok (.aload_n 0, 1) := by decide +kernel
theorem dX3_init_38 : decode cX3_init 38 = .ok (.iconst 4, 1) := by decide +kernel
theorem dX3_init_39 : decode cX3_init 39 = .ok (.newarray .int, 2) := by decide +kernel
theorem dX3_init_41 : decode cX3_init 41 = .ok (.dup, 1) := by decide +kernel
theorem dX3_init_42 : decode cX3_init 42 = .ok (.iconst 0, 1) := by decide +kernel
theorem dX3_init_43 : decode cX3_init 43 = .ok (.bipush 20, 2) := by decide +kernel
theorem dX3_init_45 : decode cX3_init 45 = .ok (.iastore, 1) := by decide +kernel
theorem dX3_init_46 : decode cX3_init 46 = .ok (.dup, 1) := by decide +kernel
theorem dX3_init_47 : decode cX3_init 47 = .ok (.iconst 1, 1) := by decide +kernel
theorem dX3_init_48 : decode cX3_init 48 = .ok (.bipush 20, 2) := by decide +kernel
theorem dX3_init_50 : decode cX3_init 50 = .ok (.iastore, 1) := by decide +kernel
theorem dX3_init_51 : decode cX3_init 51 = .ok (.dup, 1) := by decide +kernel
theorem dX3_init_52 : decode cX3_init 52 = .ok (.iconst 2, 1) := by decide +kernel
theorem dX3_init_53 : decode cX3_init 53 = .ok (.bipush 20, 2) := by decide +kernel
theorem dX3_init_55 : decode cX3_init 55 = .ok (.iastore, 1) := by decide +kernel
theorem dX3_init_56 : decode cX3_init 56 = .ok (.dup, 1) := by decide +kernel
theorem dX3_init_57 : decode cX3_init 57 = .ok (.iconst 3, 1) := by decide +kernel
theorem dX3_init_58 : decode cX3_init 58 = .ok (.bipush 20, 2) := by decide +kernel
theorem dX3_init_60 : decode cX3_init 60 = .ok (.iastore, 1) := by decide +kernel
theorem dX3_init_61 : decode cX3_init 61 = .ok (.putfield 24, 3) := by decide +kernel
theorem dX3_init_64 : decode cX3_init 64 = .ok (.aload_n 0, 1) := by decide +kernel
theorem dX3_init_65 : decode cX3_init 65 = .ok (.iconst 4, 1) := by decide +kernel
theorem dX3_init_66 : decode cX3_init 66 = .ok (.newarray .int, 2) := by decide +kernel
theorem dX3_init_68 : decode cX3_init 68 = .ok (.dup, 1) := by decide +kernel
theorem dX3_init_69 : decode cX3_init 69 = .ok (.iconst 0, 1) := by decide +kernel
theorem dX3_init_70 : decode cX3_init 70 = .ok (.iconst 1, 1) := by decide +kernel
theorem dX3_init_71 : decode cX3_init 71 = .ok (.iastore, 1) := by decide +kernel
theorem dX3_init_72 : decode cX3_init 72 = .ok (.dup, 1) := by decide +kernel
theorem dX3_init_73 : decode cX3_init 73 = .ok (.iconst 1, 1) := by decide +kernel
theorem dX3_init_74 : decode cX3_init 74 = .ok (.iconst 1, 1) := by decide +kernel
theorem dX3_init_75 : decode cX3_init 75 = .ok (.iastore, 1) := by decide +kernel
theorem dX3_init_76 : decode cX3_init 76 = .ok (.dup, 1) := by decide +kernel
theorem dX3_init_77 : decode cX3_init 77 = .ok (.iconst 2, 1) := by decide +kernel
theorem dX3_init_78 : decode cX3_init 78 = .ok (.iconst 1, 1) := by decide +kernel
theorem dX3_init_79 : decode cX3_init 79 = .ok (.iastore, 1) := by decide +kernel
theorem dX3_init_80 : decode cX3_init 80 = .ok (.dup, 1) := by decide +kernel
theorem dX3_init_81 : decode cX3_init 81 = .ok (.iconst 3, 1) := by decide +kernel
theorem dX3_init_82 : decode cX3_init 82 = .ok (.iconst 1, 1) := by decide +kernel
theorem dX3_init_83 : decode cX3_init 83 = .ok (.iastore, 1) := by decide +kernel
theorem dX3_init_84 : decode cX3_init 84 = .ok (.putfield 27, 3) := by decide +kernel
theorem dX3_init_87 : decode cX3_init 87 = .ok (.aload_n 0, 1) := by decide +kernel
theorem dX3_init_88 : decode cX3_init 88 = .ok (.iconst 0, 1) := by decide +kernel
theorem dX3_init_89 : decode cX3_init 89 = .ok (.putfield 30, 3) := by decide +kernel
theorem dX3_init_92 : decode cX3_init 92 = .ok (.aload_n 0, 1) := by decide +kernel
theorem dX3_init_93 : decode cX3_init 93 = .ok (.bipush 64, 2) := by decide +kernel
theorem dX3_init_95 : decode cX3_init 95 = .ok (.newarray .int, 2) := by decide +kernel
theorem dX3_init_97 : decode cX3_init 97 = .ok (.putfield 34, 3) := by decide +kernel
theorem dX3_init_100 : decode cX3_init 100 = .ok (.return_, 1) := by decide +kernel
theorem dX3_stemPlace_0 : decode cX3_stemPlace 0 = .ok (.iload_n 0, 1) := by decide +kernel
theorem dX3_stemPlace_1 : decode cX3_stemPlace 1 = .ok (.bipush 16, 2) := by decide +kernel
theorem dX3_stemPlace_3 : decode cX3_stemPlace 3 = .ok (.imul, 1) := by decide +kernel
theorem dX3_stemPlace_4 : decode cX3_stemPlace 4 = .ok (.iload_n 1, 1) := by decide +kernel
theorem dX3_stemPlace_5 : decode cX3_stemPlace 5 = .ok (.iconst 4, 1) := by decide +kernel
theorem dX3_stemPlace_6 : decode cX3_stemPlace 6 = .ok (.imul, 1) := by decide +kernel
theorem dX3_stemPlace_7 : decode cX3_stemPlace 7 = .ok (.iadd, 1) := by decide +kernel
theorem dX3_stemPlace_8 : decode cX3_stemPlace 8 = .ok (.iload_n 2, 1) := by decide +kernel
theorem dX3_stemPlace_9 : decode cX3_stemPlace 9 = .ok (.iadd, 1) := by decide +kernel
theorem dX3_stemPlace_10 : decode cX3_stemPlace 10 = .ok (.ireturn, 1) := by decide +kernel
theorem dX3_apart_0 : decode cX3_apart 0 = .ok (.iload_n 0, 1) := by decide +kernel
theorem dX3_apart_1 : decode cX3_apart 1 = .ok (.bipush 8, 2) := by decide +kernel
theorem dX3_apart_3 : decode cX3_apart 3 = .ok (.irem, 1) := by decide +kernel
theorem dX3_apart_4 : decode cX3_apart 4 = .ok (.iload_n 1, 1) := by decide +kernel
theorem dX3_apart_5 : decode cX3_apart 5 = .ok (.bipush 8, 2) := by decide +kernel
theorem dX3_apart_7 : decode cX3_apart 7 = .ok (.irem, 1) := by decide +kernel
theorem dX3_apart_8 : decode cX3_apart 8 = .ok (.isub, 1) := by decide +kernel
theorem dX3_apart_9 : decode cX3_apart 9 = .ok (.invokestatic 37, 3) := by decide +kernel
theorem dX3_apart_12 : decode cX3_apart 12 = .ok (.iload_n 0, 1) := by decide +kernel
theorem dX3_apart_13 : decode cX3_apart 13 = .ok (.bipush 8, 2) := by decide +kernel
theorem dX3_apart_15 : decode cX3_apart 15 = .ok (.idiv, 1) := by decide +kernel
theorem dX3_apart_16 : decode cX3_apart 16 = .ok (.iload_n 1, 1) := by decide +kernel
theorem dX3_apart_17 : decode cX3_apart 17 = .ok (.bipush 8, 2) := by decide +kernel
theorem dX3_apart_19 : decode cX3_apart 19 = .ok (.idiv, 1) := by decide +kernel
theorem dX3_apart_20 : decode cX3_apart 20 = .ok (.isub, 1) := by decide +kernel
theorem dX3_apart_21 : decode cX3_apart 21 = .ok (.invokestatic 37, 3) := by decide +kernel
theorem dX3_apart_24 : decode cX3_apart 24 = .ok (.iadd, 1) := by decide +kernel
theorem dX3_apart_25 : decode cX3_apart 25 = .ok (.ireturn, 1) := by decide +kernel
theorem dX3_sideBySide_0 : decode cX3_sideBySide 0 = .ok (.iload_n 0, 1) := by decide +kernel
theorem dX3_sideBySide_1 : decode cX3_sideBySide 1 = .ok (.iload_n 1, 1) := by decide +kernel
theorem dX3_sideBySide_2 : decode cX3_sideBySide 2 = .ok (.invokestatic 43, 3) := by decide +kernel
theorem dX3_sideBySide_5 : decode cX3_sideBySide 5 = .ok (.iconst 1, 1) := by decide +kernel
theorem dX3_sideBySide_6 : decode cX3_sideBySide 6 = .ok (.if_icmp .ne 7, 3) := by decide +kernel
theorem dX3_sideBySide_9 : decode cX3_sideBySide 9 = .ok (.iconst 1, 1) := by decide +kernel
theorem dX3_sideBySide_10 : decode cX3_sideBySide 10 = .ok (.goto 4, 3) := by decide +kernel
theorem dX3_sideBySide_13 : decode cX3_sideBySide 13 = .ok (.iconst 0, 1) := by decide +kernel
theorem dX3_sideBySide_14 : decode cX3_sideBySide 14 = .ok (.ireturn, 1) := by decide +kernel
theorem dX3_far_0 : decode cX3_far 0 = .ok (.iload_n 1, 1) := by decide +kernel
theorem dX3_far_1 : decode cX3_far 1 = .ok (.aload_n 0, 1) := by decide +kernel
theorem dX3_far_2 : decode cX3_far 2 = .ok (.getfield 30, 3) := by decide +kernel
theorem dX3_far_5 : decode cX3_far 5 = .ok (.invokestatic 43, 3) := by decide +kernel
theorem dX3_far_8 : decode cX3_far 8 = .ok (.ireturn, 1) := by decide +kernel
theorem dX3_lengthOf_0 : decode cX3_lengthOf 0 = .ok (.iconst 4, 1) := by decide +kernel
theorem dX3_lengthOf_1 : decode cX3_lengthOf 1 = .ok (.iconst 2, 1) := by decide +kernel
theorem dX3_lengthOf_2 : decode cX3_lengthOf 2 = .ok (.iload_n 0, 1) := by decide +kernel
theorem dX3_lengthOf_3 : decode cX3_lengthOf 3 = .ok (.imul, 1) := by decide +kernel
theorem dX3_lengthOf_4 : decode cX3_lengthOf 4 = .ok (.iadd, 1) := by decide +kernel
theorem dX3_lengthOf_5 : decode cX3_lengthOf 5 = .ok (.ireturn, 1) := by decide +kernel
theorem dX3_wideAt_0 : decode cX3_wideAt 0 = .ok (.iconst 1, 1) := by decide +kernel
theorem dX3_wideAt_1 : decode cX3_wideAt 1 = .ok (.bipush 10, 2) := by decide +kernel
theorem dX3_wideAt_3 : decode cX3_wideAt 3 = .ok (.bipush 7, 2) := by decide +kernel
theorem dX3_wideAt_5 : decode cX3_wideAt 5 = .ok (.iload_n 2, 1) := by decide +kernel
theorem dX3_wideAt_6 : decode cX3_wideAt 6 = .ok (.imul, 1) := by decide +kernel
theorem dX3_wideAt_7 : decode cX3_wideAt 7 = .ok (.iadd, 1) := by decide +kernel
theorem dX3_wideAt_8 : decode cX3_wideAt 8 = .ok (.iload_n 1, 1) := by decide +kernel
theorem dX3_wideAt_9 : decode cX3_wideAt 9 = .ok (.iadd, 1) := by decide +kernel
theorem dX3_wideAt_10 : decode cX3_wideAt 10 = .ok (.aload_n 0, 1) := by decide +kernel
theorem dX3_wideAt_11 : decode cX3_wideAt 11 = .ok (.getfield 27, 3) := by decide +kernel
theorem dX3_wideAt_14 : decode cX3_wideAt 14 = .ok (.iload_n 1, 1) := by decide +kernel
theorem dX3_wideAt_15 : decode cX3_wideAt 15 = .ok (.iaload, 1) := by decide +kernel
theorem dX3_wideAt_16 : decode cX3_wideAt 16 = .ok (.iload_n 3, 1) := by decide +kernel
theorem dX3_wideAt_17 : decode cX3_wideAt 17 = .ok (.imul, 1) := by decide +kernel
theorem dX3_wideAt_18 : decode cX3_wideAt 18 = .ok (.isub, 1) := by decide +kernel
theorem dX3_wideAt_19 : decode cX3_wideAt 19 = .ok (.invokestatic 47, 3) := by decide +kernel
theorem dX3_wideAt_22 : decode cX3_wideAt 22 = .ok (.ireturn, 1) := by decide +kernel
theorem dX3_stemsIn_0 : decode cX3_stemsIn 0 = .ok (.iconst 0, 1) := by decide +kernel
theorem dX3_stemsIn_1 : decode cX3_stemsIn 1 = .ok (.istore_n 2, 1) := by decide +kernel
theorem dX3_stemsIn_2 : decode cX3_stemsIn 2 = .ok (.iconst 0, 1) := by decide +kernel
theorem dX3_stemsIn_3 : decode cX3_stemsIn 3 = .ok (.istore_n 3, 1) := by decide +kernel
theorem dX3_stemsIn_4 : decode cX3_stemsIn 4 = .ok (.iload_n 3, 1) := by decide +kernel
theorem dX3_stemsIn_5 : decode cX3_stemsIn 5 = .ok (.bipush 16, 2) := by decide +kernel
theorem dX3_stemsIn_7 : decode cX3_stemsIn 7 = .ok (.if_icmp .ge 23, 3) := by decide +kernel
theorem dX3_stemsIn_10 : decode cX3_stemsIn 10 = .ok (.iload_n 2, 1) := by decide +kernel
theorem dX3_stemsIn_11 : decode cX3_stemsIn 11 = .ok (.aload_n 0, 1) := by decide +kernel
theorem dX3_stemsIn_12 : decode cX3_stemsIn 12 = .ok (.getfield 18, 3) := by decide +kernel
theorem dX3_stemsIn_15 : decode cX3_stemsIn 15 = .ok (.iload_n 1, 1) := by decide +kernel
theorem dX3_stemsIn_16 : decode cX3_stemsIn 16 = .ok (.bipush 16, 2) := by decide +kernel
theorem dX3_stemsIn_18 : decode cX3_stemsIn 18 = .ok (.imul, 1) := by decide +kernel
theorem dX3_stemsIn_19 : decode cX3_stemsIn 19 = .ok (.iload_n 3, 1) := by decide +kernel
theorem dX3_stemsIn_20 : decode cX3_stemsIn 20 = .ok (.iadd, 1) := by decide +kernel
theorem dX3_stemsIn_21 : decode cX3_stemsIn 21 = .ok (.iaload, 1) := by decide +kernel
theorem dX3_stemsIn_22 : decode cX3_stemsIn 22 = .ok (.iadd, 1) := by decide +kernel
theorem dX3_stemsIn_23 : decode cX3_stemsIn 23 = .ok (.istore_n 2, 1) := by decide +kernel
theorem dX3_stemsIn_24 : decode cX3_stemsIn 24 = .ok (.iinc 3 1, 3) := by decide +kernel
theorem dX3_stemsIn_27 : decode cX3_stemsIn 27 = .ok (.goto (-23), 3) := by decide +kernel
theorem dX3_stemsIn_30 : decode cX3_stemsIn 30 = .ok (.iload_n 2, 1) := by decide +kernel
theorem dX3_stemsIn_31 : decode cX3_stemsIn 31 = .ok (.ireturn, 1) := by decide +kernel
theorem dX3_allStems_0 : decode cX3_allStems 0 = .ok (.iconst 0, 1) := by decide +kernel
theorem dX3_allStems_1 : decode cX3_allStems 1 = .ok (.istore_n 1, 1) := by decide +kernel
theorem dX3_allStems_2 : decode cX3_allStems 2 = .ok (.iconst 0, 1) := by decide +kernel
theorem dX3_allStems_3 : decode cX3_allStems 3 = .ok (.istore_n 2, 1) := by decide +kernel
theorem dX3_allStems_4 : decode cX3_allStems 4 = .ok (.iload_n 2, 1) := by decide +kernel
theorem dX3_allStems_5 : decode cX3_allStems 5 = .ok (.bipush 64, 2) := by decide +kernel
theorem dX3_allStems_7 : decode cX3_allStems 7 = .ok (.if_icmp .ge 17, 3) := by decide +kernel
theorem dX3_allStems_10 : decode cX3_allStems 10 = .ok (.iload_n 1, 1) := by decide +kernel
theorem dX3_allStems_11 : decode cX3_allStems 11 = .ok (.aload_n 0, 1) := by decide +kernel
theorem dX3_allStems_12 : decode cX3_allStems 12 = .ok (.iload_n 2, 1) := by decide +kernel
theorem dX3_allStems_13 : decode cX3_allStems 13 = .ok (.invokevirtual 50, 3) := by decide +kernel
theorem dX3_allStems_16 : decode cX3_allStems 16 = .ok (.iadd, 1) := by decide +kernel
theorem dX3_allStems_17 : decode cX3_allStems 17 = .ok (.istore_n 1, 1) := by decide +kernel
theorem dX3_allStems_18 : decode cX3_allStems 18 = .ok (.iinc 2 1, 3) := by decide +kernel
theorem dX3_allStems_21 : decode cX3_allStems 21 = .ok (.goto (-17), 3) := by decide +kernel
theorem dX3_allStems_24 : decode cX3_allStems 24 = .ok (.iload_n 1, 1) := by decide +kernel
theorem dX3_allStems_25 : decode cX3_allStems 25 = .ok (.ireturn, 1) := by decide +kernel
theorem dX3_takeStem_0 : decode cX3_takeStem 0 = .ok (.aload_n 0, 1) := by decide +kernel
theorem dX3_takeStem_1 : decode cX3_takeStem 1 = .ok (.getfield 18, 3) := by decide +kernel
theorem dX3_takeStem_4 : decode cX3_takeStem 4 = .ok (.iload_n 1, 1) := by decide +kernel
theorem dX3_takeStem_5 : decode cX3_takeStem 5 = .ok (.iload_n 2, 1) := by decide +kernel
theorem dX3_takeStem_6 : decode cX3_takeStem 6 = .ok (.iload_n 3, 1) := by decide +kernel
theorem dX3_takeStem_7 : decode cX3_takeStem 7 = .ok (.invokestatic 53, 3) := by decide +kernel
theorem dX3_takeStem_10 : decode cX3_takeStem 10 = .ok (.dup2, 1) := by decide +kernel
theorem dX3_takeStem_11 : decode cX3_takeStem 11 = .ok (.iaload, 1) := by decide +kernel
theorem dX3_takeStem_12 : decode cX3_takeStem 12 = .ok (.iconst 1, 1) := by decide +kernel
theorem dX3_takeStem_13 : decode cX3_takeStem 13 = .ok (.isub, 1) := by decide +kernel
theorem dX3_takeStem_14 : decode cX3_takeStem 14 = .ok (.iastore, 1) := by decide +kernel
theorem dX3_takeStem_15 : decode cX3_takeStem 15 = .ok (.aload_n 0, 1) := by decide +kernel
theorem dX3_takeStem_16 : decode cX3_takeStem 16 = .ok (.getfield 15, 3) := by decide +kernel
theorem dX3_takeStem_19 : decode cX3_takeStem 19 = .ok (.iload_n 1, 1) := by decide +kernel
theorem dX3_takeStem_20 : decode cX3_takeStem 20 = .ok (.dup2, 1) := by decide +kernel
theorem dX3_takeStem_21 : decode cX3_takeStem 21 = .ok (.iaload, 1) := by decide +kernel
theorem dX3_takeStem_22 : decode cX3_takeStem 22 = .ok (.iconst 3, 1) := by decide +kernel
theorem dX3_takeStem_23 : decode cX3_takeStem 23 = .ok (.iadd, 1) := by decide +kernel
theorem dX3_takeStem_24 : decode cX3_takeStem 24 = .ok (.iastore, 1) := by decide +kernel
theorem dX3_takeStem_25 : decode cX3_takeStem 25 = .ok (.return_, 1) := by decide +kernel
theorem dX3_endYear_0 : decode cX3_endYear 0 = .ok (.iconst 0, 1) := by decide +kernel
theorem dX3_endYear_1 : decode cX3_endYear 1 = .ok (.istore_n 1, 1) := by decide +kernel
theorem dX3_endYear_2 : decode cX3_endYear 2 = .ok (.iload_n 1, 1) := by decide +kernel
theorem dX3_endYear_3 : decode cX3_endYear 3 = .ok (.bipush 64, 2) := by decide +kernel
theorem dX3_endYear_5 : decode cX3_endYear 5 = .ok (.if_icmp .ge 60, 3) := by decide +kernel
theorem dX3_endYear_8 : decode cX3_endYear 8 = .ok (.iconst 0, 1) := by decide +kernel
theorem dX3_endYear_9 : decode cX3_endYear 9 = .ok (.istore_n 2, 1) := by decide +kernel
theorem dX3_endYear_10 : decode cX3_endYear 10 = .ok (.iload_n 2, 1) := by decide +kernel
theorem dX3_endYear_11 : decode cX3_endYear 11 = .ok (.iconst 4, 1) := by decide +kernel
theorem dX3_endYear_12 : decode cX3_endYear 12 = .ok (.if_icmp .ge 37, 3) := by decide +kernel
theorem dX3_endYear_15 : decode cX3_endYear 15 = .ok (.iconst 2, 1) := by decide +kernel
theorem dX3_endYear_16 : decode cX3_endYear 16 = .ok (.istore_n 3, 1) := by decide +kernel
theorem dX3_endYear_17 : decode cX3_endYear 17 = .ok (.iload_n 3, 1) := by decide +kernel
theorem dX3_endYear_18 : decode cX3_endYear 18 = .ok (.ifCond .lt 25, 3) := by decide +kernel
theorem dX3_endYear_21 : decode cX3_endYear 21 = .ok (.aload_n 0, 1) := by decide +kernel
theorem dX3_endYear_22 : decode cX3_endYear 22 = .ok (.iload_n 1, 1) := by decide +kernel
theorem dX3_endYear_23 : decode cX3_endYear 23 = .ok (.iload_n 2, 1) := by decide +kernel
theorem dX3_endYear_24 : decode cX3_endYear 24 = .ok (.iload_n 3, 1) := by decide +kernel
theorem dX3_endYear_25 : decode cX3_endYear 25 = .ok (.invokestatic 53, 3) := by decide +kernel
theorem dX3_endYear_28 : decode cX3_endYear 28 = .ok (.aload_n 0, 1) := by decide +kernel
theorem dX3_endYear_29 : decode cX3_endYear 29 = .ok (.getfield 24, 3) := by decide +kernel
theorem dX3_endYear_32 : decode cX3_endYear 32 = .ok (.iload_n 2, 1) := by decide +kernel
theorem dX3_endYear_33 : decode cX3_endYear 33 = .ok (.iaload, 1) := by decide +kernel
theorem dX3_endYear_34 : decode cX3_endYear 34 = .ok (.invokevirtual 57, 3) := by decide +kernel
theorem dX3_endYear_37 : decode cX3_endYear 37 = .ok (.iinc 3 (-1), 3) := by decide +kernel
theorem dX3_endYear_40 : decode cX3_endYear 40 = .ok (.goto (-23), 3) := by decide +kernel
theorem dX3_endYear_43 : decode cX3_endYear 43 = .ok (.iinc 2 1, 3) := by decide +kernel
theorem dX3_endYear_46 : decode cX3_endYear 46 = .ok (.goto (-36), 3) := by decide +kernel
theorem dX3_endYear_49 : decode cX3_endYear 49 = .ok (.aload_n 0, 1) := by decide +kernel
theorem dX3_endYear_50 : decode cX3_endYear 50 = .ok (.getfield 15, 3) := by decide +kernel
theorem dX3_endYear_53 : decode cX3_endYear 53 = .ok (.iload_n 1, 1) := by decide +kernel
theorem dX3_endYear_54 : decode cX3_endYear 54 = .ok (.dup2, 1) := by decide +kernel
theorem dX3_endYear_55 : decode cX3_endYear 55 = .ok (.iaload, 1) := by decide +kernel
theorem dX3_endYear_56 : decode cX3_endYear 56 = .ok (.iconst 2, 1) := by decide +kernel
theorem dX3_endYear_57 : decode cX3_endYear 57 = .ok (.idiv, 1) := by decide +kernel
theorem dX3_endYear_58 : decode cX3_endYear 58 = .ok (.iastore, 1) := by decide +kernel
theorem dX3_endYear_59 : decode cX3_endYear 59 = .ok (.iinc 1 1, 3) := by decide +kernel
theorem dX3_endYear_62 : decode cX3_endYear 62 = .ok (.goto (-60), 3) := by decide +kernel
theorem dX3_endYear_65 : decode cX3_endYear 65 = .ok (.return_, 1) := by decide +kernel
theorem dX3_growClass_0 : decode cX3_growClass 0 = .ok (.sipush 200, 3) := by decide +kernel
theorem dX3_growClass_3 : decode cX3_growClass 3 = .ok (.aload_n 0, 1) := by decide +kernel
theorem dX3_growClass_4 : decode cX3_growClass 4 = .ok (.getfield 18, 3) := by decide +kernel
theorem dX3_growClass_7 : decode cX3_growClass 7 = .ok (.iload_n 1, 1) := by decide +kernel
theorem dX3_growClass_8 : decode cX3_growClass 8 = .ok (.iconst 1, 1) := by decide +kernel
theorem dX3_growClass_9 : decode cX3_growClass 9 = .ok (.iadd, 1) := by decide +kernel
theorem dX3_growClass_10 : decode cX3_growClass 10 = .ok (.iaload, 1) := by decide +kernel
theorem dX3_growClass_11 : decode cX3_growClass 11 = .ok (.isub, 1) := by decide +kernel
theorem dX3_growClass_12 : decode cX3_growClass 12 = .ok (.istore_n 3, 1) := by decide +kernel
theorem dX3_growClass_13 : decode cX3_growClass 13 = .ok (.aload_n 0, 1) := by decide +kernel
theorem dX3_growClass_14 : decode cX3_growClass 14 = .ok (.getfield 18, 3) := by decide +kernel
theorem dX3_growClass_17 : decode cX3_growClass 17 = .ok (.iload_n 1, 1) := by decide +kernel
theorem dX3_growClass_18 : decode cX3_growClass 18 = .ok (.iaload, 1) := by decide +kernel
theorem dX3_growClass_19 : decode cX3_growClass 19 = .ok (.iload_n 2, 1) := by decide +kernel
theorem dX3_growClass_20 : decode cX3_growClass 20 = .ok (.imul, 1) := by decide +kernel
theorem dX3_growClass_21 : decode cX3_growClass 21 = .ok (.bipush 100, 2) := by decide +kernel
theorem dX3_growClass_23 : decode cX3_growClass 23 = .ok (.idiv, 1) := by decide +kernel
theorem dX3_growClass_24 : decode cX3_growClass 24 = .ok (.iload_n 3, 1) := by decide +kernel
theorem dX3_growClass_25 : decode cX3_growClass 25 = .ok (.invokestatic 61, 3) := by decide +kernel
theorem dX3_growClass_28 : decode cX3_growClass 28 = .ok (.istore 4, 2) := by decide +kernel
theorem dX3_growClass_30 : decode cX3_growClass 30 = .ok (.aload_n 0, 1) := by decide +kernel
theorem dX3_growClass_31 : decode cX3_growClass 31 = .ok (.getfield 18, 3) := by decide +kernel
theorem dX3_growClass_34 : decode cX3_growClass 34 = .ok (.iload_n 1, 1) := by decide +kernel
theorem dX3_growClass_35 : decode cX3_growClass 35 = .ok (.dup2, 1) := by decide +kernel
theorem dX3_growClass_36 : decode cX3_growClass 36 = .ok (.iaload, 1) := by decide +kernel
theorem dX3_growClass_37 : decode cX3_growClass 37 = .ok (.iload 4, 2) := by decide +kernel
theorem dX3_growClass_39 : decode cX3_growClass 39 = .ok (.isub, 1) := by decide +kernel
theorem dX3_growClass_40 : decode cX3_growClass 40 = .ok (.iastore, 1) := by decide +kernel
theorem dX3_growClass_41 : decode cX3_growClass 41 = .ok (.aload_n 0, 1) := by decide +kernel
theorem dX3_growClass_42 : decode cX3_growClass 42 = .ok (.getfield 18, 3) := by decide +kernel
theorem dX3_growClass_45 : decode cX3_growClass 45 = .ok (.iload_n 1, 1) := by decide +kernel
theorem dX3_growClass_46 : decode cX3_growClass 46 = .ok (.iconst 1, 1) := by decide +kernel
theorem dX3_growClass_47 : decode cX3_growClass 47 = .ok (.iadd, 1) := by decide +kernel
theorem dX3_growClass_48 : decode cX3_growClass 48 = .ok (.dup2, 1) := by decide +kernel
theorem dX3_growClass_49 : decode cX3_growClass 49 = .ok (.iaload, 1) := by decide +kernel
theorem dX3_growClass_50 : decode cX3_growClass 50 = .ok (.iload 4, 2) := by decide +kernel
theorem dX3_growClass_52 : decode cX3_growClass 52 = .ok (.iadd, 1) := by decide +kernel
theorem dX3_growClass_53 : decode cX3_growClass 53 = .ok (.iastore, 1) := by decide +kernel
theorem dX3_growClass_54 : decode cX3_growClass 54 = .ok (.return_, 1) := by decide +kernel
theorem dX3_spreadFire_0 : decode cX3_spreadFire 0 = .ok (.iconst 0, 1) := by decide +kernel
theorem dX3_spreadFire_1 : decode cX3_spreadFire 1 = .ok (.istore 5, 2) := by decide +kernel
theorem dX3_spreadFire_3 : decode cX3_spreadFire 3 = .ok (.iload 5, 2) := by decide +kernel
theorem dX3_spreadFire_5 : decode cX3_spreadFire 5 = .ok (.bipush 64, 2) := by decide +kernel
theorem dX3_spreadFire_7 : decode cX3_spreadFire 7 = .ok (.if_icmp .ge 17, 3) := by decide +kernel
theorem dX3_spreadFire_10 : decode cX3_spreadFire 10 = .ok (.aload_n 0, 1) := by decide +kernel
theorem dX3_spreadFire_11 : decode cX3_spreadFire 11 = .ok (.getfield 34, 3) := by decide +kernel
theorem dX3_spreadFire_14 : decode cX3_spreadFire 14 = .ok (.iload 5, 2) := by decide +kernel
theorem dX3_spreadFire_16 : decode cX3_spreadFire 16 = .ok (.iconst 0, 1) := by decide +kernel
theorem dX3_spreadFire_17 : decode cX3_spreadFire 17 = .ok (.iastore, 1) := by decide +kernel
theorem dX3_spreadFire_18 : decode cX3_spreadFire 18 = .ok (.iinc 5 1, 3) := by decide +kernel
theorem dX3_spreadFire_21 : decode cX3_spreadFire 21 = .ok (.goto (-18), 3) := by decide +kernel
theorem dX3_spreadFire_24 : decode cX3_spreadFire 24 = .ok (.aload_n 0, 1) := by decide +kernel
theorem dX3_spreadFire_25 : decode cX3_spreadFire 25 = .ok (.getfield 34, 3) := by decide +kernel
theorem dX3_spreadFire_28 : decode cX3_spreadFire 28 = .ok (.iload_n 1, 1) := by decide +kernel
theorem dX3_spreadFire_29 : decode cX3_spreadFire 29 = .ok (.iconst 1, 1) := by decide +kernel
theorem dX3_spreadFire_30 : decode cX3_spreadFire 30 = .ok (.iastore, 1) := by decide +kernel
theorem dX3_spreadFire_31 : decode cX3_spreadFire 31 = .ok (.iconst 1, 1) := by decide +kernel
theorem dX3_spreadFire_32 : decode cX3_spreadFire 32 = .ok (.istore 5, 2) := by decide +kernel
theorem dX3_spreadFire_34 : decode cX3_spreadFire 34 = .ok (.iconst 1, 1) := by decide +kernel
theorem dX3_spreadFire_35 : decode cX3_spreadFire 35 = .ok (.istore 6, 2) := by decide +kernel
theorem dX3_spreadFire_37 : decode cX3_spreadFire 37 = .ok (.iload 6, 2) := by decide +kernel
theorem dX3_spreadFire_39 : decode cX3_spreadFire 39 = .ok (.iload_n 3, 1) := by decide +kernel
theorem dX3_spreadFire_40 : decode cX3_spreadFire 40 = .ok (.if_icmp .gt 55, 3) := by decide +kernel
theorem dX3_spreadFire_43 : decode cX3_spreadFire 43 = .ok (.iconst 0, 1) := by decide +kernel
theorem dX3_spreadFire_44 : decode cX3_spreadFire 44 = .ok (.istore 7, 2) := by decide +kernel
theorem dX3_spreadFire_46 : decode cX3_spreadFire 46 = .ok (.iload 7, 2) := by decide +kernel
theorem dX3_spreadFire_48 : decode cX3_spreadFire 48 = .ok (.bipush 64, 2) := by decide +kernel
theorem dX3_spreadFire_50 : decode cX3_spreadFire 50 = .ok (.if_icmp .ge 39, 3) := by decide +kernel
theorem dX3_spreadFire_53 : decode cX3_spreadFire 53 = .ok (.aload_n 0, 1) := by decide +kernel
theorem dX3_spreadFire_54 : decode cX3_spreadFire 54 = .ok (.getfield 34, 3) := by decide +kernel
theorem dX3_spreadFire_57 : decode cX3_spreadFire 57 = .ok (.iload 7, 2) := by decide +kernel
theorem dX3_spreadFire_59 : decode cX3_spreadFire 59 = .ok (.iaload, 1) := by decide +kernel
theorem dX3_spreadFire_60 : decode cX3_spreadFire 60 = .ok (.iload 6, 2) := by decide +kernel
theorem dX3_spreadFire_62 : decode cX3_spreadFire 62 = .ok (.if_icmp .ne 21, 3) := by decide +kernel
theorem dX3_spreadFire_65 : decode cX3_spreadFire 65 = .ok (.iload 5, 2) := by decide +kernel
theorem dX3_spreadFire_67 : decode cX3_spreadFire 67 = .ok (.aload_n 0, 1) := by decide +kernel
theorem dX3_spreadFire_68 : decode cX3_spreadFire 68 = .ok (.iload 7, 2) := by decide +kernel
theorem dX3_spreadFire_70 : decode cX3_spreadFire 70 = .ok (.iload_n 2, 1) := by decide +kernel
theorem dX3_spreadFire_71 : decode cX3_spreadFire 71 = .ok (.iload 6, 2) := by decide +kernel
theorem dX3_spreadFire_73 : decode cX3_spreadFire 73 = .ok (.iconst 1, 1) := by decide +kernel
theorem dX3_spreadFire_74 : decode cX3_spreadFire 74 = .ok (.iadd, 1) := by decide +kernel
theorem dX3_spreadFire_75 : decode cX3_spreadFire 75 = .ok (.iload 4, 2) := by decide +kernel
theorem dX3_spreadFire_77 : decode cX3_spreadFire 77 = .ok (.invokevirtual 64, 3) := by decide +kernel
theorem dX3_spreadFire_80 : decode cX3_spreadFire 80 = .ok (.iadd, 1) := by decide +kernel
theorem dX3_spreadFire_81 : decode cX3_spreadFire 81 = .ok (.istore 5, 2) := by decide +kernel
theorem dX3_spreadFire_83 : decode cX3_spreadFire 83 = .ok (.iinc 7 1, 3) := by decide +kernel
theorem dX3_spreadFire_86 : decode cX3_spreadFire 86 = .ok (.goto (-40), 3) := by decide +kernel
theorem dX3_spreadFire_89 : decode cX3_spreadFire 89 = .ok (.iinc 6 1, 3) := by decide +kernel
theorem dX3_spreadFire_92 : decode cX3_spreadFire 92 = .ok (.goto (-55), 3) := by decide +kernel
theorem dX3_spreadFire_95 : decode cX3_spreadFire 95 = .ok (.iload 5, 2) := by decide +kernel
theorem dX3_spreadFire_97 : decode cX3_spreadFire 97 = .ok (.ireturn, 1) := by decide +kernel
theorem dX3_kindle_0 : decode cX3_kindle 0 = .ok (.iconst 0, 1) := by decide +kernel
theorem dX3_kindle_1 : decode cX3_kindle 1 = .ok (.istore 5, 2) := by decide +kernel
theorem dX3_kindle_3 : decode cX3_kindle 3 = .ok (.iconst 0, 1) := by decide +kernel
theorem dX3_kindle_4 : decode cX3_kindle 4 = .ok (.istore 6, 2) := by decide +kernel
theorem dX3_kindle_6 : decode cX3_kindle 6 = .ok (.iload 6, 2) := by decide +kernel
theorem dX3_kindle_8 : decode cX3_kindle 8 = .ok (.iconst 4, 1) := by decide +kernel
theorem dX3_kindle_9 : decode cX3_kindle 9 = .ok (.if_icmp .ge 65, 3) := by decide +kernel
theorem dX3_kindle_12 : decode cX3_kindle 12 = .ok (.iload_n 1, 1) := by decide +kernel
theorem dX3_kindle_13 : decode cX3_kindle 13 = .ok (.iload 6, 2) := by decide +kernel
theorem dX3_kindle_15 : decode cX3_kindle 15 = .ok (.invokestatic 68, 3) := by decide +kernel
theorem dX3_kindle_18 : decode cX3_kindle 18 = .ok (.istore 7, 2) := by decide +kernel
theorem dX3_kindle_20 : decode cX3_kindle 20 = .ok (.iload 7, 2) := by decide +kernel
theorem dX3_kindle_22 : decode cX3_kindle 22 = .ok (.iconst (-1), 1) := by decide +kernel
theorem dX3_kindle_23 : decode cX3_kindle 23 = .ok (.if_icmp .eq 45, 3) := by decide +kernel
theorem dX3_kindle_26 : decode cX3_kindle 26 = .ok (.aload_n 0, 1) := by decide +kernel
theorem dX3_kindle_27 : decode cX3_kindle 27 = .ok (.getfield 34, 3) := by decide +kernel
theorem dX3_kindle_30 : decode cX3_kindle 30 = .ok (.iload 7, 2) := by decide +kernel
theorem dX3_kindle_32 : decode cX3_kindle 32 = .ok (.iaload, 1) := by decide +kernel
theorem dX3_kindle_33 : decode cX3_kindle 33 = .ok (.ifCond .ne 35, 3) := by decide +kernel
theorem dX3_kindle_36 : decode cX3_kindle 36 = .ok (.aload_n 0, 1) := by decide +kernel
theorem dX3_kindle_37 : decode cX3_kindle 37 = .ok (.iload_n 1, 1) := by decide +kernel
theorem dX3_kindle_38 : decode cX3_kindle 38 = .ok (.iload 7, 2) := by decide +kernel
theorem dX3_kindle_40 : decode cX3_kindle 40 = .ok (.iconst 5, 1) := by decide +kernel
theorem dX3_kindle_41 : decode cX3_kindle 41 = .ok (.iload 4, 2) := by decide +kernel
theorem dX3_kindle_43 : decode cX3_kindle 43 = .ok (.imul, 1) := by decide +kernel
theorem dX3_kindle_44 : decode cX3_kindle 44 = .ok (.iload 6, 2) := by decide +kernel
theorem dX3_kindle_46 : decode cX3_kindle 46 = .ok (.iload_n 2, 1) := by decide +kernel
theorem dX3_kindle_47 : decode cX3_kindle 47 = .ok (.invokestatic 71, 3) := by decide +kernel
theorem dX3_kindle_50 : decode cX3_kindle 50 = .ok (.iadd, 1) := by decide +kernel
theorem dX3_kindle_51 : decode cX3_kindle 51 = .ok (.invokevirtual 74, 3) := by decide +kernel
theorem dX3_kindle_54 : decode cX3_kindle 54 = .ok (.ifCond .eq 14, 3) := by decide +kernel
theorem dX3_kindle_57 : decode cX3_kindle 57 = .ok (.aload_n 0, 1) := by decide +kernel
theorem dX3_kindle_58 : decode cX3_kindle 58 = .ok (.getfield 34, 3) := by decide +kernel
theorem dX3_kindle_61 : decode cX3_kindle 61 = .ok (.iload 7, 2) := by decide +kernel
theorem dX3_kindle_63 : decode cX3_kindle 63 = .ok (.iload_n 3, 1) := by decide +kernel
theorem dX3_kindle_64 : decode cX3_kindle 64 = .ok (.iastore, 1) := by decide +kernel
theorem dX3_kindle_65 : decode cX3_kindle 65 = .ok (.iinc 5 1, 3) := by decide +kernel
theorem dX3_kindle_68 : decode cX3_kindle 68 = .ok (.iinc 6 1, 3) := by decide +kernel
theorem dX3_kindle_71 : decode cX3_kindle 71 = .ok (.goto (-65), 3) := by decide +kernel
theorem dX3_kindle_74 : decode cX3_kindle 74 = .ok (.iload 5, 2) := by decide +kernel
theorem dX3_kindle_76 : decode cX3_kindle 76 = .ok (.ireturn, 1) := by decide +kernel
theorem dX3_catches_0 : decode cX3_catches 0 = .ok (.aload_n 0, 1) := by decide +kernel
theorem dX3_catches_1 : decode cX3_catches 1 = .ok (.iload_n 2, 1) := by decide +kernel
theorem dX3_catches_2 : decode cX3_catches 2 = .ok (.invokevirtual 50, 3) := by decide +kernel
theorem dX3_catches_5 : decode cX3_catches 5 = .ok (.istore 4, 2) := by decide +kernel
theorem dX3_catches_7 : decode cX3_catches 7 = .ok (.iload 4, 2) := by decide +kernel
theorem dX3_catches_9 : decode cX3_catches 9 = .ok (.ifCond .ne 14, 3) := by decide +kernel
theorem dX3_catches_12 : decode cX3_catches 12 = .ok (.aload_n 0, 1) := by decide +kernel
theorem dX3_catches_13 : decode cX3_catches 13 = .ok (.getfield 15, 3) := by decide +kernel
theorem dX3_catches_16 : decode cX3_catches 16 = .ok (.iload_n 2, 1) := by decide +kernel
theorem dX3_catches_17 : decode cX3_catches 17 = .ok (.iaload, 1) := by decide +kernel
theorem dX3_catches_18 : decode cX3_catches 18 = .ok (.ifCond .ne 5, 3) := by decide +kernel
theorem dX3_catches_21 : decode cX3_catches 21 = .ok (.iconst 0, 1) := by decide +kernel
theorem dX3_catches_22 : decode cX3_catches 22 = .ok (.ireturn, 1) := by decide +kernel
theorem dX3_catches_23 : decode cX3_catches 23 = .ok (.aload_n 0, 1) := by decide +kernel
theorem dX3_catches_24 : decode cX3_catches 24 = .ok (.getfield 9, 3) := by decide +kernel
theorem dX3_catches_27 : decode cX3_catches 27 = .ok (.iload_n 2, 1) := by decide +kernel
theorem dX3_catches_28 : decode cX3_catches 28 = .ok (.iaload, 1) := by decide +kernel
theorem dX3_catches_29 : decode cX3_catches 29 = .ok (.aload_n 0, 1) := by decide +kernel
theorem dX3_catches_30 : decode cX3_catches 30 = .ok (.getfield 9, 3) := by decide +kernel
theorem dX3_catches_33 : decode cX3_catches 33 = .ok (.iload_n 1, 1) := by decide +kernel
theorem dX3_catches_34 : decode cX3_catches 34 = .ok (.iaload, 1) := by decide +kernel
theorem dX3_catches_35 : decode cX3_catches 35 = .ok (.if_icmp .le 7, 3) := by decide +kernel
theorem dX3_catches_38 : decode cX3_catches 38 = .ok (.iconst 4, 1) := by decide +kernel
theorem dX3_catches_39 : decode cX3_catches 39 = .ok (.goto 4, 3) := by decide +kernel
theorem dX3_catches_42 : decode cX3_catches 42 = .ok (.iconst 0, 1) := by decide +kernel
theorem dX3_catches_43 : decode cX3_catches 43 = .ok (.istore 5, 2) := by decide +kernel
theorem dX3_catches_45 : decode cX3_catches 45 = .ok (.aload_n 0, 1) := by decide +kernel
theorem dX3_catches_46 : decode cX3_catches 46 = .ok (.getfield 15, 3) := by decide +kernel
theorem dX3_catches_49 : decode cX3_catches 49 = .ok (.iload_n 2, 1) := by decide +kernel
theorem dX3_catches_50 : decode cX3_catches 50 = .ok (.iaload, 1) := by decide +kernel
theorem dX3_catches_51 : decode cX3_catches 51 = .ok (.iload 4, 2) := by decide +kernel
theorem dX3_catches_53 : decode cX3_catches 53 = .ok (.bipush 10, 2) := by decide +kernel
theorem dX3_catches_55 : decode cX3_catches 55 = .ok (.idiv, 1) := by decide +kernel
theorem dX3_catches_56 : decode cX3_catches 56 = .ok (.iadd, 1) := by decide +kernel
theorem dX3_catches_57 : decode cX3_catches 57 = .ok (.iload_n 3, 1) := by decide +kernel
theorem dX3_catches_58 : decode cX3_catches 58 = .ok (.iadd, 1) := by decide +kernel
theorem dX3_catches_59 : decode cX3_catches 59 = .ok (.iload 5, 2) := by decide +kernel
theorem dX3_catches_61 : decode cX3_catches 61 = .ok (.iadd, 1) := by decide +kernel
theorem dX3_catches_62 : decode cX3_catches 62 = .ok (.bipush 20, 2) := by decide +kernel
theorem dX3_catches_64 : decode cX3_catches 64 = .ok (.if_icmp .lt 7, 3) := by decide +kernel
theorem dX3_catches_67 : decode cX3_catches 67 = .ok (.iconst 1, 1) := by decide +kernel
theorem dX3_catches_68 : decode cX3_catches 68 = .ok (.goto 4, 3) := by decide +kernel
theorem dX3_catches_71 : decode cX3_catches 71 = .ok (.iconst 0, 1) := by decide +kernel
theorem dX3_catches_72 : decode cX3_catches 72 = .ok (.ireturn, 1) := by decide +kernel
theorem dX3_windAid_0 : decode cX3_windAid 0 = .ok (.iload_n 0, 1) := by decide +kernel
theorem dX3_windAid_1 : decode cX3_windAid 1 = .ok (.iload_n 1, 1) := by decide +kernel
theorem dX3_windAid_2 : decode cX3_windAid 2 = .ok (.if_icmp .ne 6, 3) := by decide +kernel
theorem dX3_windAid_5 : decode cX3_windAid 5 = .ok (.bipush 8, 2) := by decide +kernel
theorem dX3_windAid_7 : decode cX3_windAid 7 = .ok (.ireturn, 1) := by decide +kernel
theorem dX3_windAid_8 : decode cX3_windAid 8 = .ok (.iload_n 0, 1) := by decide +kernel
theorem dX3_windAid_9 : decode cX3_windAid 9 = .ok (.iload_n 1, 1) := by decide +kernel
theorem dX3_windAid_10 : decode cX3_windAid 10 = .ok (.iconst 1, 1) := by decide +kernel
theorem dX3_windAid_11 : decode cX3_windAid 11 = .ok (.ixor, 1) := by decide +kernel
theorem dX3_windAid_12 : decode cX3_windAid 12 = .ok (.if_icmp .ne 8, 3) := by decide +kernel
theorem dX3_windAid_15 : decode cX3_windAid 15 = .ok (.bipush (-8), 2) := by decide +kernel
theorem dX3_windAid_17 : decode cX3_windAid 17 = .ok (.goto 4, 3) := by decide +kernel
theorem dX3_windAid_20 : decode cX3_windAid 20 = .ok (.iconst 0, 1) := by decide +kernel
theorem dX3_windAid_21 : decode cX3_windAid 21 = .ok (.ireturn, 1) := by decide +kernel
theorem dX3_beside_0 : decode cX3_beside 0 = .ok (.iload_n 0, 1) := by decide +kernel
theorem dX3_beside_1 : decode cX3_beside 1 = .ok (.bipush 8, 2) := by decide +kernel
theorem dX3_beside_3 : decode cX3_beside 3 = .ok (.irem, 1) := by decide +kernel
theorem dX3_beside_4 : decode cX3_beside 4 = .ok (.istore_n 2, 1) := by decide +kernel
theorem dX3_beside_5 : decode cX3_beside 5 = .ok (.iload_n 0, 1) := by decide +kernel
theorem dX3_beside_6 : decode cX3_beside 6 = .ok (.bipush 8, 2) := by decide +kernel
theorem dX3_beside_8 : decode cX3_beside 8 = .ok (.idiv, 1) := by decide +kernel
theorem dX3_beside_9 : decode cX3_beside 9 = .ok (.istore_n 3, 1) := by decide +kernel
theorem dX3_beside_10 : decode cX3_beside 10 = .ok (.iload_n 1, 1) := by decide +kernel
theorem dX3_beside_11 : decode cX3_beside 11 = .ok (.tableswitch 66 0 2 #[25, 39, 51], 25) := by decide +kernel
theorem dX3_beside_36 : decode cX3_beside 36 = .ok (.iload_n 2, 1) := by decide +kernel
theorem dX3_beside_37 : decode cX3_beside 37 = .ok (.bipush 7, 2) := by decide +kernel
theorem dX3_beside_39 : decode cX3_beside 39 = .ok (.if_icmp .ge 9, 3) := by decide +kernel
theorem dX3_beside_42 : decode cX3_beside 42 = .ok (.iload_n 0, 1) := by decide +kernel
theorem dX3_beside_43 : decode cX3_beside 43 = .ok (.iconst 1, 1) := by decide +kernel
theorem dX3_beside_44 : decode cX3_beside 44 = .ok (.iadd, 1) := by decide +kernel
theorem dX3_beside_45 : decode cX3_beside 45 = .ok (.goto 4, 3) := by decide +kernel
theorem dX3_beside_48 : decode cX3_beside 48 = .ok (.iconst (-1), 1) := by decide +kernel
theorem dX3_beside_49 : decode cX3_beside 49 = .ok (.ireturn, 1) := by decide +kernel
theorem dX3_beside_50 : decode cX3_beside 50 = .ok (.iload_n 2, 1) := by decide +kernel
theorem dX3_beside_51 : decode cX3_beside 51 = .ok (.ifCond .le 9, 3) := by decide +kernel
theorem dX3_beside_54 : decode cX3_beside 54 = .ok (.iload_n 0, 1) := by decide +kernel
theorem dX3_beside_55 : decode cX3_beside 55 = .ok (.iconst 1, 1) := by decide +kernel
theorem dX3_beside_56 : decode cX3_beside 56 = .ok (.isub, 1) := by decide +kernel
theorem dX3_beside_57 : decode cX3_beside 57 = .ok (.goto 4, 3) := by decide +kernel
theorem dX3_beside_60 : decode cX3_beside 60 = .ok (.iconst (-1), 1) := by decide +kernel
theorem dX3_beside_61 : decode cX3_beside 61 = .ok (.ireturn, 1) := by decide +kernel
theorem dX3_beside_62 : decode cX3_beside 62 = .ok (.iload_n 3, 1) := by decide +kernel
theorem dX3_beside_63 : decode cX3_beside 63 = .ok (.bipush 7, 2) := by decide +kernel
theorem dX3_beside_65 : decode cX3_beside 65 = .ok (.if_icmp .ge 10, 3) := by decide +kernel
theorem dX3_beside_68 : decode cX3_beside 68 = .ok (.iload_n 0, 1) := by decide +kernel
theorem dX3_beside_69 : decode cX3_beside 69 = .ok (.bipush 8, 2) := by decide +kernel
theorem dX3_beside_71 : decode cX3_beside 71 = .ok (.iadd, 1) := by decide +kernel
theorem dX3_beside_72 : decode cX3_beside 72 = .ok (.goto 4, 3) := by decide +kernel
theorem dX3_beside_75 : decode cX3_beside 75 = .ok (.iconst (-1), 1) := by decide +kernel
theorem dX3_beside_76 : decode cX3_beside 76 = .ok (.ireturn, 1) := by decide +kernel
theorem dX3_beside_77 : decode cX3_beside 77 = .ok (.iload_n 3, 1) := by decide +kernel
theorem dX3_beside_78 : decode cX3_beside 78 = .ok (.ifCond .le 10, 3) := by decide +kernel
theorem dX3_beside_81 : decode cX3_beside 81 = .ok (.iload_n 0, 1) := by decide +kernel
theorem dX3_beside_82 : decode cX3_beside 82 = .ok (.bipush 8, 2) := by decide +kernel
theorem dX3_beside_84 : decode cX3_beside 84 = .ok (.isub, 1) := by decide +kernel
theorem dX3_beside_85 : decode cX3_beside 85 = .ok (.goto 4, 3) := by decide +kernel
theorem dX3_beside_88 : decode cX3_beside 88 = .ok (.iconst (-1), 1) := by decide +kernel
theorem dX3_beside_89 : decode cX3_beside 89 = .ok (.ireturn, 1) := by decide +kernel
theorem dX3_clearBurnt_0 : decode cX3_clearBurnt 0 = .ok (.iconst 0, 1) := by decide +kernel
theorem dX3_clearBurnt_1 : decode cX3_clearBurnt 1 = .ok (.istore_n 1, 1) := by decide +kernel
theorem dX3_clearBurnt_2 : decode cX3_clearBurnt 2 = .ok (.iload_n 1, 1) := by decide +kernel
theorem dX3_clearBurnt_3 : decode cX3_clearBurnt 3 = .ok (.bipush 64, 2) := by decide +kernel
theorem dX3_clearBurnt_5 : decode cX3_clearBurnt 5 = .ok (.if_icmp .ge 23, 3) := by decide +kernel
theorem dX3_clearBurnt_8 : decode cX3_clearBurnt 8 = .ok (.aload_n 0, 1) := by decide +kernel
theorem dX3_clearBurnt_9 : decode cX3_clearBurnt 9 = .ok (.getfield 34, 3) := by decide +kernel
theorem dX3_clearBurnt_12 : decode cX3_clearBurnt 12 = .ok (.iload_n 1, 1) := by decide +kernel
theorem dX3_clearBurnt_13 : decode cX3_clearBurnt 13 = .ok (.iaload, 1) := by decide +kernel
theorem dX3_clearBurnt_14 : decode cX3_clearBurnt 14 = .ok (.ifCond .le 8, 3) := by decide +kernel
theorem dX3_clearBurnt_17 : decode cX3_clearBurnt 17 = .ok (.aload_n 0, 1) := by decide +kernel
theorem dX3_clearBurnt_18 : decode cX3_clearBurnt 18 = .ok (.iload_n 1, 1) := by decide +kernel
theorem dX3_clearBurnt_19 : decode cX3_clearBurnt 19 = .ok (.invokevirtual 78, 3) := by decide +kernel
theorem dX3_clearBurnt_22 : decode cX3_clearBurnt 22 = .ok (.iinc 1 1, 3) := by decide +kernel
theorem dX3_clearBurnt_25 : decode cX3_clearBurnt 25 = .ok (.goto (-23), 3) := by decide +kernel
theorem dX3_clearBurnt_28 : decode cX3_clearBurnt 28 = .ok (.return_, 1) := by decide +kernel
theorem dX3_clearCell_0 : decode cX3_clearCell 0 = .ok (.aload_n 0, 1) := by decide +kernel
theorem dX3_clearCell_1 : decode cX3_clearCell 1 = .ok (.getfield 15, 3) := by decide +kernel
theorem dX3_clearCell_4 : decode cX3_clearCell 4 = .ok (.iload_n 1, 1) := by decide +kernel
theorem dX3_clearCell_5 : decode cX3_clearCell 5 = .ok (.iconst 0, 1) := by decide +kernel
theorem dX3_clearCell_6 : decode cX3_clearCell 6 = .ok (.iastore, 1) := by decide +kernel
theorem dX3_clearCell_7 : decode cX3_clearCell 7 = .ok (.iconst 0, 1) := by decide +kernel
theorem dX3_clearCell_8 : decode cX3_clearCell 8 = .ok (.istore_n 2, 1) := by decide +kernel
theorem dX3_clearCell_9 : decode cX3_clearCell 9 = .ok (.iload_n 2, 1) := by decide +kernel
theorem dX3_clearCell_10 : decode cX3_clearCell 10 = .ok (.iconst 4, 1) := by decide +kernel
theorem dX3_clearCell_11 : decode cX3_clearCell 11 = .ok (.if_icmp .ge 55, 3) := by decide +kernel
theorem dX3_clearCell_14 : decode cX3_clearCell 14 = .ok (.iconst 0, 1) := by decide +kernel
theorem dX3_clearCell_15 : decode cX3_clearCell 15 = .ok (.istore_n 3, 1) := by decide +kernel
theorem dX3_clearCell_16 : decode cX3_clearCell 16 = .ok (.iload_n 3, 1) := by decide +kernel
theorem dX3_clearCell_17 : decode cX3_clearCell 17 = .ok (.iconst 4, 1) := by decide +kernel
theorem dX3_clearCell_18 : decode cX3_clearCell 18 = .ok (.if_icmp .ge 42, 3) := by decide +kernel
theorem dX3_clearCell_21 : decode cX3_clearCell 21 = .ok (.iload_n 1, 1) := by decide +kernel
theorem dX3_clearCell_22 : decode cX3_clearCell 22 = .ok (.iload_n 2, 1) := by decide +kernel
theorem dX3_clearCell_23 : decode cX3_clearCell 23 = .ok (.iload_n 3, 1) := by decide +kernel
theorem dX3_clearCell_24 : decode cX3_clearCell 24 = .ok (.invokestatic 53, 3) := by decide +kernel
theorem dX3_clearCell_27 : decode cX3_clearCell 27 = .ok (.istore 4, 2) := by decide +kernel
theorem dX3_clearCell_29 : decode cX3_clearCell 29 = .ok (.aload_n 0, 1) := by decide +kernel
theorem dX3_clearCell_30 : decode cX3_clearCell 30 = .ok (.getfield 18, 3) := by decide +kernel
theorem dX3_clearCell_33 : decode cX3_clearCell 33 = .ok (.iload 4, 2) := by decide +kernel
theorem dX3_clearCell_35 : decode cX3_clearCell 35 = .ok (.iload_n 3, 1) := by decide +kernel
theorem dX3_clearCell_36 : decode cX3_clearCell 36 = .ok (.iconst 2, 1) := by decide +kernel
theorem dX3_clearCell_37 : decode cX3_clearCell 37 = .ok (.if_icmp .ge 7, 3) := by decide +kernel
theorem dX3_clearCell_40 : decode cX3_clearCell 40 = .ok (.iconst 0, 1) := by decide +kernel
theorem dX3_clearCell_41 : decode cX3_clearCell 41 = .ok (.goto 12, 3) := by decide +kernel
theorem dX3_clearCell_44 : decode cX3_clearCell 44 = .ok (.aload_n 0, 1) := by decide +kernel
theorem dX3_clearCell_45 : decode cX3_clearCell 45 = .ok (.getfield 18, 3) := by decide +kernel
theorem dX3_clearCell_48 : decode cX3_clearCell 48 = .ok (.iload 4, 2) := by decide +kernel
theorem dX3_clearCell_50 : decode cX3_clearCell 50 = .ok (.iaload, 1) := by decide +kernel
theorem dX3_clearCell_51 : decode cX3_clearCell 51 = .ok (.iconst 2, 1) := by decide +kernel
theorem dX3_clearCell_52 : decode cX3_clearCell 52 = .ok (.idiv, 1) := by decide +kernel
theorem dX3_clearCell_53 : decode cX3_clearCell 53 = .ok (.iastore, 1) := by decide +kernel
theorem dX3_clearCell_54 : decode cX3_clearCell 54 = .ok (.iinc 3 1, 3) := by decide +kernel
theorem dX3_clearCell_57 : decode cX3_clearCell 57 = .ok (.goto (-41), 3) := by decide +kernel
theorem dX3_clearCell_60 : decode cX3_clearCell 60 = .ok (.iinc 2 1, 3) := by decide +kernel
theorem dX3_clearCell_63 : decode cX3_clearCell 63 = .ok (.goto (-54), 3) := by decide +kernel
theorem dX3_clearCell_66 : decode cX3_clearCell 66 = .ok (.return_, 1) := by decide +kernel
theorem dX4_init_0 : decode cX4_init 0 = .ok (.aload_n 0, 1) := by decide +kernel
theorem dX4_init_1 : decode cX4_init 1 = .ok (.invokespecial 3, 3) := by decide +kernel
theorem dX4_init_4 : decode cX4_init 4 = .ok (.aload_n 0, 1) := by decide +kernel
theorem dX4_init_5 : decode cX4_init 5 = .ok (.iconst 0, 1) := by decide +kernel
theorem dX4_init_6 : decode cX4_init 6 = .ok (.putfield 9, 3) := by decide +kernel
theorem dX4_init_9 : decode cX4_init 9 = .ok (.aload_n 0, 1) := by decide +kernel
theorem dX4_init_10 : decode cX4_init 10 = .ok (.iconst 0, 1) := by decide +kernel
theorem dX4_init_11 : decode cX4_init 11 = .ok (.putfield 15, 3) := by decide +kernel
theorem dX4_init_14 : decode cX4_init 14 = .ok (.aload_n 0, 1) := by decide +kernel
theorem dX4_init_15 : decode cX4_init 15 = .ok (.iconst (-1), 1) := by decide +kernel
theorem dX4_init_16 : decode cX4_init 16 = .ok (.putfield 18, 3) := by decide +kernel
theorem dX4_init_19 : decode cX4_init 19 = .ok (.aload_n 0, 1) := by decide +kernel
theorem dX4_init_20 : decode cX4_init 20 = .ok (.iconst 0, 1) := by decide +kernel
theorem dX4_init_21 : decode cX4_init 21 = .ok (.putfield 21, 3) := by decide +kernel
theorem dX4_init_24 : decode cX4_init 24 = .ok (.aload_n 0, 1) := by decide +kernel
theorem dX4_init_25 : decode cX4_init 25 = .ok (.iconst 4, 1) := by decide +kernel
theorem dX4_init_26 : decode cX4_init 26 = .ok (.newarray .int, 2) := by decide +kernel
theorem dX4_init_28 : decode cX4_init 28 = .ok (.putfield 24, 3) := by decide +kernel
theorem dX4_init_31 : decode cX4_init 31 = .ok (.aload_n 0, 1) := by decide +kernel
theorem dX4_init_32 : decode cX4_init 32 = .ok (.iconst 4, 1) := by decide +kernel
theorem dX4_init_33 : decode cX4_init 33 = .ok (.newarray .int, 2) := by decide +kernel
theorem dX4_init_35 : decode cX4_init 35 = .ok (.putfield 28, 3) := by decide +kernel
theorem dX4_init_38 : decode cX4_init 38 = .ok (.aload_n 0, 1) := by decide +kernel
theorem dX4_init_39 : decode cX4_init 39 = .ok (.iconst 4, 1) := by decide +kernel
theorem dX4_init_40 : decode cX4_init 40 = .ok (.newarray .int, 2) := by decide +kernel
theorem dX4_init_42 : decode cX4_init 42 = .ok (.putfield 31, 3) := by decide +kernel
theorem dX4_init_45 : decode cX4_init 45 = .ok (.aload_n 0, 1) := by decide +kernel
theorem dX4_init_46 : decode cX4_init 46 = .ok (.iconst 5, 1) := by decide +kernel
theorem dX4_init_47 : decode cX4_init 47 = .ok (.newarray .int, 2) := by decide +kernel
theorem dX4_init_49 : decode cX4_init 49 = .ok (.putfield 34, 3) := by decide +kernel
theorem dX4_init_52 : decode cX4_init 52 = .ok (.aload_n 0, 1) := by decide +kernel
theorem dX4_init_53 : decode cX4_init 53 = .ok (.iconst 0, 1) := by decide +kernel
theorem dX4_init_54 : decode cX4_init 54 = .ok (.putfield 37, 3) := by decide +kernel
theorem dX4_init_57 : decode cX4_init 57 = .ok (.aload_n 0, 1) := by decide +kernel
theorem dX4_init_58 : decode cX4_init 58 = .ok (.iconst 0, 1) := by decide +kernel
theorem dX4_init_59 : decode cX4_init 59 = .ok (.putfield 40, 3) := by decide +kernel
theorem dX4_init_62 : decode cX4_init 62 = .ok (.aload_n 0, 1) := by decide +kernel
theorem dX4_init_63 : decode cX4_init 63 = .ok (.iload_n 2, 1) := by decide +kernel
theorem dX4_init_64 : decode cX4_init 64 = .ok (.putfield 43, 3) := by decide +kernel
theorem dX4_init_67 : decode cX4_init 67 = .ok (.aload_n 0, 1) := by decide +kernel
theorem dX4_init_68 : decode cX4_init 68 = .ok (.iload_n 3, 1) := by decide +kernel
theorem dX4_init_69 : decode cX4_init 69 = .ok (.putfield 46, 3) := by decide +kernel
theorem dX4_init_72 : decode cX4_init 72 = .ok (.aload_n 0, 1) := by decide +kernel
theorem dX4_init_73 : decode cX4_init 73 = .ok (.iload 4, 2) := by decide +kernel
theorem dX4_init_75 : decode cX4_init 75 = .ok (.putfield 49, 3) := by decide +kernel
theorem dX4_init_78 : decode cX4_init 78 = .ok (.aload_n 0, 1) := by decide +kernel
theorem dX4_init_79 : decode cX4_init 79 = .ok (.iload 5, 2) := by decide +kernel
theorem dX4_init_81 : decode cX4_init 81 = .ok (.putfield 52, 3) := by decide +kernel
theorem dX4_init_84 : decode cX4_init 84 = .ok (.aload_n 0, 1) := by decide +kernel
theorem dX4_init_85 : decode cX4_init 85 = .ok (.iload 6, 2) := by decide +kernel
theorem dX4_init_87 : decode cX4_init 87 = .ok (.putfield 55, 3) := by decide +kernel
theorem dX4_init_90 : decode cX4_init 90 = .ok (.iload_n 1, 1) := by decide +kernel
theorem dX4_init_91 : decode cX4_init 91 = .ok (.bipush 7, 2) := by decide +kernel
theorem dX4_init_93 : decode cX4_init 93 = .ok (.imul, 1) := by decide +kernel
theorem dX4_init_94 : decode cX4_init 94 = .ok (.iload_n 2, 1) := by decide +kernel
theorem dX4_init_95 : decode cX4_init 95 = .ok (.iadd, 1) := by decide +kernel
theorem dX4_init_96 : decode cX4_init 96 = .ok (.iload 5, 2) := by decide +kernel
theorem dX4_init_98 : decode cX4_init 98 = .ok (.iconst 3, 1) := by decide +kernel
theorem dX4_init_99 : decode cX4_init 99 = .ok (.iadd, 1) := by decide +kernel
theorem dX4_init_100 : decode cX4_init 100 = .ok (.irem, 1) := by decide +kernel
theorem dX4_init_101 : decode cX4_init 101 = .ok (.istore 7, 2) := by decide +kernel
theorem dX4_init_103 : decode cX4_init 103 = .ok (.aload_n 0, 1) := by decide +kernel
theorem dX4_init_104 : decode cX4_init 104 = .ok (.iload 7, 2) := by decide +kernel
theorem dX4_init_106 : decode cX4_init 106 = .ok (.iload 5, 2) := by decide +kernel
theorem dX4_init_108 : decode cX4_init 108 = .ok (.if_icmp .ge 8, 3) := by decide +kernel
theorem dX4_init_111 : decode cX4_init 111 = .ok (.iload 7, 2) := by decide +kernel
theorem dX4_init_113 : decode cX4_init 113 = .ok (.goto 4, 3) := by decide +kernel
theorem dX4_init_116 : decode cX4_init 116 = .ok (.iconst (-1), 1) := by decide +kernel
theorem dX4_init_117 : decode cX4_init 117 = .ok (.putfield 58, 3) := by decide +kernel
theorem dX4_init_120 : decode cX4_init 120 = .ok (.return_, 1) := by decide +kernel
theorem dX4_comeOn_0 : decode cX4_comeOn 0 = .ok (.aload_n 0, 1) := by decide +kernel
theorem dX4_comeOn_1 : decode cX4_comeOn 1 = .ok (.iload_n 1, 1) := by decide +kernel
theorem dX4_comeOn_2 : decode cX4_comeOn 2 = .ok (.putfield 9, 3) := by decide +kernel
theorem dX4_comeOn_5 : decode cX4_comeOn 5 = .ok (.aload_n 0, 1) := by decide +kernel
theorem dX4_comeOn_6 : decode cX4_comeOn 6 = .ok (.iload_n 1, 1) := by decide +kernel
theorem dX4_comeOn_7 : decode cX4_comeOn 7 = .ok (.putfield 15, 3) := by decide +kernel
theorem dX4_comeOn_10 : decode cX4_comeOn 10 = .ok (.aload_n 0, 1) := by decide +kernel
theorem dX4_comeOn_11 : decode cX4_comeOn 11 = .ok (.getfield 34, 3) := by decide +kernel
theorem dX4_comeOn_14 : decode cX4_comeOn 14 = .ok (.iconst 0, 1) := by decide +kernel
theorem dX4_comeOn_15 : decode cX4_comeOn 15 = .ok (.aload_n 0, 1) := by decide +kernel
theorem dX4_comeOn_16 : decode cX4_comeOn 16 = .ok (.getfield 43, 3) := by decide +kernel
theorem dX4_comeOn_19 : decode cX4_comeOn 19 = .ok (.iastore, 1) := by decide +kernel
theorem dX4_comeOn_20 : decode cX4_comeOn 20 = .ok (.aload_n 0, 1) := by decide +kernel
theorem dX4_comeOn_21 : decode cX4_comeOn 21 = .ok (.getfield 34, 3) := by decide +kernel
theorem dX4_comeOn_24 : decode cX4_comeOn 24 = .ok (.iconst 1, 1) := by decide +kernel
theorem dX4_comeOn_25 : decode cX4_comeOn 25 = .ok (.aload_n 0, 1) := by decide +kernel
theorem dX4_comeOn_26 : decode cX4_comeOn 26 = .ok (.getfield 46, 3) := by decide +kernel
theorem dX4_comeOn_29 : decode cX4_comeOn 29 = .ok (.iastore, 1) := by decide +kernel
theorem dX4_comeOn_30 : decode cX4_comeOn 30 = .ok (.aload_n 0, 1) := by decide +kernel
theorem dX4_comeOn_31 : decode cX4_comeOn 31 = .ok (.getfield 34, 3) := by decide +kernel
theorem dX4_comeOn_34 : decode cX4_comeOn 34 = .ok (.iconst 2, 1) := by decide +kernel
theorem dX4_comeOn_35 : decode cX4_comeOn 35 = .ok (.aload_n 0, 1) := by decide +kernel
theorem dX4_comeOn_36 : decode cX4_comeOn 36 = .ok (.getfield 49, 3) := by decide +kernel
theorem dX4_comeOn_39 : decode cX4_comeOn 39 = .ok (.iastore, 1) := by decide +kernel
theorem dX4_comeOn_40 : decode cX4_comeOn 40 = .ok (.aload_n 0, 1) := by decide +kernel
theorem dX4_comeOn_41 : decode cX4_comeOn 41 = .ok (.getfield 34, 3) := by decide +kernel
theorem dX4_comeOn_44 : decode cX4_comeOn 44 = .ok (.iconst 3, 1) := by decide +kernel
theorem dX4_comeOn_45 : decode cX4_comeOn 45 = .ok (.aload_n 0, 1) := by decide +kernel
theorem dX4_comeOn_46 : decode cX4_comeOn 46 = .ok (.getfield 52, 3) := by decide +kernel
theorem dX4_comeOn_49 : decode cX4_comeOn 49 = .ok (.iastore, 1) := by decide +kernel
theorem dX4_comeOn_50 : decode cX4_comeOn 50 = .ok (.aload_n 0, 1) := by decide +kernel
theorem dX4_comeOn_51 : decode cX4_comeOn 51 = .ok (.getfield 34, 3) := by decide +kernel
theorem dX4_comeOn_54 : decode cX4_comeOn 54 = .ok (.iconst 4, 1) := by decide +kernel
theorem dX4_comeOn_55 : decode cX4_comeOn 55 = .ok (.iload_n 1, 1) := by decide +kernel
theorem dX4_comeOn_56 : decode cX4_comeOn 56 = .ok (.iastore, 1) := by decide +kernel
theorem dX4_comeOn_57 : decode cX4_comeOn 57 = .ok (.aload_n 0, 1) := by decide +kernel
theorem dX4_comeOn_58 : decode cX4_comeOn 58 = .ok (.aload_n 0, 1) := by decide +kernel
theorem dX4_comeOn_59 : decode cX4_comeOn 59 = .ok (.iconst 0, 1) := by decide +kernel
theorem dX4_comeOn_60 : decode cX4_comeOn 60 = .ok (.invokevirtual 61, 3) := by decide +kernel
theorem dX4_comeOn_63 : decode cX4_comeOn 63 = .ok (.putfield 37, 3) := by decide +kernel
theorem dX4_comeOn_66 : decode cX4_comeOn 66 = .ok (.aload_n 0, 1) := by decide +kernel
theorem dX4_comeOn_67 : decode cX4_comeOn 67 = .ok (.aload_n 0, 1) := by decide +kernel
theorem dX4_comeOn_68 : decode cX4_comeOn 68 = .ok (.iconst 1, 1) := by decide +kernel
theorem dX4_comeOn_69 : decode cX4_comeOn 69 = .ok (.invokevirtual 61, 3) := by decide +kernel
theorem dX4_comeOn_72 : decode cX4_comeOn 72 = .ok (.putfield 40, 3) := by decide +kernel
theorem dX4_comeOn_75 : decode cX4_comeOn 75 = .ok (.return_, 1) := by decide +kernel
theorem dX4_volume_0 : decode cX4_volume 0 = .ok (.aload_n 0, 1) := by decide +kernel
theorem dX4_volume_1 : decode cX4_volume 1 = .ok (.getfield 49, 3) := by decide +kernel
theorem dX4_volume_4 : decode cX4_volume 4 = .ok (.aload_n 0, 1) := by decide +kernel
theorem dX4_volume_5 : decode cX4_volume 5 = .ok (.getfield 52, 3) := by decide +kernel
theorem dX4_volume_8 : decode cX4_volume 8 = .ok (.imul, 1) := by decide +kernel
theorem dX4_volume_9 : decode cX4_volume 9 = .ok (.bipush 8, 2) := by decide +kernel
theorem dX4_volume_11 : decode cX4_volume 11 = .ok (.idiv, 1) := by decide +kernel
theorem dX4_volume_12 : decode cX4_volume 12 = .ok (.iconst 1, 1) := by decide +kernel
theorem dX4_volume_13 : decode cX4_volume 13 = .ok (.iadd, 1) := by decide +kernel
theorem dX4_volume_14 : decode cX4_volume 14 = .ok (.ireturn, 1) := by decide +kernel
theorem dX4_scaleBy_0 : decode cX4_scaleBy 0 = .ok (.iload_n 1, 1) := by decide +kernel
theorem dX4_scaleBy_1 : decode cX4_scaleBy 1 = .ok (.iconst 1, 1) := by decide +kernel
theorem dX4_scaleBy_2 : decode cX4_scaleBy 2 = .ok (.if_icmp .ne 21, 3) := by decide +kernel
theorem dX4_scaleBy_5 : decode cX4_scaleBy 5 = .ok (.aload_n 0, 1) := by decide +kernel
theorem dX4_scaleBy_6 : decode cX4_scaleBy 6 = .ok (.getfield 52, 3) := by decide +kernel
theorem dX4_scaleBy_9 : decode cX4_scaleBy 9 = .ok (.aload_n 0, 1) := by decide +kernel
theorem dX4_scaleBy_10 : decode cX4_scaleBy 10 = .ok (.getfield 52, 3) := by decide +kernel
theorem dX4_scaleBy_13 : decode cX4_scaleBy 13 = .ok (.imul, 1) := by decide +kernel
theorem dX4_scaleBy_14 : decode cX4_scaleBy 14 = .ok (.aload_n 0, 1) := by decide +kernel
theorem dX4_scaleBy_15 : decode cX4_scaleBy 15 = .ok (.getfield 49, 3) := by decide +kernel
theorem dX4_scaleBy_18 : decode cX4_scaleBy 18 = .ok (.imul, 1) := by decide +kernel
theorem dX4_scaleBy_19 : decode cX4_scaleBy 19 = .ok (.bipush 24, 2) := by decide +kernel
theorem dX4_scaleBy_21 : decode cX4_scaleBy 21 = .ok (.idiv, 1) := by decide +kernel
theorem dX4_scaleBy_22 : decode cX4_scaleBy 22 = .ok (.ireturn, 1) := by decide +kernel
theorem dX4_scaleBy_23 : decode cX4_scaleBy 23 = .ok (.iconst 0, 1) := by decide +kernel
theorem dX4_scaleBy_24 : decode cX4_scaleBy 24 = .ok (.aload_n 0, 1) := by decide +kernel
theorem dX4_scaleBy_25 : decode cX4_scaleBy 25 = .ok (.getfield 52, 3) := by decide +kernel
theorem dX4_scaleBy_28 : decode cX4_scaleBy 28 = .ok (.iconst 4, 1) := by decide +kernel
theorem dX4_scaleBy_29 : decode cX4_scaleBy 29 = .ok (.isub, 1) := by decide +kernel
theorem dX4_scaleBy_30 : decode cX4_scaleBy 30 = .ok (.invokestatic 65, 3) := by decide +kernel
theorem dX4_scaleBy_33 : decode cX4_scaleBy 33 = .ok (.istore_n 2, 1) := by decide +kernel
theorem dX4_scaleBy_34 : decode cX4_scaleBy 34 = .ok (.iload_n 2, 1) := by decide +kernel
theorem dX4_scaleBy_35 : decode cX4_scaleBy 35 = .ok (.iload_n 2, 1) := by decide +kernel
theorem dX4_scaleBy_36 : decode cX4_scaleBy 36 = .ok (.imul, 1) := by decide +kernel
theorem dX4_scaleBy_37 : decode cX4_scaleBy 37 = .ok (.aload_n 0, 1) := by decide +kernel
theorem dX4_scaleBy_38 : decode cX4_scaleBy 38 = .ok (.getfield 49, 3) := by decide +kernel
theorem dX4_scaleBy_41 : decode cX4_scaleBy 41 = .ok (.imul, 1) := by decide +kernel
theorem dX4_scaleBy_42 : decode cX4_scaleBy 42 = .ok (.bipush 16, 2) := by decide +kernel
theorem dX4_scaleBy_44 : decode cX4_scaleBy 44 = .ok (.idiv, 1) := by decide +kernel
theorem dX4_scaleBy_45 : decode cX4_scaleBy 45 = .ok (.ireturn, 1) := by decide +kernel
theorem dX4_liesIn_0 : decode cX4_liesIn 0 = .ok (.aload_n 0, 1) := by decide +kernel
theorem dX4_liesIn_1 : decode cX4_liesIn 1 = .ok (.getfield 18, 3) := by decide +kernel
theorem dX4_liesIn_4 : decode cX4_liesIn 4 = .ok (.ifCond .ne 15, 3) := by decide +kernel
theorem dX4_liesIn_7 : decode cX4_liesIn 7 = .ok (.aload_n 0, 1) := by decide +kernel
theorem dX4_liesIn_8 : decode cX4_liesIn 8 = .ok (.getfield 43, 3) := by decide +kernel
theorem dX4_liesIn_11 : decode cX4_liesIn 11 = .ok (.iload_n 1, 1) := by decide +kernel
theorem dX4_liesIn_12 : decode cX4_liesIn 12 = .ok (.if_icmp .ne 7, 3) := by decide +kernel
theorem dX4_liesIn_15 : decode cX4_liesIn 15 = .ok (.iconst 1, 1) := by decide +kernel
theorem dX4_liesIn_16 : decode cX4_liesIn 16 = .ok (.goto 4, 3) := by decide +kernel
theorem dX4_liesIn_19 : decode cX4_liesIn 19 = .ok (.iconst 0, 1) := by decide +kernel
theorem dX4_liesIn_20 : decode cX4_liesIn 20 = .ok (.ireturn, 1) := by decide +kernel
theorem dX4_waitsIn_0 : decode cX4_waitsIn 0 = .ok (.aload_n 0, 1) := by decide +kernel
theorem dX4_waitsIn_1 : decode cX4_waitsIn 1 = .ok (.iload_n 1, 1) := by decide +kernel
theorem dX4_waitsIn_2 : decode cX4_waitsIn 2 = .ok (.invokevirtual 71, 3) := by decide +kernel
theorem dX4_waitsIn_5 : decode cX4_waitsIn 5 = .ok (.ifCond .eq 15, 3) := by decide +kernel
theorem dX4_waitsIn_8 : decode cX4_waitsIn 8 = .ok (.aload_n 0, 1) := by decide +kernel
theorem dX4_waitsIn_9 : decode cX4_waitsIn 9 = .ok (.getfield 15, 3) := by decide +kernel
theorem dX4_waitsIn_12 : decode cX4_waitsIn 12 = .ok (.iload_n 2, 1) := by decide +kernel
theorem dX4_waitsIn_13 : decode cX4_waitsIn 13 = .ok (.if_icmp .ge 7, 3) := by decide +kernel
theorem dX4_waitsIn_16 : decode cX4_waitsIn 16 = .ok (.iconst 1, 1) := by decide +kernel
theorem dX4_waitsIn_17 : decode cX4_waitsIn 17 = .ok (.goto 4, 3) := by decide +kernel
theorem dX4_waitsIn_20 : decode cX4_waitsIn 20 = .ok (.iconst 0, 1) := by decide +kernel
theorem dX4_waitsIn_21 : decode cX4_waitsIn 21 = .ok (.ireturn, 1) := by decide +kernel
theorem dX4_change_0 : decode cX4_change 0 = .ok (.aload_n 0, 1) := by decide +kernel
theorem dX4_change_1 : decode cX4_change 1 = .ok (.iload_n 1, 1) := by decide +kernel
theorem dX4_change_2 : decode cX4_change 2 = .ok (.putfield 18, 3) := by decide +kernel
theorem dX4_change_5 : decode cX4_change 5 = .ok (.aload_n 0, 1) := by decide +kernel
theorem dX4_change_6 : decode cX4_change 6 = .ok (.getfield 21, 3) := by decide +kernel
theorem dX4_change_9 : decode cX4_change 9 = .ok (.iconst 4, 1) := by decide +kernel
theorem dX4_change_10 : decode cX4_change 10 = .ok (.if_icmp .ge 43, 3) := by decide +kernel
theorem dX4_change_13 : decode cX4_change 13 = .ok (.aload_n 0, 1) := by decide +kernel
theorem dX4_change_14 : decode cX4_change 14 = .ok (.getfield 24, 3) := by decide +kernel
theorem dX4_change_17 : decode cX4_change 17 = .ok (.aload_n 0, 1) := by decide +kernel
theorem dX4_change_18 : decode cX4_change 18 = .ok (.getfield 21, 3) := by decide +kernel
theorem dX4_change_21 : decode cX4_change 21 = .ok (.iload_n 1, 1) := by decide +kernel
theorem dX4_change_22 : decode cX4_change 22 = .ok (.iastore, 1) := by decide +kernel
theorem dX4_change_23 : decode cX4_change 23 = .ok (.aload_n 0, 1) := by decide +kernel
theorem dX4_change_24 : decode cX4_change 24 = .ok (.getfield 28, 3) := by decide +kernel
theorem dX4_change_27 : decode cX4_change 27 = .ok (.aload_n 0, 1) := by decide +kernel
theorem dX4_change_28 : decode cX4_change 28 = .ok (.getfield 21, 3) := by decide +kernel
theorem dX4_change_31 : decode cX4_change 31 = .ok (.iload_n 2, 1) := by decide +kernel
theorem dX4_change_32 : decode cX4_change 32 = .ok (.iastore, 1) := by decide +kernel
theorem dX4_change_33 : decode cX4_change 33 = .ok (.aload_n 0, 1) := by decide +kernel
theorem dX4_change_34 : decode cX4_change 34 = .ok (.getfield 31, 3) := by decide +kernel
theorem dX4_change_37 : decode cX4_change 37 = .ok (.aload_n 0, 1) := by decide +kernel
theorem dX4_change_38 : decode cX4_change 38 = .ok (.getfield 21, 3) := by decide +kernel
theorem dX4_change_41 : decode cX4_change 41 = .ok (.iload_n 3, 1) := by decide +kernel
theorem dX4_change_42 : decode cX4_change 42 = .ok (.iastore, 1) := by decide +kernel
theorem dX4_change_43 : decode cX4_change 43 = .ok (.aload_n 0, 1) := by decide +kernel
theorem dX4_change_44 : decode cX4_change 44 = .ok (.dup, 1) := by decide +kernel
theorem dX4_change_45 : decode cX4_change 45 = .ok (.getfield 21, 3) := by decide +kernel
theorem dX4_change_48 : decode cX4_change 48 = .ok (.iconst 1, 1) := by decide +kernel
theorem dX4_change_49 : decode cX4_change 49 = .ok (.iadd, 1) := by decide +kernel
theorem dX4_change_50 : decode cX4_change 50 = .ok (.putfield 21, 3) := by decide +kernel
theorem dX4_change_53 : decode cX4_change 53 = .ok (.return_, 1) := by decide +kernel
theorem dX4_knownAs_0 : decode cX4_knownAs 0 = .ok (.aload_n 0, 1) := by decide +kernel
theorem dX4_knownAs_1 : decode cX4_knownAs 1 = .ok (.getfield 21, 3) := by decide +kernel
theorem dX4_knownAs_4 : decode cX4_knownAs 4 = .ok (.iconst 1, 1) := by decide +kernel
theorem dX4_knownAs_5 : decode cX4_knownAs 5 = .ok (.isub, 1) := by decide +kernel
theorem dX4_knownAs_6 : decode cX4_knownAs 6 = .ok (.istore_n 3, 1) := by decide +kernel
theorem dX4_knownAs_7 : decode cX4_knownAs 7 = .ok (.iload_n 3, 1) := by decide +kernel
theorem dX4_knownAs_8 : decode cX4_knownAs 8 = .ok (.ifCond .lt 36, 3) := by decide +kernel
theorem dX4_knownAs_11 : decode cX4_knownAs 11 = .ok (.aload_n 0, 1) := by decide +kernel
theorem dX4_knownAs_12 : decode cX4_knownAs 12 = .ok (.getfield 28, 3) := by decide +kernel
theorem dX4_knownAs_15 : decode cX4_knownAs 15 = .ok (.iload_n 3, 1) := by decide +kernel
theorem dX4_knownAs_16 : decode cX4_knownAs 16 = .ok (.iaload, 1) := by decide +kernel
theorem dX4_knownAs_17 : decode cX4_knownAs 17 = .ok (.iload_n 1, 1) := by decide +kernel
theorem dX4_knownAs_18 : decode cX4_knownAs 18 = .ok (.if_icmp .gt 20, 3) := by decide +kernel
theorem dX4_knownAs_21 : decode cX4_knownAs 21 = .ok (.aload_n 0, 1) := by decide +kernel
theorem dX4_knownAs_22 : decode cX4_knownAs 22 = .ok (.getfield 31, 3) := by decide +kernel
theorem dX4_knownAs_25 : decode cX4_knownAs 25 = .ok (.iload_n 3, 1) := by decide +kernel
theorem dX4_knownAs_26 : decode cX4_knownAs 26 = .ok (.iaload, 1) := by decide +kernel
theorem dX4_knownAs_27 : decode cX4_knownAs 27 = .ok (.iload_n 2, 1) := by decide +kernel
theorem dX4_knownAs_28 : decode cX4_knownAs 28 = .ok (.if_icmp .gt 10, 3) := by decide +kernel
theorem dX4_knownAs_31 : decode cX4_knownAs 31 = .ok (.aload_n 0, 1) := by decide +kernel
theorem dX4_knownAs_32 : decode cX4_knownAs 32 = .ok (.getfield 24, 3) := by decide +kernel
theorem dX4_knownAs_35 : decode cX4_knownAs 35 = .ok (.iload_n 3, 1) := by decide +kernel
theorem dX4_knownAs_36 : decode cX4_knownAs 36 = .ok (.iaload, 1) := by decide +kernel
theorem dX4_knownAs_37 : decode cX4_knownAs 37 = .ok (.ireturn, 1) := by decide +kernel
theorem dX4_knownAs_38 : decode cX4_knownAs 38 = .ok (.iinc 3 (-1), 3) := by decide +kernel
theorem dX4_knownAs_41 : decode cX4_knownAs 41 = .ok (.goto (-34), 3) := by decide +kernel
theorem dX4_knownAs_44 : decode cX4_knownAs 44 = .ok (.iconst (-1), 1) := by decide +kernel
theorem dX4_knownAs_45 : decode cX4_knownAs 45 = .ok (.ireturn, 1) := by decide +kernel
theorem dX4_told_0 : decode cX4_told 0 = .ok (.iload_n 1, 1) := by decide +kernel
theorem dX4_told_1 : decode cX4_told 1 = .ok (.tableswitch 96 0 8 #[51, 56, 61, 66, 71, 76, 81, 86, 91], 51) := by decide +kernel
theorem dX4_told_52 : decode cX4_told 52 = .ok (.aload_n 0, 1) := by decide +kernel
theorem dX4_told_53 : decode cX4_told 53 = .ok (.getfield 43, 3) := by decide +kernel
theorem dX4_told_56 : decode cX4_told 56 = .ok (.ireturn, 1) := by decide +kernel
theorem dX4_told_57 : decode cX4_told 57 = .ok (.aload_n 0, 1) := by decide +kernel
theorem dX4_told_58 : decode cX4_told 58 = .ok (.getfield 46, 3) := by decide +kernel
theorem dX4_told_61 : decode cX4_told 61 = .ok (.ireturn, 1) := by decide +kernel
theorem dX4_told_62 : decode cX4_told 62 = .ok (.aload_n 0, 1) := by decide +kernel
theorem dX4_told_63 : decode cX4_told 63 = .ok (.getfield 49, 3) := by decide +kernel
theorem dX4_told_66 : decode cX4_told 66 = .ok (.ireturn, 1) := by decide +kernel
theorem dX4_told_67 : decode cX4_told 67 = .ok (.aload_n 0, 1) := by decide +kernel
theorem dX4_told_68 : decode cX4_told 68 = .ok (.getfield 52, 3) := by decide +kernel
theorem dX4_told_71 : decode cX4_told 71 = .ok (.ireturn, 1) := by decide +kernel
theorem dX4_told_72 : decode cX4_told 72 = .ok (.aload_n 0, 1) := by decide +kernel
theorem dX4_told_73 : decode cX4_told 73 = .ok (.getfield 9, 3) := by decide +kernel
theorem dX4_told_76 : decode cX4_told 76 = .ok (.ireturn, 1) := by decide +kernel
theorem dX4_told_77 : decode cX4_told 77 = .ok (.aload_n 0, 1) := by decide +kernel
theorem dX4_told_78 : decode cX4_told 78 = .ok (.getfield 55, 3) := by decide +kernel
theorem dX4_told_81 : decode cX4_told 81 = .ok (.ireturn, 1) := by decide +kernel
theorem dX4_told_82 : decode cX4_told 82 = .ok (.aload_n 0, 1) := by decide +kernel
theorem dX4_told_83 : decode cX4_told 83 = .ok (.getfield 18, 3) := by decide +kernel
theorem dX4_told_86 : decode cX4_told 86 = .ok (.ireturn, 1) := by decide +kernel
theorem dX4_told_87 : decode cX4_told 87 = .ok (.aload_n 0, 1) := by decide +kernel
theorem dX4_told_88 : decode cX4_told 88 = .ok (.invokevirtual 75, 3) := by decide +kernel
theorem dX4_told_91 : decode cX4_told 91 = .ok (.ireturn, 1) := by decide +kernel
theorem dX4_told_92 : decode cX4_told 92 = .ok (.aload_n 0, 1) := by decide +kernel
theorem dX4_told_93 : decode cX4_told 93 = .ok (.getfield 58, 3) := by decide +kernel
theorem dX4_told_96 : decode cX4_told 96 = .ok (.ireturn, 1) := by decide +kernel
theorem dX4_told_97 : decode cX4_told 97 = .ok (.iconst (-1), 1) := by decide +kernel
theorem dX4_told_98 : decode cX4_told 98 = .ok (.ireturn, 1) := by decide +kernel
theorem dX4_sumNow_0 : decode cX4_sumNow 0 = .ok (.iconst 0, 1) := by decide +kernel
theorem dX4_sumNow_1 : decode cX4_sumNow 1 = .ok (.istore_n 2, 1) := by decide +kernel
theorem dX4_sumNow_2 : decode cX4_sumNow 2 = .ok (.iconst 0, 1) := by decide +kernel
theorem dX4_sumNow_3 : decode cX4_sumNow 3 = .ok (.istore_n 3, 1) := by decide +kernel
theorem dX4_sumNow_4 : decode cX4_sumNow 4 = .ok (.iload_n 3, 1) := by decide +kernel
theorem dX4_sumNow_5 : decode cX4_sumNow 5 = .ok (.iconst 5, 1) := by decide +kernel
theorem dX4_sumNow_6 : decode cX4_sumNow 6 = .ok (.if_icmp .ge 35, 3) := by decide +kernel
theorem dX4_sumNow_9 : decode cX4_sumNow 9 = .ok (.iload_n 2, 1) := by decide +kernel
theorem dX4_sumNow_10 : decode cX4_sumNow 10 = .ok (.iload_n 1, 1) := by decide +kernel
theorem dX4_sumNow_11 : decode cX4_sumNow 11 = .ok (.ifCond .eq 16, 3) := by decide +kernel
theorem dX4_sumNow_14 : decode cX4_sumNow 14 = .ok (.aload_n 0, 1) := by decide +kernel
theorem dX4_sumNow_15 : decode cX4_sumNow 15 = .ok (.getfield 34, 3) := by decide +kernel
theorem dX4_sumNow_18 : decode cX4_sumNow 18 = .ok (.iload_n 3, 1) := by decide +kernel
theorem dX4_sumNow_19 : decode cX4_sumNow 19 = .ok (.iaload, 1) := by decide +kernel
theorem dX4_sumNow_20 : decode cX4_sumNow 20 = .ok (.iload_n 3, 1) := by decide +kernel
theorem dX4_sumNow_21 : decode cX4_sumNow 21 = .ok (.iconst 1, 1) := by decide +kernel
theorem dX4_sumNow_22 : decode cX4_sumNow 22 = .ok (.iadd, 1) := by decide +kernel
theorem dX4_sumNow_23 : decode cX4_sumNow 23 = .ok (.imul, 1) := by decide +kernel
theorem dX4_sumNow_24 : decode cX4_sumNow 24 = .ok (.goto 9, 3) := by decide +kernel
theorem dX4_sumNow_27 : decode cX4_sumNow 27 = .ok (.aload_n 0, 1) := by decide +kernel
theorem dX4_sumNow_28 : decode cX4_sumNow 28 = .ok (.getfield 34, 3) := by decide +kernel
theorem dX4_sumNow_31 : decode cX4_sumNow 31 = .ok (.iload_n 3, 1) := by decide +kernel
theorem dX4_sumNow_32 : decode cX4_sumNow 32 = .ok (.iaload, 1) := by decide +kernel
theorem dX4_sumNow_33 : decode cX4_sumNow 33 = .ok (.iadd, 1) := by decide +kernel
theorem dX4_sumNow_34 : decode cX4_sumNow 34 = .ok (.istore_n 2, 1) := by decide +kernel
theorem dX4_sumNow_35 : decode cX4_sumNow 35 = .ok (.iinc 3 1, 3) := by decide +kernel
theorem dX4_sumNow_38 : decode cX4_sumNow 38 = .ok (.goto (-34), 3) := by decide +kernel
theorem dX4_sumNow_41 : decode cX4_sumNow 41 = .ok (.iload_n 2, 1) := by decide +kernel
theorem dX4_sumNow_42 : decode cX4_sumNow 42 = .ok (.ldc 79, 2) := by decide +kernel
theorem dX4_sumNow_44 : decode cX4_sumNow 44 = .ok (.irem, 1) := by decide +kernel
theorem dX4_sumNow_45 : decode cX4_sumNow 45 = .ok (.ireturn, 1) := by decide +kernel
theorem dX4_faultyPlace_0 : decode cX4_faultyPlace 0 = .ok (.aload_n 0, 1) := by decide +kernel
theorem dX4_faultyPlace_1 : decode cX4_faultyPlace 1 = .ok (.invokevirtual 80, 3) := by decide +kernel
theorem dX4_faultyPlace_4 : decode cX4_faultyPlace 4 = .ok (.istore_n 1, 1) := by decide +kernel
theorem dX4_faultyPlace_5 : decode cX4_faultyPlace 5 = .ok (.aload_n 0, 1) := by decide +kernel
theorem dX4_faultyPlace_6 : decode cX4_faultyPlace 6 = .ok (.getfield 40, 3) := by decide +kernel
theorem dX4_faultyPlace_9 : decode cX4_faultyPlace 9 = .ok (.aload_n 0, 1) := by decide +kernel
theorem dX4_faultyPlace_10 : decode cX4_faultyPlace 10 = .ok (.iconst 1, 1) := by decide +kernel
theorem dX4_faultyPlace_11 : decode cX4_faultyPlace 11 = .ok (.invokevirtual 61, 3) := by decide +kernel
theorem dX4_faultyPlace_14 : decode cX4_faultyPlace 14 = .ok (.isub, 1) := by decide +kernel
theorem dX4_faultyPlace_15 : decode cX4_faultyPlace 15 = .ok (.ldc 79, 2) := by decide +kernel
theorem dX4_faultyPlace_17 : decode cX4_faultyPlace 17 = .ok (.invokestatic 83, 3) := by decide +kernel
theorem dX4_faultyPlace_20 : decode cX4_faultyPlace 20 = .ok (.istore_n 2, 1) := by decide +kernel
theorem dX4_faultyPlace_21 : decode cX4_faultyPlace 21 = .ok (.iload_n 1, 1) := by decide +kernel
theorem dX4_faultyPlace_22 : decode cX4_faultyPlace 22 = .ok (.ifCond .ne 14, 3) := by decide +kernel
theorem dX4_faultyPlace_25 : decode cX4_faultyPlace 25 = .ok (.iload_n 2, 1) := by decide +kernel
theorem dX4_faultyPlace_26 : decode cX4_faultyPlace 26 = .ok (.ifCond .ne 7, 3) := by decide +kernel
theorem dX4_faultyPlace_29 : decode cX4_faultyPlace 29 = .ok (.iconst (-1), 1) := by decide +kernel
theorem dX4_faultyPlace_30 : decode cX4_faultyPlace 30 = .ok (.goto 5, 3) := by decide +kernel
theorem dX4_faultyPlace_33 : decode cX4_faultyPlace 33 = .ok (.bipush (-2), 2) := by decide +kernel
theorem dX4_faultyPlace_35 : decode cX4_faultyPlace 35 = .ok (.ireturn, 1) := by decide +kernel
theorem dX4_faultyPlace_36 : decode cX4_faultyPlace 36 = .ok (.iconst 0, 1) := by decide +kernel
theorem dX4_faultyPlace_37 : decode cX4_faultyPlace 37 = .ok (.istore_n 3, 1) := by decide +kernel
theorem dX4_faultyPlace_38 : decode cX4_faultyPlace 38 = .ok (.iload_n 3, 1) := by decide +kernel
theorem dX4_faultyPlace_39 : decode cX4_faultyPlace 39 = .ok (.iconst 5, 1) := by decide +kernel
theorem dX4_faultyPlace_40 : decode cX4_faultyPlace 40 = .ok (.if_icmp .ge 33, 3) := by decide +kernel
theorem dX4_faultyPlace_43 : decode cX4_faultyPlace 43 = .ok (.iload_n 1, 1) := by decide +kernel
theorem dX4_faultyPlace_44 : decode cX4_faultyPlace 44 = .ok (.iload_n 3, 1) := by decide +kernel
theorem dX4_faultyPlace_45 : decode cX4_faultyPlace 45 = .ok (.iconst 1, 1) := by decide +kernel
theorem dX4_faultyPlace_46 : decode cX4_faultyPlace 46 = .ok (.iadd, 1) := by decide +kernel
theorem dX4_faultyPlace_47 : decode cX4_faultyPlace 47 = .ok (.imul, 1) := by decide +kernel
theorem dX4_faultyPlace_48 : decode cX4_faultyPlace 48 = .ok (.ldc 79, 2) := by decide +kernel
theorem dX4_faultyPlace_50 : decode cX4_faultyPlace 50 = .ok (.irem, 1) := by decide +kernel
theorem dX4_faultyPlace_51 : decode cX4_faultyPlace 51 = .ok (.iload_n 2, 1) := by decide +kernel
theorem dX4_faultyPlace_52 : decode cX4_faultyPlace 52 = .ok (.if_icmp .ne 15, 3) := by decide +kernel
theorem dX4_faultyPlace_55 : decode cX4_faultyPlace 55 = .ok (.aload_n 0, 1) := by decide +kernel
theorem dX4_faultyPlace_56 : decode cX4_faultyPlace 56 = .ok (.iload_n 3, 1) := by decide +kernel
theorem dX4_faultyPlace_57 : decode cX4_faultyPlace 57 = .ok (.invokevirtual 86, 3) := by decide +kernel
theorem dX4_faultyPlace_60 : decode cX4_faultyPlace 60 = .ok (.ldc 90, 2) := by decide +kernel
theorem dX4_faultyPlace_62 : decode cX4_faultyPlace 62 = .ok (.if_icmp .gt 5, 3) := by decide +kernel
theorem dX4_faultyPlace_65 : decode cX4_faultyPlace 65 = .ok (.iload_n 3, 1) := by decide +kernel
theorem dX4_faultyPlace_66 : decode cX4_faultyPlace 66 = .ok (.ireturn, 1) := by decide +kernel
theorem dX4_faultyPlace_67 : decode cX4_faultyPlace 67 = .ok (.iinc 3 1, 3) := by decide +kernel
theorem dX4_faultyPlace_70 : decode cX4_faultyPlace 70 = .ok (.goto (-32), 3) := by decide +kernel
theorem dX4_faultyPlace_73 : decode cX4_faultyPlace 73 = .ok (.bipush (-2), 2) := by decide +kernel
theorem dX4_faultyPlace_75 : decode cX4_faultyPlace 75 = .ok (.ireturn, 1) := by decide +kernel
theorem dX4_rightNumber_0 : decode cX4_rightNumber 0 = .ok (.aload_n 0, 1) := by decide +kernel
theorem dX4_rightNumber_1 : decode cX4_rightNumber 1 = .ok (.getfield 34, 3) := by decide +kernel
theorem dX4_rightNumber_4 : decode cX4_rightNumber 4 = .ok (.iload_n 1, 1) := by decide +kernel
theorem dX4_rightNumber_5 : decode cX4_rightNumber 5 = .ok (.iaload, 1) := by decide +kernel
theorem dX4_rightNumber_6 : decode cX4_rightNumber 6 = .ok (.aload_n 0, 1) := by decide +kernel
theorem dX4_rightNumber_7 : decode cX4_rightNumber 7 = .ok (.invokevirtual 80, 3) := by decide +kernel
theorem dX4_rightNumber_10 : decode cX4_rightNumber 10 = .ok (.iadd, 1) := by decide +kernel
theorem dX4_rightNumber_11 : decode cX4_rightNumber 11 = .ok (.ldc 79, 2) := by decide +kernel
theorem dX4_rightNumber_13 : decode cX4_rightNumber 13 = .ok (.irem, 1) := by decide +kernel
theorem dX4_rightNumber_14 : decode cX4_rightNumber 14 = .ok (.ireturn, 1) := by decide +kernel
theorem dX4_lackingOfAll_0 : decode cX4_lackingOfAll 0 = .ok (.aload_n 0, 1) := by decide +kernel
theorem dX4_lackingOfAll_1 : decode cX4_lackingOfAll 1 = .ok (.getfield 37, 3) := by decide +kernel
theorem dX4_lackingOfAll_4 : decode cX4_lackingOfAll 4 = .ok (.aload_n 0, 1) := by decide +kernel
theorem dX4_lackingOfAll_5 : decode cX4_lackingOfAll 5 = .ok (.iconst 0, 1) := by decide +kernel
theorem dX4_lackingOfAll_6 : decode cX4_lackingOfAll 6 = .ok (.invokevirtual 61, 3) := by decide +kernel
theorem dX4_lackingOfAll_9 : decode cX4_lackingOfAll 9 = .ok (.isub, 1) := by decide +kernel
theorem dX4_lackingOfAll_10 : decode cX4_lackingOfAll 10 = .ok (.ldc 79, 2) := by decide +kernel
theorem dX4_lackingOfAll_12 : decode cX4_lackingOfAll 12 = .ok (.invokestatic 83, 3) := by decide +kernel
theorem dX4_lackingOfAll_15 : decode cX4_lackingOfAll 15 = .ok (.ireturn, 1) := by decide +kernel
theorem dX5_init_0 : decode cX5_init 0 = .ok (.aload_n 0, 1) := by decide +kernel
theorem dX5_init_1 : decode cX5_init 1 = .ok (.invokespecial 5, 3) := by decide +kernel
theorem dX5_init_4 : decode cX5_init 4 = .ok (.aload_n 0, 1) := by decide +kernel
theorem dX5_init_5 : decode cX5_init 5 = .ok (.bipush 9, 2) := by decide +kernel
theorem dX5_init_7 : decode cX5_init 7 = .ok (.newarray .int, 2) := by decide +kernel
theorem dX5_init_9 : decode cX5_init 9 = .ok (.putfield 11, 3) := by decide +kernel
theorem dX5_init_12 : decode cX5_init 12 = .ok (.aload_n 0, 1) := by decide +kernel
theorem dX5_init_13 : decode cX5_init 13 = .ok (.bipush 9, 2) := by decide +kernel
theorem dX5_init_15 : decode cX5_init 15 = .ok (.newarray .int, 2) := by decide +kernel
theorem dX5_init_17 : decode cX5_init 17 = .ok (.putfield 15, 3) := by decide +kernel
theorem dX5_init_20 : decode cX5_init 20 = .ok (.aload_n 0, 1) := by decide +kernel
theorem dX5_init_21 : decode cX5_init 21 = .ok (.bipush 9, 2) := by decide +kernel
theorem dX5_init_23 : decode cX5_init 23 = .ok (.newarray .int, 2) := by decide +kernel
theorem dX5_init_25 : decode cX5_init 25 = .ok (.putfield 18, 3) := by decide +kernel
theorem dX5_init_28 : decode cX5_init 28 = .ok (.aload_n 0, 1) := by decide +kernel
theorem dX5_init_29 : decode cX5_init 29 = .ok (.iconst 0, 1) := by decide +kernel
theorem dX5_init_30 : decode cX5_init 30 = .ok (.putfield 21, 3) := by decide +kernel
theorem dX5_init_33 : decode cX5_init 33 = .ok (.aload_n 0, 1) := by decide +kernel
theorem dX5_init_34 : decode cX5_init 34 = .ok (.iconst 4, 1) := by decide +kernel
theorem dX5_init_35 : decode cX5_init 35 = .ok (.newarray .int, 2) := by decide +kernel
theorem dX5_init_37 : decode cX5_init 37 = .ok (.putfield 25, 3) := by decide +kernel
theorem dX5_init_40 : decode cX5_init 40 = .ok (.aload_n 0, 1) := by decide +kernel
theorem dX5_init_41 : decode cX5_init 41 = .ok (.sipush 512, 3) := by decide +kernel
theorem dX5_init_44 : decode cX5_init 44 = .ok (.newarray .int, 2) := by decide +kernel
theorem dX5_init_46 : decode cX5_init 46 = .ok (.putfield 28, 3) := by decide +kernel
theorem dX5_init_49 : decode cX5_init 49 = .ok (.aload_n 0, 1) := by decide +kernel
theorem dX5_init_50 : decode cX5_init 50 = .ok (.sipush 512, 3) := by decide +kernel
theorem dX5_init_53 : decode cX5_init 53 = .ok (.newarray .int, 2) := by decide +kernel
theorem dX5_init_55 : decode cX5_init 55 = .ok (.putfield 31, 3) := by decide +kernel
theorem dX5_init_58 : decode cX5_init 58 = .ok (.aload_n 0, 1) := by decide +kernel
theorem dX5_init_59 : decode cX5_init 59 = .ok (.sipush 512, 3) := by decide +kernel
theorem dX5_init_62 : decode cX5_init 62 = .ok (.newarray .int, 2) := by decide +kernel
theorem dX5_init_64 : decode cX5_init 64 = .ok (.putfield 34, 3) := by decide +kernel
theorem dX5_init_67 : decode cX5_init 67 = .ok (.aload_n 0, 1) := by decide +kernel
theorem dX5_init_68 : decode cX5_init 68 = .ok (.iconst 4, 1) := by decide +kernel
theorem dX5_init_69 : decode cX5_init 69 = .ok (.sipush 512, 3) := by decide +kernel
theorem dX5_init_72 : decode cX5_init 72 = .ok (.multianewarray 37 2, 4) := by decide +kernel
theorem dX5_init_76 : decode cX5_init 76 = .ok (.putfield 39, 3) := by decide +kernel
theorem dX5_init_79 : decode cX5_init 79 = .ok (.aload_n 0, 1) := by decide +kernel
theorem dX5_init_80 : decode cX5_init 80 = .ok (.sipush 512, 3) := by decide +kernel
theorem dX5_init_83 : decode cX5_init 83 = .ok (.newarray .int, 2) := by decide +kernel
theorem dX5_init_85 : decode cX5_init 85 = .ok (.putfield 42, 3) := by decide +kernel
theorem dX5_init_88 : decode cX5_init 88 = .ok (.aload_n 0, 1) := by decide +kernel
theorem dX5_init_89 : decode cX5_init 89 = .ok (.iconst 4, 1) := by decide +kernel
theorem dX5_init_90 : decode cX5_init 90 = .ok (.newarray .int, 2) := by decide +kernel
theorem dX5_init_92 : decode cX5_init 92 = .ok (.putfield 45, 3) := by decide +kernel
theorem dX5_init_95 : decode cX5_init 95 = .ok (.aload_n 0, 1) := by decide +kernel
theorem dX5_init_96 : decode cX5_init 96 = .ok (.iconst 4, 1) := by decide +kernel
theorem dX5_init_97 : decode cX5_init 97 = .ok (.newarray .int, 2) := by decide +kernel
theorem dX5_init_99 : decode cX5_init 99 = .ok (.putfield 48, 3) := by decide +kernel
theorem dX5_init_102 : decode cX5_init 102 = .ok (.aload_n 0, 1) := by decide +kernel
theorem dX5_init_103 : decode cX5_init 103 = .ok (.bipush 9, 2) := by decide +kernel
theorem dX5_init_105 : decode cX5_init 105 = .ok (.sipush 455, 3) := by decide +kernel
theorem dX5_init_108 : decode cX5_init 108 = .ok (.multianewarray 37 2, 4) := by decide +kernel
theorem dX5_init_112 : decode cX5_init 112 = .ok (.putfield 51, 3) := by decide +kernel
theorem dX5_init_115 : decode cX5_init 115 = .ok (.aload_n 0, 1) := by decide +kernel
theorem dX5_init_116 : decode cX5_init 116 = .ok (.iconst 0, 1) := by decide +kernel
theorem dX5_init_117 : decode cX5_init 117 = .ok (.putfield 54, 3) := by decide +kernel
theorem dX5_init_120 : decode cX5_init 120 = .ok (.aload_n 0, 1) := by decide +kernel
theorem dX5_init_121 : decode cX5_init 121 = .ok (.iconst 0, 1) := by decide +kernel
theorem dX5_init_122 : decode cX5_init 122 = .ok (.putfield 57, 3) := by decide +kernel
theorem dX5_init_125 : decode cX5_init 125 = .ok (.aload_n 0, 1) := by decide +kernel
theorem dX5_init_126 : decode cX5_init 126 = .ok (.bipush 16, 2) := by decide +kernel
theorem dX5_init_128 : decode cX5_init 128 = .ok (.newarray .int, 2) := by decide +kernel
theorem dX5_init_130 : decode cX5_init 130 = .ok (.putfield 60, 3) := by decide +kernel
theorem dX5_init_133 : decode cX5_init 133 = .ok (.aload_n 0, 1) := by decide +kernel
theorem dX5_init_134 : decode cX5_init 134 = .ok (.iconst 0, 1) := by decide +kernel
theorem dX5_init_135 : decode cX5_init 135 = .ok (.putfield 63, 3) := by decide +kernel
theorem dX5_init_138 : decode cX5_init 138 = .ok (.return_, 1) := by decide +kernel
theorem dX5_addSpur_0 : decode cX5_addSpur 0 = .ok (.aload_n 0, 1) := by decide +kernel
theorem dX5_addSpur_1 : decode cX5_addSpur 1 = .ok (.getfield 11, 3) := by decide +kernel
theorem dX5_addSpur_4 : decode cX5_addSpur 4 = .ok (.aload_n 0, 1) := by decide +kernel
theorem dX5_addSpur_5 : decode cX5_addSpur 5 = .ok (.getfield 21, 3) := by decide +kernel
theorem dX5_addSpur_8 : decode cX5_addSpur 8 = .ok (.iload_n 1, 1) := by decide +kernel
theorem dX5_addSpur_9 : decode cX5_addSpur 9 = .ok (.iastore, 1) := by decide +kernel
theorem dX5_addSpur_10 : decode cX5_addSpur 10 = .ok (.aload_n 0, 1) := by decide +kernel
theorem dX5_addSpur_11 : decode cX5_addSpur 11 = .ok (.getfield 15, 3) := by decide +kernel
theorem dX5_addSpur_14 : decode cX5_addSpur 14 = .ok (.aload_n 0, 1) := by decide +kernel
theorem dX5_addSpur_15 : decode cX5_addSpur 15 = .ok (.getfield 21, 3) := by decide +kernel
theorem dX5_addSpur_18 : decode cX5_addSpur 18 = .ok (.iload_n 2, 1) := by decide +kernel
theorem dX5_addSpur_19 : decode cX5_addSpur 19 = .ok (.iastore, 1) := by decide +kernel
theorem dX5_addSpur_20 : decode cX5_addSpur 20 = .ok (.aload_n 0, 1) := by decide +kernel
theorem dX5_addSpur_21 : decode cX5_addSpur 21 = .ok (.getfield 18, 3) := by decide +kernel
theorem dX5_addSpur_24 : decode cX5_addSpur 24 = .ok (.aload_n 0, 1) := by decide +kernel
theorem dX5_addSpur_25 : decode cX5_addSpur 25 = .ok (.getfield 21, 3) := by decide +kernel
theorem dX5_addSpur_28 : decode cX5_addSpur 28 = .ok (.iload_n 3, 1) := by decide +kernel
theorem dX5_addSpur_29 : decode cX5_addSpur 29 = .ok (.iastore, 1) := by decide +kernel
theorem dX5_addSpur_30 : decode cX5_addSpur 30 = .ok (.aload_n 0, 1) := by decide +kernel
theorem dX5_addSpur_31 : decode cX5_addSpur 31 = .ok (.dup, 1) := by decide +kernel
theorem dX5_addSpur_32 : decode cX5_addSpur 32 = .ok (.getfield 21, 3) := by decide +kernel
theorem dX5_addSpur_35 : decode cX5_addSpur 35 = .ok (.iconst 1, 1) := by decide +kernel
theorem dX5_addSpur_36 : decode cX5_addSpur 36 = .ok (.iadd, 1) := by decide +kernel
theorem dX5_addSpur_37 : decode cX5_addSpur 37 = .ok (.putfield 21, 3) := by decide +kernel
theorem dX5_addSpur_40 : decode cX5_addSpur 40 = .ok (.aload_n 0, 1) := by decide +kernel
theorem dX5_addSpur_41 : decode cX5_addSpur 41 = .ok (.getfield 21, 3) := by decide +kernel
theorem dX5_addSpur_44 : decode cX5_addSpur 44 = .ok (.iconst 1, 1) := by decide +kernel
theorem dX5_addSpur_45 : decode cX5_addSpur 45 = .ok (.isub, 1) := by decide +kernel
theorem dX5_addSpur_46 : decode cX5_addSpur 46 = .ok (.ireturn, 1) := by decide +kernel
theorem dX5_planRails_0 : decode cX5_planRails 0 = .ok (.aload_n 0, 1) := by decide +kernel
theorem dX5_planRails_1 : decode cX5_planRails 1 = .ok (.invokevirtual 67, 3) := by decide +kernel
theorem dX5_planRails_4 : decode cX5_planRails 4 = .ok (.iconst 3, 1) := by decide +kernel
theorem dX5_planRails_5 : decode cX5_planRails 5 = .ok (.istore_n 3, 1) := by decide +kernel
theorem dX5_planRails_6 : decode cX5_planRails 6 = .ok (.iload_n 3, 1) := by decide +kernel
theorem dX5_planRails_7 : decode cX5_planRails 7 = .ok (.ifCond .lt 21, 3) := by decide +kernel
theorem dX5_planRails_10 : decode cX5_planRails 10 = .ok (.aload_n 0, 1) := by decide +kernel
theorem dX5_planRails_11 : decode cX5_planRails 11 = .ok (.iload_n 3, 1) := by decide +kernel
theorem dX5_planRails_12 : decode cX5_planRails 12 = .ok (.iload_n 1, 1) := by decide +kernel
theorem dX5_planRails_13 : decode cX5_planRails 13 = .ok (.iload_n 2, 1) := by decide +kernel
theorem dX5_planRails_14 : decode cX5_planRails 14 = .ok (.invokevirtual 70, 3) := by decide +kernel
theorem dX5_planRails_17 : decode cX5_planRails 17 = .ok (.aload_n 0, 1) := by decide +kernel
theorem dX5_planRails_18 : decode cX5_planRails 18 = .ok (.iload_n 3, 1) := by decide +kernel
theorem dX5_planRails_19 : decode cX5_planRails 19 = .ok (.invokevirtual 74, 3) := by decide +kernel
theorem dX5_planRails_22 : decode cX5_planRails 22 = .ok (.iinc 3 (-1), 3) := by decide +kernel
theorem dX5_planRails_25 : decode cX5_planRails 25 = .ok (.goto (-19), 3) := by decide +kernel
theorem dX5_planRails_28 : decode cX5_planRails 28 = .ok (.iconst 0, 1) := by decide +kernel
theorem dX5_planRails_29 : decode cX5_planRails 29 = .ok (.istore_n 3, 1) := by decide +kernel
theorem dX5_planRails_30 : decode cX5_planRails 30 = .ok (.iconst 0, 1) := by decide +kernel
theorem dX5_planRails_31 : decode cX5_planRails 31 = .ok (.istore 4, 2) := by decide +kernel
theorem dX5_planRails_33 : decode cX5_planRails 33 = .ok (.iload 4, 2) := by decide +kernel
theorem dX5_planRails_35 : decode cX5_planRails 35 = .ok (.iconst 4, 1) := by decide +kernel
theorem dX5_planRails_36 : decode cX5_planRails 36 = .ok (.if_icmp .ge 31, 3) := by decide +kernel
theorem dX5_planRails_39 : decode cX5_planRails 39 = .ok (.aload_n 0, 1) := by decide +kernel
theorem dX5_planRails_40 : decode cX5_planRails 40 = .ok (.getfield 45, 3) := by decide +kernel
theorem dX5_planRails_43 : decode cX5_planRails 43 = .ok (.iload 4, 2) := by decide +kernel
theorem dX5_planRails_45 : decode cX5_planRails 45 = .ok (.aload_n 0, 1) := by decide +kernel
theorem dX5_planRails_46 : decode cX5_planRails 46 = .ok (.iload 4, 2) := by decide +kernel
theorem dX5_planRails_48 : decode cX5_planRails 48 = .ok (.iload_n 3, 1) := by decide +kernel
theorem dX5_planRails_49 : decode cX5_planRails 49 = .ok (.invokevirtual 78, 3) := by decide +kernel
theorem dX5_planRails_52 : decode cX5_planRails 52 = .ok (.iastore, 1) := by decide +kernel
theorem dX5_planRails_53 : decode cX5_planRails 53 = .ok (.aload_n 0, 1) := by decide +kernel
theorem dX5_planRails_54 : decode cX5_planRails 54 = .ok (.getfield 45, 3) := by decide +kernel
theorem dX5_planRails_57 : decode cX5_planRails 57 = .ok (.iload 4, 2) := by decide +kernel
theorem dX5_planRails_59 : decode cX5_planRails 59 = .ok (.iaload, 1) := by decide +kernel
theorem dX5_planRails_60 : decode cX5_planRails 60 = .ok (.istore_n 3, 1) := by decide +kernel
theorem dX5_planRails_61 : decode cX5_planRails 61 = .ok (.iinc 4 1, 3) := by decide +kernel
theorem dX5_planRails_64 : decode cX5_planRails 64 = .ok (.goto (-31), 3) := by decide +kernel
theorem dX5_planRails_67 : decode cX5_planRails 67 = .ok (.aload_n 0, 1) := by decide +kernel
theorem dX5_planRails_68 : decode cX5_planRails 68 = .ok (.iconst 0, 1) := by decide +kernel
theorem dX5_planRails_69 : decode cX5_planRails 69 = .ok (.iconst 0, 1) := by decide +kernel
theorem dX5_planRails_70 : decode cX5_planRails 70 = .ok (.aload_n 0, 1) := by decide +kernel
theorem dX5_planRails_71 : decode cX5_planRails 71 = .ok (.getfield 45, 3) := by decide +kernel
theorem dX5_planRails_74 : decode cX5_planRails 74 = .ok (.iconst 0, 1) := by decide +kernel
theorem dX5_planRails_75 : decode cX5_planRails 75 = .ok (.iaload, 1) := by decide +kernel
theorem dX5_planRails_76 : decode cX5_planRails 76 = .ok (.invokevirtual 82, 3) := by decide +kernel
theorem dX5_planRails_79 : decode cX5_planRails 79 = .ok (.ireturn, 1) := by decide +kernel
theorem dX5_addUpSets_0 : decode cX5_addUpSets 0 = .ok (.iconst 0, 1) := by decide +kernel
theorem dX5_addUpSets_1 : decode cX5_addUpSets 1 = .ok (.istore_n 1, 1) := by decide +kernel
theorem dX5_addUpSets_2 : decode cX5_addUpSets 2 = .ok (.iload_n 1, 1) := by decide +kernel
theorem dX5_addUpSets_3 : decode cX5_addUpSets 3 = .ok (.aload_n 0, 1) := by decide +kernel
theorem dX5_addUpSets_4 : decode cX5_addUpSets 4 = .ok (.getfield 21, 3) := by decide +kernel
theorem dX5_addUpSets_7 : decode cX5_addUpSets 7 = .ok (.if_icmp .ge 89, 3) := by decide +kernel
theorem dX5_addUpSets_10 : decode cX5_addUpSets 10 = .ok (.iconst 1, 1) := by decide +kernel
theorem dX5_addUpSets_11 : decode cX5_addUpSets 11 = .ok (.iload_n 1, 1) := by decide +kernel
theorem dX5_addUpSets_12 : decode cX5_addUpSets 12 = .ok (.ishl, 1) := by decide +kernel
theorem dX5_addUpSets_13 : decode cX5_addUpSets 13 = .ok (.istore_n 2, 1) := by decide +kernel
theorem dX5_addUpSets_14 : decode cX5_addUpSets 14 = .ok (.iconst 0, 1) := by decide +kernel
theorem dX5_addUpSets_15 : decode cX5_addUpSets 15 = .ok (.istore_n 3, 1) := by decide +kernel
theorem dX5_addUpSets_16 : decode cX5_addUpSets 16 = .ok (.iload_n 3, 1) := by decide +kernel
theorem dX5_addUpSets_17 : decode cX5_addUpSets 17 = .ok (.iload_n 2, 1) := by decide +kernel
theorem dX5_addUpSets_18 : decode cX5_addUpSets 18 = .ok (.if_icmp .ge 72, 3) := by decide +kernel
theorem dX5_addUpSets_21 : decode cX5_addUpSets 21 = .ok (.aload_n 0, 1) := by decide +kernel
theorem dX5_addUpSets_22 : decode cX5_addUpSets 22 = .ok (.getfield 28, 3) := by decide +kernel
theorem dX5_addUpSets_25 : decode cX5_addUpSets 25 = .ok (.iload_n 3, 1) := by decide +kernel
theorem dX5_addUpSets_26 : decode cX5_addUpSets 26 = .ok (.iload_n 2, 1) := by decide +kernel
theorem dX5_addUpSets_27 : decode cX5_addUpSets 27 = .ok (.iadd, 1) := by decide +kernel
theorem dX5_addUpSets_28 : decode cX5_addUpSets 28 = .ok (.aload_n 0, 1) := by decide +kernel
theorem dX5_addUpSets_29 : decode cX5_addUpSets 29 = .ok (.getfield 28, 3) := by decide +kernel
theorem dX5_addUpSets_32 : decode cX5_addUpSets 32 = .ok (.iload_n 3, 1) := by decide +kernel
theorem dX5_addUpSets_33 : decode cX5_addUpSets 33 = .ok (.iaload, 1) := by decide +kernel
theorem dX5_addUpSets_34 : decode cX5_addUpSets 34 = .ok (.aload_n 0, 1) := by decide +kernel
theorem dX5_addUpSets_35 : decode cX5_addUpSets 35 = .ok (.getfield 11, 3) := by decide +kernel
theorem dX5_addUpSets_38 : decode cX5_addUpSets 38 = .ok (.iload_n 1, 1) := by decide +kernel
theorem dX5_addUpSets_39 : decode cX5_addUpSets 39 = .ok (.iaload, 1) := by decide +kernel
theorem dX5_addUpSets_40 : decode cX5_addUpSets 40 = .ok (.ior, 1) := by decide +kernel
theorem dX5_addUpSets_41 : decode cX5_addUpSets 41 = .ok (.iastore, 1) := by decide +kernel
theorem dX5_addUpSets_42 : decode cX5_addUpSets 42 = .ok (.aload_n 0, 1) := by decide +kernel
theorem dX5_addUpSets_43 : decode cX5_addUpSets 43 = .ok (.getfield 31, 3) := by decide +kernel
theorem dX5_addUpSets_46 : decode cX5_addUpSets 46 = .ok (.iload_n 3, 1) := by decide +kernel
theorem dX5_addUpSets_47 : decode cX5_addUpSets 47 = .ok (.iload_n 2, 1) := by decide +kernel
theorem dX5_addUpSets_48 : decode cX5_addUpSets 48 = .ok (.iadd, 1) := by decide +kernel
theorem dX5_addUpSets_49 : decode cX5_addUpSets 49 = .ok (.aload_n 0, 1) := by decide +kernel
theorem dX5_addUpSets_50 : decode cX5_addUpSets 50 = .ok (.getfield 31, 3) := by decide +kernel
theorem dX5_addUpSets_53 : decode cX5_addUpSets 53 = .ok (.iload_n 3, 1) := by decide +kernel
theorem dX5_addUpSets_54 : decode cX5_addUpSets 54 = .ok (.iaload, 1) := by decide +kernel
theorem dX5_addUpSets_55 : decode cX5_addUpSets 55 = .ok (.aload_n 0, 1) := by decide +kernel
theorem dX5_addUpSets_56 : decode cX5_addUpSets 56 = .ok (.getfield 15, 3) := by decide +kernel
theorem dX5_addUpSets_59 : decode cX5_addUpSets 59 = .ok (.iload_n 1, 1) := by decide +kernel
theorem dX5_addUpSets_60 : decode cX5_addUpSets 60 = .ok (.iaload, 1) := by decide +kernel
theorem dX5_addUpSets_61 : decode cX5_addUpSets 61 = .ok (.iadd, 1) := by decide +kernel
theorem dX5_addUpSets_62 : decode cX5_addUpSets 62 = .ok (.iastore, 1) := by decide +kernel
theorem dX5_addUpSets_63 : decode cX5_addUpSets 63 = .ok (.aload_n 0, 1) := by decide +kernel
theorem dX5_addUpSets_64 : decode cX5_addUpSets 64 = .ok (.getfield 34, 3) := by decide +kernel
theorem dX5_addUpSets_67 : decode cX5_addUpSets 67 = .ok (.iload_n 3, 1) := by decide +kernel
theorem dX5_addUpSets_68 : decode cX5_addUpSets 68 = .ok (.iload_n 2, 1) := by decide +kernel
theorem dX5_addUpSets_69 : decode cX5_addUpSets 69 = .ok (.iadd, 1) := by decide +kernel
theorem dX5_addUpSets_70 : decode cX5_addUpSets 70 = .ok (.aload_n 0, 1) := by decide +kernel
theorem dX5_addUpSets_71 : decode cX5_addUpSets 71 = .ok (.getfield 34, 3) := by decide +kernel
theorem dX5_addUpSets_74 : decode cX5_addUpSets 74 = .ok (.iload_n 3, 1) := by decide +kernel
theorem dX5_addUpSets_75 : decode cX5_addUpSets 75 = .ok (.iaload, 1) := by decide +kernel
theorem dX5_addUpSets_76 : decode cX5_addUpSets 76 = .ok (.aload_n 0, 1) := by decide +kernel
theorem dX5_addUpSets_77 : decode cX5_addUpSets 77 = .ok (.getfield 18, 3) := by decide +kernel
theorem dX5_addUpSets_80 : decode cX5_addUpSets 80 = .ok (.iload_n 1, 1) := by decide +kernel
theorem dX5_addUpSets_81 : decode cX5_addUpSets 81 = .ok (.iaload, 1) := by decide +kernel
theorem dX5_addUpSets_82 : decode cX5_addUpSets 82 = .ok (.iadd, 1) := by decide +kernel
theorem dX5_addUpSets_83 : decode cX5_addUpSets 83 = .ok (.iastore, 1) := by decide +kernel
theorem dX5_addUpSets_84 : decode cX5_addUpSets 84 = .ok (.iinc 3 1, 3) := by decide +kernel
theorem dX5_addUpSets_87 : decode cX5_addUpSets 87 = .ok (.goto (-71), 3) := by decide +kernel
theorem dX5_addUpSets_90 : decode cX5_addUpSets 90 = .ok (.iinc 1 1, 3) := by decide +kernel
theorem dX5_addUpSets_93 : decode cX5_addUpSets 93 = .ok (.goto (-91), 3) := by decide +kernel
theorem dX5_addUpSets_96 : decode cX5_addUpSets 96 = .ok (.return_, 1) := by decide +kernel
theorem dX5_weighSeason_0 : decode cX5_weighSeason 0 = .ok (.iconst 0, 1) := by decide +kernel
theorem dX5_weighSeason_1 : decode cX5_weighSeason 1 = .ok (.istore 4, 2) := by decide +kernel
theorem dX5_weighSeason_3 : decode cX5_weighSeason 3 = .ok (.iload 4, 2) := by decide +kernel
theorem dX5_weighSeason_5 : decode cX5_weighSeason 5 = .ok (.iconst 1, 1) := by decide +kernel
theorem dX5_weighSeason_6 : decode cX5_weighSeason 6 = .ok (.aload_n 0, 1) := by decide +kernel
theorem dX5_weighSeason_7 : decode cX5_weighSeason 7 = .ok (.getfield 21, 3) := by decide +kernel
theorem dX5_weighSeason_10 : decode cX5_weighSeason 10 = .ok (.ishl, 1) := by decide +kernel
theorem dX5_weighSeason_11 : decode cX5_weighSeason 11 = .ok (.if_icmp .ge 80, 3) := by decide +kernel
theorem dX5_weighSeason_14 : decode cX5_weighSeason 14 = .ok (.aload_n 0, 1) := by decide +kernel
theorem dX5_weighSeason_15 : decode cX5_weighSeason 15 = .ok (.getfield 25, 3) := by decide +kernel
theorem dX5_weighSeason_18 : decode cX5_weighSeason 18 = .ok (.iload_n 1, 1) := by decide +kernel
theorem dX5_weighSeason_19 : decode cX5_weighSeason 19 = .ok (.iaload, 1) := by decide +kernel
theorem dX5_weighSeason_20 : decode cX5_weighSeason 20 = .ok (.aload_n 0, 1) := by decide +kernel
theorem dX5_weighSeason_21 : decode cX5_weighSeason 21 = .ok (.getfield 28, 3) := by decide +kernel
theorem dX5_weighSeason_24 : decode cX5_weighSeason 24 = .ok (.iload 4, 2) := by decide +kernel
theorem dX5_weighSeason_26 : decode cX5_weighSeason 26 = .ok (.iaload, 1) := by decide +kernel
theorem dX5_weighSeason_27 : decode cX5_weighSeason 27 = .ok (.iconst (-1), 1) := by decide +kernel
theorem dX5_weighSeason_28 : decode cX5_weighSeason 28 = .ok (.ixor, 1) := by decide +kernel
theorem dX5_weighSeason_29 : decode cX5_weighSeason 29 = .ok (.iand, 1) := by decide +kernel
theorem dX5_weighSeason_30 : decode cX5_weighSeason 30 = .ok (.invokestatic 86, 3) := by decide +kernel
theorem dX5_weighSeason_33 : decode cX5_weighSeason 33 = .ok (.istore 5, 2) := by decide +kernel
theorem dX5_weighSeason_35 : decode cX5_weighSeason 35 = .ok (.iload_n 1, 1) := by decide +kernel
theorem dX5_weighSeason_36 : decode cX5_weighSeason 36 = .ok (.iconst 3, 1) := by decide +kernel
theorem dX5_weighSeason_37 : decode cX5_weighSeason 37 = .ok (.if_icmp .ne 7, 3) := by decide +kernel
theorem dX5_weighSeason_40 : decode cX5_weighSeason 40 = .ok (.iconst 0, 1) := by decide +kernel
theorem dX5_weighSeason_41 : decode cX5_weighSeason 41 = .ok (.goto 10, 3) := by decide +kernel
theorem dX5_weighSeason_44 : decode cX5_weighSeason 44 = .ok (.aload_n 0, 1) := by decide +kernel
theorem dX5_weighSeason_45 : decode cX5_weighSeason 45 = .ok (.getfield 42, 3) := by decide +kernel
theorem dX5_weighSeason_48 : decode cX5_weighSeason 48 = .ok (.iload 4, 2) := by decide +kernel
theorem dX5_weighSeason_50 : decode cX5_weighSeason 50 = .ok (.iaload, 1) := by decide +kernel
theorem dX5_weighSeason_51 : decode cX5_weighSeason 51 = .ok (.istore 6, 2) := by decide +kernel
theorem dX5_weighSeason_53 : decode cX5_weighSeason 53 = .ok (.aload_n 0, 1) := by decide +kernel
theorem dX5_weighSeason_54 : decode cX5_weighSeason 54 = .ok (.getfield 39, 3) := by decide +kernel
theorem dX5_weighSeason_57 : decode cX5_weighSeason 57 = .ok (.iload_n 1, 1) := by decide +kernel
theorem dX5_weighSeason_58 : decode cX5_weighSeason 58 = .ok (.aaload, 1) := by decide +kernel
theorem dX5_weighSeason_59 : decode cX5_weighSeason 59 = .ok (.iload 4, 2) := by decide +kernel
theorem dX5_weighSeason_61 : decode cX5_weighSeason 61 = .ok (.aload_n 0, 1) := by decide +kernel
theorem dX5_weighSeason_62 : decode cX5_weighSeason 62 = .ok (.getfield 31, 3) := by decide +kernel
theorem dX5_weighSeason_65 : decode cX5_weighSeason 65 = .ok (.iload 4, 2) := by decide +kernel
theorem dX5_weighSeason_67 : decode cX5_weighSeason 67 = .ok (.iaload, 1) := by decide +kernel
theorem dX5_weighSeason_68 : decode cX5_weighSeason 68 = .ok (.iload_n 3, 1) := by decide +kernel
theorem dX5_weighSeason_69 : decode cX5_weighSeason 69 = .ok (.if_icmp .le 8, 3) := by decide +kernel
theorem dX5_weighSeason_72 : decode cX5_weighSeason 72 = .ok (.ldc 92, 2) := by decide +kernel
theorem dX5_weighSeason_74 : decode cX5_weighSeason 74 = .ok (.goto 10, 3) := by decide +kernel
theorem dX5_weighSeason_77 : decode cX5_weighSeason 77 = .ok (.iload_n 2, 1) := by decide +kernel
theorem dX5_weighSeason_78 : decode cX5_weighSeason 78 = .ok (.iload 5, 2) := by decide +kernel
theorem dX5_weighSeason_80 : decode cX5_weighSeason 80 = .ok (.imul, 1) := by decide +kernel
theorem dX5_weighSeason_81 : decode cX5_weighSeason 81 = .ok (.iload 6, 2) := by decide +kernel
theorem dX5_weighSeason_83 : decode cX5_weighSeason 83 = .ok (.iadd, 1) := by decide +kernel
theorem dX5_weighSeason_84 : decode cX5_weighSeason 84 = .ok (.iastore, 1) := by decide +kernel
theorem dX5_weighSeason_85 : decode cX5_weighSeason 85 = .ok (.iinc 4 1, 3) := by decide +kernel
theorem dX5_weighSeason_88 : decode cX5_weighSeason 88 = .ok (.goto (-85), 3) := by decide +kernel
theorem dX5_weighSeason_91 : decode cX5_weighSeason 91 = .ok (.return_, 1) := by decide +kernel
theorem dX5_lookAhead_0 : decode cX5_lookAhead 0 = .ok (.iconst 1, 1) := by decide +kernel
theorem dX5_lookAhead_1 : decode cX5_lookAhead 1 = .ok (.aload_n 0, 1) := by decide +kernel
theorem dX5_lookAhead_2 : decode cX5_lookAhead 2 = .ok (.getfield 21, 3) := by decide +kernel
theorem dX5_lookAhead_5 : decode cX5_lookAhead 5 = .ok (.ishl, 1) := by decide +kernel
theorem dX5_lookAhead_6 : decode cX5_lookAhead 6 = .ok (.istore_n 2, 1) := by decide +kernel
theorem dX5_lookAhead_7 : decode cX5_lookAhead 7 = .ok (.aload_n 0, 1) := by decide +kernel
theorem dX5_lookAhead_8 : decode cX5_lookAhead 8 = .ok (.getfield 39, 3) := by decide +kernel
theorem dX5_lookAhead_11 : decode cX5_lookAhead 11 = .ok (.iload_n 1, 1) := by decide +kernel
theorem dX5_lookAhead_12 : decode cX5_lookAhead 12 = .ok (.aaload, 1) := by decide +kernel
theorem dX5_lookAhead_13 : decode cX5_lookAhead 13 = .ok (.iconst 0, 1) := by decide +kernel
theorem dX5_lookAhead_14 : decode cX5_lookAhead 14 = .ok (.aload_n 0, 1) := by decide +kernel
theorem dX5_lookAhead_15 : decode cX5_lookAhead 15 = .ok (.getfield 42, 3) := by decide +kernel
theorem dX5_lookAhead_18 : decode cX5_lookAhead 18 = .ok (.iconst 0, 1) := by decide +kernel
theorem dX5_lookAhead_19 : decode cX5_lookAhead 19 = .ok (.iload_n 2, 1) := by decide +kernel
theorem dX5_lookAhead_20 : decode cX5_lookAhead 20 = .ok (.invokestatic 93, 3) := by decide +kernel
theorem dX5_lookAhead_23 : decode cX5_lookAhead 23 = .ok (.iconst 0, 1) := by decide +kernel
theorem dX5_lookAhead_24 : decode cX5_lookAhead 24 = .ok (.istore_n 3, 1) := by decide +kernel
theorem dX5_lookAhead_25 : decode cX5_lookAhead 25 = .ok (.iload_n 3, 1) := by decide +kernel
theorem dX5_lookAhead_26 : decode cX5_lookAhead 26 = .ok (.aload_n 0, 1) := by decide +kernel
theorem dX5_lookAhead_27 : decode cX5_lookAhead 27 = .ok (.getfield 21, 3) := by decide +kernel
theorem dX5_lookAhead_30 : decode cX5_lookAhead 30 = .ok (.if_icmp .ge 96, 3) := by decide +kernel
theorem dX5_lookAhead_33 : decode cX5_lookAhead 33 = .ok (.iconst 1, 1) := by decide +kernel
theorem dX5_lookAhead_34 : decode cX5_lookAhead 34 = .ok (.iload_n 3, 1) := by decide +kernel
theorem dX5_lookAhead_35 : decode cX5_lookAhead 35 = .ok (.ishl, 1) := by decide +kernel
theorem dX5_lookAhead_36 : decode cX5_lookAhead 36 = .ok (.istore 4, 2) := by decide +kernel
theorem dX5_lookAhead_38 : decode cX5_lookAhead 38 = .ok (.iconst 0, 1) := by decide +kernel
theorem dX5_lookAhead_39 : decode cX5_lookAhead 39 = .ok (.istore 5, 2) := by decide +kernel
theorem dX5_lookAhead_41 : decode cX5_lookAhead 41 = .ok (.iload 5, 2) := by decide +kernel
theorem dX5_lookAhead_43 : decode cX5_lookAhead 43 = .ok (.iload_n 2, 1) := by decide +kernel
theorem dX5_lookAhead_44 : decode cX5_lookAhead 44 = .ok (.if_icmp .ge 76, 3) := by decide +kernel
theorem dX5_lookAhead_47 : decode cX5_lookAhead 47 = .ok (.iload 5, 2) := by decide +kernel
theorem dX5_lookAhead_49 : decode cX5_lookAhead 49 = .ok (.iload 4, 2) := by decide +kernel
theorem dX5_lookAhead_51 : decode cX5_lookAhead 51 = .ok (.iand, 1) := by decide +kernel
theorem dX5_lookAhead_52 : decode cX5_lookAhead 52 = .ok (.ifCond .ne 62, 3) := by decide +kernel
theorem dX5_lookAhead_55 : decode cX5_lookAhead 55 = .ok (.aload_n 0, 1) := by decide +kernel
theorem dX5_lookAhead_56 : decode cX5_lookAhead 56 = .ok (.getfield 42, 3) := by decide +kernel
theorem dX5_lookAhead_59 : decode cX5_lookAhead 59 = .ok (.iload 5, 2) := by decide +kernel
theorem dX5_lookAhead_61 : decode cX5_lookAhead 61 = .ok (.iaload, 1) := by decide +kernel
theorem dX5_lookAhead_62 : decode cX5_lookAhead 62 = .ok (.istore 6, 2) := by decide +kernel
theorem dX5_lookAhead_64 : decode cX5_lookAhead 64 = .ok (.aload_n 0, 1) := by decide +kernel
theorem dX5_lookAhead_65 : decode cX5_lookAhead 65 = .ok (.getfield 42, 3) := by decide +kernel
theorem dX5_lookAhead_68 : decode cX5_lookAhead 68 = .ok (.iload 5, 2) := by decide +kernel
theorem dX5_lookAhead_70 : decode cX5_lookAhead 70 = .ok (.iload 4, 2) := by decide +kernel
theorem dX5_lookAhead_72 : decode cX5_lookAhead 72 = .ok (.ior, 1) := by decide +kernel
theorem dX5_lookAhead_73 : decode cX5_lookAhead 73 = .ok (.iaload, 1) := by decide +kernel
theorem dX5_lookAhead_74 : decode cX5_lookAhead 74 = .ok (.istore 7, 2) := by decide +kernel
theorem dX5_lookAhead_76 : decode cX5_lookAhead 76 = .ok (.aload_n 0, 1) := by decide +kernel
theorem dX5_lookAhead_77 : decode cX5_lookAhead 77 = .ok (.getfield 42, 3) := by decide +kernel
theorem dX5_lookAhead_80 : decode cX5_lookAhead 80 = .ok (.iload 5, 2) := by decide +kernel
theorem dX5_lookAhead_82 : decode cX5_lookAhead 82 = .ok (.iload 6, 2) := by decide +kernel
theorem dX5_lookAhead_84 : decode cX5_lookAhead 84 = .ok (.iload 7, 2) := by decide +kernel
theorem dX5_lookAhead_86 : decode cX5_lookAhead 86 = .ok (.aload_n 0, 1) := by decide +kernel
theorem dX5_lookAhead_87 : decode cX5_lookAhead 87 = .ok (.getfield 18, 3) := by decide +kernel
theorem dX5_lookAhead_90 : decode cX5_lookAhead 90 = .ok (.iload_n 3, 1) := by decide +kernel
theorem dX5_lookAhead_91 : decode cX5_lookAhead 91 = .ok (.iaload, 1) := by decide +kernel
theorem dX5_lookAhead_92 : decode cX5_lookAhead 92 = .ok (.iadd, 1) := by decide +kernel
theorem dX5_lookAhead_93 : decode cX5_lookAhead 93 = .ok (.invokestatic 99, 3) := by decide +kernel
theorem dX5_lookAhead_96 : decode cX5_lookAhead 96 = .ok (.iastore, 1) := by decide +kernel
theorem dX5_lookAhead_97 : decode cX5_lookAhead 97 = .ok (.aload_n 0, 1) := by decide +kernel
theorem dX5_lookAhead_98 : decode cX5_lookAhead 98 = .ok (.getfield 42, 3) := by decide +kernel
theorem dX5_lookAhead_101 : decode cX5_lookAhead 101 = .ok (.iload 5, 2) := by decide +kernel
theorem dX5_lookAhead_103 : decode cX5_lookAhead 103 = .ok (.iload 4, 2) := by decide +kernel
theorem dX5_lookAhead_105 : decode cX5_lookAhead 105 = .ok (.ior, 1) := by decide +kernel
theorem dX5_lookAhead_106 : decode cX5_lookAhead 106 = .ok (.iload 6, 2) := by decide +kernel
theorem dX5_lookAhead_108 : decode cX5_lookAhead 108 = .ok (.iload 7, 2) := by decide +kernel
theorem dX5_lookAhead_110 : decode cX5_lookAhead 110 = .ok (.invokestatic 99, 3) := by decide +kernel
theorem dX5_lookAhead_113 : decode cX5_lookAhead 113 = .ok (.iastore, 1) := by decide +kernel
theorem dX5_lookAhead_114 : decode cX5_lookAhead 114 = .ok (.iinc 5 1, 3) := by decide +kernel
theorem dX5_lookAhead_117 : decode cX5_lookAhead 117 = .ok (.goto (-76), 3) := by decide +kernel
theorem dX5_lookAhead_120 : decode cX5_lookAhead 120 = .ok (.iinc 3 1, 3) := by decide +kernel
theorem dX5_lookAhead_123 : decode cX5_lookAhead 123 = .ok (.goto (-98), 3) := by decide +kernel
theorem dX5_lookAhead_126 : decode cX5_lookAhead 126 = .ok (.return_, 1) := by decide +kernel
theorem dX5_firstBest_0 : decode cX5_firstBest 0 = .ok (.iconst 0, 1) := by decide +kernel
theorem dX5_firstBest_1 : decode cX5_firstBest 1 = .ok (.istore_n 3, 1) := by decide +kernel
theorem dX5_firstBest_2 : decode cX5_firstBest 2 = .ok (.iconst 1, 1) := by decide +kernel
theorem dX5_firstBest_3 : decode cX5_firstBest 3 = .ok (.istore 4, 2) := by decide +kernel
theorem dX5_firstBest_5 : decode cX5_firstBest 5 = .ok (.iload 4, 2) := by decide +kernel
theorem dX5_firstBest_7 : decode cX5_firstBest 7 = .ok (.iconst 1, 1) := by decide +kernel
theorem dX5_firstBest_8 : decode cX5_firstBest 8 = .ok (.aload_n 0, 1) := by decide +kernel
theorem dX5_firstBest_9 : decode cX5_firstBest 9 = .ok (.getfield 21, 3) := by decide +kernel
theorem dX5_firstBest_12 : decode cX5_firstBest 12 = .ok (.ishl, 1) := by decide +kernel
theorem dX5_firstBest_13 : decode cX5_firstBest 13 = .ok (.if_icmp .ge 30, 3) := by decide +kernel
theorem dX5_firstBest_16 : decode cX5_firstBest 16 = .ok (.aload_n 0, 1) := by decide +kernel
theorem dX5_firstBest_17 : decode cX5_firstBest 17 = .ok (.iload_n 1, 1) := by decide +kernel
theorem dX5_firstBest_18 : decode cX5_firstBest 18 = .ok (.iload_n 2, 1) := by decide +kernel
theorem dX5_firstBest_19 : decode cX5_firstBest 19 = .ok (.iload 4, 2) := by decide +kernel
theorem dX5_firstBest_21 : decode cX5_firstBest 21 = .ok (.invokevirtual 82, 3) := by decide +kernel
theorem dX5_firstBest_24 : decode cX5_firstBest 24 = .ok (.aload_n 0, 1) := by decide +kernel
theorem dX5_firstBest_25 : decode cX5_firstBest 25 = .ok (.iload_n 1, 1) := by decide +kernel
theorem dX5_firstBest_26 : decode cX5_firstBest 26 = .ok (.iload_n 2, 1) := by decide +kernel
theorem dX5_firstBest_27 : decode cX5_firstBest 27 = .ok (.iload_n 3, 1) := by decide +kernel
theorem dX5_firstBest_28 : decode cX5_firstBest 28 = .ok (.invokevirtual 82, 3) := by decide +kernel
theorem dX5_firstBest_31 : decode cX5_firstBest 31 = .ok (.if_icmp .ge 6, 3) := by decide +kernel
theorem dX5_firstBest_34 : decode cX5_firstBest 34 = .ok (.iload 4, 2) := by decide +kernel
theorem dX5_firstBest_36 : decode cX5_firstBest 36 = .ok (.istore_n 3, 1) := by decide +kernel
theorem dX5_firstBest_37 : decode cX5_firstBest 37 = .ok (.iinc 4 1, 3) := by decide +kernel
theorem dX5_firstBest_40 : decode cX5_firstBest 40 = .ok (.goto (-35), 3) := by decide +kernel
theorem dX5_firstBest_43 : decode cX5_firstBest 43 = .ok (.iload_n 3, 1) := by decide +kernel
theorem dX5_firstBest_44 : decode cX5_firstBest 44 = .ok (.ireturn, 1) := by decide +kernel
theorem dX5_costBehind_0 : decode cX5_costBehind 0 = .ok (.aload_n 0, 1) := by decide +kernel
theorem dX5_costBehind_1 : decode cX5_costBehind 1 = .ok (.getfield 39, 3) := by decide +kernel
theorem dX5_costBehind_4 : decode cX5_costBehind 4 = .ok (.iload_n 1, 1) := by decide +kernel
theorem dX5_costBehind_5 : decode cX5_costBehind 5 = .ok (.aaload, 1) := by decide +kernel
theorem dX5_costBehind_6 : decode cX5_costBehind 6 = .ok (.iload_n 3, 1) := by decide +kernel
theorem dX5_costBehind_7 : decode cX5_costBehind 7 = .ok (.iaload, 1) := by decide +kernel
theorem dX5_costBehind_8 : decode cX5_costBehind 8 = .ok (.aload_n 0, 1) := by decide +kernel
theorem dX5_costBehind_9 : decode cX5_costBehind 9 = .ok (.getfield 34, 3) := by decide +kernel
theorem dX5_costBehind_12 : decode cX5_costBehind 12 = .ok (.iload_n 3, 1) := by decide +kernel
theorem dX5_costBehind_13 : decode cX5_costBehind 13 = .ok (.iload_n 2, 1) := by decide +kernel
theorem dX5_costBehind_14 : decode cX5_costBehind 14 = .ok (.iconst (-1), 1) := by decide +kernel
theorem dX5_costBehind_15 : decode cX5_costBehind 15 = .ok (.ixor, 1) := by decide +kernel
theorem dX5_costBehind_16 : decode cX5_costBehind 16 = .ok (.iand, 1) := by decide +kernel
theorem dX5_costBehind_17 : decode cX5_costBehind 17 = .ok (.iaload, 1) := by decide +kernel
theorem dX5_costBehind_18 : decode cX5_costBehind 18 = .ok (.iadd, 1) := by decide +kernel
theorem dX5_costBehind_19 : decode cX5_costBehind 19 = .ok (.ireturn, 1) := by decide +kernel
theorem dX5_startCuts_0 : decode cX5_startCuts 0 = .ok (.aload_n 0, 1) := by decide +kernel
theorem dX5_startCuts_1 : decode cX5_startCuts 1 = .ok (.getfield 48, 3) := by decide +kernel
theorem dX5_startCuts_4 : decode cX5_startCuts 4 = .ok (.iconst 0, 1) := by decide +kernel
theorem dX5_startCuts_5 : decode cX5_startCuts 5 = .ok (.iload_n 1, 1) := by decide +kernel
theorem dX5_startCuts_6 : decode cX5_startCuts 6 = .ok (.iastore, 1) := by decide +kernel
theorem dX5_startCuts_7 : decode cX5_startCuts 7 = .ok (.aload_n 0, 1) := by decide +kernel
theorem dX5_startCuts_8 : decode cX5_startCuts 8 = .ok (.getfield 48, 3) := by decide +kernel
theorem dX5_startCuts_11 : decode cX5_startCuts 11 = .ok (.iconst 1, 1) := by decide +kernel
theorem dX5_startCuts_12 : decode cX5_startCuts 12 = .ok (.iload_n 2, 1) := by decide +kernel
theorem dX5_startCuts_13 : decode cX5_startCuts 13 = .ok (.iastore, 1) := by decide +kernel
theorem dX5_startCuts_14 : decode cX5_startCuts 14 = .ok (.aload_n 0, 1) := by decide +kernel
theorem dX5_startCuts_15 : decode cX5_startCuts 15 = .ok (.getfield 48, 3) := by decide +kernel
theorem dX5_startCuts_18 : decode cX5_startCuts 18 = .ok (.iconst 2, 1) := by decide +kernel
theorem dX5_startCuts_19 : decode cX5_startCuts 19 = .ok (.iload_n 3, 1) := by decide +kernel
theorem dX5_startCuts_20 : decode cX5_startCuts 20 = .ok (.iastore, 1) := by decide +kernel
theorem dX5_startCuts_21 : decode cX5_startCuts 21 = .ok (.aload_n 0, 1) := by decide +kernel
theorem dX5_startCuts_22 : decode cX5_startCuts 22 = .ok (.getfield 48, 3) := by decide +kernel
theorem dX5_startCuts_25 : decode cX5_startCuts 25 = .ok (.iconst 3, 1) := by decide +kernel
theorem dX5_startCuts_26 : decode cX5_startCuts 26 = .ok (.iload 4, 2) := by decide +kernel
theorem dX5_startCuts_28 : decode cX5_startCuts 28 = .ok (.iastore, 1) := by decide +kernel
theorem dX5_startCuts_29 : decode cX5_startCuts 29 = .ok (.return_, 1) := by decide +kernel
theorem dX5_planCuts_0 : decode cX5_planCuts 0 = .ok (.aload_n 0, 1) := by decide +kernel
theorem dX5_planCuts_1 : decode cX5_planCuts 1 = .ok (.getfield 48, 3) := by decide +kernel
theorem dX5_planCuts_4 : decode cX5_planCuts 4 = .ok (.iconst 0, 1) := by decide +kernel
theorem dX5_planCuts_5 : decode cX5_planCuts 5 = .ok (.iaload, 1) := by decide +kernel
theorem dX5_planCuts_6 : decode cX5_planCuts 6 = .ok (.aload_n 0, 1) := by decide +kernel
theorem dX5_planCuts_7 : decode cX5_planCuts 7 = .ok (.getfield 48, 3) := by decide +kernel
theorem dX5_planCuts_10 : decode cX5_planCuts 10 = .ok (.iconst 1, 1) := by decide +kernel
theorem dX5_planCuts_11 : decode cX5_planCuts 11 = .ok (.iaload, 1) := by decide +kernel
theorem dX5_planCuts_12 : decode cX5_planCuts 12 = .ok (.iadd, 1) := by decide +kernel
theorem dX5_planCuts_13 : decode cX5_planCuts 13 = .ok (.aload_n 0, 1) := by decide +kernel
theorem dX5_planCuts_14 : decode cX5_planCuts 14 = .ok (.getfield 48, 3) := by decide +kernel
theorem dX5_planCuts_17 : decode cX5_planCuts 17 = .ok (.iconst 2, 1) := by decide +kernel
theorem dX5_planCuts_18 : decode cX5_planCuts 18 = .ok (.iaload, 1) := by decide +kernel
theorem dX5_planCuts_19 : decode cX5_planCuts 19 = .ok (.iadd, 1) := by decide +kernel
theorem dX5_planCuts_20 : decode cX5_planCuts 20 = .ok (.aload_n 0, 1) := by decide +kernel
theorem dX5_planCuts_21 : decode cX5_planCuts 21 = .ok (.getfield 48, 3) := by decide +kernel
theorem dX5_planCuts_24 : decode cX5_planCuts 24 = .ok (.iconst 3, 1) := by decide +kernel
theorem dX5_planCuts_25 : decode cX5_planCuts 25 = .ok (.iaload, 1) := by decide +kernel
theorem dX5_planCuts_26 : decode cX5_planCuts 26 = .ok (.iadd, 1) := by decide +kernel
theorem dX5_planCuts_27 : decode cX5_planCuts 27 = .ok (.istore 4, 2) := by decide +kernel
theorem dX5_planCuts_29 : decode cX5_planCuts 29 = .ok (.bipush 8, 2) := by decide +kernel
theorem dX5_planCuts_31 : decode cX5_planCuts 31 = .ok (.istore 5, 2) := by decide +kernel
theorem dX5_planCuts_33 : decode cX5_planCuts 33 = .ok (.iload 5, 2) := by decide +kernel
theorem dX5_planCuts_35 : decode cX5_planCuts 35 = .ok (.ifCond .lt 20, 3) := by decide +kernel
theorem dX5_planCuts_38 : decode cX5_planCuts 38 = .ok (.aload_n 0, 1) := by decide +kernel
theorem dX5_planCuts_39 : decode cX5_planCuts 39 = .ok (.iload 5, 2) := by decide +kernel
theorem dX5_planCuts_41 : decode cX5_planCuts 41 = .ok (.iload 4, 2) := by decide +kernel
theorem dX5_planCuts_43 : decode cX5_planCuts 43 = .ok (.iload_n 1, 1) := by decide +kernel
theorem dX5_planCuts_44 : decode cX5_planCuts 44 = .ok (.iload_n 2, 1) := by decide +kernel
theorem dX5_planCuts_45 : decode cX5_planCuts 45 = .ok (.iload_n 3, 1) := by decide +kernel
theorem dX5_planCuts_46 : decode cX5_planCuts 46 = .ok (.invokevirtual 104, 3) := by decide +kernel
theorem dX5_planCuts_49 : decode cX5_planCuts 49 = .ok (.iinc 5 (-1), 3) := by decide +kernel
theorem dX5_planCuts_52 : decode cX5_planCuts 52 = .ok (.goto (-19), 3) := by decide +kernel
theorem dX5_planCuts_55 : decode cX5_planCuts 55 = .ok (.aload_n 0, 1) := by decide +kernel
theorem dX5_planCuts_56 : decode cX5_planCuts 56 = .ok (.getfield 51, 3) := by decide +kernel
theorem dX5_planCuts_59 : decode cX5_planCuts 59 = .ok (.iconst 0, 1) := by decide +kernel
theorem dX5_planCuts_60 : decode cX5_planCuts 60 = .ok (.aaload, 1) := by decide +kernel
theorem dX5_planCuts_61 : decode cX5_planCuts 61 = .ok (.aload_n 0, 1) := by decide +kernel
theorem dX5_planCuts_62 : decode cX5_planCuts 62 = .ok (.getfield 48, 3) := by decide +kernel
theorem dX5_planCuts_65 : decode cX5_planCuts 65 = .ok (.iconst 0, 1) := by decide +kernel
theorem dX5_planCuts_66 : decode cX5_planCuts 66 = .ok (.iaload, 1) := by decide +kernel
theorem dX5_planCuts_67 : decode cX5_planCuts 67 = .ok (.aload_n 0, 1) := by decide +kernel
theorem dX5_planCuts_68 : decode cX5_planCuts 68 = .ok (.getfield 48, 3) := by decide +kernel
theorem dX5_planCuts_71 : decode cX5_planCuts 71 = .ok (.iconst 1, 1) := by decide +kernel
theorem dX5_planCuts_72 : decode cX5_planCuts 72 = .ok (.iaload, 1) := by decide +kernel
theorem dX5_planCuts_73 : decode cX5_planCuts 73 = .ok (.aload_n 0, 1) := by decide +kernel
theorem dX5_planCuts_74 : decode cX5_planCuts 74 = .ok (.getfield 48, 3) := by decide +kernel
theorem dX5_planCuts_77 : decode cX5_planCuts 77 = .ok (.iconst 2, 1) := by decide +kernel
theorem dX5_planCuts_78 : decode cX5_planCuts 78 = .ok (.iaload, 1) := by decide +kernel
theorem dX5_planCuts_79 : decode cX5_planCuts 79 = .ok (.invokestatic 108, 3) := by decide +kernel
theorem dX5_planCuts_82 : decode cX5_planCuts 82 = .ok (.iaload, 1) := by decide +kernel
theorem dX5_planCuts_83 : decode cX5_planCuts 83 = .ok (.istore 5, 2) := by decide +kernel
theorem dX5_planCuts_85 : decode cX5_planCuts 85 = .ok (.iload 5, 2) := by decide +kernel
theorem dX5_planCuts_87 : decode cX5_planCuts 87 = .ok (.iconst (-1), 1) := by decide +kernel
theorem dX5_planCuts_88 : decode cX5_planCuts 88 = .ok (.if_icmp .ne 6, 3) := by decide +kernel
theorem dX5_planCuts_91 : decode cX5_planCuts 91 = .ok (.bipush (-2), 2) := by decide +kernel
theorem dX5_planCuts_93 : decode cX5_planCuts 93 = .ok (.ireturn, 1) := by decide +kernel
theorem dX5_planCuts_94 : decode cX5_planCuts 94 = .ok (.aload_n 0, 1) := by decide +kernel
theorem dX5_planCuts_95 : decode cX5_planCuts 95 = .ok (.iload 4, 2) := by decide +kernel
theorem dX5_planCuts_97 : decode cX5_planCuts 97 = .ok (.iload_n 1, 1) := by decide +kernel
theorem dX5_planCuts_98 : decode cX5_planCuts 98 = .ok (.iload_n 2, 1) := by decide +kernel
theorem dX5_planCuts_99 : decode cX5_planCuts 99 = .ok (.invokevirtual 111, 3) := by decide +kernel
theorem dX5_planCuts_102 : decode cX5_planCuts 102 = .ok (.iload 5, 2) := by decide +kernel
theorem dX5_planCuts_104 : decode cX5_planCuts 104 = .ok (.ireturn, 1) := by decide +kernel
theorem dX5_state_0 : decode cX5_state 0 = .ok (.iload_n 0, 1) := by decide +kernel
theorem dX5_state_1 : decode cX5_state 1 = .ok (.iload_n 1, 1) := by decide +kernel
theorem dX5_state_2 : decode cX5_state 2 = .ok (.iadd, 1) := by decide +kernel
theorem dX5_state_3 : decode cX5_state 3 = .ok (.istore_n 3, 1) := by decide +kernel
theorem dX5_state_4 : decode cX5_state 4 = .ok (.iload_n 3, 1) := by decide +kernel
theorem dX5_state_5 : decode cX5_state 5 = .ok (.iload_n 2, 1) := by decide +kernel
theorem dX5_state_6 : decode cX5_state 6 = .ok (.iadd, 1) := by decide +kernel
theorem dX5_state_7 : decode cX5_state 7 = .ok (.istore 4, 2) := by decide +kernel
theorem dX5_state_9 : decode cX5_state 9 = .ok (.iload 4, 2) := by decide +kernel
theorem dX5_state_11 : decode cX5_state 11 = .ok (.iload 4, 2) := by decide +kernel
theorem dX5_state_13 : decode cX5_state 13 = .ok (.iconst 1, 1) := by decide +kernel
theorem dX5_state_14 : decode cX5_state 14 = .ok (.iadd, 1) := by decide +kernel
theorem dX5_state_15 : decode cX5_state 15 = .ok (.imul, 1) := by decide +kernel
theorem dX5_state_16 : decode cX5_state 16 = .ok (.iload 4, 2) := by decide +kernel
theorem dX5_state_18 : decode cX5_state 18 = .ok (.iconst 2, 1) := by decide +kernel
theorem dX5_state_19 : decode cX5_state 19 = .ok (.iadd, 1) := by decide +kernel
theorem dX5_state_20 : decode cX5_state 20 = .ok (.imul, 1) := by decide +kernel
theorem dX5_state_21 : decode cX5_state 21 = .ok (.bipush 6, 2) := by decide +kernel
theorem dX5_state_23 : decode cX5_state 23 = .ok (.idiv, 1) := by decide +kernel
theorem dX5_state_24 : decode cX5_state 24 = .ok (.iload_n 3, 1) := by decide +kernel
theorem dX5_state_25 : decode cX5_state 25 = .ok (.iload_n 3, 1) := by decide +kernel
theorem dX5_state_26 : decode cX5_state 26 = .ok (.iconst 1, 1) := by decide +kernel
theorem dX5_state_27 : decode cX5_state 27 = .ok (.iadd, 1) := by decide +kernel
theorem dX5_state_28 : decode cX5_state 28 = .ok (.imul, 1) := by decide +kernel
theorem dX5_state_29 : decode cX5_state 29 = .ok (.iconst 2, 1) := by decide +kernel
theorem dX5_state_30 : decode cX5_state 30 = .ok (.idiv, 1) := by decide +kernel
theorem dX5_state_31 : decode cX5_state 31 = .ok (.iadd, 1) := by decide +kernel
theorem dX5_state_32 : decode cX5_state 32 = .ok (.iload_n 0, 1) := by decide +kernel
theorem dX5_state_33 : decode cX5_state 33 = .ok (.iadd, 1) := by decide +kernel
theorem dX5_state_34 : decode cX5_state 34 = .ok (.ireturn, 1) := by decide +kernel
theorem dX5_weighPeriod_0 : decode cX5_weighPeriod 0 = .ok (.iconst 0, 1) := by decide +kernel
theorem dX5_weighPeriod_1 : decode cX5_weighPeriod 1 = .ok (.istore 6, 2) := by decide +kernel
theorem dX5_weighPeriod_3 : decode cX5_weighPeriod 3 = .ok (.iload 6, 2) := by decide +kernel
theorem dX5_weighPeriod_5 : decode cX5_weighPeriod 5 = .ok (.iload_n 2, 1) := by decide +kernel
theorem dX5_weighPeriod_6 : decode cX5_weighPeriod 6 = .ok (.if_icmp .gt 135, 3) := by decide +kernel
theorem dX5_weighPeriod_9 : decode cX5_weighPeriod 9 = .ok (.iconst 0, 1) := by decide +kernel
theorem dX5_weighPeriod_10 : decode cX5_weighPeriod 10 = .ok (.istore 7, 2) := by decide +kernel
theorem dX5_weighPeriod_12 : decode cX5_weighPeriod 12 = .ok (.iload 6, 2) := by decide +kernel
theorem dX5_weighPeriod_14 : decode cX5_weighPeriod 14 = .ok (.iload 7, 2) := by decide +kernel
theorem dX5_weighPeriod_16 : decode cX5_weighPeriod 16 = .ok (.iadd, 1) := by decide +kernel
theorem dX5_weighPeriod_17 : decode cX5_weighPeriod 17 = .ok (.iload_n 2, 1) := by decide +kernel
theorem dX5_weighPeriod_18 : decode cX5_weighPeriod 18 = .ok (.if_icmp .gt 117, 3) := by decide +kernel
theorem dX5_weighPeriod_21 : decode cX5_weighPeriod 21 = .ok (.iconst 0, 1) := by decide +kernel
theorem dX5_weighPeriod_22 : decode cX5_weighPeriod 22 = .ok (.istore 8, 2) := by decide +kernel
theorem dX5_weighPeriod_24 : decode cX5_weighPeriod 24 = .ok (.iload 6, 2) := by decide +kernel
theorem dX5_weighPeriod_26 : decode cX5_weighPeriod 26 = .ok (.iload 7, 2) := by decide +kernel
theorem dX5_weighPeriod_28 : decode cX5_weighPeriod 28 = .ok (.iadd, 1) := by decide +kernel
theorem dX5_weighPeriod_29 : decode cX5_weighPeriod 29 = .ok (.iload 8, 2) := by decide +kernel
theorem dX5_weighPeriod_31 : decode cX5_weighPeriod 31 = .ok (.iadd, 1) := by decide +kernel
theorem dX5_weighPeriod_32 : decode cX5_weighPeriod 32 = .ok (.iload_n 2, 1) := by decide +kernel
theorem dX5_weighPeriod_33 : decode cX5_weighPeriod 33 = .ok (.if_icmp .gt 96, 3) := by decide +kernel
theorem dX5_weighPeriod_36 : decode cX5_weighPeriod 36 = .ok (.iload 6, 2) := by decide +kernel
theorem dX5_weighPeriod_38 : decode cX5_weighPeriod 38 = .ok (.iload 7, 2) := by decide +kernel
theorem dX5_weighPeriod_40 : decode cX5_weighPeriod 40 = .ok (.iload 8, 2) := by decide +kernel
theorem dX5_weighPeriod_42 : decode cX5_weighPeriod 42 = .ok (.invokestatic 108, 3) := by decide +kernel
theorem dX5_weighPeriod_45 : decode cX5_weighPeriod 45 = .ok (.istore 9, 2) := by decide +kernel
theorem dX5_weighPeriod_47 : decode cX5_weighPeriod 47 = .ok (.iload_n 1, 1) := by decide +kernel
theorem dX5_weighPeriod_48 : decode cX5_weighPeriod 48 = .ok (.bipush 8, 2) := by decide +kernel
theorem dX5_weighPeriod_50 : decode cX5_weighPeriod 50 = .ok (.if_icmp .ne 35, 3) := by decide +kernel
theorem dX5_weighPeriod_53 : decode cX5_weighPeriod 53 = .ok (.aload_n 0, 1) := by decide +kernel
theorem dX5_weighPeriod_54 : decode cX5_weighPeriod 54 = .ok (.getfield 51, 3) := by decide +kernel
theorem dX5_weighPeriod_57 : decode cX5_weighPeriod 57 = .ok (.iload_n 1, 1) := by decide +kernel
theorem dX5_weighPeriod_58 : decode cX5_weighPeriod 58 = .ok (.aaload, 1) := by decide +kernel
theorem dX5_weighPeriod_59 : decode cX5_weighPeriod 59 = .ok (.iload 9, 2) := by decide +kernel
theorem dX5_weighPeriod_61 : decode cX5_weighPeriod 61 = .ok (.iload_n 2, 1) := by decide +kernel
theorem dX5_weighPeriod_62 : decode cX5_weighPeriod 62 = .ok (.iload 6, 2) := by decide +kernel
theorem dX5_weighPeriod_64 : decode cX5_weighPeriod 64 = .ok (.isub, 1) := by decide +kernel
theorem dX5_weighPeriod_65 : decode cX5_weighPeriod 65 = .ok (.iload 7, 2) := by decide +kernel
theorem dX5_weighPeriod_67 : decode cX5_weighPeriod 67 = .ok (.isub, 1) := by decide +kernel
theorem dX5_weighPeriod_68 : decode cX5_weighPeriod 68 = .ok (.iload 8, 2) := by decide +kernel
theorem dX5_weighPeriod_70 : decode cX5_weighPeriod 70 = .ok (.isub, 1) := by decide +kernel
theorem dX5_weighPeriod_71 : decode cX5_weighPeriod 71 = .ok (.iload 5, 2) := by decide +kernel
theorem dX5_weighPeriod_73 : decode cX5_weighPeriod 73 = .ok (.if_icmp .lt 7, 3) := by decide +kernel
theorem dX5_weighPeriod_76 : decode cX5_weighPeriod 76 = .ok (.iconst 0, 1) := by decide +kernel
theorem dX5_weighPeriod_77 : decode cX5_weighPeriod 77 = .ok (.goto 4, 3) := by decide +kernel
theorem dX5_weighPeriod_80 : decode cX5_weighPeriod 80 = .ok (.iconst (-1), 1) := by decide +kernel
theorem dX5_weighPeriod_81 : decode cX5_weighPeriod 81 = .ok (.iastore, 1) := by decide +kernel
theorem dX5_weighPeriod_82 : decode cX5_weighPeriod 82 = .ok (.goto 41, 3) := by decide +kernel
theorem dX5_weighPeriod_85 : decode cX5_weighPeriod 85 = .ok (.aload_n 0, 1) := by decide +kernel
theorem dX5_weighPeriod_86 : decode cX5_weighPeriod 86 = .ok (.iload_n 1, 1) := by decide +kernel
theorem dX5_weighPeriod_87 : decode cX5_weighPeriod 87 = .ok (.iload 6, 2) := by decide +kernel
theorem dX5_weighPeriod_89 : decode cX5_weighPeriod 89 = .ok (.iload 7, 2) := by decide +kernel
theorem dX5_weighPeriod_91 : decode cX5_weighPeriod 91 = .ok (.iload 8, 2) := by decide +kernel
theorem dX5_weighPeriod_93 : decode cX5_weighPeriod 93 = .ok (.invokevirtual 114, 3) := by decide +kernel
theorem dX5_weighPeriod_96 : decode cX5_weighPeriod 96 = .ok (.ifCond .eq 27, 3) := by decide +kernel
theorem dX5_weighPeriod_99 : decode cX5_weighPeriod 99 = .ok (.aload_n 0, 1) := by decide +kernel
theorem dX5_weighPeriod_100 : decode cX5_weighPeriod 100 = .ok (.getfield 51, 3) := by decide +kernel
theorem dX5_weighPeriod_103 : decode cX5_weighPeriod 103 = .ok (.iload_n 1, 1) := by decide +kernel
theorem dX5_weighPeriod_104 : decode cX5_weighPeriod 104 = .ok (.aaload, 1) := by decide +kernel
theorem dX5_weighPeriod_105 : decode cX5_weighPeriod 105 = .ok (.iload 9, 2) := by decide +kernel
theorem dX5_weighPeriod_107 : decode cX5_weighPeriod 107 = .ok (.aload_n 0, 1) := by decide +kernel
theorem dX5_weighPeriod_108 : decode cX5_weighPeriod 108 = .ok (.iload_n 1, 1) := by decide +kernel
theorem dX5_weighPeriod_109 : decode cX5_weighPeriod 109 = .ok (.iload 6, 2) := by decide +kernel
theorem dX5_weighPeriod_111 : decode cX5_weighPeriod 111 = .ok (.iload 7, 2) := by decide +kernel
theorem dX5_weighPeriod_113 : decode cX5_weighPeriod 113 = .ok (.iload 8, 2) := by decide +kernel
theorem dX5_weighPeriod_115 : decode cX5_weighPeriod 115 = .ok (.iload_n 2, 1) := by decide +kernel
theorem dX5_weighPeriod_116 : decode cX5_weighPeriod 116 = .ok (.iload_n 3, 1) := by decide +kernel
theorem dX5_weighPeriod_117 : decode cX5_weighPeriod 117 = .ok (.iload 4, 2) := by decide +kernel
theorem dX5_weighPeriod_119 : decode cX5_weighPeriod 119 = .ok (.invokevirtual 118, 3) := by decide +kernel
theorem dX5_weighPeriod_122 : decode cX5_weighPeriod 122 = .ok (.iastore, 1) := by decide +kernel
theorem dX5_weighPeriod_123 : decode cX5_weighPeriod 123 = .ok (.iinc 8 1, 3) := by decide +kernel
theorem dX5_weighPeriod_126 : decode cX5_weighPeriod 126 = .ok (.goto (-102), 3) := by decide +kernel
theorem dX5_weighPeriod_129 : decode cX5_weighPeriod 129 = .ok (.iinc 7 1, 3) := by decide +kernel
theorem dX5_weighPeriod_132 : decode cX5_weighPeriod 132 = .ok (.goto (-120), 3) := by decide +kernel
theorem dX5_weighPeriod_135 : decode cX5_weighPeriod 135 = .ok (.iinc 6 1, 3) := by decide +kernel
theorem dX5_weighPeriod_138 : decode cX5_weighPeriod 138 = .ok (.goto (-135), 3) := by decide +kernel
theorem dX5_weighPeriod_141 : decode cX5_weighPeriod 141 = .ok (.return_, 1) := by decide +kernel
theorem dX5_canBe_0 : decode cX5_canBe 0 = .ok (.iload_n 1, 1) := by decide +kernel
theorem dX5_canBe_1 : decode cX5_canBe 1 = .ok (.iconst 2, 1) := by decide +kernel
theorem dX5_canBe_2 : decode cX5_canBe 2 = .ok (.if_icmp .gt 16, 3) := by decide +kernel
theorem dX5_canBe_5 : decode cX5_canBe 5 = .ok (.iload 4, 2) := by decide +kernel
theorem dX5_canBe_7 : decode cX5_canBe 7 = .ok (.aload_n 0, 1) := by decide +kernel
theorem dX5_canBe_8 : decode cX5_canBe 8 = .ok (.getfield 48, 3) := by decide +kernel
theorem dX5_canBe_11 : decode cX5_canBe 11 = .ok (.iconst 2, 1) := by decide +kernel
theorem dX5_canBe_12 : decode cX5_canBe 12 = .ok (.iload_n 1, 1) := by decide +kernel
theorem dX5_canBe_13 : decode cX5_canBe 13 = .ok (.isub, 1) := by decide +kernel
theorem dX5_canBe_14 : decode cX5_canBe 14 = .ok (.iaload, 1) := by decide +kernel
theorem dX5_canBe_15 : decode cX5_canBe 15 = .ok (.if_icmp .ne 38, 3) := by decide +kernel
theorem dX5_canBe_18 : decode cX5_canBe 18 = .ok (.iload_n 1, 1) := by decide +kernel
theorem dX5_canBe_19 : decode cX5_canBe 19 = .ok (.iconst 1, 1) := by decide +kernel
theorem dX5_canBe_20 : decode cX5_canBe 20 = .ok (.if_icmp .gt 15, 3) := by decide +kernel
theorem dX5_canBe_23 : decode cX5_canBe 23 = .ok (.iload_n 3, 1) := by decide +kernel
theorem dX5_canBe_24 : decode cX5_canBe 24 = .ok (.aload_n 0, 1) := by decide +kernel
theorem dX5_canBe_25 : decode cX5_canBe 25 = .ok (.getfield 48, 3) := by decide +kernel
theorem dX5_canBe_28 : decode cX5_canBe 28 = .ok (.iconst 1, 1) := by decide +kernel
theorem dX5_canBe_29 : decode cX5_canBe 29 = .ok (.iload_n 1, 1) := by decide +kernel
theorem dX5_canBe_30 : decode cX5_canBe 30 = .ok (.isub, 1) := by decide +kernel
theorem dX5_canBe_31 : decode cX5_canBe 31 = .ok (.iaload, 1) := by decide +kernel
theorem dX5_canBe_32 : decode cX5_canBe 32 = .ok (.if_icmp .ne 21, 3) := by decide +kernel
theorem dX5_canBe_35 : decode cX5_canBe 35 = .ok (.iload_n 1, 1) := by decide +kernel
theorem dX5_canBe_36 : decode cX5_canBe 36 = .ok (.ifCond .gt 13, 3) := by decide +kernel
theorem dX5_canBe_39 : decode cX5_canBe 39 = .ok (.iload_n 2, 1) := by decide +kernel
theorem dX5_canBe_40 : decode cX5_canBe 40 = .ok (.aload_n 0, 1) := by decide +kernel
theorem dX5_canBe_41 : decode cX5_canBe 41 = .ok (.getfield 48, 3) := by decide +kernel
theorem dX5_canBe_44 : decode cX5_canBe 44 = .ok (.iconst 0, 1) := by decide +kernel
theorem dX5_canBe_45 : decode cX5_canBe 45 = .ok (.iaload, 1) := by decide +kernel
theorem dX5_canBe_46 : decode cX5_canBe 46 = .ok (.if_icmp .ne 7, 3) := by decide +kernel
theorem dX5_canBe_49 : decode cX5_canBe 49 = .ok (.iconst 1, 1) := by decide +kernel
theorem dX5_canBe_50 : decode cX5_canBe 50 = .ok (.goto 4, 3) := by decide +kernel
theorem dX5_canBe_53 : decode cX5_canBe 53 = .ok (.iconst 0, 1) := by decide +kernel
theorem dX5_canBe_54 : decode cX5_canBe 54 = .ok (.ireturn, 1) := by decide +kernel
theorem dX5_bestCut_0 : decode cX5_bestCut 0 = .ok (.iload 5, 2) := by decide +kernel
theorem dX5_bestCut_2 : decode cX5_bestCut 2 = .ok (.iload_n 2, 1) := by decide +kernel
theorem dX5_bestCut_3 : decode cX5_bestCut 3 = .ok (.isub, 1) := by decide +kernel
theorem dX5_bestCut_4 : decode cX5_bestCut 4 = .ok (.iload_n 3, 1) := by decide +kernel
theorem dX5_bestCut_5 : decode cX5_bestCut 5 = .ok (.isub, 1) := by decide +kernel
theorem dX5_bestCut_6 : decode cX5_bestCut 6 = .ok (.iload 4, 2) := by decide +kernel
theorem dX5_bestCut_8 : decode cX5_bestCut 8 = .ok (.isub, 1) := by decide +kernel
theorem dX5_bestCut_9 : decode cX5_bestCut 9 = .ok (.istore 8, 2) := by decide +kernel
theorem dX5_bestCut_11 : decode cX5_bestCut 11 = .ok (.iconst (-1), 1) := by decide +kernel
theorem dX5_bestCut_12 : decode cX5_bestCut 12 = .ok (.istore 9, 2) := by decide +kernel
theorem dX5_bestCut_14 : decode cX5_bestCut 14 = .ok (.iconst 0, 1) := by decide +kernel
theorem dX5_bestCut_15 : decode cX5_bestCut 15 = .ok (.istore 10, 2) := by decide +kernel
theorem dX5_bestCut_17 : decode cX5_bestCut 17 = .ok (.iload 10, 2) := by decide +kernel
theorem dX5_bestCut_19 : decode cX5_bestCut 19 = .ok (.iload 8, 2) := by decide +kernel
theorem dX5_bestCut_21 : decode cX5_bestCut 21 = .ok (.if_icmp .gt 113, 3) := by decide +kernel
theorem dX5_bestCut_24 : decode cX5_bestCut 24 = .ok (.iconst 5, 1) := by decide +kernel
theorem dX5_bestCut_25 : decode cX5_bestCut 25 = .ok (.iload 10, 2) := by decide +kernel
theorem dX5_bestCut_27 : decode cX5_bestCut 27 = .ok (.imul, 1) := by decide +kernel
theorem dX5_bestCut_28 : decode cX5_bestCut 28 = .ok (.iload 7, 2) := by decide +kernel
theorem dX5_bestCut_30 : decode cX5_bestCut 30 = .ok (.if_icmp .gt 104, 3) := by decide +kernel
theorem dX5_bestCut_33 : decode cX5_bestCut 33 = .ok (.iconst 0, 1) := by decide +kernel
theorem dX5_bestCut_34 : decode cX5_bestCut 34 = .ok (.istore 11, 2) := by decide +kernel
theorem dX5_bestCut_36 : decode cX5_bestCut 36 = .ok (.iload 11, 2) := by decide +kernel
theorem dX5_bestCut_38 : decode cX5_bestCut 38 = .ok (.iload 4, 2) := by decide +kernel
theorem dX5_bestCut_40 : decode cX5_bestCut 40 = .ok (.if_icmp .gt 88, 3) := by decide +kernel
theorem dX5_bestCut_43 : decode cX5_bestCut 43 = .ok (.iconst 5, 1) := by decide +kernel
theorem dX5_bestCut_44 : decode cX5_bestCut 44 = .ok (.iload 10, 2) := by decide +kernel
theorem dX5_bestCut_46 : decode cX5_bestCut 46 = .ok (.imul, 1) := by decide +kernel
theorem dX5_bestCut_47 : decode cX5_bestCut 47 = .ok (.iconst 2, 1) := by decide +kernel
theorem dX5_bestCut_48 : decode cX5_bestCut 48 = .ok (.iload 11, 2) := by decide +kernel
theorem dX5_bestCut_50 : decode cX5_bestCut 50 = .ok (.imul, 1) := by decide +kernel
theorem dX5_bestCut_51 : decode cX5_bestCut 51 = .ok (.iadd, 1) := by decide +kernel
theorem dX5_bestCut_52 : decode cX5_bestCut 52 = .ok (.istore 12, 2) := by decide +kernel
theorem dX5_bestCut_54 : decode cX5_bestCut 54 = .ok (.aload_n 0, 1) := by decide +kernel
theorem dX5_bestCut_55 : decode cX5_bestCut 55 = .ok (.getfield 51, 3) := by decide +kernel
theorem dX5_bestCut_58 : decode cX5_bestCut 58 = .ok (.iload_n 1, 1) := by decide +kernel
theorem dX5_bestCut_59 : decode cX5_bestCut 59 = .ok (.iconst 1, 1) := by decide +kernel
theorem dX5_bestCut_60 : decode cX5_bestCut 60 = .ok (.iadd, 1) := by decide +kernel
theorem dX5_bestCut_61 : decode cX5_bestCut 61 = .ok (.aaload, 1) := by decide +kernel
theorem dX5_bestCut_62 : decode cX5_bestCut 62 = .ok (.iload 10, 2) := by decide +kernel
theorem dX5_bestCut_64 : decode cX5_bestCut 64 = .ok (.iload 11, 2) := by decide +kernel
theorem dX5_bestCut_66 : decode cX5_bestCut 66 = .ok (.iadd, 1) := by decide +kernel
theorem dX5_bestCut_67 : decode cX5_bestCut 67 = .ok (.iload_n 2, 1) := by decide +kernel
theorem dX5_bestCut_68 : decode cX5_bestCut 68 = .ok (.iload_n 3, 1) := by decide +kernel
theorem dX5_bestCut_69 : decode cX5_bestCut 69 = .ok (.invokestatic 108, 3) := by decide +kernel
theorem dX5_bestCut_72 : decode cX5_bestCut 72 = .ok (.iaload, 1) := by decide +kernel
theorem dX5_bestCut_73 : decode cX5_bestCut 73 = .ok (.istore 13, 2) := by decide +kernel
theorem dX5_bestCut_75 : decode cX5_bestCut 75 = .ok (.iload 12, 2) := by decide +kernel
theorem dX5_bestCut_77 : decode cX5_bestCut 77 = .ok (.iload 6, 2) := by decide +kernel
theorem dX5_bestCut_79 : decode cX5_bestCut 79 = .ok (.iload 7, 2) := by decide +kernel
theorem dX5_bestCut_81 : decode cX5_bestCut 81 = .ok (.invokestatic 122, 3) := by decide +kernel
theorem dX5_bestCut_84 : decode cX5_bestCut 84 = .ok (.ifCond .eq 38, 3) := by decide +kernel
theorem dX5_bestCut_87 : decode cX5_bestCut 87 = .ok (.iload 13, 2) := by decide +kernel
theorem dX5_bestCut_89 : decode cX5_bestCut 89 = .ok (.iconst (-1), 1) := by decide +kernel
theorem dX5_bestCut_90 : decode cX5_bestCut 90 = .ok (.if_icmp .eq 32, 3) := by decide +kernel
theorem dX5_bestCut_93 : decode cX5_bestCut 93 = .ok (.iload 12, 2) := by decide +kernel
theorem dX5_bestCut_95 : decode cX5_bestCut 95 = .ok (.iload 13, 2) := by decide +kernel
theorem dX5_bestCut_97 : decode cX5_bestCut 97 = .ok (.iadd, 1) := by decide +kernel
theorem dX5_bestCut_98 : decode cX5_bestCut 98 = .ok (.iload 9, 2) := by decide +kernel
theorem dX5_bestCut_100 : decode cX5_bestCut 100 = .ok (.if_icmp .le 22, 3) := by decide +kernel
theorem dX5_bestCut_103 : decode cX5_bestCut 103 = .ok (.iload 12, 2) := by decide +kernel
theorem dX5_bestCut_105 : decode cX5_bestCut 105 = .ok (.iload 13, 2) := by decide +kernel
theorem dX5_bestCut_107 : decode cX5_bestCut 107 = .ok (.iadd, 1) := by decide +kernel
theorem dX5_bestCut_108 : decode cX5_bestCut 108 = .ok (.istore 9, 2) := by decide +kernel
theorem dX5_bestCut_110 : decode cX5_bestCut 110 = .ok (.aload_n 0, 1) := by decide +kernel
theorem dX5_bestCut_111 : decode cX5_bestCut 111 = .ok (.iload 10, 2) := by decide +kernel
theorem dX5_bestCut_113 : decode cX5_bestCut 113 = .ok (.putfield 54, 3) := by decide +kernel
theorem dX5_bestCut_116 : decode cX5_bestCut 116 = .ok (.aload_n 0, 1) := by decide +kernel
theorem dX5_bestCut_117 : decode cX5_bestCut 117 = .ok (.iload 11, 2) := by decide +kernel
theorem dX5_bestCut_119 : decode cX5_bestCut 119 = .ok (.putfield 57, 3) := by decide +kernel
theorem dX5_bestCut_122 : decode cX5_bestCut 122 = .ok (.iinc 11 1, 3) := by decide +kernel
theorem dX5_bestCut_125 : decode cX5_bestCut 125 = .ok (.goto (-89), 3) := by decide +kernel
theorem dX5_bestCut_128 : decode cX5_bestCut 128 = .ok (.iinc 10 1, 3) := by decide +kernel
theorem dX5_bestCut_131 : decode cX5_bestCut 131 = .ok (.goto (-114), 3) := by decide +kernel
theorem dX5_bestCut_134 : decode cX5_bestCut 134 = .ok (.iload 9, 2) := by decide +kernel
theorem dX5_bestCut_136 : decode cX5_bestCut 136 = .ok (.ireturn, 1) := by decide +kernel
theorem dX5_keepCuts_0 : decode cX5_keepCuts 0 = .ok (.aload_n 0, 1) := by decide +kernel
theorem dX5_keepCuts_1 : decode cX5_keepCuts 1 = .ok (.getfield 48, 3) := by decide +kernel
theorem dX5_keepCuts_4 : decode cX5_keepCuts 4 = .ok (.iconst 0, 1) := by decide +kernel
theorem dX5_keepCuts_5 : decode cX5_keepCuts 5 = .ok (.iaload, 1) := by decide +kernel
theorem dX5_keepCuts_6 : decode cX5_keepCuts 6 = .ok (.istore 4, 2) := by decide +kernel
theorem dX5_keepCuts_8 : decode cX5_keepCuts 8 = .ok (.aload_n 0, 1) := by decide +kernel
theorem dX5_keepCuts_9 : decode cX5_keepCuts 9 = .ok (.getfield 48, 3) := by decide +kernel
theorem dX5_keepCuts_12 : decode cX5_keepCuts 12 = .ok (.iconst 1, 1) := by decide +kernel
theorem dX5_keepCuts_13 : decode cX5_keepCuts 13 = .ok (.iaload, 1) := by decide +kernel
theorem dX5_keepCuts_14 : decode cX5_keepCuts 14 = .ok (.istore 5, 2) := by decide +kernel
theorem dX5_keepCuts_16 : decode cX5_keepCuts 16 = .ok (.aload_n 0, 1) := by decide +kernel
theorem dX5_keepCuts_17 : decode cX5_keepCuts 17 = .ok (.getfield 48, 3) := by decide +kernel
theorem dX5_keepCuts_20 : decode cX5_keepCuts 20 = .ok (.iconst 2, 1) := by decide +kernel
theorem dX5_keepCuts_21 : decode cX5_keepCuts 21 = .ok (.iaload, 1) := by decide +kernel
theorem dX5_keepCuts_22 : decode cX5_keepCuts 22 = .ok (.istore 6, 2) := by decide +kernel
theorem dX5_keepCuts_24 : decode cX5_keepCuts 24 = .ok (.iconst 0, 1) := by decide +kernel
theorem dX5_keepCuts_25 : decode cX5_keepCuts 25 = .ok (.istore 7, 2) := by decide +kernel
theorem dX5_keepCuts_27 : decode cX5_keepCuts 27 = .ok (.iload 7, 2) := by decide +kernel
theorem dX5_keepCuts_29 : decode cX5_keepCuts 29 = .ok (.bipush 8, 2) := by decide +kernel
theorem dX5_keepCuts_31 : decode cX5_keepCuts 31 = .ok (.if_icmp .ge 72, 3) := by decide +kernel
theorem dX5_keepCuts_34 : decode cX5_keepCuts 34 = .ok (.aload_n 0, 1) := by decide +kernel
theorem dX5_keepCuts_35 : decode cX5_keepCuts 35 = .ok (.iload 7, 2) := by decide +kernel
theorem dX5_keepCuts_37 : decode cX5_keepCuts 37 = .ok (.iload 4, 2) := by decide +kernel
theorem dX5_keepCuts_39 : decode cX5_keepCuts 39 = .ok (.iload 5, 2) := by decide +kernel
theorem dX5_keepCuts_41 : decode cX5_keepCuts 41 = .ok (.iload 6, 2) := by decide +kernel
theorem dX5_keepCuts_43 : decode cX5_keepCuts 43 = .ok (.iload_n 1, 1) := by decide +kernel
theorem dX5_keepCuts_44 : decode cX5_keepCuts 44 = .ok (.iload_n 2, 1) := by decide +kernel
theorem dX5_keepCuts_45 : decode cX5_keepCuts 45 = .ok (.iload_n 3, 1) := by decide +kernel
theorem dX5_keepCuts_46 : decode cX5_keepCuts 46 = .ok (.invokevirtual 118, 3) := by decide +kernel
theorem dX5_keepCuts_49 : decode cX5_keepCuts 49 = .ok (.pop, 1) := by decide +kernel
theorem dX5_keepCuts_50 : decode cX5_keepCuts 50 = .ok (.aload_n 0, 1) := by decide +kernel
theorem dX5_keepCuts_51 : decode cX5_keepCuts 51 = .ok (.getfield 60, 3) := by decide +kernel
theorem dX5_keepCuts_54 : decode cX5_keepCuts 54 = .ok (.iconst 2, 1) := by decide +kernel
theorem dX5_keepCuts_55 : decode cX5_keepCuts 55 = .ok (.iload 7, 2) := by decide +kernel
theorem dX5_keepCuts_57 : decode cX5_keepCuts 57 = .ok (.imul, 1) := by decide +kernel
theorem dX5_keepCuts_58 : decode cX5_keepCuts 58 = .ok (.aload_n 0, 1) := by decide +kernel
theorem dX5_keepCuts_59 : decode cX5_keepCuts 59 = .ok (.getfield 54, 3) := by decide +kernel
theorem dX5_keepCuts_62 : decode cX5_keepCuts 62 = .ok (.iastore, 1) := by decide +kernel
theorem dX5_keepCuts_63 : decode cX5_keepCuts 63 = .ok (.aload_n 0, 1) := by decide +kernel
theorem dX5_keepCuts_64 : decode cX5_keepCuts 64 = .ok (.getfield 60, 3) := by decide +kernel
theorem dX5_keepCuts_67 : decode cX5_keepCuts 67 = .ok (.iconst 2, 1) := by decide +kernel
theorem dX5_keepCuts_68 : decode cX5_keepCuts 68 = .ok (.iload 7, 2) := by decide +kernel
theorem dX5_keepCuts_70 : decode cX5_keepCuts 70 = .ok (.imul, 1) := by decide +kernel
theorem dX5_keepCuts_71 : decode cX5_keepCuts 71 = .ok (.iconst 1, 1) := by decide +kernel
theorem dX5_keepCuts_72 : decode cX5_keepCuts 72 = .ok (.iadd, 1) := by decide +kernel
theorem dX5_keepCuts_73 : decode cX5_keepCuts 73 = .ok (.aload_n 0, 1) := by decide +kernel
theorem dX5_keepCuts_74 : decode cX5_keepCuts 74 = .ok (.getfield 57, 3) := by decide +kernel
theorem dX5_keepCuts_77 : decode cX5_keepCuts 77 = .ok (.iastore, 1) := by decide +kernel
theorem dX5_keepCuts_78 : decode cX5_keepCuts 78 = .ok (.iload 5, 2) := by decide +kernel
theorem dX5_keepCuts_80 : decode cX5_keepCuts 80 = .ok (.istore 6, 2) := by decide +kernel
theorem dX5_keepCuts_82 : decode cX5_keepCuts 82 = .ok (.iload 4, 2) := by decide +kernel
theorem dX5_keepCuts_84 : decode cX5_keepCuts 84 = .ok (.istore 5, 2) := by decide +kernel
theorem dX5_keepCuts_86 : decode cX5_keepCuts 86 = .ok (.aload_n 0, 1) := by decide +kernel
theorem dX5_keepCuts_87 : decode cX5_keepCuts 87 = .ok (.getfield 54, 3) := by decide +kernel
theorem dX5_keepCuts_90 : decode cX5_keepCuts 90 = .ok (.aload_n 0, 1) := by decide +kernel
theorem dX5_keepCuts_91 : decode cX5_keepCuts 91 = .ok (.getfield 57, 3) := by decide +kernel
theorem dX5_keepCuts_94 : decode cX5_keepCuts 94 = .ok (.iadd, 1) := by decide +kernel
theorem dX5_keepCuts_95 : decode cX5_keepCuts 95 = .ok (.istore 4, 2) := by decide +kernel
theorem dX5_keepCuts_97 : decode cX5_keepCuts 97 = .ok (.iinc 7 1, 3) := by decide +kernel
theorem dX5_keepCuts_100 : decode cX5_keepCuts 100 = .ok (.goto (-73), 3) := by decide +kernel
theorem dX5_keepCuts_103 : decode cX5_keepCuts 103 = .ok (.aload_n 0, 1) := by decide +kernel
theorem dX5_keepCuts_104 : decode cX5_keepCuts 104 = .ok (.iconst 1, 1) := by decide +kernel
theorem dX5_keepCuts_105 : decode cX5_keepCuts 105 = .ok (.putfield 63, 3) := by decide +kernel
theorem dX5_keepCuts_108 : decode cX5_keepCuts 108 = .ok (.return_, 1) := by decide +kernel
theorem dX6_init_0 : decode cX6_init 0 = .ok (.aload_n 0, 1) := by decide +kernel
theorem dX6_init_1 : decode cX6_init 1 = .ok (.invokespecial 3, 3) := by decide +kernel
theorem dX6_init_4 : decode cX6_init 4 = .ok (.aload_n 0, 1) := by decide +kernel
theorem dX6_init_5 : decode cX6_init 5 = .ok (.bipush 30, 2) := by decide +kernel
theorem dX6_init_7 : decode cX6_init 7 = .ok (.newarray .int, 2) := by decide +kernel
theorem dX6_init_9 : decode cX6_init 9 = .ok (.putfield 11, 3) := by decide +kernel
theorem dX6_init_12 : decode cX6_init 12 = .ok (.aload_n 0, 1) := by decide +kernel
theorem dX6_init_13 : decode cX6_init 13 = .ok (.bipush 30, 2) := by decide +kernel
theorem dX6_init_15 : decode cX6_init 15 = .ok (.newarray .int, 2) := by decide +kernel
theorem dX6_init_17 : decode cX6_init 17 = .ok (.putfield 15, 3) := by decide +kernel
theorem dX6_init_20 : decode cX6_init 20 = .ok (.aload_n 0, 1) := by decide +kernel
theorem dX6_init_21 : decode cX6_init 21 = .ok (.bipush 30, 2) := by decide +kernel
theorem dX6_init_23 : decode cX6_init 23 = .ok (.newarray .int, 2) := by decide +kernel
theorem dX6_init_25 : decode cX6_init 25 = .ok (.putfield 18, 3) := by decide +kernel
theorem dX6_init_28 : decode cX6_init 28 = .ok (.aload_n 0, 1) := by decide +kernel
theorem dX6_init_29 : decode cX6_init 29 = .ok (.bipush 30, 2) := by decide +kernel
theorem dX6_init_31 : decode cX6_init 31 = .ok (.newarray .int, 2) := by decide +kernel
theorem dX6_init_33 : decode cX6_init 33 = .ok (.putfield 21, 3) := by decide +kernel
theorem dX6_init_36 : decode cX6_init 36 = .ok (.aload_n 0, 1) := by decide +kernel
theorem dX6_init_37 : decode cX6_init 37 = .ok (.bipush 30, 2) := by decide +kernel
theorem dX6_init_39 : decode cX6_init 39 = .ok (.newarray .int, 2) := by decide +kernel
theorem dX6_init_41 : decode cX6_init 41 = .ok (.putfield 24, 3) := by decide +kernel
theorem dX6_init_44 : decode cX6_init 44 = .ok (.aload_n 0, 1) := by decide +kernel
theorem dX6_init_45 : decode cX6_init 45 = .ok (.bipush 30, 2) := by decide +kernel
theorem dX6_init_47 : decode cX6_init 47 = .ok (.newarray .int, 2) := by decide +kernel
theorem dX6_init_49 : decode cX6_init 49 = .ok (.putfield 27, 3) := by decide +kernel
theorem dX6_init_52 : decode cX6_init 52 = .ok (.aload_n 0, 1) := by decide +kernel
theorem dX6_init_53 : decode cX6_init 53 = .ok (.iconst 0, 1) := by decide +kernel
theorem dX6_init_54 : decode cX6_init 54 = .ok (.putfield 30, 3) := by decide +kernel
theorem dX6_init_57 : decode cX6_init 57 = .ok (.aload_n 0, 1) := by decide +kernel
theorem dX6_init_58 : decode cX6_init 58 = .ok (.iconst 0, 1) := by decide +kernel
theorem dX6_init_59 : decode cX6_init 59 = .ok (.putfield 34, 3) := by decide +kernel
theorem dX6_init_62 : decode cX6_init 62 = .ok (.aload_n 0, 1) := by decide +kernel
theorem dX6_init_63 : decode cX6_init 63 = .ok (.bipush 35, 2) := by decide +kernel
theorem dX6_init_65 : decode cX6_init 65 = .ok (.newarray .int, 2) := by decide +kernel
theorem dX6_init_67 : decode cX6_init 67 = .ok (.putfield 37, 3) := by decide +kernel
theorem dX6_init_70 : decode cX6_init 70 = .ok (.aload_n 0, 1) := by decide +kernel
theorem dX6_init_71 : decode cX6_init 71 = .ok (.bipush 35, 2) := by decide +kernel
theorem dX6_init_73 : decode cX6_init 73 = .ok (.newarray .int, 2) := by decide +kernel
theorem dX6_init_75 : decode cX6_init 75 = .ok (.putfield 40, 3) := by decide +kernel
theorem dX6_init_78 : decode cX6_init 78 = .ok (.aload_n 0, 1) := by decide +kernel
theorem dX6_init_79 : decode cX6_init 79 = .ok (.bipush 35, 2) := by decide +kernel
theorem dX6_init_81 : decode cX6_init 81 = .ok (.newarray .int, 2) := by decide +kernel
theorem dX6_init_83 : decode cX6_init 83 = .ok (.putfield 43, 3) := by decide +kernel
theorem dX6_init_86 : decode cX6_init 86 = .ok (.return_, 1) := by decide +kernel
theorem dX6_add_0 : decode cX6_add 0 = .ok (.aload_n 0, 1) := by decide +kernel
theorem dX6_add_1 : decode cX6_add 1 = .ok (.getfield 11, 3) := by decide +kernel
theorem dX6_add_4 : decode cX6_add 4 = .ok (.aload_n 0, 1) := by decide +kernel
theorem dX6_add_5 : decode cX6_add 5 = .ok (.getfield 30, 3) := by decide +kernel
theorem dX6_add_8 : decode cX6_add 8 = .ok (.iload_n 1, 1) := by decide +kernel
theorem dX6_add_9 : decode cX6_add 9 = .ok (.iastore, 1) := by decide +kernel
theorem dX6_add_10 : decode cX6_add 10 = .ok (.aload_n 0, 1) := by decide +kernel
theorem dX6_add_11 : decode cX6_add 11 = .ok (.getfield 15, 3) := by decide +kernel
theorem dX6_add_14 : decode cX6_add 14 = .ok (.aload_n 0, 1) := by decide +kernel
theorem dX6_add_15 : decode cX6_add 15 = .ok (.getfield 30, 3) := by decide +kernel
theorem dX6_add_18 : decode cX6_add 18 = .ok (.iload_n 2, 1) := by decide +kernel
theorem dX6_add_19 : decode cX6_add 19 = .ok (.iastore, 1) := by decide +kernel
theorem dX6_add_20 : decode cX6_add 20 = .ok (.aload_n 0, 1) := by decide +kernel
theorem dX6_add_21 : decode cX6_add 21 = .ok (.getfield 18, 3) := by decide +kernel
theorem dX6_add_24 : decode cX6_add 24 = .ok (.aload_n 0, 1) := by decide +kernel
theorem dX6_add_25 : decode cX6_add 25 = .ok (.getfield 30, 3) := by decide +kernel
theorem dX6_add_28 : decode cX6_add 28 = .ok (.iload_n 3, 1) := by decide +kernel
theorem dX6_add_29 : decode cX6_add 29 = .ok (.iastore, 1) := by decide +kernel
theorem dX6_add_30 : decode cX6_add 30 = .ok (.aload_n 0, 1) := by decide +kernel
theorem dX6_add_31 : decode cX6_add 31 = .ok (.getfield 21, 3) := by decide +kernel
theorem dX6_add_34 : decode cX6_add 34 = .ok (.aload_n 0, 1) := by decide +kernel
theorem dX6_add_35 : decode cX6_add 35 = .ok (.getfield 30, 3) := by decide +kernel
theorem dX6_add_38 : decode cX6_add 38 = .ok (.iload 4, 2) := by decide +kernel
theorem dX6_add_40 : decode cX6_add 40 = .ok (.iastore, 1) := by decide +kernel
theorem dX6_add_41 : decode cX6_add 41 = .ok (.aload_n 0, 1) := by decide +kernel
theorem dX6_add_42 : decode cX6_add 42 = .ok (.getfield 24, 3) := by decide +kernel
theorem dX6_add_45 : decode cX6_add 45 = .ok (.aload_n 0, 1) := by decide +kernel
theorem dX6_add_46 : decode cX6_add 46 = .ok (.getfield 30, 3) := by decide +kernel
theorem dX6_add_49 : decode cX6_add 49 = .ok (.iload 5, 2) := by decide +kernel
theorem dX6_add_51 : decode cX6_add 51 = .ok (.iastore, 1) := by decide +kernel
theorem dX6_add_52 : decode cX6_add 52 = .ok (.aload_n 0, 1) := by decide +kernel
theorem dX6_add_53 : decode cX6_add 53 = .ok (.getfield 27, 3) := by decide +kernel
theorem dX6_add_56 : decode cX6_add 56 = .ok (.aload_n 0, 1) := by decide +kernel
theorem dX6_add_57 : decode cX6_add 57 = .ok (.getfield 30, 3) := by decide +kernel
theorem dX6_add_60 : decode cX6_add 60 = .ok (.iconst (-1), 1) := by decide +kernel
theorem dX6_add_61 : decode cX6_add 61 = .ok (.iastore, 1) := by decide +kernel
theorem dX6_add_62 : decode cX6_add 62 = .ok (.aload_n 0, 1) := by decide +kernel
theorem dX6_add_63 : decode cX6_add 63 = .ok (.dup, 1) := by decide +kernel
theorem dX6_add_64 : decode cX6_add 64 = .ok (.getfield 30, 3) := by decide +kernel
theorem dX6_add_67 : decode cX6_add 67 = .ok (.iconst 1, 1) := by decide +kernel
theorem dX6_add_68 : decode cX6_add 68 = .ok (.iadd, 1) := by decide +kernel
theorem dX6_add_69 : decode cX6_add 69 = .ok (.putfield 30, 3) := by decide +kernel
theorem dX6_add_72 : decode cX6_add 72 = .ok (.aload_n 0, 1) := by decide +kernel
theorem dX6_add_73 : decode cX6_add 73 = .ok (.getfield 30, 3) := by decide +kernel
theorem dX6_add_76 : decode cX6_add 76 = .ok (.iconst 1, 1) := by decide +kernel
