theorem dX6_add_77 : decode cX6_add 77 = .ok (.isub, 1) := by decide +kernel
theorem dX6_add_78 : decode cX6_add 78 = .ok (.ireturn, 1) := by decide +kernel
theorem dX6_plan_0 : decode cX6_plan 0 = .ok (.aload_n 1, 1) := by decide +kernel
theorem dX6_plan_1 : decode cX6_plan 1 = .ok (.getfield 46, 3) := by decide +kernel
theorem dX6_plan_4 : decode cX6_plan 4 = .ok (.bipush 34, 2) := by decide +kernel
theorem dX6_plan_6 : decode cX6_plan 6 = .ok (.invokestatic 51, 3) := by decide +kernel
theorem dX6_plan_9 : decode cX6_plan 9 = .ok (.istore_n 3, 1) := by decide +kernel
theorem dX6_plan_10 : decode cX6_plan 10 = .ok (.aload_n 0, 1) := by decide +kernel
theorem dX6_plan_11 : decode cX6_plan 11 = .ok (.getfield 37, 3) := by decide +kernel
theorem dX6_plan_14 : decode cX6_plan 14 = .ok (.iload_n 3, 1) := by decide +kernel
theorem dX6_plan_15 : decode cX6_plan 15 = .ok (.iconst 0, 1) := by decide +kernel
theorem dX6_plan_16 : decode cX6_plan 16 = .ok (.iastore, 1) := by decide +kernel
theorem dX6_plan_17 : decode cX6_plan 17 = .ok (.iload_n 3, 1) := by decide +kernel
theorem dX6_plan_18 : decode cX6_plan 18 = .ok (.iconst 1, 1) := by decide +kernel
theorem dX6_plan_19 : decode cX6_plan 19 = .ok (.isub, 1) := by decide +kernel
theorem dX6_plan_20 : decode cX6_plan 20 = .ok (.istore 4, 2) := by decide +kernel
theorem dX6_plan_22 : decode cX6_plan 22 = .ok (.iload 4, 2) := by decide +kernel
theorem dX6_plan_24 : decode cX6_plan 24 = .ok (.ifCond .lt 18, 3) := by decide +kernel
theorem dX6_plan_27 : decode cX6_plan 27 = .ok (.aload_n 0, 1) := by decide +kernel
theorem dX6_plan_28 : decode cX6_plan 28 = .ok (.aload_n 1, 1) := by decide +kernel
theorem dX6_plan_29 : decode cX6_plan 29 = .ok (.iload 4, 2) := by decide +kernel
theorem dX6_plan_31 : decode cX6_plan 31 = .ok (.iload_n 3, 1) := by decide +kernel
theorem dX6_plan_32 : decode cX6_plan 32 = .ok (.iload_n 2, 1) := by decide +kernel
theorem dX6_plan_33 : decode cX6_plan 33 = .ok (.invokevirtual 57, 3) := by decide +kernel
theorem dX6_plan_36 : decode cX6_plan 36 = .ok (.iinc 4 (-1), 3) := by decide +kernel
theorem dX6_plan_39 : decode cX6_plan 39 = .ok (.goto (-17), 3) := by decide +kernel
theorem dX6_plan_42 : decode cX6_plan 42 = .ok (.iconst 0, 1) := by decide +kernel
theorem dX6_plan_43 : decode cX6_plan 43 = .ok (.istore 4, 2) := by decide +kernel
theorem dX6_plan_45 : decode cX6_plan 45 = .ok (.iconst 0, 1) := by decide +kernel
theorem dX6_plan_46 : decode cX6_plan 46 = .ok (.istore 5, 2) := by decide +kernel
theorem dX6_plan_48 : decode cX6_plan 48 = .ok (.iload 5, 2) := by decide +kernel
theorem dX6_plan_50 : decode cX6_plan 50 = .ok (.iload_n 3, 1) := by decide +kernel
theorem dX6_plan_51 : decode cX6_plan 51 = .ok (.if_icmp .ge 74, 3) := by decide +kernel
theorem dX6_plan_54 : decode cX6_plan 54 = .ok (.aload_n 0, 1) := by decide +kernel
theorem dX6_plan_55 : decode cX6_plan 55 = .ok (.getfield 43, 3) := by decide +kernel
theorem dX6_plan_58 : decode cX6_plan 58 = .ok (.iload 5, 2) := by decide +kernel
theorem dX6_plan_60 : decode cX6_plan 60 = .ok (.bipush (-2), 2) := by decide +kernel
theorem dX6_plan_62 : decode cX6_plan 62 = .ok (.iastore, 1) := by decide +kernel
theorem dX6_plan_63 : decode cX6_plan 63 = .ok (.iload 5, 2) := by decide +kernel
theorem dX6_plan_65 : decode cX6_plan 65 = .ok (.iload 4, 2) := by decide +kernel
theorem dX6_plan_67 : decode cX6_plan 67 = .ok (.if_icmp .ne 52, 3) := by decide +kernel
theorem dX6_plan_70 : decode cX6_plan 70 = .ok (.aload_n 0, 1) := by decide +kernel
theorem dX6_plan_71 : decode cX6_plan 71 = .ok (.getfield 43, 3) := by decide +kernel
theorem dX6_plan_74 : decode cX6_plan 74 = .ok (.iload 5, 2) := by decide +kernel
theorem dX6_plan_76 : decode cX6_plan 76 = .ok (.aload_n 0, 1) := by decide +kernel
theorem dX6_plan_77 : decode cX6_plan 77 = .ok (.getfield 40, 3) := by decide +kernel
theorem dX6_plan_80 : decode cX6_plan 80 = .ok (.iload 5, 2) := by decide +kernel
theorem dX6_plan_82 : decode cX6_plan 82 = .ok (.iaload, 1) := by decide +kernel
theorem dX6_plan_83 : decode cX6_plan 83 = .ok (.iastore, 1) := by decide +kernel
theorem dX6_plan_84 : decode cX6_plan 84 = .ok (.aload_n 0, 1) := by decide +kernel
theorem dX6_plan_85 : decode cX6_plan 85 = .ok (.getfield 40, 3) := by decide +kernel
theorem dX6_plan_88 : decode cX6_plan 88 = .ok (.iload 5, 2) := by decide +kernel
theorem dX6_plan_90 : decode cX6_plan 90 = .ok (.iaload, 1) := by decide +kernel
theorem dX6_plan_91 : decode cX6_plan 91 = .ok (.bipush (-2), 2) := by decide +kernel
theorem dX6_plan_93 : decode cX6_plan 93 = .ok (.if_icmp .ne 10, 3) := by decide +kernel
theorem dX6_plan_96 : decode cX6_plan 96 = .ok (.iload 5, 2) := by decide +kernel
theorem dX6_plan_98 : decode cX6_plan 98 = .ok (.iconst 1, 1) := by decide +kernel
theorem dX6_plan_99 : decode cX6_plan 99 = .ok (.iadd, 1) := by decide +kernel
theorem dX6_plan_100 : decode cX6_plan 100 = .ok (.goto 17, 3) := by decide +kernel
theorem dX6_plan_103 : decode cX6_plan 103 = .ok (.aload_n 0, 1) := by decide +kernel
theorem dX6_plan_104 : decode cX6_plan 104 = .ok (.iload 5, 2) := by decide +kernel
theorem dX6_plan_106 : decode cX6_plan 106 = .ok (.aload_n 0, 1) := by decide +kernel
theorem dX6_plan_107 : decode cX6_plan 107 = .ok (.getfield 40, 3) := by decide +kernel
theorem dX6_plan_110 : decode cX6_plan 110 = .ok (.iload 5, 2) := by decide +kernel
theorem dX6_plan_112 : decode cX6_plan 112 = .ok (.iaload, 1) := by decide +kernel
theorem dX6_plan_113 : decode cX6_plan 113 = .ok (.iload_n 3, 1) := by decide +kernel
theorem dX6_plan_114 : decode cX6_plan 114 = .ok (.invokevirtual 61, 3) := by decide +kernel
theorem dX6_plan_117 : decode cX6_plan 117 = .ok (.istore 4, 2) := by decide +kernel
theorem dX6_plan_119 : decode cX6_plan 119 = .ok (.iinc 5 1, 3) := by decide +kernel
theorem dX6_plan_122 : decode cX6_plan 122 = .ok (.goto (-74), 3) := by decide +kernel
theorem dX6_plan_125 : decode cX6_plan 125 = .ok (.return_, 1) := by decide +kernel
theorem dX6_weigh_0 : decode cX6_weigh 0 = .ok (.aload_n 0, 1) := by decide +kernel
theorem dX6_weigh_1 : decode cX6_weigh 1 = .ok (.getfield 37, 3) := by decide +kernel
theorem dX6_weigh_4 : decode cX6_weigh 4 = .ok (.iload_n 2, 1) := by decide +kernel
theorem dX6_weigh_5 : decode cX6_weigh 5 = .ok (.iconst (-1), 1) := by decide +kernel
theorem dX6_weigh_6 : decode cX6_weigh 6 = .ok (.iastore, 1) := by decide +kernel
theorem dX6_weigh_7 : decode cX6_weigh 7 = .ok (.aload_n 0, 1) := by decide +kernel
theorem dX6_weigh_8 : decode cX6_weigh 8 = .ok (.getfield 40, 3) := by decide +kernel
theorem dX6_weigh_11 : decode cX6_weigh 11 = .ok (.iload_n 2, 1) := by decide +kernel
theorem dX6_weigh_12 : decode cX6_weigh 12 = .ok (.bipush (-2), 2) := by decide +kernel
theorem dX6_weigh_14 : decode cX6_weigh 14 = .ok (.iastore, 1) := by decide +kernel
theorem dX6_weigh_15 : decode cX6_weigh 15 = .ok (.iconst 0, 1) := by decide +kernel
theorem dX6_weigh_16 : decode cX6_weigh 16 = .ok (.istore 5, 2) := by decide +kernel
theorem dX6_weigh_18 : decode cX6_weigh 18 = .ok (.iload 5, 2) := by decide +kernel
theorem dX6_weigh_20 : decode cX6_weigh 20 = .ok (.aload_n 0, 1) := by decide +kernel
theorem dX6_weigh_21 : decode cX6_weigh 21 = .ok (.getfield 30, 3) := by decide +kernel
theorem dX6_weigh_24 : decode cX6_weigh 24 = .ok (.if_icmp .ge 89, 3) := by decide +kernel
theorem dX6_weigh_27 : decode cX6_weigh 27 = .ok (.aload_n 0, 1) := by decide +kernel
theorem dX6_weigh_28 : decode cX6_weigh 28 = .ok (.iload 5, 2) := by decide +kernel
theorem dX6_weigh_30 : decode cX6_weigh 30 = .ok (.aload_n 1, 1) := by decide +kernel
theorem dX6_weigh_31 : decode cX6_weigh 31 = .ok (.getfield 65, 3) := by decide +kernel
theorem dX6_weigh_34 : decode cX6_weigh 34 = .ok (.iload 4, 2) := by decide +kernel
theorem dX6_weigh_36 : decode cX6_weigh 36 = .ok (.invokevirtual 67, 3) := by decide +kernel
theorem dX6_weigh_39 : decode cX6_weigh 39 = .ok (.ifCond .eq 68, 3) := by decide +kernel
theorem dX6_weigh_42 : decode cX6_weigh 42 = .ok (.aload_n 0, 1) := by decide +kernel
theorem dX6_weigh_43 : decode cX6_weigh 43 = .ok (.iload 5, 2) := by decide +kernel
theorem dX6_weigh_45 : decode cX6_weigh 45 = .ok (.iload_n 2, 1) := by decide +kernel
theorem dX6_weigh_46 : decode cX6_weigh 46 = .ok (.iload_n 3, 1) := by decide +kernel
theorem dX6_weigh_47 : decode cX6_weigh 47 = .ok (.aload_n 1, 1) := by decide +kernel
theorem dX6_weigh_48 : decode cX6_weigh 48 = .ok (.getfield 71, 3) := by decide +kernel
theorem dX6_weigh_51 : decode cX6_weigh 51 = .ok (.invokevirtual 74, 3) := by decide +kernel
theorem dX6_weigh_54 : decode cX6_weigh 54 = .ok (.ifCond .eq 53, 3) := by decide +kernel
theorem dX6_weigh_57 : decode cX6_weigh 57 = .ok (.aload_n 0, 1) := by decide +kernel
theorem dX6_weigh_58 : decode cX6_weigh 58 = .ok (.getfield 21, 3) := by decide +kernel
theorem dX6_weigh_61 : decode cX6_weigh 61 = .ok (.iload 5, 2) := by decide +kernel
theorem dX6_weigh_63 : decode cX6_weigh 63 = .ok (.iaload, 1) := by decide +kernel
theorem dX6_weigh_64 : decode cX6_weigh 64 = .ok (.aload_n 0, 1) := by decide +kernel
theorem dX6_weigh_65 : decode cX6_weigh 65 = .ok (.getfield 37, 3) := by decide +kernel
theorem dX6_weigh_68 : decode cX6_weigh 68 = .ok (.aload_n 0, 1) := by decide +kernel
theorem dX6_weigh_69 : decode cX6_weigh 69 = .ok (.iload_n 2, 1) := by decide +kernel
theorem dX6_weigh_70 : decode cX6_weigh 70 = .ok (.iload 5, 2) := by decide +kernel
theorem dX6_weigh_72 : decode cX6_weigh 72 = .ok (.iload_n 3, 1) := by decide +kernel
theorem dX6_weigh_73 : decode cX6_weigh 73 = .ok (.invokevirtual 61, 3) := by decide +kernel
theorem dX6_weigh_76 : decode cX6_weigh 76 = .ok (.iaload, 1) := by decide +kernel
theorem dX6_weigh_77 : decode cX6_weigh 77 = .ok (.iadd, 1) := by decide +kernel
theorem dX6_weigh_78 : decode cX6_weigh 78 = .ok (.istore 6, 2) := by decide +kernel
theorem dX6_weigh_80 : decode cX6_weigh 80 = .ok (.iload 6, 2) := by decide +kernel
theorem dX6_weigh_82 : decode cX6_weigh 82 = .ok (.aload_n 0, 1) := by decide +kernel
theorem dX6_weigh_83 : decode cX6_weigh 83 = .ok (.getfield 37, 3) := by decide +kernel
theorem dX6_weigh_86 : decode cX6_weigh 86 = .ok (.iload_n 2, 1) := by decide +kernel
theorem dX6_weigh_87 : decode cX6_weigh 87 = .ok (.iaload, 1) := by decide +kernel
theorem dX6_weigh_88 : decode cX6_weigh 88 = .ok (.if_icmp .le 19, 3) := by decide +kernel
theorem dX6_weigh_91 : decode cX6_weigh 91 = .ok (.aload_n 0, 1) := by decide +kernel
theorem dX6_weigh_92 : decode cX6_weigh 92 = .ok (.getfield 37, 3) := by decide +kernel
theorem dX6_weigh_95 : decode cX6_weigh 95 = .ok (.iload_n 2, 1) := by decide +kernel
theorem dX6_weigh_96 : decode cX6_weigh 96 = .ok (.iload 6, 2) := by decide +kernel
theorem dX6_weigh_98 : decode cX6_weigh 98 = .ok (.iastore, 1) := by decide +kernel
theorem dX6_weigh_99 : decode cX6_weigh 99 = .ok (.aload_n 0, 1) := by decide +kernel
theorem dX6_weigh_100 : decode cX6_weigh 100 = .ok (.getfield 40, 3) := by decide +kernel
theorem dX6_weigh_103 : decode cX6_weigh 103 = .ok (.iload_n 2, 1) := by decide +kernel
theorem dX6_weigh_104 : decode cX6_weigh 104 = .ok (.iload 5, 2) := by decide +kernel
theorem dX6_weigh_106 : decode cX6_weigh 106 = .ok (.iastore, 1) := by decide +kernel
theorem dX6_weigh_107 : decode cX6_weigh 107 = .ok (.iinc 5 1, 3) := by decide +kernel
theorem dX6_weigh_110 : decode cX6_weigh 110 = .ok (.goto (-92), 3) := by decide +kernel
theorem dX6_weigh_113 : decode cX6_weigh 113 = .ok (.aload_n 0, 1) := by decide +kernel
theorem dX6_weigh_114 : decode cX6_weigh 114 = .ok (.getfield 37, 3) := by decide +kernel
theorem dX6_weigh_117 : decode cX6_weigh 117 = .ok (.iload_n 2, 1) := by decide +kernel
theorem dX6_weigh_118 : decode cX6_weigh 118 = .ok (.iconst 1, 1) := by decide +kernel
theorem dX6_weigh_119 : decode cX6_weigh 119 = .ok (.iadd, 1) := by decide +kernel
theorem dX6_weigh_120 : decode cX6_weigh 120 = .ok (.iaload, 1) := by decide +kernel
theorem dX6_weigh_121 : decode cX6_weigh 121 = .ok (.aload_n 0, 1) := by decide +kernel
theorem dX6_weigh_122 : decode cX6_weigh 122 = .ok (.getfield 37, 3) := by decide +kernel
theorem dX6_weigh_125 : decode cX6_weigh 125 = .ok (.iload_n 2, 1) := by decide +kernel
theorem dX6_weigh_126 : decode cX6_weigh 126 = .ok (.iaload, 1) := by decide +kernel
theorem dX6_weigh_127 : decode cX6_weigh 127 = .ok (.if_icmp .le 25, 3) := by decide +kernel
theorem dX6_weigh_130 : decode cX6_weigh 130 = .ok (.aload_n 0, 1) := by decide +kernel
theorem dX6_weigh_131 : decode cX6_weigh 131 = .ok (.getfield 37, 3) := by decide +kernel
theorem dX6_weigh_134 : decode cX6_weigh 134 = .ok (.iload_n 2, 1) := by decide +kernel
theorem dX6_weigh_135 : decode cX6_weigh 135 = .ok (.aload_n 0, 1) := by decide +kernel
theorem dX6_weigh_136 : decode cX6_weigh 136 = .ok (.getfield 37, 3) := by decide +kernel
theorem dX6_weigh_139 : decode cX6_weigh 139 = .ok (.iload_n 2, 1) := by decide +kernel
theorem dX6_weigh_140 : decode cX6_weigh 140 = .ok (.iconst 1, 1) := by decide +kernel
theorem dX6_weigh_141 : decode cX6_weigh 141 = .ok (.iadd, 1) := by decide +kernel
theorem dX6_weigh_142 : decode cX6_weigh 142 = .ok (.iaload, 1) := by decide +kernel
theorem dX6_weigh_143 : decode cX6_weigh 143 = .ok (.iastore, 1) := by decide +kernel
theorem dX6_weigh_144 : decode cX6_weigh 144 = .ok (.aload_n 0, 1) := by decide +kernel
theorem dX6_weigh_145 : decode cX6_weigh 145 = .ok (.getfield 40, 3) := by decide +kernel
theorem dX6_weigh_148 : decode cX6_weigh 148 = .ok (.iload_n 2, 1) := by decide +kernel
theorem dX6_weigh_149 : decode cX6_weigh 149 = .ok (.bipush (-2), 2) := by decide +kernel
theorem dX6_weigh_151 : decode cX6_weigh 151 = .ok (.iastore, 1) := by decide +kernel
theorem dX6_weigh_152 : decode cX6_weigh 152 = .ok (.return_, 1) := by decide +kernel
theorem dX6_isOpen_0 : decode cX6_isOpen 0 = .ok (.aload_n 0, 1) := by decide +kernel
theorem dX6_isOpen_1 : decode cX6_isOpen 1 = .ok (.getfield 15, 3) := by decide +kernel
theorem dX6_isOpen_4 : decode cX6_isOpen 4 = .ok (.iload_n 1, 1) := by decide +kernel
theorem dX6_isOpen_5 : decode cX6_isOpen 5 = .ok (.iaload, 1) := by decide +kernel
theorem dX6_isOpen_6 : decode cX6_isOpen 6 = .ok (.iload_n 2, 1) := by decide +kernel
theorem dX6_isOpen_7 : decode cX6_isOpen 7 = .ok (.if_icmp .gt 26, 3) := by decide +kernel
theorem dX6_isOpen_10 : decode cX6_isOpen 10 = .ok (.aload_n 0, 1) := by decide +kernel
theorem dX6_isOpen_11 : decode cX6_isOpen 11 = .ok (.getfield 18, 3) := by decide +kernel
theorem dX6_isOpen_14 : decode cX6_isOpen 14 = .ok (.iload_n 1, 1) := by decide +kernel
theorem dX6_isOpen_15 : decode cX6_isOpen 15 = .ok (.iaload, 1) := by decide +kernel
theorem dX6_isOpen_16 : decode cX6_isOpen 16 = .ok (.ifCond .le 17, 3) := by decide +kernel
theorem dX6_isOpen_19 : decode cX6_isOpen 19 = .ok (.aload_n 0, 1) := by decide +kernel
theorem dX6_isOpen_20 : decode cX6_isOpen 20 = .ok (.getfield 24, 3) := by decide +kernel
theorem dX6_isOpen_23 : decode cX6_isOpen 23 = .ok (.iload_n 1, 1) := by decide +kernel
theorem dX6_isOpen_24 : decode cX6_isOpen 24 = .ok (.iaload, 1) := by decide +kernel
theorem dX6_isOpen_25 : decode cX6_isOpen 25 = .ok (.iload_n 3, 1) := by decide +kernel
theorem dX6_isOpen_26 : decode cX6_isOpen 26 = .ok (.if_icmp .lt 7, 3) := by decide +kernel
theorem dX6_isOpen_29 : decode cX6_isOpen 29 = .ok (.iconst 1, 1) := by decide +kernel
theorem dX6_isOpen_30 : decode cX6_isOpen 30 = .ok (.goto 4, 3) := by decide +kernel
theorem dX6_isOpen_33 : decode cX6_isOpen 33 = .ok (.iconst 0, 1) := by decide +kernel
theorem dX6_isOpen_34 : decode cX6_isOpen 34 = .ok (.ireturn, 1) := by decide +kernel
theorem dX6_fits_0 : decode cX6_fits 0 = .ok (.iload_n 2, 1) := by decide +kernel
theorem dX6_fits_1 : decode cX6_fits 1 = .ok (.aload_n 0, 1) := by decide +kernel
theorem dX6_fits_2 : decode cX6_fits 2 = .ok (.getfield 11, 3) := by decide +kernel
theorem dX6_fits_5 : decode cX6_fits 5 = .ok (.iload_n 1, 1) := by decide +kernel
theorem dX6_fits_6 : decode cX6_fits 6 = .ok (.iaload, 1) := by decide +kernel
theorem dX6_fits_7 : decode cX6_fits 7 = .ok (.iadd, 1) := by decide +kernel
theorem dX6_fits_8 : decode cX6_fits 8 = .ok (.istore 5, 2) := by decide +kernel
theorem dX6_fits_10 : decode cX6_fits 10 = .ok (.iload 5, 2) := by decide +kernel
theorem dX6_fits_12 : decode cX6_fits 12 = .ok (.iload_n 3, 1) := by decide +kernel
theorem dX6_fits_13 : decode cX6_fits 13 = .ok (.if_icmp .gt 20, 3) := by decide +kernel
theorem dX6_fits_16 : decode cX6_fits 16 = .ok (.iload 4, 2) := by decide +kernel
theorem dX6_fits_18 : decode cX6_fits 18 = .ok (.iload_n 2, 1) := by decide +kernel
theorem dX6_fits_19 : decode cX6_fits 19 = .ok (.if_icmp .lt 10, 3) := by decide +kernel
theorem dX6_fits_22 : decode cX6_fits 22 = .ok (.iload 4, 2) := by decide +kernel
theorem dX6_fits_24 : decode cX6_fits 24 = .ok (.iload 5, 2) := by decide +kernel
theorem dX6_fits_26 : decode cX6_fits 26 = .ok (.if_icmp .lt 7, 3) := by decide +kernel
theorem dX6_fits_29 : decode cX6_fits 29 = .ok (.iconst 1, 1) := by decide +kernel
theorem dX6_fits_30 : decode cX6_fits 30 = .ok (.goto 4, 3) := by decide +kernel
theorem dX6_fits_33 : decode cX6_fits 33 = .ok (.iconst 0, 1) := by decide +kernel
theorem dX6_fits_34 : decode cX6_fits 34 = .ok (.ireturn, 1) := by decide +kernel
theorem dX6_behind_0 : decode cX6_behind 0 = .ok (.iload_n 3, 1) := by decide +kernel
theorem dX6_behind_1 : decode cX6_behind 1 = .ok (.iload_n 1, 1) := by decide +kernel
theorem dX6_behind_2 : decode cX6_behind 2 = .ok (.aload_n 0, 1) := by decide +kernel
theorem dX6_behind_3 : decode cX6_behind 3 = .ok (.getfield 11, 3) := by decide +kernel
theorem dX6_behind_6 : decode cX6_behind 6 = .ok (.iload_n 2, 1) := by decide +kernel
theorem dX6_behind_7 : decode cX6_behind 7 = .ok (.iaload, 1) := by decide +kernel
theorem dX6_behind_8 : decode cX6_behind 8 = .ok (.iadd, 1) := by decide +kernel
theorem dX6_behind_9 : decode cX6_behind 9 = .ok (.iconst 1, 1) := by decide +kernel
theorem dX6_behind_10 : decode cX6_behind 10 = .ok (.iadd, 1) := by decide +kernel
theorem dX6_behind_11 : decode cX6_behind 11 = .ok (.invokestatic 51, 3) := by decide +kernel
theorem dX6_behind_14 : decode cX6_behind 14 = .ok (.ireturn, 1) := by decide +kernel
theorem dX6_deliver_0 : decode cX6_deliver 0 = .ok (.iconst 0, 1) := by decide +kernel
theorem dX6_deliver_1 : decode cX6_deliver 1 = .ok (.istore_n 3, 1) := by decide +kernel
theorem dX6_deliver_2 : decode cX6_deliver 2 = .ok (.iconst 0, 1) := by decide +kernel
theorem dX6_deliver_3 : decode cX6_deliver 3 = .ok (.istore 4, 2) := by decide +kernel
theorem dX6_deliver_5 : decode cX6_deliver 5 = .ok (.iload 4, 2) := by decide +kernel
theorem dX6_deliver_7 : decode cX6_deliver 7 = .ok (.iload_n 1, 1) := by decide +kernel
theorem dX6_deliver_8 : decode cX6_deliver 8 = .ok (.if_icmp .ge 51, 3) := by decide +kernel
theorem dX6_deliver_11 : decode cX6_deliver 11 = .ok (.iload 4, 2) := by decide +kernel
theorem dX6_deliver_13 : decode cX6_deliver 13 = .ok (.bipush 34, 2) := by decide +kernel
theorem dX6_deliver_15 : decode cX6_deliver 15 = .ok (.if_icmp .ge 44, 3) := by decide +kernel
theorem dX6_deliver_18 : decode cX6_deliver 18 = .ok (.aload_n 0, 1) := by decide +kernel
theorem dX6_deliver_19 : decode cX6_deliver 19 = .ok (.getfield 43, 3) := by decide +kernel
theorem dX6_deliver_22 : decode cX6_deliver 22 = .ok (.iload 4, 2) := by decide +kernel
theorem dX6_deliver_24 : decode cX6_deliver 24 = .ok (.iaload, 1) := by decide +kernel
theorem dX6_deliver_25 : decode cX6_deliver 25 = .ok (.iconst 0, 1) := by decide +kernel
theorem dX6_deliver_26 : decode cX6_deliver 26 = .ok (.aload_n 0, 1) := by decide +kernel
theorem dX6_deliver_27 : decode cX6_deliver 27 = .ok (.getfield 30, 3) := by decide +kernel
theorem dX6_deliver_30 : decode cX6_deliver 30 = .ok (.iconst 1, 1) := by decide +kernel
theorem dX6_deliver_31 : decode cX6_deliver 31 = .ok (.isub, 1) := by decide +kernel
theorem dX6_deliver_32 : decode cX6_deliver 32 = .ok (.invokestatic 78, 3) := by decide +kernel
theorem dX6_deliver_35 : decode cX6_deliver 35 = .ok (.ifCond .eq 18, 3) := by decide +kernel
theorem dX6_deliver_38 : decode cX6_deliver 38 = .ok (.iinc 3 1, 3) := by decide +kernel
theorem dX6_deliver_41 : decode cX6_deliver 41 = .ok (.aload_n 0, 1) := by decide +kernel
theorem dX6_deliver_42 : decode cX6_deliver 42 = .ok (.aload_n 0, 1) := by decide +kernel
theorem dX6_deliver_43 : decode cX6_deliver 43 = .ok (.getfield 43, 3) := by decide +kernel
theorem dX6_deliver_46 : decode cX6_deliver 46 = .ok (.iload 4, 2) := by decide +kernel
theorem dX6_deliver_48 : decode cX6_deliver 48 = .ok (.iaload, 1) := by decide +kernel
theorem dX6_deliver_49 : decode cX6_deliver 49 = .ok (.iload_n 2, 1) := by decide +kernel
theorem dX6_deliver_50 : decode cX6_deliver 50 = .ok (.invokevirtual 81, 3) := by decide +kernel
theorem dX6_deliver_53 : decode cX6_deliver 53 = .ok (.iinc 4 1, 3) := by decide +kernel
theorem dX6_deliver_56 : decode cX6_deliver 56 = .ok (.goto (-51), 3) := by decide +kernel
theorem dX6_deliver_59 : decode cX6_deliver 59 = .ok (.iload_n 3, 1) := by decide +kernel
theorem dX6_deliver_60 : decode cX6_deliver 60 = .ok (.ireturn, 1) := by decide +kernel
theorem dX6_handOver_0 : decode cX6_handOver 0 = .ok (.aload_n 0, 1) := by decide +kernel
theorem dX6_handOver_1 : decode cX6_handOver 1 = .ok (.getfield 18, 3) := by decide +kernel
theorem dX6_handOver_4 : decode cX6_handOver 4 = .ok (.iload_n 1, 1) := by decide +kernel
theorem dX6_handOver_5 : decode cX6_handOver 5 = .ok (.iaload, 1) := by decide +kernel
theorem dX6_handOver_6 : decode cX6_handOver 6 = .ok (.ifCond .ne 14, 3) := by decide +kernel
theorem dX6_handOver_9 : decode cX6_handOver 9 = .ok (.aload_n 0, 1) := by decide +kernel
theorem dX6_handOver_10 : decode cX6_handOver 10 = .ok (.dup, 1) := by decide +kernel
theorem dX6_handOver_11 : decode cX6_handOver 11 = .ok (.getfield 34, 3) := by decide +kernel
theorem dX6_handOver_14 : decode cX6_handOver 14 = .ok (.iconst 1, 1) := by decide +kernel
theorem dX6_handOver_15 : decode cX6_handOver 15 = .ok (.iadd, 1) := by decide +kernel
theorem dX6_handOver_16 : decode cX6_handOver 16 = .ok (.putfield 34, 3) := by decide +kernel
theorem dX6_handOver_19 : decode cX6_handOver 19 = .ok (.return_, 1) := by decide +kernel
theorem dX6_handOver_20 : decode cX6_handOver 20 = .ok (.aload_n 0, 1) := by decide +kernel
theorem dX6_handOver_21 : decode cX6_handOver 21 = .ok (.getfield 18, 3) := by decide +kernel
theorem dX6_handOver_24 : decode cX6_handOver 24 = .ok (.iload_n 1, 1) := by decide +kernel
theorem dX6_handOver_25 : decode cX6_handOver 25 = .ok (.dup2, 1) := by decide +kernel
theorem dX6_handOver_26 : decode cX6_handOver 26 = .ok (.iaload, 1) := by decide +kernel
theorem dX6_handOver_27 : decode cX6_handOver 27 = .ok (.iconst 1, 1) := by decide +kernel
theorem dX6_handOver_28 : decode cX6_handOver 28 = .ok (.isub, 1) := by decide +kernel
theorem dX6_handOver_29 : decode cX6_handOver 29 = .ok (.iastore, 1) := by decide +kernel
theorem dX6_handOver_30 : decode cX6_handOver 30 = .ok (.aload_n 0, 1) := by decide +kernel
theorem dX6_handOver_31 : decode cX6_handOver 31 = .ok (.getfield 18, 3) := by decide +kernel
theorem dX6_handOver_34 : decode cX6_handOver 34 = .ok (.iload_n 1, 1) := by decide +kernel
theorem dX6_handOver_35 : decode cX6_handOver 35 = .ok (.iaload, 1) := by decide +kernel
theorem dX6_handOver_36 : decode cX6_handOver 36 = .ok (.ifCond .ne 10, 3) := by decide +kernel
theorem dX6_handOver_39 : decode cX6_handOver 39 = .ok (.aload_n 0, 1) := by decide +kernel
theorem dX6_handOver_40 : decode cX6_handOver 40 = .ok (.getfield 27, 3) := by decide +kernel
theorem dX6_handOver_43 : decode cX6_handOver 43 = .ok (.iload_n 1, 1) := by decide +kernel
theorem dX6_handOver_44 : decode cX6_handOver 44 = .ok (.iload_n 2, 1) := by decide +kernel
theorem dX6_handOver_45 : decode cX6_handOver 45 = .ok (.iastore, 1) := by decide +kernel
theorem dX6_handOver_46 : decode cX6_handOver 46 = .ok (.return_, 1) := by decide +kernel
theorem dX7_init_0 : decode cX7_init 0 = .ok (.aload_n 0, 1) := by decide +kernel
theorem dX7_init_1 : decode cX7_init 1 = .ok (.invokespecial 3, 3) := by decide +kernel
theorem dX7_init_4 : decode cX7_init 4 = .ok (.aload_n 0, 1) := by decide +kernel
theorem dX7_init_5 : decode cX7_init 5 = .ok (.sipush 200, 3) := by decide +kernel
theorem dX7_init_8 : decode cX7_init 8 = .ok (.newarray .int, 2) := by decide +kernel
theorem dX7_init_10 : decode cX7_init 10 = .ok (.putfield 11, 3) := by decide +kernel
theorem dX7_init_13 : decode cX7_init 13 = .ok (.aload_n 0, 1) := by decide +kernel
theorem dX7_init_14 : decode cX7_init 14 = .ok (.sipush 600, 3) := by decide +kernel
theorem dX7_init_17 : decode cX7_init 17 = .ok (.newarray .int, 2) := by decide +kernel
theorem dX7_init_19 : decode cX7_init 19 = .ok (.putfield 15, 3) := by decide +kernel
theorem dX7_init_22 : decode cX7_init 22 = .ok (.aload_n 0, 1) := by decide +kernel
theorem dX7_init_23 : decode cX7_init 23 = .ok (.iconst 0, 1) := by decide +kernel
theorem dX7_init_24 : decode cX7_init 24 = .ok (.putfield 18, 3) := by decide +kernel
theorem dX7_init_27 : decode cX7_init 27 = .ok (.aload_n 0, 1) := by decide +kernel
theorem dX7_init_28 : decode cX7_init 28 = .ok (.iconst 0, 1) := by decide +kernel
theorem dX7_init_29 : decode cX7_init 29 = .ok (.putfield 22, 3) := by decide +kernel
theorem dX7_init_32 : decode cX7_init 32 = .ok (.aload_n 0, 1) := by decide +kernel
theorem dX7_init_33 : decode cX7_init 33 = .ok (.iconst (-1), 1) := by decide +kernel
theorem dX7_init_34 : decode cX7_init 34 = .ok (.putfield 25, 3) := by decide +kernel
theorem dX7_init_37 : decode cX7_init 37 = .ok (.return_, 1) := by decide +kernel
theorem dX7_tell_0 : decode cX7_tell 0 = .ok (.iload_n 1, 1) := by decide +kernel
theorem dX7_tell_1 : decode cX7_tell 1 = .ok (.aload_n 0, 1) := by decide +kernel
theorem dX7_tell_2 : decode cX7_tell 2 = .ok (.getfield 22, 3) := by decide +kernel
theorem dX7_tell_5 : decode cX7_tell 5 = .ok (.sipush 3999, 3) := by decide +kernel
theorem dX7_tell_8 : decode cX7_tell 8 = .ok (.invokestatic 28, 3) := by decide +kernel
theorem dX7_tell_11 : decode cX7_tell 11 = .ok (.ifCond .eq 13, 3) := by decide +kernel
theorem dX7_tell_14 : decode cX7_tell 14 = .ok (.aload_n 0, 1) := by decide +kernel
theorem dX7_tell_15 : decode cX7_tell 15 = .ok (.getfield 18, 3) := by decide +kernel
theorem dX7_tell_18 : decode cX7_tell 18 = .ok (.sipush 200, 3) := by decide +kernel
theorem dX7_tell_21 : decode cX7_tell 21 = .ok (.if_icmp .lt 5, 3) := by decide +kernel
theorem dX7_tell_24 : decode cX7_tell 24 = .ok (.iconst 0, 1) := by decide +kernel
theorem dX7_tell_25 : decode cX7_tell 25 = .ok (.ireturn, 1) := by decide +kernel
theorem dX7_tell_26 : decode cX7_tell 26 = .ok (.iload_n 2, 1) := by decide +kernel
theorem dX7_tell_27 : decode cX7_tell 27 = .ok (.iconst 0, 1) := by decide +kernel
theorem dX7_tell_28 : decode cX7_tell 28 = .ok (.bipush 9, 2) := by decide +kernel
theorem dX7_tell_30 : decode cX7_tell 30 = .ok (.invokestatic 28, 3) := by decide +kernel
theorem dX7_tell_33 : decode cX7_tell 33 = .ok (.ifCond .eq 24, 3) := by decide +kernel
theorem dX7_tell_36 : decode cX7_tell 36 = .ok (.iload_n 3, 1) := by decide +kernel
theorem dX7_tell_37 : decode cX7_tell 37 = .ok (.iconst 0, 1) := by decide +kernel
theorem dX7_tell_38 : decode cX7_tell 38 = .ok (.bipush 9, 2) := by decide +kernel
theorem dX7_tell_40 : decode cX7_tell 40 = .ok (.invokestatic 28, 3) := by decide +kernel
theorem dX7_tell_43 : decode cX7_tell 43 = .ok (.ifCond .eq 14, 3) := by decide +kernel
theorem dX7_tell_46 : decode cX7_tell 46 = .ok (.iload 4, 2) := by decide +kernel
theorem dX7_tell_48 : decode cX7_tell 48 = .ok (.iconst 0, 1) := by decide +kernel
theorem dX7_tell_49 : decode cX7_tell 49 = .ok (.bipush 9, 2) := by decide +kernel
theorem dX7_tell_51 : decode cX7_tell 51 = .ok (.invokestatic 28, 3) := by decide +kernel
theorem dX7_tell_54 : decode cX7_tell 54 = .ok (.ifCond .ne 5, 3) := by decide +kernel
theorem dX7_tell_57 : decode cX7_tell 57 = .ok (.iconst 0, 1) := by decide +kernel
theorem dX7_tell_58 : decode cX7_tell 58 = .ok (.ireturn, 1) := by decide +kernel
theorem dX7_tell_59 : decode cX7_tell 59 = .ok (.aload_n 0, 1) := by decide +kernel
theorem dX7_tell_60 : decode cX7_tell 60 = .ok (.getfield 11, 3) := by decide +kernel
theorem dX7_tell_63 : decode cX7_tell 63 = .ok (.aload_n 0, 1) := by decide +kernel
theorem dX7_tell_64 : decode cX7_tell 64 = .ok (.getfield 18, 3) := by decide +kernel
theorem dX7_tell_67 : decode cX7_tell 67 = .ok (.iload_n 1, 1) := by decide +kernel
theorem dX7_tell_68 : decode cX7_tell 68 = .ok (.iastore, 1) := by decide +kernel
theorem dX7_tell_69 : decode cX7_tell 69 = .ok (.aload_n 0, 1) := by decide +kernel
theorem dX7_tell_70 : decode cX7_tell 70 = .ok (.getfield 15, 3) := by decide +kernel
theorem dX7_tell_73 : decode cX7_tell 73 = .ok (.aload_n 0, 1) := by decide +kernel
theorem dX7_tell_74 : decode cX7_tell 74 = .ok (.getfield 18, 3) := by decide +kernel
theorem dX7_tell_77 : decode cX7_tell 77 = .ok (.iconst 3, 1) := by decide +kernel
theorem dX7_tell_78 : decode cX7_tell 78 = .ok (.imul, 1) := by decide +kernel
theorem dX7_tell_79 : decode cX7_tell 79 = .ok (.iconst 0, 1) := by decide +kernel
theorem dX7_tell_80 : decode cX7_tell 80 = .ok (.iadd, 1) := by decide +kernel
theorem dX7_tell_81 : decode cX7_tell 81 = .ok (.iload_n 2, 1) := by decide +kernel
theorem dX7_tell_82 : decode cX7_tell 82 = .ok (.iastore, 1) := by decide +kernel
theorem dX7_tell_83 : decode cX7_tell 83 = .ok (.aload_n 0, 1) := by decide +kernel
theorem dX7_tell_84 : decode cX7_tell 84 = .ok (.getfield 15, 3) := by decide +kernel
theorem dX7_tell_87 : decode cX7_tell 87 = .ok (.aload_n 0, 1) := by decide +kernel
theorem dX7_tell_88 : decode cX7_tell 88 = .ok (.getfield 18, 3) := by decide +kernel
theorem dX7_tell_91 : decode cX7_tell 91 = .ok (.iconst 3, 1) := by decide +kernel
theorem dX7_tell_92 : decode cX7_tell 92 = .ok (.imul, 1) := by decide +kernel
theorem dX7_tell_93 : decode cX7_tell 93 = .ok (.iconst 1, 1) := by decide +kernel
theorem dX7_tell_94 : decode cX7_tell 94 = .ok (.iadd, 1) := by decide +kernel
theorem dX7_tell_95 : decode cX7_tell 95 = .ok (.iload_n 3, 1) := by decide +kernel
theorem dX7_tell_96 : decode cX7_tell 96 = .ok (.iastore, 1) := by decide +kernel
theorem dX7_tell_97 : decode cX7_tell 97 = .ok (.aload_n 0, 1) := by decide +kernel
theorem dX7_tell_98 : decode cX7_tell 98 = .ok (.getfield 15, 3) := by decide +kernel
theorem dX7_tell_101 : decode cX7_tell 101 = .ok (.aload_n 0, 1) := by decide +kernel
theorem dX7_tell_102 : decode cX7_tell 102 = .ok (.getfield 18, 3) := by decide +kernel
theorem dX7_tell_105 : decode cX7_tell 105 = .ok (.iconst 3, 1) := by decide +kernel
theorem dX7_tell_106 : decode cX7_tell 106 = .ok (.imul, 1) := by decide +kernel
theorem dX7_tell_107 : decode cX7_tell 107 = .ok (.iconst 2, 1) := by decide +kernel
theorem dX7_tell_108 : decode cX7_tell 108 = .ok (.iadd, 1) := by decide +kernel
theorem dX7_tell_109 : decode cX7_tell 109 = .ok (.iload 4, 2) := by decide +kernel
theorem dX7_tell_111 : decode cX7_tell 111 = .ok (.iastore, 1) := by decide +kernel
theorem dX7_tell_112 : decode cX7_tell 112 = .ok (.aload_n 0, 1) := by decide +kernel
theorem dX7_tell_113 : decode cX7_tell 113 = .ok (.dup, 1) := by decide +kernel
theorem dX7_tell_114 : decode cX7_tell 114 = .ok (.getfield 18, 3) := by decide +kernel
theorem dX7_tell_117 : decode cX7_tell 117 = .ok (.iconst 1, 1) := by decide +kernel
theorem dX7_tell_118 : decode cX7_tell 118 = .ok (.iadd, 1) := by decide +kernel
theorem dX7_tell_119 : decode cX7_tell 119 = .ok (.putfield 18, 3) := by decide +kernel
theorem dX7_tell_122 : decode cX7_tell 122 = .ok (.aload_n 0, 1) := by decide +kernel
theorem dX7_tell_123 : decode cX7_tell 123 = .ok (.aload_n 0, 1) := by decide +kernel
theorem dX7_tell_124 : decode cX7_tell 124 = .ok (.aload_n 0, 1) := by decide +kernel
theorem dX7_tell_125 : decode cX7_tell 125 = .ok (.getfield 22, 3) := by decide +kernel
theorem dX7_tell_128 : decode cX7_tell 128 = .ok (.invokevirtual 32, 3) := by decide +kernel
theorem dX7_tell_131 : decode cX7_tell 131 = .ok (.putfield 25, 3) := by decide +kernel
theorem dX7_tell_134 : decode cX7_tell 134 = .ok (.iconst 1, 1) := by decide +kernel
theorem dX7_tell_135 : decode cX7_tell 135 = .ok (.ireturn, 1) := by decide +kernel
theorem dX7_nextDay_0 : decode cX7_nextDay 0 = .ok (.aload_n 0, 1) := by decide +kernel
theorem dX7_nextDay_1 : decode cX7_nextDay 1 = .ok (.dup, 1) := by decide +kernel
theorem dX7_nextDay_2 : decode cX7_nextDay 2 = .ok (.getfield 22, 3) := by decide +kernel
theorem dX7_nextDay_5 : decode cX7_nextDay 5 = .ok (.iconst 1, 1) := by decide +kernel
theorem dX7_nextDay_6 : decode cX7_nextDay 6 = .ok (.iadd, 1) := by decide +kernel
theorem dX7_nextDay_7 : decode cX7_nextDay 7 = .ok (.putfield 22, 3) := by decide +kernel
theorem dX7_nextDay_10 : decode cX7_nextDay 10 = .ok (.aload_n 0, 1) := by decide +kernel
theorem dX7_nextDay_11 : decode cX7_nextDay 11 = .ok (.aload_n 0, 1) := by decide +kernel
theorem dX7_nextDay_12 : decode cX7_nextDay 12 = .ok (.aload_n 0, 1) := by decide +kernel
theorem dX7_nextDay_13 : decode cX7_nextDay 13 = .ok (.getfield 22, 3) := by decide +kernel
theorem dX7_nextDay_16 : decode cX7_nextDay 16 = .ok (.invokevirtual 32, 3) := by decide +kernel
theorem dX7_nextDay_19 : decode cX7_nextDay 19 = .ok (.putfield 25, 3) := by decide +kernel
theorem dX7_nextDay_22 : decode cX7_nextDay 22 = .ok (.return_, 1) := by decide +kernel
theorem dX7_on_0 : decode cX7_on 0 = .ok (.aload_n 0, 1) := by decide +kernel
theorem dX7_on_1 : decode cX7_on 1 = .ok (.aload_n 0, 1) := by decide +kernel
theorem dX7_on_2 : decode cX7_on 2 = .ok (.iload_n 1, 1) := by decide +kernel
theorem dX7_on_3 : decode cX7_on 3 = .ok (.invokevirtual 32, 3) := by decide +kernel
theorem dX7_on_6 : decode cX7_on 6 = .ok (.iload_n 2, 1) := by decide +kernel
theorem dX7_on_7 : decode cX7_on 7 = .ok (.invokevirtual 36, 3) := by decide +kernel
theorem dX7_on_10 : decode cX7_on 10 = .ok (.ireturn, 1) := by decide +kernel
theorem dX7_now_0 : decode cX7_now 0 = .ok (.aload_n 0, 1) := by decide +kernel
theorem dX7_now_1 : decode cX7_now 1 = .ok (.aload_n 0, 1) := by decide +kernel
theorem dX7_now_2 : decode cX7_now 2 = .ok (.getfield 25, 3) := by decide +kernel
theorem dX7_now_5 : decode cX7_now 5 = .ok (.iload_n 1, 1) := by decide +kernel
theorem dX7_now_6 : decode cX7_now 6 = .ok (.invokevirtual 36, 3) := by decide +kernel
theorem dX7_now_9 : decode cX7_now 9 = .ok (.ireturn, 1) := by decide +kernel
theorem dX7_season_0 : decode cX7_season 0 = .ok (.aload_n 0, 1) := by decide +kernel
theorem dX7_season_1 : decode cX7_season 1 = .ok (.getfield 22, 3) := by decide +kernel
theorem dX7_season_4 : decode cX7_season 4 = .ok (.bipush 100, 2) := by decide +kernel
theorem dX7_season_6 : decode cX7_season 6 = .ok (.irem, 1) := by decide +kernel
theorem dX7_season_7 : decode cX7_season 7 = .ok (.bipush 25, 2) := by decide +kernel
theorem dX7_season_9 : decode cX7_season 9 = .ok (.idiv, 1) := by decide +kernel
theorem dX7_season_10 : decode cX7_season 10 = .ok (.ireturn, 1) := by decide +kernel
theorem dX7_tellingFor_0 : decode cX7_tellingFor 0 = .ok (.iconst (-1), 1) := by decide +kernel
theorem dX7_tellingFor_1 : decode cX7_tellingFor 1 = .ok (.istore_n 2, 1) := by decide +kernel
theorem dX7_tellingFor_2 : decode cX7_tellingFor 2 = .ok (.iconst 0, 1) := by decide +kernel
theorem dX7_tellingFor_3 : decode cX7_tellingFor 3 = .ok (.istore_n 3, 1) := by decide +kernel
theorem dX7_tellingFor_4 : decode cX7_tellingFor 4 = .ok (.iload_n 3, 1) := by decide +kernel
theorem dX7_tellingFor_5 : decode cX7_tellingFor 5 = .ok (.aload_n 0, 1) := by decide +kernel
theorem dX7_tellingFor_6 : decode cX7_tellingFor 6 = .ok (.getfield 18, 3) := by decide +kernel
theorem dX7_tellingFor_9 : decode cX7_tellingFor 9 = .ok (.if_icmp .ge 41, 3) := by decide +kernel
theorem dX7_tellingFor_12 : decode cX7_tellingFor 12 = .ok (.aload_n 0, 1) := by decide +kernel
theorem dX7_tellingFor_13 : decode cX7_tellingFor 13 = .ok (.getfield 11, 3) := by decide +kernel
theorem dX7_tellingFor_16 : decode cX7_tellingFor 16 = .ok (.iload_n 3, 1) := by decide +kernel
theorem dX7_tellingFor_17 : decode cX7_tellingFor 17 = .ok (.iaload, 1) := by decide +kernel
theorem dX7_tellingFor_18 : decode cX7_tellingFor 18 = .ok (.iload_n 1, 1) := by decide +kernel
theorem dX7_tellingFor_19 : decode cX7_tellingFor 19 = .ok (.if_icmp .gt 25, 3) := by decide +kernel
theorem dX7_tellingFor_22 : decode cX7_tellingFor 22 = .ok (.iload_n 2, 1) := by decide +kernel
theorem dX7_tellingFor_23 : decode cX7_tellingFor 23 = .ok (.iconst (-1), 1) := by decide +kernel
theorem dX7_tellingFor_24 : decode cX7_tellingFor 24 = .ok (.if_icmp .eq 18, 3) := by decide +kernel
theorem dX7_tellingFor_27 : decode cX7_tellingFor 27 = .ok (.aload_n 0, 1) := by decide +kernel
theorem dX7_tellingFor_28 : decode cX7_tellingFor 28 = .ok (.getfield 11, 3) := by decide +kernel
theorem dX7_tellingFor_31 : decode cX7_tellingFor 31 = .ok (.iload_n 3, 1) := by decide +kernel
theorem dX7_tellingFor_32 : decode cX7_tellingFor 32 = .ok (.iaload, 1) := by decide +kernel
theorem dX7_tellingFor_33 : decode cX7_tellingFor 33 = .ok (.aload_n 0, 1) := by decide +kernel
theorem dX7_tellingFor_34 : decode cX7_tellingFor 34 = .ok (.getfield 11, 3) := by decide +kernel
theorem dX7_tellingFor_37 : decode cX7_tellingFor 37 = .ok (.iload_n 2, 1) := by decide +kernel
theorem dX7_tellingFor_38 : decode cX7_tellingFor 38 = .ok (.iaload, 1) := by decide +kernel
theorem dX7_tellingFor_39 : decode cX7_tellingFor 39 = .ok (.if_icmp .lt 5, 3) := by decide +kernel
theorem dX7_tellingFor_42 : decode cX7_tellingFor 42 = .ok (.iload_n 3, 1) := by decide +kernel
theorem dX7_tellingFor_43 : decode cX7_tellingFor 43 = .ok (.istore_n 2, 1) := by decide +kernel
theorem dX7_tellingFor_44 : decode cX7_tellingFor 44 = .ok (.iinc 3 1, 3) := by decide +kernel
theorem dX7_tellingFor_47 : decode cX7_tellingFor 47 = .ok (.goto (-43), 3) := by decide +kernel
theorem dX7_tellingFor_50 : decode cX7_tellingFor 50 = .ok (.iload_n 2, 1) := by decide +kernel
theorem dX7_tellingFor_51 : decode cX7_tellingFor 51 = .ok (.ireturn, 1) := by decide +kernel
theorem dX7_valueOf_0 : decode cX7_valueOf 0 = .ok (.iload_n 1, 1) := by decide +kernel
theorem dX7_valueOf_1 : decode cX7_valueOf 1 = .ok (.iconst (-1), 1) := by decide +kernel
theorem dX7_valueOf_2 : decode cX7_valueOf 2 = .ok (.if_icmp .ne 11, 3) := by decide +kernel
theorem dX7_valueOf_5 : decode cX7_valueOf 5 = .ok (.getstatic 40, 3) := by decide +kernel
theorem dX7_valueOf_8 : decode cX7_valueOf 8 = .ok (.iload_n 2, 1) := by decide +kernel
theorem dX7_valueOf_9 : decode cX7_valueOf 9 = .ok (.iaload, 1) := by decide +kernel
theorem dX7_valueOf_10 : decode cX7_valueOf 10 = .ok (.goto 13, 3) := by decide +kernel
theorem dX7_valueOf_13 : decode cX7_valueOf 13 = .ok (.aload_n 0, 1) := by decide +kernel
theorem dX7_valueOf_14 : decode cX7_valueOf 14 = .ok (.getfield 15, 3) := by decide +kernel
theorem dX7_valueOf_17 : decode cX7_valueOf 17 = .ok (.iload_n 1, 1) := by decide +kernel
theorem dX7_valueOf_18 : decode cX7_valueOf 18 = .ok (.iconst 3, 1) := by decide +kernel
theorem dX7_valueOf_19 : decode cX7_valueOf 19 = .ok (.imul, 1) := by decide +kernel
theorem dX7_valueOf_20 : decode cX7_valueOf 20 = .ok (.iload_n 2, 1) := by decide +kernel
theorem dX7_valueOf_21 : decode cX7_valueOf 21 = .ok (.iadd, 1) := by decide +kernel
theorem dX7_valueOf_22 : decode cX7_valueOf 22 = .ok (.iaload, 1) := by decide +kernel
theorem dX7_valueOf_23 : decode cX7_valueOf 23 = .ok (.ireturn, 1) := by decide +kernel
theorem dX8_init_0 : decode cX8_init 0 = .ok (.aload_n 0, 1) := by decide +kernel
theorem dX8_init_1 : decode cX8_init 1 = .ok (.invokespecial 5, 3) := by decide +kernel
theorem dX8_init_4 : decode cX8_init 4 = .ok (.aload_n 0, 1) := by decide +kernel
theorem dX8_init_5 : decode cX8_init 5 = .ok (.bipush 20, 2) := by decide +kernel
theorem dX8_init_7 : decode cX8_init 7 = .ok (.newarray .int, 2) := by decide +kernel
theorem dX8_init_9 : decode cX8_init 9 = .ok (.putfield 11, 3) := by decide +kernel
theorem dX8_init_12 : decode cX8_init 12 = .ok (.aload_n 0, 1) := by decide +kernel
theorem dX8_init_13 : decode cX8_init 13 = .ok (.bipush 20, 2) := by decide +kernel
theorem dX8_init_15 : decode cX8_init 15 = .ok (.newarray .int, 2) := by decide +kernel
theorem dX8_init_17 : decode cX8_init 17 = .ok (.putfield 15, 3) := by decide +kernel
theorem dX8_init_20 : decode cX8_init 20 = .ok (.aload_n 0, 1) := by decide +kernel
theorem dX8_init_21 : decode cX8_init 21 = .ok (.sipush 240, 3) := by decide +kernel
theorem dX8_init_24 : decode cX8_init 24 = .ok (.newarray .int, 2) := by decide +kernel
theorem dX8_init_26 : decode cX8_init 26 = .ok (.putfield 18, 3) := by decide +kernel
theorem dX8_init_29 : decode cX8_init 29 = .ok (.aload_n 0, 1) := by decide +kernel
theorem dX8_init_30 : decode cX8_init 30 = .ok (.sipush 240, 3) := by decide +kernel
theorem dX8_init_33 : decode cX8_init 33 = .ok (.newarray .int, 2) := by decide +kernel
theorem dX8_init_35 : decode cX8_init 35 = .ok (.putfield 21, 3) := by decide +kernel
theorem dX8_init_38 : decode cX8_init 38 = .ok (.aload_n 0, 1) := by decide +kernel
theorem dX8_init_39 : decode cX8_init 39 = .ok (.sipush 240, 3) := by decide +kernel
theorem dX8_init_42 : decode cX8_init 42 = .ok (.newarray .int, 2) := by decide +kernel
theorem dX8_init_44 : decode cX8_init 44 = .ok (.putfield 24, 3) := by decide +kernel
theorem dX8_init_47 : decode cX8_init 47 = .ok (.aload_n 0, 1) := by decide +kernel
theorem dX8_init_48 : decode cX8_init 48 = .ok (.sipush 1200, 3) := by decide +kernel
theorem dX8_init_51 : decode cX8_init 51 = .ok (.newarray .boolean, 2) := by decide +kernel
theorem dX8_init_53 : decode cX8_init 53 = .ok (.putfield 27, 3) := by decide +kernel
theorem dX8_init_56 : decode cX8_init 56 = .ok (.aload_n 0, 1) := by decide +kernel
theorem dX8_init_57 : decode cX8_init 57 = .ok (.sipush 1200, 3) := by decide +kernel
theorem dX8_init_60 : decode cX8_init 60 = .ok (.newarray .int, 2) := by decide +kernel
theorem dX8_init_62 : decode cX8_init 62 = .ok (.putfield 31, 3) := by decide +kernel
theorem dX8_init_65 : decode cX8_init 65 = .ok (.aload_n 0, 1) := by decide +kernel
theorem dX8_init_66 : decode cX8_init 66 = .ok (.sipush 1200, 3) := by decide +kernel
theorem dX8_init_69 : decode cX8_init 69 = .ok (.newarray .int, 2) := by decide +kernel
theorem dX8_init_71 : decode cX8_init 71 = .ok (.putfield 34, 3) := by decide +kernel
theorem dX8_init_74 : decode cX8_init 74 = .ok (.aload_n 0, 1) := by decide +kernel
theorem dX8_init_75 : decode cX8_init 75 = .ok (.sipush 1200, 3) := by decide +kernel
theorem dX8_init_78 : decode cX8_init 78 = .ok (.newarray .int, 2) := by decide +kernel
theorem dX8_init_80 : decode cX8_init 80 = .ok (.putfield 37, 3) := by decide +kernel
theorem dX8_init_83 : decode cX8_init 83 = .ok (.aload_n 0, 1) := by decide +kernel
theorem dX8_init_84 : decode cX8_init 84 = .ok (.bipush 13, 2) := by decide +kernel
theorem dX8_init_86 : decode cX8_init 86 = .ok (.newarray .int, 2) := by decide +kernel
theorem dX8_init_88 : decode cX8_init 88 = .ok (.putfield 40, 3) := by decide +kernel
theorem dX8_init_91 : decode cX8_init 91 = .ok (.aload_n 0, 1) := by decide +kernel
theorem dX8_init_92 : decode cX8_init 92 = .ok (.iconst 0, 1) := by decide +kernel
theorem dX8_init_93 : decode cX8_init 93 = .ok (.putfield 43, 3) := by decide +kernel
theorem dX8_init_96 : decode cX8_init 96 = .ok (.aload_n 0, 1) := by decide +kernel
theorem dX8_init_97 : decode cX8_init 97 = .ok (.iconst 0, 1) := by decide +kernel
theorem dX8_init_98 : decode cX8_init 98 = .ok (.putfield 47, 3) := by decide +kernel
theorem dX8_init_101 : decode cX8_init 101 = .ok (.aload_n 0, 1) := by decide +kernel
theorem dX8_init_102 : decode cX8_init 102 = .ok (.iconst (-1), 1) := by decide +kernel
theorem dX8_init_103 : decode cX8_init 103 = .ok (.putfield 50, 3) := by decide +kernel
theorem dX8_init_106 : decode cX8_init 106 = .ok (.return_, 1) := by decide +kernel
theorem dX8_tell_0 : decode cX8_tell 0 = .ok (.aload_n 0, 1) := by decide +kernel
theorem dX8_tell_1 : decode cX8_tell 1 = .ok (.iconst 0, 1) := by decide +kernel
theorem dX8_tell_2 : decode cX8_tell 2 = .ok (.putfield 47, 3) := by decide +kernel
theorem dX8_tell_5 : decode cX8_tell 5 = .ok (.aload_n 0, 1) := by decide +kernel
theorem dX8_tell_6 : decode cX8_tell 6 = .ok (.iconst (-1), 1) := by decide +kernel
theorem dX8_tell_7 : decode cX8_tell 7 = .ok (.putfield 50, 3) := by decide +kernel
theorem dX8_tell_10 : decode cX8_tell 10 = .ok (.aload_n 0, 1) := by decide +kernel
theorem dX8_tell_11 : decode cX8_tell 11 = .ok (.getfield 11, 3) := by decide +kernel
theorem dX8_tell_14 : decode cX8_tell 14 = .ok (.aload_n 0, 1) := by decide +kernel
theorem dX8_tell_15 : decode cX8_tell 15 = .ok (.getfield 43, 3) := by decide +kernel
theorem dX8_tell_18 : decode cX8_tell 18 = .ok (.iload_n 1, 1) := by decide +kernel
theorem dX8_tell_19 : decode cX8_tell 19 = .ok (.iastore, 1) := by decide +kernel
theorem dX8_tell_20 : decode cX8_tell 20 = .ok (.aload_n 0, 1) := by decide +kernel
theorem dX8_tell_21 : decode cX8_tell 21 = .ok (.getfield 15, 3) := by decide +kernel
theorem dX8_tell_24 : decode cX8_tell 24 = .ok (.aload_n 0, 1) := by decide +kernel
theorem dX8_tell_25 : decode cX8_tell 25 = .ok (.getfield 43, 3) := by decide +kernel
theorem dX8_tell_28 : decode cX8_tell 28 = .ok (.iconst 0, 1) := by decide +kernel
theorem dX8_tell_29 : decode cX8_tell 29 = .ok (.iastore, 1) := by decide +kernel
theorem dX8_tell_30 : decode cX8_tell 30 = .ok (.aload_n 0, 1) := by decide +kernel
theorem dX8_tell_31 : decode cX8_tell 31 = .ok (.aload_n 2, 1) := by decide +kernel
theorem dX8_tell_32 : decode cX8_tell 32 = .ok (.invokevirtual 53, 3) := by decide +kernel
theorem dX8_tell_35 : decode cX8_tell 35 = .ok (.aload_n 2, 1) := by decide +kernel
theorem dX8_tell_36 : decode cX8_tell 36 = .ok (.iconst 0, 1) := by decide +kernel
theorem dX8_tell_37 : decode cX8_tell 37 = .ok (.putfield 57, 3) := by decide +kernel
theorem dX8_tell_40 : decode cX8_tell 40 = .ok (.aload_n 0, 1) := by decide +kernel
theorem dX8_tell_41 : decode cX8_tell 41 = .ok (.getfield 47, 3) := by decide +kernel
theorem dX8_tell_44 : decode cX8_tell 44 = .ok (.ifCond .eq 10, 3) := by decide +kernel
theorem dX8_tell_47 : decode cX8_tell 47 = .ok (.iconst (-1), 1) := by decide +kernel
theorem dX8_tell_48 : decode cX8_tell 48 = .ok (.aload_n 0, 1) := by decide +kernel
theorem dX8_tell_49 : decode cX8_tell 49 = .ok (.getfield 47, 3) := by decide +kernel
theorem dX8_tell_52 : decode cX8_tell 52 = .ok (.isub, 1) := by decide +kernel
theorem dX8_tell_53 : decode cX8_tell 53 = .ok (.ireturn, 1) := by decide +kernel
theorem dX8_tell_54 : decode cX8_tell 54 = .ok (.aload_n 0, 1) := by decide +kernel
theorem dX8_tell_55 : decode cX8_tell 55 = .ok (.dup, 1) := by decide +kernel
theorem dX8_tell_56 : decode cX8_tell 56 = .ok (.getfield 43, 3) := by decide +kernel
theorem dX8_tell_59 : decode cX8_tell 59 = .ok (.iconst 1, 1) := by decide +kernel
theorem dX8_tell_60 : decode cX8_tell 60 = .ok (.iadd, 1) := by decide +kernel
theorem dX8_tell_61 : decode cX8_tell 61 = .ok (.putfield 43, 3) := by decide +kernel
theorem dX8_tell_64 : decode cX8_tell 64 = .ok (.aload_n 0, 1) := by decide +kernel
theorem dX8_tell_65 : decode cX8_tell 65 = .ok (.getfield 15, 3) := by decide +kernel
theorem dX8_tell_68 : decode cX8_tell 68 = .ok (.aload_n 0, 1) := by decide +kernel
theorem dX8_tell_69 : decode cX8_tell 69 = .ok (.getfield 43, 3) := by decide +kernel
theorem dX8_tell_72 : decode cX8_tell 72 = .ok (.iconst 1, 1) := by decide +kernel
theorem dX8_tell_73 : decode cX8_tell 73 = .ok (.isub, 1) := by decide +kernel
theorem dX8_tell_74 : decode cX8_tell 74 = .ok (.iaload, 1) := by decide +kernel
theorem dX8_tell_75 : decode cX8_tell 75 = .ok (.ireturn, 1) := by decide +kernel
theorem dX8_readText_0 : decode cX8_readText 0 = .ok (.iconst 1, 1) := by decide +kernel
theorem dX8_readText_1 : decode cX8_readText 1 = .ok (.istore_n 2, 1) := by decide +kernel
theorem dX8_readText_2 : decode cX8_readText 2 = .ok (.aload_n 1, 1) := by decide +kernel
theorem dX8_readText_3 : decode cX8_readText 3 = .ok (.invokevirtual 62, 3) := by decide +kernel
theorem dX8_readText_6 : decode cX8_readText 6 = .ok (.iconst 0, 1) := by decide +kernel
theorem dX8_readText_7 : decode cX8_readText 7 = .ok (.istore_n 3, 1) := by decide +kernel
theorem dX8_readText_8 : decode cX8_readText 8 = .ok (.iload_n 3, 1) := by decide +kernel
theorem dX8_readText_9 : decode cX8_readText 9 = .ok (.sipush 300, 3) := by decide +kernel
theorem dX8_readText_12 : decode cX8_readText 12 = .ok (.if_icmp .ge 35, 3) := by decide +kernel
theorem dX8_readText_15 : decode cX8_readText 15 = .ok (.aload_n 1, 1) := by decide +kernel
theorem dX8_readText_16 : decode cX8_readText 16 = .ok (.invokevirtual 65, 3) := by decide +kernel
theorem dX8_readText_19 : decode cX8_readText 19 = .ok (.ifCond .ne 28, 3) := by decide +kernel
theorem dX8_readText_22 : decode cX8_readText 22 = .ok (.iload_n 2, 1) := by decide +kernel
theorem dX8_readText_23 : decode cX8_readText 23 = .ok (.ifCond .eq 24, 3) := by decide +kernel
theorem dX8_readText_26 : decode cX8_readText 26 = .ok (.aload_n 0, 1) := by decide +kernel
theorem dX8_readText_27 : decode cX8_readText 27 = .ok (.aload_n 1, 1) := by decide +kernel
theorem dX8_readText_28 : decode cX8_readText 28 = .ok (.iload_n 2, 1) := by decide +kernel
theorem dX8_readText_29 : decode cX8_readText 29 = .ok (.invokevirtual 69, 3) := by decide +kernel
theorem dX8_readText_32 : decode cX8_readText 32 = .ok (.istore_n 2, 1) := by decide +kernel
theorem dX8_readText_33 : decode cX8_readText 33 = .ok (.iload_n 2, 1) := by decide +kernel
theorem dX8_readText_34 : decode cX8_readText 34 = .ok (.ifCond .eq 7, 3) := by decide +kernel
theorem dX8_readText_37 : decode cX8_readText 37 = .ok (.aload_n 1, 1) := by decide +kernel
theorem dX8_readText_38 : decode cX8_readText 38 = .ok (.invokevirtual 73, 3) := by decide +kernel
theorem dX8_readText_41 : decode cX8_readText 41 = .ok (.iinc 3 1, 3) := by decide +kernel
theorem dX8_readText_44 : decode cX8_readText 44 = .ok (.goto (-36), 3) := by decide +kernel
theorem dX8_readText_47 : decode cX8_readText 47 = .ok (.iload_n 2, 1) := by decide +kernel
theorem dX8_readText_48 : decode cX8_readText 48 = .ok (.ifCond .eq 15, 3) := by decide +kernel
theorem dX8_readText_51 : decode cX8_readText 51 = .ok (.iload_n 2, 1) := by decide +kernel
theorem dX8_readText_52 : decode cX8_readText 52 = .ok (.iconst 1, 1) := by decide +kernel
theorem dX8_readText_53 : decode cX8_readText 53 = .ok (.if_icmp .eq 10, 3) := by decide +kernel
theorem dX8_readText_56 : decode cX8_readText 56 = .ok (.aload_n 0, 1) := by decide +kernel
theorem dX8_readText_57 : decode cX8_readText 57 = .ok (.aload_n 1, 1) := by decide +kernel
theorem dX8_readText_58 : decode cX8_readText 58 = .ok (.iconst 1, 1) := by decide +kernel
theorem dX8_readText_59 : decode cX8_readText 59 = .ok (.invokevirtual 76, 3) := by decide +kernel
theorem dX8_readText_62 : decode cX8_readText 62 = .ok (.pop, 1) := by decide +kernel
theorem dX8_readText_63 : decode cX8_readText 63 = .ok (.return_, 1) := by decide +kernel
theorem dX8_take_0 : decode cX8_take 0 = .ok (.iload_n 2, 1) := by decide +kernel
theorem dX8_take_1 : decode cX8_take 1 = .ok (.tableswitch 125 1 8 #[47, 53, 65, 75, 95, 101, 113, 119], 47) := by decide +kernel
theorem dX8_take_48 : decode cX8_take 48 = .ok (.aload_n 0, 1) := by decide +kernel
theorem dX8_take_49 : decode cX8_take 49 = .ok (.aload_n 1, 1) := by decide +kernel
theorem dX8_take_50 : decode cX8_take 50 = .ok (.invokevirtual 79, 3) := by decide +kernel
theorem dX8_take_53 : decode cX8_take 53 = .ok (.ireturn, 1) := by decide +kernel
theorem dX8_take_54 : decode cX8_take 54 = .ok (.aload_n 0, 1) := by decide +kernel
theorem dX8_take_55 : decode cX8_take 55 = .ok (.aload_n 1, 1) := by decide +kernel
theorem dX8_take_56 : decode cX8_take 56 = .ok (.aload_n 1, 1) := by decide +kernel
theorem dX8_take_57 : decode cX8_take 57 = .ok (.ldc 83, 2) := by decide +kernel
theorem dX8_take_59 : decode cX8_take 59 = .ok (.invokevirtual 85, 3) := by decide +kernel
theorem dX8_take_62 : decode cX8_take 62 = .ok (.invokevirtual 89, 3) := by decide +kernel
theorem dX8_take_65 : decode cX8_take 65 = .ok (.ireturn, 1) := by decide +kernel
theorem dX8_take_66 : decode cX8_take 66 = .ok (.aload_n 0, 1) := by decide +kernel
theorem dX8_take_67 : decode cX8_take 67 = .ok (.aload_n 1, 1) := by decide +kernel
theorem dX8_take_68 : decode cX8_take 68 = .ok (.aload_n 1, 1) := by decide +kernel
theorem dX8_take_69 : decode cX8_take 69 = .ok (.invokevirtual 92, 3) := by decide +kernel
theorem dX8_take_72 : decode cX8_take 72 = .ok (.invokevirtual 89, 3) := by decide +kernel
theorem dX8_take_75 : decode cX8_take 75 = .ok (.ireturn, 1) := by decide +kernel
theorem dX8_take_76 : decode cX8_take 76 = .ok (.aload_n 1, 1) := by decide +kernel
theorem dX8_take_77 : decode cX8_take 77 = .ok (.ldc 96, 2) := by decide +kernel
theorem dX8_take_79 : decode cX8_take 79 = .ok (.invokevirtual 98, 3) := by decide +kernel
theorem dX8_take_82 : decode cX8_take 82 = .ok (.ifCond .eq 7, 3) := by decide +kernel
theorem dX8_take_85 : decode cX8_take 85 = .ok (.iconst 5, 1) := by decide +kernel
theorem dX8_take_86 : decode cX8_take 86 = .ok (.goto 9, 3) := by decide +kernel
theorem dX8_take_89 : decode cX8_take 89 = .ok (.aload_n 0, 1) := by decide +kernel
theorem dX8_take_90 : decode cX8_take 90 = .ok (.aload_n 1, 1) := by decide +kernel
theorem dX8_take_91 : decode cX8_take 91 = .ok (.iconst 1, 1) := by decide +kernel
theorem dX8_take_92 : decode cX8_take 92 = .ok (.invokevirtual 76, 3) := by decide +kernel
theorem dX8_take_95 : decode cX8_take 95 = .ok (.ireturn, 1) := by decide +kernel
theorem dX8_take_96 : decode cX8_take 96 = .ok (.aload_n 0, 1) := by decide +kernel
theorem dX8_take_97 : decode cX8_take 97 = .ok (.aload_n 1, 1) := by decide +kernel
theorem dX8_take_98 : decode cX8_take 98 = .ok (.invokevirtual 102, 3) := by decide +kernel
theorem dX8_take_101 : decode cX8_take 101 = .ok (.ireturn, 1) := by decide +kernel
theorem dX8_take_102 : decode cX8_take 102 = .ok (.aload_n 0, 1) := by decide +kernel
theorem dX8_take_103 : decode cX8_take 103 = .ok (.aload_n 1, 1) := by decide +kernel
theorem dX8_take_104 : decode cX8_take 104 = .ok (.aload_n 1, 1) := by decide +kernel
theorem dX8_take_105 : decode cX8_take 105 = .ok (.ldc 105, 2) := by decide +kernel
theorem dX8_take_107 : decode cX8_take 107 = .ok (.invokevirtual 85, 3) := by decide +kernel
theorem dX8_take_110 : decode cX8_take 110 = .ok (.invokevirtual 107, 3) := by decide +kernel
theorem dX8_take_113 : decode cX8_take 113 = .ok (.ireturn, 1) := by decide +kernel
theorem dX8_take_114 : decode cX8_take 114 = .ok (.aload_n 0, 1) := by decide +kernel
theorem dX8_take_115 : decode cX8_take 115 = .ok (.aload_n 1, 1) := by decide +kernel
theorem dX8_take_116 : decode cX8_take 116 = .ok (.invokevirtual 110, 3) := by decide +kernel
theorem dX8_take_119 : decode cX8_take 119 = .ok (.ireturn, 1) := by decide +kernel
theorem dX8_take_120 : decode cX8_take 120 = .ok (.aload_n 0, 1) := by decide +kernel
theorem dX8_take_121 : decode cX8_take 121 = .ok (.aload_n 1, 1) := by decide +kernel
theorem dX8_take_122 : decode cX8_take 122 = .ok (.invokevirtual 113, 3) := by decide +kernel
theorem dX8_take_125 : decode cX8_take 125 = .ok (.ireturn, 1) := by decide +kernel
theorem dX8_take_126 : decode cX8_take 126 = .ok (.aload_n 0, 1) := by decide +kernel
theorem dX8_take_127 : decode cX8_take 127 = .ok (.aload_n 1, 1) := by decide +kernel
theorem dX8_take_128 : decode cX8_take 128 = .ok (.invokevirtual 116, 3) := by decide +kernel
theorem dX8_take_131 : decode cX8_take 131 = .ok (.ireturn, 1) := by decide +kernel
theorem dX8_takeVerb_0 : decode cX8_takeVerb 0 = .ok (.aload_n 1, 1) := by decide +kernel
theorem dX8_takeVerb_1 : decode cX8_takeVerb 1 = .ok (.ldc 119, 2) := by decide +kernel
theorem dX8_takeVerb_3 : decode cX8_takeVerb 3 = .ok (.invokevirtual 85, 3) := by decide +kernel
theorem dX8_takeVerb_6 : decode cX8_takeVerb 6 = .ok (.istore_n 2, 1) := by decide +kernel
theorem dX8_takeVerb_7 : decode cX8_takeVerb 7 = .ok (.iload_n 2, 1) := by decide +kernel
theorem dX8_takeVerb_8 : decode cX8_takeVerb 8 = .ok (.iconst (-1), 1) := by decide +kernel
theorem dX8_takeVerb_9 : decode cX8_takeVerb 9 = .ok (.if_icmp .ne 10, 3) := by decide +kernel
theorem dX8_takeVerb_12 : decode cX8_takeVerb 12 = .ok (.aload_n 0, 1) := by decide +kernel
theorem dX8_takeVerb_13 : decode cX8_takeVerb 13 = .ok (.aload_n 1, 1) := by decide +kernel
theorem dX8_takeVerb_14 : decode cX8_takeVerb 14 = .ok (.iconst 1, 1) := by decide +kernel
theorem dX8_takeVerb_15 : decode cX8_takeVerb 15 = .ok (.invokevirtual 76, 3) := by decide +kernel
theorem dX8_takeVerb_18 : decode cX8_takeVerb 18 = .ok (.ireturn, 1) := by decide +kernel
theorem dX8_takeVerb_19 : decode cX8_takeVerb 19 = .ok (.aload_n 0, 1) := by decide +kernel
theorem dX8_takeVerb_20 : decode cX8_takeVerb 20 = .ok (.getfield 15, 3) := by decide +kernel
theorem dX8_takeVerb_23 : decode cX8_takeVerb 23 = .ok (.aload_n 0, 1) := by decide +kernel
theorem dX8_takeVerb_24 : decode cX8_takeVerb 24 = .ok (.getfield 43, 3) := by decide +kernel
theorem dX8_takeVerb_27 : decode cX8_takeVerb 27 = .ok (.iaload, 1) := by decide +kernel
theorem dX8_takeVerb_28 : decode cX8_takeVerb 28 = .ok (.bipush 12, 2) := by decide +kernel
theorem dX8_takeVerb_30 : decode cX8_takeVerb 30 = .ok (.if_icmp .lt 10, 3) := by decide +kernel
theorem dX8_takeVerb_33 : decode cX8_takeVerb 33 = .ok (.aload_n 0, 1) := by decide +kernel
theorem dX8_takeVerb_34 : decode cX8_takeVerb 34 = .ok (.aload_n 1, 1) := by decide +kernel
theorem dX8_takeVerb_35 : decode cX8_takeVerb 35 = .ok (.iconst 2, 1) := by decide +kernel
theorem dX8_takeVerb_36 : decode cX8_takeVerb 36 = .ok (.invokevirtual 76, 3) := by decide +kernel
theorem dX8_takeVerb_39 : decode cX8_takeVerb 39 = .ok (.ireturn, 1) := by decide +kernel
theorem dX8_takeVerb_40 : decode cX8_takeVerb 40 = .ok (.aload_n 0, 1) := by decide +kernel
theorem dX8_takeVerb_41 : decode cX8_takeVerb 41 = .ok (.getfield 15, 3) := by decide +kernel
theorem dX8_takeVerb_44 : decode cX8_takeVerb 44 = .ok (.aload_n 0, 1) := by decide +kernel
theorem dX8_takeVerb_45 : decode cX8_takeVerb 45 = .ok (.getfield 43, 3) := by decide +kernel
theorem dX8_takeVerb_48 : decode cX8_takeVerb 48 = .ok (.dup2, 1) := by decide +kernel
theorem dX8_takeVerb_49 : decode cX8_takeVerb 49 = .ok (.iaload, 1) := by decide +kernel
theorem dX8_takeVerb_50 : decode cX8_takeVerb 50 = .ok (.iconst 1, 1) := by decide +kernel
theorem dX8_takeVerb_51 : decode cX8_takeVerb 51 = .ok (.iadd, 1) := by decide +kernel
theorem dX8_takeVerb_52 : decode cX8_takeVerb 52 = .ok (.iastore, 1) := by decide +kernel
theorem dX8_takeVerb_53 : decode cX8_takeVerb 53 = .ok (.aload_n 0, 1) := by decide +kernel
theorem dX8_takeVerb_54 : decode cX8_takeVerb 54 = .ok (.getfield 18, 3) := by decide +kernel
theorem dX8_takeVerb_57 : decode cX8_takeVerb 57 = .ok (.aload_n 0, 1) := by decide +kernel
theorem dX8_takeVerb_58 : decode cX8_takeVerb 58 = .ok (.invokevirtual 121, 3) := by decide +kernel
theorem dX8_takeVerb_61 : decode cX8_takeVerb 61 = .ok (.iload_n 2, 1) := by decide +kernel
theorem dX8_takeVerb_62 : decode cX8_takeVerb 62 = .ok (.iastore, 1) := by decide +kernel
theorem dX8_takeVerb_63 : decode cX8_takeVerb 63 = .ok (.aload_n 0, 1) := by decide +kernel
theorem dX8_takeVerb_64 : decode cX8_takeVerb 64 = .ok (.getfield 24, 3) := by decide +kernel
theorem dX8_takeVerb_67 : decode cX8_takeVerb 67 = .ok (.aload_n 0, 1) := by decide +kernel
theorem dX8_takeVerb_68 : decode cX8_takeVerb 68 = .ok (.invokevirtual 121, 3) := by decide +kernel
theorem dX8_takeVerb_71 : decode cX8_takeVerb 71 = .ok (.iconst 0, 1) := by decide +kernel
theorem dX8_takeVerb_72 : decode cX8_takeVerb 72 = .ok (.iastore, 1) := by decide +kernel
theorem dX8_takeVerb_73 : decode cX8_takeVerb 73 = .ok (.iload_n 2, 1) := by decide +kernel
theorem dX8_takeVerb_74 : decode cX8_takeVerb 74 = .ok (.ifCond .ne 7, 3) := by decide +kernel
theorem dX8_takeVerb_77 : decode cX8_takeVerb 77 = .ok (.iconst 2, 1) := by decide +kernel
theorem dX8_takeVerb_78 : decode cX8_takeVerb 78 = .ok (.goto 4, 3) := by decide +kernel
theorem dX8_takeVerb_81 : decode cX8_takeVerb 81 = .ok (.iconst 3, 1) := by decide +kernel
theorem dX8_takeVerb_82 : decode cX8_takeVerb 82 = .ok (.ireturn, 1) := by decide +kernel
theorem dX8_takeObject_0 : decode cX8_takeObject 0 = .ok (.iload_n 2, 1) := by decide +kernel
theorem dX8_takeObject_1 : decode cX8_takeObject 1 = .ok (.iconst (-1), 1) := by decide +kernel
theorem dX8_takeObject_2 : decode cX8_takeObject 2 = .ok (.if_icmp .ne 10, 3) := by decide +kernel
theorem dX8_takeObject_5 : decode cX8_takeObject 5 = .ok (.aload_n 0, 1) := by decide +kernel
theorem dX8_takeObject_6 : decode cX8_takeObject 6 = .ok (.aload_n 1, 1) := by decide +kernel
theorem dX8_takeObject_7 : decode cX8_takeObject 7 = .ok (.iconst 1, 1) := by decide +kernel
theorem dX8_takeObject_8 : decode cX8_takeObject 8 = .ok (.invokevirtual 76, 3) := by decide +kernel
theorem dX8_takeObject_11 : decode cX8_takeObject 11 = .ok (.ireturn, 1) := by decide +kernel
theorem dX8_takeObject_12 : decode cX8_takeObject 12 = .ok (.aload_n 0, 1) := by decide +kernel
theorem dX8_takeObject_13 : decode cX8_takeObject 13 = .ok (.getfield 21, 3) := by decide +kernel
theorem dX8_takeObject_16 : decode cX8_takeObject 16 = .ok (.aload_n 0, 1) := by decide +kernel
theorem dX8_takeObject_17 : decode cX8_takeObject 17 = .ok (.invokevirtual 121, 3) := by decide +kernel
theorem dX8_takeObject_20 : decode cX8_takeObject 20 = .ok (.iload_n 2, 1) := by decide +kernel
theorem dX8_takeObject_21 : decode cX8_takeObject 21 = .ok (.iastore, 1) := by decide +kernel
theorem dX8_takeObject_22 : decode cX8_takeObject 22 = .ok (.iconst 4, 1) := by decide +kernel
theorem dX8_takeObject_23 : decode cX8_takeObject 23 = .ok (.ireturn, 1) := by decide +kernel
theorem dX8_takeTerm_0 : decode cX8_takeTerm 0 = .ok (.aload_n 1, 1) := by decide +kernel
theorem dX8_takeTerm_1 : decode cX8_takeTerm 1 = .ok (.ldc 124, 2) := by decide +kernel
theorem dX8_takeTerm_3 : decode cX8_takeTerm 3 = .ok (.invokevirtual 98, 3) := by decide +kernel
theorem dX8_takeTerm_6 : decode cX8_takeTerm 6 = .ok (.istore_n 2, 1) := by decide +kernel
theorem dX8_takeTerm_7 : decode cX8_takeTerm 7 = .ok (.aload_n 1, 1) := by decide +kernel
theorem dX8_takeTerm_8 : decode cX8_takeTerm 8 = .ok (.ldc 105, 2) := by decide +kernel
theorem dX8_takeTerm_10 : decode cX8_takeTerm 10 = .ok (.invokevirtual 85, 3) := by decide +kernel
theorem dX8_takeTerm_13 : decode cX8_takeTerm 13 = .ok (.istore_n 3, 1) := by decide +kernel
theorem dX8_takeTerm_14 : decode cX8_takeTerm 14 = .ok (.iload_n 2, 1) := by decide +kernel
theorem dX8_takeTerm_15 : decode cX8_takeTerm 15 = .ok (.ifCond .ne 15, 3) := by decide +kernel
theorem dX8_takeTerm_18 : decode cX8_takeTerm 18 = .ok (.iload_n 3, 1) := by decide +kernel
theorem dX8_takeTerm_19 : decode cX8_takeTerm 19 = .ok (.iconst (-1), 1) := by decide +kernel
theorem dX8_takeTerm_20 : decode cX8_takeTerm 20 = .ok (.if_icmp .ne 10, 3) := by decide +kernel
theorem dX8_takeTerm_23 : decode cX8_takeTerm 23 = .ok (.aload_n 0, 1) := by decide +kernel
theorem dX8_takeTerm_24 : decode cX8_takeTerm 24 = .ok (.aload_n 1, 1) := by decide +kernel
theorem dX8_takeTerm_25 : decode cX8_takeTerm 25 = .ok (.iconst 1, 1) := by decide +kernel
theorem dX8_takeTerm_26 : decode cX8_takeTerm 26 = .ok (.invokevirtual 76, 3) := by decide +kernel
theorem dX8_takeTerm_29 : decode cX8_takeTerm 29 = .ok (.ireturn, 1) := by decide +kernel
theorem dX8_takeTerm_30 : decode cX8_takeTerm 30 = .ok (.aload_n 0, 1) := by decide +kernel
theorem dX8_takeTerm_31 : decode cX8_takeTerm 31 = .ok (.getfield 24, 3) := by decide +kernel
theorem dX8_takeTerm_34 : decode cX8_takeTerm 34 = .ok (.aload_n 0, 1) := by decide +kernel
theorem dX8_takeTerm_35 : decode cX8_takeTerm 35 = .ok (.invokevirtual 121, 3) := by decide +kernel
theorem dX8_takeTerm_38 : decode cX8_takeTerm 38 = .ok (.iaload, 1) := by decide +kernel
theorem dX8_takeTerm_39 : decode cX8_takeTerm 39 = .ok (.iconst 5, 1) := by decide +kernel
theorem dX8_takeTerm_40 : decode cX8_takeTerm 40 = .ok (.if_icmp .lt 10, 3) := by decide +kernel
theorem dX8_takeTerm_43 : decode cX8_takeTerm 43 = .ok (.aload_n 0, 1) := by decide +kernel
theorem dX8_takeTerm_44 : decode cX8_takeTerm 44 = .ok (.aload_n 1, 1) := by decide +kernel
theorem dX8_takeTerm_45 : decode cX8_takeTerm 45 = .ok (.iconst 2, 1) := by decide +kernel
theorem dX8_takeTerm_46 : decode cX8_takeTerm 46 = .ok (.invokevirtual 76, 3) := by decide +kernel
theorem dX8_takeTerm_49 : decode cX8_takeTerm 49 = .ok (.ireturn, 1) := by decide +kernel
theorem dX8_takeTerm_50 : decode cX8_takeTerm 50 = .ok (.aload_n 0, 1) := by decide +kernel
theorem dX8_takeTerm_51 : decode cX8_takeTerm 51 = .ok (.getfield 24, 3) := by decide +kernel
theorem dX8_takeTerm_54 : decode cX8_takeTerm 54 = .ok (.aload_n 0, 1) := by decide +kernel
theorem dX8_takeTerm_55 : decode cX8_takeTerm 55 = .ok (.invokevirtual 121, 3) := by decide +kernel
theorem dX8_takeTerm_58 : decode cX8_takeTerm 58 = .ok (.dup2, 1) := by decide +kernel
theorem dX8_takeTerm_59 : decode cX8_takeTerm 59 = .ok (.iaload, 1) := by decide +kernel
theorem dX8_takeTerm_60 : decode cX8_takeTerm 60 = .ok (.iconst 1, 1) := by decide +kernel
theorem dX8_takeTerm_61 : decode cX8_takeTerm 61 = .ok (.iadd, 1) := by decide +kernel
theorem dX8_takeTerm_62 : decode cX8_takeTerm 62 = .ok (.iastore, 1) := by decide +kernel
theorem dX8_takeTerm_63 : decode cX8_takeTerm 63 = .ok (.aload_n 0, 1) := by decide +kernel
theorem dX8_takeTerm_64 : decode cX8_takeTerm 64 = .ok (.getfield 27, 3) := by decide +kernel
theorem dX8_takeTerm_67 : decode cX8_takeTerm 67 = .ok (.aload_n 0, 1) := by decide +kernel
theorem dX8_takeTerm_68 : decode cX8_takeTerm 68 = .ok (.invokevirtual 126, 3) := by decide +kernel
theorem dX8_takeTerm_71 : decode cX8_takeTerm 71 = .ok (.iload_n 2, 1) := by decide +kernel
theorem dX8_takeTerm_72 : decode cX8_takeTerm 72 = .ok (.bastore, 1) := by decide +kernel
theorem dX8_takeTerm_73 : decode cX8_takeTerm 73 = .ok (.iload_n 2, 1) := by decide +kernel
theorem dX8_takeTerm_74 : decode cX8_takeTerm 74 = .ok (.ifCond .eq 8, 3) := by decide +kernel
theorem dX8_takeTerm_77 : decode cX8_takeTerm 77 = .ok (.bipush 6, 2) := by decide +kernel
theorem dX8_takeTerm_79 : decode cX8_takeTerm 79 = .ok (.goto 9, 3) := by decide +kernel
theorem dX8_takeTerm_82 : decode cX8_takeTerm 82 = .ok (.aload_n 0, 1) := by decide +kernel
theorem dX8_takeTerm_83 : decode cX8_takeTerm 83 = .ok (.aload_n 1, 1) := by decide +kernel
theorem dX8_takeTerm_84 : decode cX8_takeTerm 84 = .ok (.iload_n 3, 1) := by decide +kernel
theorem dX8_takeTerm_85 : decode cX8_takeTerm 85 = .ok (.invokevirtual 107, 3) := by decide +kernel
theorem dX8_takeTerm_88 : decode cX8_takeTerm 88 = .ok (.ireturn, 1) := by decide +kernel
theorem dX8_takeWord_0 : decode cX8_takeWord 0 = .ok (.iload_n 2, 1) := by decide +kernel
theorem dX8_takeWord_1 : decode cX8_takeWord 1 = .ok (.iconst (-1), 1) := by decide +kernel
theorem dX8_takeWord_2 : decode cX8_takeWord 2 = .ok (.if_icmp .ne 10, 3) := by decide +kernel
theorem dX8_takeWord_5 : decode cX8_takeWord 5 = .ok (.aload_n 0, 1) := by decide +kernel
theorem dX8_takeWord_6 : decode cX8_takeWord 6 = .ok (.aload_n 1, 1) := by decide +kernel
theorem dX8_takeWord_7 : decode cX8_takeWord 7 = .ok (.iconst 1, 1) := by decide +kernel
theorem dX8_takeWord_8 : decode cX8_takeWord 8 = .ok (.invokevirtual 76, 3) := by decide +kernel
theorem dX8_takeWord_11 : decode cX8_takeWord 11 = .ok (.ireturn, 1) := by decide +kernel
theorem dX8_takeWord_12 : decode cX8_takeWord 12 = .ok (.aload_n 0, 1) := by decide +kernel
theorem dX8_takeWord_13 : decode cX8_takeWord 13 = .ok (.getfield 31, 3) := by decide +kernel
theorem dX8_takeWord_16 : decode cX8_takeWord 16 = .ok (.aload_n 0, 1) := by decide +kernel
theorem dX8_takeWord_17 : decode cX8_takeWord 17 = .ok (.invokevirtual 126, 3) := by decide +kernel
theorem dX8_takeWord_20 : decode cX8_takeWord 20 = .ok (.iload_n 2, 1) := by decide +kernel
theorem dX8_takeWord_21 : decode cX8_takeWord 21 = .ok (.iastore, 1) := by decide +kernel
theorem dX8_takeWord_22 : decode cX8_takeWord 22 = .ok (.bipush 7, 2) := by decide +kernel
theorem dX8_takeWord_24 : decode cX8_takeWord 24 = .ok (.ireturn, 1) := by decide +kernel
theorem dX8_takeRelation_0 : decode cX8_takeRelation 0 = .ok (.aload_n 1, 1) := by decide +kernel
theorem dX8_takeRelation_1 : decode cX8_takeRelation 1 = .ok (.invokevirtual 129, 3) := by decide +kernel
theorem dX8_takeRelation_4 : decode cX8_takeRelation 4 = .ok (.istore_n 2, 1) := by decide +kernel
theorem dX8_takeRelation_5 : decode cX8_takeRelation 5 = .ok (.iload_n 2, 1) := by decide +kernel
theorem dX8_takeRelation_6 : decode cX8_takeRelation 6 = .ok (.iconst 0, 1) := by decide +kernel
theorem dX8_takeRelation_7 : decode cX8_takeRelation 7 = .ok (.iconst 2, 1) := by decide +kernel
theorem dX8_takeRelation_8 : decode cX8_takeRelation 8 = .ok (.invokestatic 132, 3) := by decide +kernel
theorem dX8_takeRelation_11 : decode cX8_takeRelation 11 = .ok (.ifCond .ne 10, 3) := by decide +kernel
theorem dX8_takeRelation_14 : decode cX8_takeRelation 14 = .ok (.aload_n 0, 1) := by decide +kernel
theorem dX8_takeRelation_15 : decode cX8_takeRelation 15 = .ok (.aload_n 1, 1) := by decide +kernel
theorem dX8_takeRelation_16 : decode cX8_takeRelation 16 = .ok (.iconst 1, 1) := by decide +kernel
theorem dX8_takeRelation_17 : decode cX8_takeRelation 17 = .ok (.invokevirtual 76, 3) := by decide +kernel
theorem dX8_takeRelation_20 : decode cX8_takeRelation 20 = .ok (.ireturn, 1) := by decide +kernel
theorem dX8_takeRelation_21 : decode cX8_takeRelation 21 = .ok (.aload_n 0, 1) := by decide +kernel
theorem dX8_takeRelation_22 : decode cX8_takeRelation 22 = .ok (.getfield 34, 3) := by decide +kernel
theorem dX8_takeRelation_25 : decode cX8_takeRelation 25 = .ok (.aload_n 0, 1) := by decide +kernel
theorem dX8_takeRelation_26 : decode cX8_takeRelation 26 = .ok (.invokevirtual 126, 3) := by decide +kernel
theorem dX8_takeRelation_29 : decode cX8_takeRelation 29 = .ok (.iload_n 2, 1) := by decide +kernel
theorem dX8_takeRelation_30 : decode cX8_takeRelation 30 = .ok (.iastore, 1) := by decide +kernel
theorem dX8_takeRelation_31 : decode cX8_takeRelation 31 = .ok (.bipush 8, 2) := by decide +kernel
theorem dX8_takeRelation_33 : decode cX8_takeRelation 33 = .ok (.ireturn, 1) := by decide +kernel
theorem dX8_takeValue_0 : decode cX8_takeValue 0 = .ok (.aload_n 1, 1) := by decide +kernel
theorem dX8_takeValue_1 : decode cX8_takeValue 1 = .ok (.invokevirtual 92, 3) := by decide +kernel
theorem dX8_takeValue_4 : decode cX8_takeValue 4 = .ok (.istore_n 2, 1) := by decide +kernel
theorem dX8_takeValue_5 : decode cX8_takeValue 5 = .ok (.iload_n 2, 1) := by decide +kernel
theorem dX8_takeValue_6 : decode cX8_takeValue 6 = .ok (.iconst (-1), 1) := by decide +kernel
theorem dX8_takeValue_7 : decode cX8_takeValue 7 = .ok (.if_icmp .ne 10, 3) := by decide +kernel
theorem dX8_takeValue_10 : decode cX8_takeValue 10 = .ok (.aload_n 0, 1) := by decide +kernel
theorem dX8_takeValue_11 : decode cX8_takeValue 11 = .ok (.aload_n 1, 1) := by decide +kernel
theorem dX8_takeValue_12 : decode cX8_takeValue 12 = .ok (.iconst 1, 1) := by decide +kernel
theorem dX8_takeValue_13 : decode cX8_takeValue 13 = .ok (.invokevirtual 76, 3) := by decide +kernel
theorem dX8_takeValue_16 : decode cX8_takeValue 16 = .ok (.ireturn, 1) := by decide +kernel
theorem dX8_takeValue_17 : decode cX8_takeValue 17 = .ok (.aload_n 0, 1) := by decide +kernel
theorem dX8_takeValue_18 : decode cX8_takeValue 18 = .ok (.getfield 37, 3) := by decide +kernel
theorem dX8_takeValue_21 : decode cX8_takeValue 21 = .ok (.aload_n 0, 1) := by decide +kernel
theorem dX8_takeValue_22 : decode cX8_takeValue 22 = .ok (.invokevirtual 126, 3) := by decide +kernel
theorem dX8_takeValue_25 : decode cX8_takeValue 25 = .ok (.iload_n 2, 1) := by decide +kernel
theorem dX8_takeValue_26 : decode cX8_takeValue 26 = .ok (.iastore, 1) := by decide +kernel
theorem dX8_takeValue_27 : decode cX8_takeValue 27 = .ok (.bipush 9, 2) := by decide +kernel
theorem dX8_takeValue_29 : decode cX8_takeValue 29 = .ok (.ireturn, 1) := by decide +kernel
theorem dX8_takeJoint_0 : decode cX8_takeJoint 0 = .ok (.aload_n 1, 1) := by decide +kernel
theorem dX8_takeJoint_1 : decode cX8_takeJoint 1 = .ok (.ldc 136, 2) := by decide +kernel
theorem dX8_takeJoint_3 : decode cX8_takeJoint 3 = .ok (.invokevirtual 98, 3) := by decide +kernel
theorem dX8_takeJoint_6 : decode cX8_takeJoint 6 = .ok (.ifCond .eq 5, 3) := by decide +kernel
theorem dX8_takeJoint_9 : decode cX8_takeJoint 9 = .ok (.iconst 5, 1) := by decide +kernel
theorem dX8_takeJoint_10 : decode cX8_takeJoint 10 = .ok (.ireturn, 1) := by decide +kernel
theorem dX8_takeJoint_11 : decode cX8_takeJoint 11 = .ok (.aload_n 1, 1) := by decide +kernel
theorem dX8_takeJoint_12 : decode cX8_takeJoint 12 = .ok (.invokevirtual 129, 3) := by decide +kernel
theorem dX8_takeJoint_15 : decode cX8_takeJoint 15 = .ok (.iconst 3, 1) := by decide +kernel
theorem dX8_takeJoint_16 : decode cX8_takeJoint 16 = .ok (.if_icmp .ne 7, 3) := by decide +kernel
theorem dX8_takeJoint_19 : decode cX8_takeJoint 19 = .ok (.iconst 1, 1) := by decide +kernel
theorem dX8_takeJoint_20 : decode cX8_takeJoint 20 = .ok (.goto 9, 3) := by decide +kernel
theorem dX8_takeJoint_23 : decode cX8_takeJoint 23 = .ok (.aload_n 0, 1) := by decide +kernel
theorem dX8_takeJoint_24 : decode cX8_takeJoint 24 = .ok (.aload_n 1, 1) := by decide +kernel
theorem dX8_takeJoint_25 : decode cX8_takeJoint 25 = .ok (.iconst 1, 1) := by decide +kernel
theorem dX8_takeJoint_26 : decode cX8_takeJoint 26 = .ok (.invokevirtual 76, 3) := by decide +kernel
theorem dX8_takeJoint_29 : decode cX8_takeJoint 29 = .ok (.ireturn, 1) := by decide +kernel
theorem dX8_statementAtHand_0 : decode cX8_statementAtHand 0 = .ok (.aload_n 0, 1) := by decide +kernel
theorem dX8_statementAtHand_1 : decode cX8_statementAtHand 1 = .ok (.getfield 43, 3) := by decide +kernel
theorem dX8_statementAtHand_4 : decode cX8_statementAtHand 4 = .ok (.bipush 12, 2) := by decide +kernel
theorem dX8_statementAtHand_6 : decode cX8_statementAtHand 6 = .ok (.imul, 1) := by decide +kernel
theorem dX8_statementAtHand_7 : decode cX8_statementAtHand 7 = .ok (.aload_n 0, 1) := by decide +kernel
theorem dX8_statementAtHand_8 : decode cX8_statementAtHand 8 = .ok (.getfield 15, 3) := by decide +kernel
theorem dX8_statementAtHand_11 : decode cX8_statementAtHand 11 = .ok (.aload_n 0, 1) := by decide +kernel
theorem dX8_statementAtHand_12 : decode cX8_statementAtHand 12 = .ok (.getfield 43, 3) := by decide +kernel
theorem dX8_statementAtHand_15 : decode cX8_statementAtHand 15 = .ok (.iaload, 1) := by decide +kernel
theorem dX8_statementAtHand_16 : decode cX8_statementAtHand 16 = .ok (.iadd, 1) := by decide +kernel
theorem dX8_statementAtHand_17 : decode cX8_statementAtHand 17 = .ok (.iconst 1, 1) := by decide +kernel
theorem dX8_statementAtHand_18 : decode cX8_statementAtHand 18 = .ok (.isub, 1) := by decide +kernel
theorem dX8_statementAtHand_19 : decode cX8_statementAtHand 19 = .ok (.ireturn, 1) := by decide +kernel
theorem dX8_termAtHand_0 : decode cX8_termAtHand 0 = .ok (.aload_n 0, 1) := by decide +kernel
theorem dX8_termAtHand_1 : decode cX8_termAtHand 1 = .ok (.invokevirtual 121, 3) := by decide +kernel
theorem dX8_termAtHand_4 : decode cX8_termAtHand 4 = .ok (.iconst 5, 1) := by decide +kernel
theorem dX8_termAtHand_5 : decode cX8_termAtHand 5 = .ok (.imul, 1) := by decide +kernel
theorem dX8_termAtHand_6 : decode cX8_termAtHand 6 = .ok (.aload_n 0, 1) := by decide +kernel
theorem dX8_termAtHand_7 : decode cX8_termAtHand 7 = .ok (.getfield 24, 3) := by decide +kernel
theorem dX8_termAtHand_10 : decode cX8_termAtHand 10 = .ok (.aload_n 0, 1) := by decide +kernel
theorem dX8_termAtHand_11 : decode cX8_termAtHand 11 = .ok (.invokevirtual 121, 3) := by decide +kernel
theorem dX8_termAtHand_14 : decode cX8_termAtHand 14 = .ok (.iaload, 1) := by decide +kernel
theorem dX8_termAtHand_15 : decode cX8_termAtHand 15 = .ok (.iadd, 1) := by decide +kernel
theorem dX8_termAtHand_16 : decode cX8_termAtHand 16 = .ok (.iconst 1, 1) := by decide +kernel
theorem dX8_termAtHand_17 : decode cX8_termAtHand 17 = .ok (.isub, 1) := by decide +kernel
theorem dX8_termAtHand_18 : decode cX8_termAtHand 18 = .ok (.ireturn, 1) := by decide +kernel
theorem dX8_refuse_0 : decode cX8_refuse 0 = .ok (.aload_n 0, 1) := by decide +kernel
theorem dX8_refuse_1 : decode cX8_refuse 1 = .ok (.iload_n 2, 1) := by decide +kernel
theorem dX8_refuse_2 : decode cX8_refuse 2 = .ok (.putfield 47, 3) := by decide +kernel
theorem dX8_refuse_5 : decode cX8_refuse 5 = .ok (.aload_n 0, 1) := by decide +kernel
theorem dX8_refuse_6 : decode cX8_refuse 6 = .ok (.aload_n 1, 1) := by decide +kernel
theorem dX8_refuse_7 : decode cX8_refuse 7 = .ok (.getfield 138, 3) := by decide +kernel
theorem dX8_refuse_10 : decode cX8_refuse 10 = .ok (.putfield 50, 3) := by decide +kernel
theorem dX8_refuse_13 : decode cX8_refuse 13 = .ok (.iconst 0, 1) := by decide +kernel
theorem dX8_refuse_14 : decode cX8_refuse 14 = .ok (.ireturn, 1) := by decide +kernel
theorem dX8_askOfDay_0 : decode cX8_askOfDay 0 = .ok (.iconst 0, 1) := by decide +kernel
theorem dX8_askOfDay_1 : decode cX8_askOfDay 1 = .ok (.istore_n 2, 1) := by decide +kernel
theorem dX8_askOfDay_2 : decode cX8_askOfDay 2 = .ok (.iload_n 2, 1) := by decide +kernel
theorem dX8_askOfDay_3 : decode cX8_askOfDay 3 = .ok (.bipush 13, 2) := by decide +kernel
theorem dX8_askOfDay_5 : decode cX8_askOfDay 5 = .ok (.if_icmp .ge 16, 3) := by decide +kernel
theorem dX8_askOfDay_8 : decode cX8_askOfDay 8 = .ok (.aload_n 0, 1) := by decide +kernel
theorem dX8_askOfDay_9 : decode cX8_askOfDay 9 = .ok (.getfield 40, 3) := by decide +kernel
theorem dX8_askOfDay_12 : decode cX8_askOfDay 12 = .ok (.iload_n 2, 1) := by decide +kernel
theorem dX8_askOfDay_13 : decode cX8_askOfDay 13 = .ok (.iconst 0, 1) := by decide +kernel
theorem dX8_askOfDay_14 : decode cX8_askOfDay 14 = .ok (.iastore, 1) := by decide +kernel
theorem dX8_askOfDay_15 : decode cX8_askOfDay 15 = .ok (.iinc 2 1, 3) := by decide +kernel
theorem dX8_askOfDay_18 : decode cX8_askOfDay 18 = .ok (.goto (-16), 3) := by decide +kernel
theorem dX8_askOfDay_21 : decode cX8_askOfDay 21 = .ok (.aload_n 0, 1) := by decide +kernel
theorem dX8_askOfDay_22 : decode cX8_askOfDay 22 = .ok (.getfield 40, 3) := by decide +kernel
theorem dX8_askOfDay_25 : decode cX8_askOfDay 25 = .ok (.iconst 4, 1) := by decide +kernel
theorem dX8_askOfDay_26 : decode cX8_askOfDay 26 = .ok (.aload_n 1, 1) := by decide +kernel
theorem dX8_askOfDay_27 : decode cX8_askOfDay 27 = .ok (.invokevirtual 141, 3) := by decide +kernel
theorem dX8_askOfDay_30 : decode cX8_askOfDay 30 = .ok (.iastore, 1) := by decide +kernel
theorem dX8_askOfDay_31 : decode cX8_askOfDay 31 = .ok (.aload_n 0, 1) := by decide +kernel
theorem dX8_askOfDay_32 : decode cX8_askOfDay 32 = .ok (.getfield 40, 3) := by decide +kernel
theorem dX8_askOfDay_35 : decode cX8_askOfDay 35 = .ok (.iconst 5, 1) := by decide +kernel
theorem dX8_askOfDay_36 : decode cX8_askOfDay 36 = .ok (.aload_n 1, 1) := by decide +kernel
theorem dX8_askOfDay_37 : decode cX8_askOfDay 37 = .ok (.getfield 146, 3) := by decide +kernel
theorem dX8_askOfDay_40 : decode cX8_askOfDay 40 = .ok (.iastore, 1) := by decide +kernel
theorem dX8_askOfDay_41 : decode cX8_askOfDay 41 = .ok (.aload_n 0, 1) := by decide +kernel
theorem dX8_askOfDay_42 : decode cX8_askOfDay 42 = .ok (.getfield 40, 3) := by decide +kernel
theorem dX8_askOfDay_45 : decode cX8_askOfDay 45 = .ok (.bipush 6, 2) := by decide +kernel
theorem dX8_askOfDay_47 : decode cX8_askOfDay 47 = .ok (.aload_n 1, 1) := by decide +kernel
theorem dX8_askOfDay_48 : decode cX8_askOfDay 48 = .ok (.iconst 0, 1) := by decide +kernel
theorem dX8_askOfDay_49 : decode cX8_askOfDay 49 = .ok (.invokevirtual 149, 3) := by decide +kernel
theorem dX8_askOfDay_52 : decode cX8_askOfDay 52 = .ok (.iastore, 1) := by decide +kernel
theorem dX8_askOfDay_53 : decode cX8_askOfDay 53 = .ok (.aload_n 0, 1) := by decide +kernel
theorem dX8_askOfDay_54 : decode cX8_askOfDay 54 = .ok (.getfield 40, 3) := by decide +kernel
theorem dX8_askOfDay_57 : decode cX8_askOfDay 57 = .ok (.bipush 7, 2) := by decide +kernel
theorem dX8_askOfDay_59 : decode cX8_askOfDay 59 = .ok (.aload_n 1, 1) := by decide +kernel
theorem dX8_askOfDay_60 : decode cX8_askOfDay 60 = .ok (.iconst 1, 1) := by decide +kernel
theorem dX8_askOfDay_61 : decode cX8_askOfDay 61 = .ok (.invokevirtual 149, 3) := by decide +kernel
theorem dX8_askOfDay_64 : decode cX8_askOfDay 64 = .ok (.iastore, 1) := by decide +kernel
theorem dX8_askOfDay_65 : decode cX8_askOfDay 65 = .ok (.aload_n 0, 1) := by decide +kernel
theorem dX8_askOfDay_66 : decode cX8_askOfDay 66 = .ok (.getfield 40, 3) := by decide +kernel
theorem dX8_askOfDay_69 : decode cX8_askOfDay 69 = .ok (.bipush 8, 2) := by decide +kernel
theorem dX8_askOfDay_71 : decode cX8_askOfDay 71 = .ok (.aload_n 1, 1) := by decide +kernel
theorem dX8_askOfDay_72 : decode cX8_askOfDay 72 = .ok (.iconst 2, 1) := by decide +kernel
theorem dX8_askOfDay_73 : decode cX8_askOfDay 73 = .ok (.invokevirtual 149, 3) := by decide +kernel
theorem dX8_askOfDay_76 : decode cX8_askOfDay 76 = .ok (.iastore, 1) := by decide +kernel
theorem dX8_askOfDay_77 : decode cX8_askOfDay 77 = .ok (.return_, 1) := by decide +kernel
theorem dX8_askOfCell_0 : decode cX8_askOfCell 0 = .ok (.aload_n 0, 1) := by decide +kernel
theorem dX8_askOfCell_1 : decode cX8_askOfCell 1 = .ok (.getfield 40, 3) := by decide +kernel
theorem dX8_askOfCell_4 : decode cX8_askOfCell 4 = .ok (.iconst 0, 1) := by decide +kernel
theorem dX8_askOfCell_5 : decode cX8_askOfCell 5 = .ok (.iload_n 2, 1) := by decide +kernel
theorem dX8_askOfCell_6 : decode cX8_askOfCell 6 = .ok (.iastore, 1) := by decide +kernel
theorem dX8_askOfCell_7 : decode cX8_askOfCell 7 = .ok (.aload_n 0, 1) := by decide +kernel
theorem dX8_askOfCell_8 : decode cX8_askOfCell 8 = .ok (.getfield 40, 3) := by decide +kernel
theorem dX8_askOfCell_11 : decode cX8_askOfCell 11 = .ok (.iconst 1, 1) := by decide +kernel
theorem dX8_askOfCell_12 : decode cX8_askOfCell 12 = .ok (.aload_n 1, 1) := by decide +kernel
theorem dX8_askOfCell_13 : decode cX8_askOfCell 13 = .ok (.getfield 153, 3) := by decide +kernel
theorem dX8_askOfCell_16 : decode cX8_askOfCell 16 = .ok (.iload_n 2, 1) := by decide +kernel
theorem dX8_askOfCell_17 : decode cX8_askOfCell 17 = .ok (.iaload, 1) := by decide +kernel
theorem dX8_askOfCell_18 : decode cX8_askOfCell 18 = .ok (.iastore, 1) := by decide +kernel
theorem dX8_askOfCell_19 : decode cX8_askOfCell 19 = .ok (.aload_n 0, 1) := by decide +kernel
theorem dX8_askOfCell_20 : decode cX8_askOfCell 20 = .ok (.getfield 40, 3) := by decide +kernel
theorem dX8_askOfCell_23 : decode cX8_askOfCell 23 = .ok (.bipush 9, 2) := by decide +kernel
theorem dX8_askOfCell_25 : decode cX8_askOfCell 25 = .ok (.aload_n 1, 1) := by decide +kernel
theorem dX8_askOfCell_26 : decode cX8_askOfCell 26 = .ok (.iload_n 2, 1) := by decide +kernel
theorem dX8_askOfCell_27 : decode cX8_askOfCell 27 = .ok (.invokevirtual 158, 3) := by decide +kernel
theorem dX8_askOfCell_30 : decode cX8_askOfCell 30 = .ok (.iastore, 1) := by decide +kernel
theorem dX8_askOfCell_31 : decode cX8_askOfCell 31 = .ok (.aload_n 0, 1) := by decide +kernel
theorem dX8_askOfCell_32 : decode cX8_askOfCell 32 = .ok (.getfield 40, 3) := by decide +kernel
theorem dX8_askOfCell_35 : decode cX8_askOfCell 35 = .ok (.bipush 10, 2) := by decide +kernel
theorem dX8_askOfCell_37 : decode cX8_askOfCell 37 = .ok (.aload_n 1, 1) := by decide +kernel
theorem dX8_askOfCell_38 : decode cX8_askOfCell 38 = .ok (.getfield 161, 3) := by decide +kernel
theorem dX8_askOfCell_41 : decode cX8_askOfCell 41 = .ok (.iload_n 2, 1) := by decide +kernel
theorem dX8_askOfCell_42 : decode cX8_askOfCell 42 = .ok (.iaload, 1) := by decide +kernel
theorem dX8_askOfCell_43 : decode cX8_askOfCell 43 = .ok (.iastore, 1) := by decide +kernel
theorem dX8_askOfCell_44 : decode cX8_askOfCell 44 = .ok (.return_, 1) := by decide +kernel
theorem dX8_barring_0 : decode cX8_barring 0 = .ok (.aload_n 0, 1) := by decide +kernel
theorem dX8_barring_1 : decode cX8_barring 1 = .ok (.iload_n 1, 1) := by decide +kernel
theorem dX8_barring_2 : decode cX8_barring 2 = .ok (.invokevirtual 164, 3) := by decide +kernel
theorem dX8_barring_5 : decode cX8_barring 5 = .ok (.istore_n 3, 1) := by decide +kernel
theorem dX8_barring_6 : decode cX8_barring 6 = .ok (.iload_n 3, 1) := by decide +kernel
theorem dX8_barring_7 : decode cX8_barring 7 = .ok (.iconst (-1), 1) := by decide +kernel
theorem dX8_barring_8 : decode cX8_barring 8 = .ok (.if_icmp .ne 7, 3) := by decide +kernel
theorem dX8_barring_11 : decode cX8_barring 11 = .ok (.iconst 0, 1) := by decide +kernel
theorem dX8_barring_12 : decode cX8_barring 12 = .ok (.goto 9, 3) := by decide +kernel
theorem dX8_barring_15 : decode cX8_barring 15 = .ok (.aload_n 0, 1) := by decide +kernel
theorem dX8_barring_16 : decode cX8_barring 16 = .ok (.getfield 15, 3) := by decide +kernel
theorem dX8_barring_19 : decode cX8_barring 19 = .ok (.iload_n 3, 1) := by decide +kernel
theorem dX8_barring_20 : decode cX8_barring 20 = .ok (.iaload, 1) := by decide +kernel
theorem dX8_barring_21 : decode cX8_barring 21 = .ok (.istore 4, 2) := by decide +kernel
theorem dX8_barring_23 : decode cX8_barring 23 = .ok (.iconst 0, 1) := by decide +kernel
theorem dX8_barring_24 : decode cX8_barring 24 = .ok (.istore 5, 2) := by decide +kernel
theorem dX8_barring_26 : decode cX8_barring 26 = .ok (.iload 5, 2) := by decide +kernel
theorem dX8_barring_28 : decode cX8_barring 28 = .ok (.iload 4, 2) := by decide +kernel
theorem dX8_barring_30 : decode cX8_barring 30 = .ok (.if_icmp .ge 51, 3) := by decide +kernel
theorem dX8_barring_33 : decode cX8_barring 33 = .ok (.iload_n 3, 1) := by decide +kernel
theorem dX8_barring_34 : decode cX8_barring 34 = .ok (.bipush 12, 2) := by decide +kernel
theorem dX8_barring_36 : decode cX8_barring 36 = .ok (.imul, 1) := by decide +kernel
theorem dX8_barring_37 : decode cX8_barring 37 = .ok (.iload 5, 2) := by decide +kernel
theorem dX8_barring_39 : decode cX8_barring 39 = .ok (.iadd, 1) := by decide +kernel
theorem dX8_barring_40 : decode cX8_barring 40 = .ok (.istore 6, 2) := by decide +kernel
theorem dX8_barring_42 : decode cX8_barring 42 = .ok (.aload_n 0, 1) := by decide +kernel
theorem dX8_barring_43 : decode cX8_barring 43 = .ok (.getfield 18, 3) := by decide +kernel
theorem dX8_barring_46 : decode cX8_barring 46 = .ok (.iload 6, 2) := by decide +kernel
theorem dX8_barring_48 : decode cX8_barring 48 = .ok (.iaload, 1) := by decide +kernel
theorem dX8_barring_49 : decode cX8_barring 49 = .ok (.ifCond .ne 26, 3) := by decide +kernel
theorem dX8_barring_52 : decode cX8_barring 52 = .ok (.aload_n 0, 1) := by decide +kernel
theorem dX8_barring_53 : decode cX8_barring 53 = .ok (.getfield 21, 3) := by decide +kernel
theorem dX8_barring_56 : decode cX8_barring 56 = .ok (.iload 6, 2) := by decide +kernel
theorem dX8_barring_58 : decode cX8_barring 58 = .ok (.iaload, 1) := by decide +kernel
theorem dX8_barring_59 : decode cX8_barring 59 = .ok (.iload_n 2, 1) := by decide +kernel
theorem dX8_barring_60 : decode cX8_barring 60 = .ok (.if_icmp .ne 15, 3) := by decide +kernel
theorem dX8_barring_63 : decode cX8_barring 63 = .ok (.aload_n 0, 1) := by decide +kernel
theorem dX8_barring_64 : decode cX8_barring 64 = .ok (.iload 6, 2) := by decide +kernel
theorem dX8_barring_66 : decode cX8_barring 66 = .ok (.invokevirtual 167, 3) := by decide +kernel
theorem dX8_barring_69 : decode cX8_barring 69 = .ok (.ifCond .eq 6, 3) := by decide +kernel
theorem dX8_barring_72 : decode cX8_barring 72 = .ok (.iload 5, 2) := by decide +kernel
theorem dX8_barring_74 : decode cX8_barring 74 = .ok (.ireturn, 1) := by decide +kernel
theorem dX8_barring_75 : decode cX8_barring 75 = .ok (.iinc 5 1, 3) := by decide +kernel
theorem dX8_barring_78 : decode cX8_barring 78 = .ok (.goto (-52), 3) := by decide +kernel
theorem dX8_barring_81 : decode cX8_barring 81 = .ok (.iconst (-1), 1) := by decide +kernel
theorem dX8_barring_82 : decode cX8_barring 82 = .ok (.ireturn, 1) := by decide +kernel
theorem dX8_numberOn_0 : decode cX8_numberOn 0 = .ok (.aload_n 0, 1) := by decide +kernel
theorem dX8_numberOn_1 : decode cX8_numberOn 1 = .ok (.iload_n 1, 1) := by decide +kernel
theorem dX8_numberOn_2 : decode cX8_numberOn 2 = .ok (.invokevirtual 164, 3) := by decide +kernel
theorem dX8_numberOn_5 : decode cX8_numberOn 5 = .ok (.istore_n 3, 1) := by decide +kernel
theorem dX8_numberOn_6 : decode cX8_numberOn 6 = .ok (.iload_n 3, 1) := by decide +kernel
theorem dX8_numberOn_7 : decode cX8_numberOn 7 = .ok (.iconst (-1), 1) := by decide +kernel
theorem dX8_numberOn_8 : decode cX8_numberOn 8 = .ok (.if_icmp .ne 7, 3) := by decide +kernel
theorem dX8_numberOn_11 : decode cX8_numberOn 11 = .ok (.iconst 0, 1) := by decide +kernel
theorem dX8_numberOn_12 : decode cX8_numberOn 12 = .ok (.goto 9, 3) := by decide +kernel
theorem dX8_numberOn_15 : decode cX8_numberOn 15 = .ok (.aload_n 0, 1) := by decide +kernel
theorem dX8_numberOn_16 : decode cX8_numberOn 16 = .ok (.getfield 15, 3) := by decide +kernel
theorem dX8_numberOn_19 : decode cX8_numberOn 19 = .ok (.iload_n 3, 1) := by decide +kernel
theorem dX8_numberOn_20 : decode cX8_numberOn 20 = .ok (.iaload, 1) := by decide +kernel
theorem dX8_numberOn_21 : decode cX8_numberOn 21 = .ok (.istore 4, 2) := by decide +kernel
theorem dX8_numberOn_23 : decode cX8_numberOn 23 = .ok (.iload 4, 2) := by decide +kernel
theorem dX8_numberOn_25 : decode cX8_numberOn 25 = .ok (.iconst 1, 1) := by decide +kernel
theorem dX8_numberOn_26 : decode cX8_numberOn 26 = .ok (.isub, 1) := by decide +kernel
theorem dX8_numberOn_27 : decode cX8_numberOn 27 = .ok (.istore 5, 2) := by decide +kernel
theorem dX8_numberOn_29 : decode cX8_numberOn 29 = .ok (.iload 5, 2) := by decide +kernel
theorem dX8_numberOn_31 : decode cX8_numberOn 31 = .ok (.ifCond .lt 46, 3) := by decide +kernel
theorem dX8_numberOn_34 : decode cX8_numberOn 34 = .ok (.iload_n 3, 1) := by decide +kernel
theorem dX8_numberOn_35 : decode cX8_numberOn 35 = .ok (.bipush 12, 2) := by decide +kernel
theorem dX8_numberOn_37 : decode cX8_numberOn 37 = .ok (.imul, 1) := by decide +kernel
theorem dX8_numberOn_38 : decode cX8_numberOn 38 = .ok (.iload 5, 2) := by decide +kernel
theorem dX8_numberOn_40 : decode cX8_numberOn 40 = .ok (.iadd, 1) := by decide +kernel
theorem dX8_numberOn_41 : decode cX8_numberOn 41 = .ok (.istore 6, 2) := by decide +kernel
theorem dX8_numberOn_43 : decode cX8_numberOn 43 = .ok (.aload_n 0, 1) := by decide +kernel
theorem dX8_numberOn_44 : decode cX8_numberOn 44 = .ok (.getfield 18, 3) := by decide +kernel
theorem dX8_numberOn_47 : decode cX8_numberOn 47 = .ok (.iload 6, 2) := by decide +kernel
theorem dX8_numberOn_49 : decode cX8_numberOn 49 = .ok (.iaload, 1) := by decide +kernel
theorem dX8_numberOn_50 : decode cX8_numberOn 50 = .ok (.iload_n 2, 1) := by decide +kernel
theorem dX8_numberOn_51 : decode cX8_numberOn 51 = .ok (.if_icmp .ne 20, 3) := by decide +kernel
theorem dX8_numberOn_54 : decode cX8_numberOn 54 = .ok (.aload_n 0, 1) := by decide +kernel
theorem dX8_numberOn_55 : decode cX8_numberOn 55 = .ok (.iload 6, 2) := by decide +kernel
theorem dX8_numberOn_57 : decode cX8_numberOn 57 = .ok (.invokevirtual 167, 3) := by decide +kernel
theorem dX8_numberOn_60 : decode cX8_numberOn 60 = .ok (.ifCond .eq 11, 3) := by decide +kernel
theorem dX8_numberOn_63 : decode cX8_numberOn 63 = .ok (.aload_n 0, 1) := by decide +kernel
theorem dX8_numberOn_64 : decode cX8_numberOn 64 = .ok (.getfield 21, 3) := by decide +kernel
theorem dX8_numberOn_67 : decode cX8_numberOn 67 = .ok (.iload 6, 2) := by decide +kernel
theorem dX8_numberOn_69 : decode cX8_numberOn 69 = .ok (.iaload, 1) := by decide +kernel
theorem dX8_numberOn_70 : decode cX8_numberOn 70 = .ok (.ireturn, 1) := by decide +kernel
theorem dX8_numberOn_71 : decode cX8_numberOn 71 = .ok (.iinc 5 (-1), 3) := by decide +kernel
theorem dX8_numberOn_74 : decode cX8_numberOn 74 = .ok (.goto (-45), 3) := by decide +kernel
theorem dX8_numberOn_77 : decode cX8_numberOn 77 = .ok (.iload_n 2, 1) := by decide +kernel
theorem dX8_numberOn_78 : decode cX8_numberOn 78 = .ok (.iconst 1, 1) := by decide +kernel
theorem dX8_numberOn_79 : decode cX8_numberOn 79 = .ok (.iconst 3, 1) := by decide +kernel
theorem dX8_numberOn_80 : decode cX8_numberOn 80 = .ok (.invokestatic 132, 3) := by decide +kernel
theorem dX8_numberOn_83 : decode cX8_numberOn 83 = .ok (.ifCond .eq 11, 3) := by decide +kernel
theorem dX8_numberOn_86 : decode cX8_numberOn 86 = .ok (.getstatic 171, 3) := by decide +kernel
theorem dX8_numberOn_89 : decode cX8_numberOn 89 = .ok (.iload_n 2, 1) := by decide +kernel
theorem dX8_numberOn_90 : decode cX8_numberOn 90 = .ok (.iaload, 1) := by decide +kernel
theorem dX8_numberOn_91 : decode cX8_numberOn 91 = .ok (.goto 4, 3) := by decide +kernel
theorem dX8_numberOn_94 : decode cX8_numberOn 94 = .ok (.iconst (-1), 1) := by decide +kernel
theorem dX8_numberOn_95 : decode cX8_numberOn 95 = .ok (.ireturn, 1) := by decide +kernel
theorem dX8_textOn_0 : decode cX8_textOn 0 = .ok (.iconst (-1), 1) := by decide +kernel
theorem dX8_textOn_1 : decode cX8_textOn 1 = .ok (.istore_n 2, 1) := by decide +kernel
theorem dX8_textOn_2 : decode cX8_textOn 2 = .ok (.iconst 0, 1) := by decide +kernel
theorem dX8_textOn_3 : decode cX8_textOn 3 = .ok (.istore_n 3, 1) := by decide +kernel
theorem dX8_textOn_4 : decode cX8_textOn 4 = .ok (.iload_n 3, 1) := by decide +kernel
theorem dX8_textOn_5 : decode cX8_textOn 5 = .ok (.aload_n 0, 1) := by decide +kernel
theorem dX8_textOn_6 : decode cX8_textOn 6 = .ok (.getfield 43, 3) := by decide +kernel
theorem dX8_textOn_9 : decode cX8_textOn 9 = .ok (.if_icmp .ge 41, 3) := by decide +kernel
theorem dX8_textOn_12 : decode cX8_textOn 12 = .ok (.aload_n 0, 1) := by decide +kernel
theorem dX8_textOn_13 : decode cX8_textOn 13 = .ok (.getfield 11, 3) := by decide +kernel
theorem dX8_textOn_16 : decode cX8_textOn 16 = .ok (.iload_n 3, 1) := by decide +kernel
theorem dX8_textOn_17 : decode cX8_textOn 17 = .ok (.iaload, 1) := by decide +kernel
theorem dX8_textOn_18 : decode cX8_textOn 18 = .ok (.iload_n 1, 1) := by decide +kernel
theorem dX8_textOn_19 : decode cX8_textOn 19 = .ok (.if_icmp .gt 25, 3) := by decide +kernel
theorem dX8_textOn_22 : decode cX8_textOn 22 = .ok (.iload_n 2, 1) := by decide +kernel
theorem dX8_textOn_23 : decode cX8_textOn 23 = .ok (.iconst (-1), 1) := by decide +kernel
theorem dX8_textOn_24 : decode cX8_textOn 24 = .ok (.if_icmp .eq 18, 3) := by decide +kernel
theorem dX8_textOn_27 : decode cX8_textOn 27 = .ok (.aload_n 0, 1) := by decide +kernel
theorem dX8_textOn_28 : decode cX8_textOn 28 = .ok (.getfield 11, 3) := by decide +kernel
theorem dX8_textOn_31 : decode cX8_textOn 31 = .ok (.iload_n 3, 1) := by decide +kernel
theorem dX8_textOn_32 : decode cX8_textOn 32 = .ok (.iaload, 1) := by decide +kernel
theorem dX8_textOn_33 : decode cX8_textOn 33 = .ok (.aload_n 0, 1) := by decide +kernel
theorem dX8_textOn_34 : decode cX8_textOn 34 = .ok (.getfield 11, 3) := by decide +kernel
theorem dX8_textOn_37 : decode cX8_textOn 37 = .ok (.iload_n 2, 1) := by decide +kernel
theorem dX8_textOn_38 : decode cX8_textOn 38 = .ok (.iaload, 1) := by decide +kernel
theorem dX8_textOn_39 : decode cX8_textOn 39 = .ok (.if_icmp .lt 5, 3) := by decide +kernel
theorem dX8_textOn_42 : decode cX8_textOn 42 = .ok (.iload_n 3, 1) := by decide +kernel
theorem dX8_textOn_43 : decode cX8_textOn 43 = .ok (.istore_n 2, 1) := by decide +kernel
theorem dX8_textOn_44 : decode cX8_textOn 44 = .ok (.iinc 3 1, 3) := by decide +kernel
theorem dX8_textOn_47 : decode cX8_textOn 47 = .ok (.goto (-43), 3) := by decide +kernel
theorem dX8_textOn_50 : decode cX8_textOn 50 = .ok (.iload_n 2, 1) := by decide +kernel
theorem dX8_textOn_51 : decode cX8_textOn 51 = .ok (.ireturn, 1) := by decide +kernel
theorem dX8_holds_0 : decode cX8_holds 0 = .ok (.iconst 0, 1) := by decide +kernel
theorem dX8_holds_1 : decode cX8_holds 1 = .ok (.istore_n 2, 1) := by decide +kernel
theorem dX8_holds_2 : decode cX8_holds 2 = .ok (.iload_n 2, 1) := by decide +kernel
theorem dX8_holds_3 : decode cX8_holds 3 = .ok (.aload_n 0, 1) := by decide +kernel
theorem dX8_holds_4 : decode cX8_holds 4 = .ok (.getfield 24, 3) := by decide +kernel
theorem dX8_holds_7 : decode cX8_holds 7 = .ok (.iload_n 1, 1) := by decide +kernel
theorem dX8_holds_8 : decode cX8_holds 8 = .ok (.iaload, 1) := by decide +kernel
theorem dX8_holds_9 : decode cX8_holds 9 = .ok (.if_icmp .ge 23, 3) := by decide +kernel
theorem dX8_holds_12 : decode cX8_holds 12 = .ok (.aload_n 0, 1) := by decide +kernel
theorem dX8_holds_13 : decode cX8_holds 13 = .ok (.iload_n 1, 1) := by decide +kernel
theorem dX8_holds_14 : decode cX8_holds 14 = .ok (.iconst 5, 1) := by decide +kernel
theorem dX8_holds_15 : decode cX8_holds 15 = .ok (.imul, 1) := by decide +kernel
theorem dX8_holds_16 : decode cX8_holds 16 = .ok (.iload_n 2, 1) := by decide +kernel
theorem dX8_holds_17 : decode cX8_holds 17 = .ok (.iadd, 1) := by decide +kernel
theorem dX8_holds_18 : decode cX8_holds 18 = .ok (.invokevirtual 174, 3) := by decide +kernel
theorem dX8_holds_21 : decode cX8_holds 21 = .ok (.ifCond .ne 5, 3) := by decide +kernel
theorem dX8_holds_24 : decode cX8_holds 24 = .ok (.iconst 0, 1) := by decide +kernel
theorem dX8_holds_25 : decode cX8_holds 25 = .ok (.ireturn, 1) := by decide +kernel
theorem dX8_holds_26 : decode cX8_holds 26 = .ok (.iinc 2 1, 3) := by decide +kernel
theorem dX8_holds_29 : decode cX8_holds 29 = .ok (.goto (-27), 3) := by decide +kernel
theorem dX8_holds_32 : decode cX8_holds 32 = .ok (.iconst 1, 1) := by decide +kernel
theorem dX8_holds_33 : decode cX8_holds 33 = .ok (.ireturn, 1) := by decide +kernel
theorem dX8_termHolds_0 : decode cX8_termHolds 0 = .ok (.aload_n 0, 1) := by decide +kernel
theorem dX8_termHolds_1 : decode cX8_termHolds 1 = .ok (.getfield 40, 3) := by decide +kernel
theorem dX8_termHolds_4 : decode cX8_termHolds 4 = .ok (.aload_n 0, 1) := by decide +kernel
theorem dX8_termHolds_5 : decode cX8_termHolds 5 = .ok (.getfield 31, 3) := by decide +kernel
theorem dX8_termHolds_8 : decode cX8_termHolds 8 = .ok (.iload_n 1, 1) := by decide +kernel
theorem dX8_termHolds_9 : decode cX8_termHolds 9 = .ok (.iaload, 1) := by decide +kernel
theorem dX8_termHolds_10 : decode cX8_termHolds 10 = .ok (.iaload, 1) := by decide +kernel
theorem dX8_termHolds_11 : decode cX8_termHolds 11 = .ok (.aload_n 0, 1) := by decide +kernel
theorem dX8_termHolds_12 : decode cX8_termHolds 12 = .ok (.getfield 34, 3) := by decide +kernel
theorem dX8_termHolds_15 : decode cX8_termHolds 15 = .ok (.iload_n 1, 1) := by decide +kernel
theorem dX8_termHolds_16 : decode cX8_termHolds 16 = .ok (.iaload, 1) := by decide +kernel
theorem dX8_termHolds_17 : decode cX8_termHolds 17 = .ok (.aload_n 0, 1) := by decide +kernel
theorem dX8_termHolds_18 : decode cX8_termHolds 18 = .ok (.getfield 37, 3) := by decide +kernel
theorem dX8_termHolds_21 : decode cX8_termHolds 21 = .ok (.iload_n 1, 1) := by decide +kernel
theorem dX8_termHolds_22 : decode cX8_termHolds 22 = .ok (.iaload, 1) := by decide +kernel
theorem dX8_termHolds_23 : decode cX8_termHolds 23 = .ok (.invokestatic 177, 3) := by decide +kernel
theorem dX8_termHolds_26 : decode cX8_termHolds 26 = .ok (.aload_n 0, 1) := by decide +kernel
theorem dX8_termHolds_27 : decode cX8_termHolds 27 = .ok (.getfield 27, 3) := by decide +kernel
theorem dX8_termHolds_30 : decode cX8_termHolds 30 = .ok (.iload_n 1, 1) := by decide +kernel
theorem dX8_termHolds_31 : decode cX8_termHolds 31 = .ok (.baload, 1) := by decide +kernel
theorem dX8_termHolds_32 : decode cX8_termHolds 32 = .ok (.if_icmp .eq 7, 3) := by decide +kernel
theorem dX8_termHolds_35 : decode cX8_termHolds 35 = .ok (.iconst 1, 1) := by decide +kernel
theorem dX8_termHolds_36 : decode cX8_termHolds 36 = .ok (.goto 4, 3) := by decide +kernel
theorem dX8_termHolds_39 : decode cX8_termHolds 39 = .ok (.iconst 0, 1) := by decide +kernel
theorem dX8_termHolds_40 : decode cX8_termHolds 40 = .ok (.ireturn, 1) := by decide +kernel
theorem dX8_compares_0 : decode cX8_compares 0 = .ok (.iload_n 1, 1) := by decide +kernel
theorem dX8_compares_1 : decode cX8_compares 1 = .ok (.lookupswitch 49 #[(0, 27), (1, 38)], 27) := by decide +kernel
theorem dX8_compares_28 : decode cX8_compares 28 = .ok (.iload_n 0, 1) := by decide +kernel
theorem dX8_compares_29 : decode cX8_compares 29 = .ok (.iload_n 2, 1) := by decide +kernel
theorem dX8_compares_30 : decode cX8_compares 30 = .ok (.if_icmp .ge 7, 3) := by decide +kernel
theorem dX8_compares_33 : decode cX8_compares 33 = .ok (.iconst 1, 1) := by decide +kernel
theorem dX8_compares_34 : decode cX8_compares 34 = .ok (.goto 4, 3) := by decide +kernel
theorem dX8_compares_37 : decode cX8_compares 37 = .ok (.iconst 0, 1) := by decide +kernel
theorem dX8_compares_38 : decode cX8_compares 38 = .ok (.ireturn, 1) := by decide +kernel
theorem dX8_compares_39 : decode cX8_compares 39 = .ok (.iload_n 0, 1) := by decide +kernel
theorem dX8_compares_40 : decode cX8_compares 40 = .ok (.iload_n 2, 1) := by decide +kernel
theorem dX8_compares_41 : decode cX8_compares 41 = .ok (.if_icmp .ne 7, 3) := by decide +kernel
theorem dX8_compares_44 : decode cX8_compares 44 = .ok (.iconst 1, 1) := by decide +kernel
theorem dX8_compares_45 : decode cX8_compares 45 = .ok (.goto 4, 3) := by decide +kernel
theorem dX8_compares_48 : decode cX8_compares 48 = .ok (.iconst 0, 1) := by decide +kernel
theorem dX8_compares_49 : decode cX8_compares 49 = .ok (.ireturn, 1) := by decide +kernel
theorem dX8_compares_50 : decode cX8_compares 50 = .ok (.iload_n 0, 1) := by decide +kernel
theorem dX8_compares_51 : decode cX8_compares 51 = .ok (.iload_n 2, 1) := by decide +kernel
theorem dX8_compares_52 : decode cX8_compares 52 = .ok (.if_icmp .le 7, 3) := by decide +kernel
theorem dX8_compares_55 : decode cX8_compares 55 = .ok (.iconst 1, 1) := by decide +kernel
theorem dX8_compares_56 : decode cX8_compares 56 = .ok (.goto 4, 3) := by decide +kernel
theorem dX8_compares_59 : decode cX8_compares 59 = .ok (.iconst 0, 1) := by decide +kernel
theorem dX8_compares_60 : decode cX8_compares 60 = .ok (.ireturn, 1) := by decide +kernel
theorem dX9_init_0 : decode cX9_init 0 = .ok (.aload_n 0, 1) := by decide +kernel
theorem dX9_init_1 : decode cX9_init 1 = .ok (.invokespecial 3, 3) := by decide +kernel
theorem dX9_init_4 : decode cX9_init 4 = .ok (.aload_n 0, 1) := by decide +kernel
theorem dX9_init_5 : decode cX9_init 5 = .ok (.sipush 300, 3) := by decide +kernel
theorem dX9_init_8 : decode cX9_init 8 = .ok (.newarray .int, 2) := by decide +kernel
theorem dX9_init_10 : decode cX9_init 10 = .ok (.putfield 11, 3) := by decide +kernel
theorem dX9_init_13 : decode cX9_init 13 = .ok (.aload_n 0, 1) := by decide +kernel
theorem dX9_init_14 : decode cX9_init 14 = .ok (.iconst 0, 1) := by decide +kernel
theorem dX9_init_15 : decode cX9_init 15 = .ok (.putfield 15, 3) := by decide +kernel
theorem dX9_init_18 : decode cX9_init 18 = .ok (.aload_n 0, 1) := by decide +kernel
theorem dX9_init_19 : decode cX9_init 19 = .ok (.iconst 0, 1) := by decide +kernel
theorem dX9_init_20 : decode cX9_init 20 = .ok (.putfield 19, 3) := by decide +kernel
theorem dX9_init_23 : decode cX9_init 23 = .ok (.aload_n 0, 1) := by decide +kernel
theorem dX9_init_24 : decode cX9_init 24 = .ok (.iconst 0, 1) := by decide +kernel
theorem dX9_init_25 : decode cX9_init 25 = .ok (.putfield 22, 3) := by decide +kernel
theorem dX9_init_28 : decode cX9_init 28 = .ok (.aload_n 0, 1) := by decide +kernel
theorem dX9_init_29 : decode cX9_init 29 = .ok (.iconst 0, 1) := by decide +kernel
theorem dX9_init_30 : decode cX9_init 30 = .ok (.putfield 25, 3) := by decide +kernel
theorem dX9_init_33 : decode cX9_init 33 = .ok (.return_, 1) := by decide +kernel
theorem dX9_append_0 : decode cX9_append 0 = .ok (.bipush 24, 2) := by decide +kernel
theorem dX9_append_2 : decode cX9_append 2 = .ok (.istore_n 2, 1) := by decide +kernel
theorem dX9_append_3 : decode cX9_append 3 = .ok (.iload_n 2, 1) := by decide +kernel
theorem dX9_append_4 : decode cX9_append 4 = .ok (.ifCond .lt 45, 3) := by decide +kernel
theorem dX9_append_7 : decode cX9_append 7 = .ok (.aload_n 0, 1) := by decide +kernel
theorem dX9_append_8 : decode cX9_append 8 = .ok (.getfield 15, 3) := by decide +kernel
theorem dX9_append_11 : decode cX9_append 11 = .ok (.sipush 300, 3) := by decide +kernel
theorem dX9_append_14 : decode cX9_append 14 = .ok (.if_icmp .ge 35, 3) := by decide +kernel
theorem dX9_append_17 : decode cX9_append 17 = .ok (.aload_n 0, 1) := by decide +kernel
theorem dX9_append_18 : decode cX9_append 18 = .ok (.getfield 11, 3) := by decide +kernel
theorem dX9_append_21 : decode cX9_append 21 = .ok (.aload_n 0, 1) := by decide +kernel
theorem dX9_append_22 : decode cX9_append 22 = .ok (.getfield 15, 3) := by decide +kernel
theorem dX9_append_25 : decode cX9_append 25 = .ok (.iload_n 1, 1) := by decide +kernel
theorem dX9_append_26 : decode cX9_append 26 = .ok (.iload_n 2, 1) := by decide +kernel
theorem dX9_append_27 : decode cX9_append 27 = .ok (.iushr, 1) := by decide +kernel
theorem dX9_append_28 : decode cX9_append 28 = .ok (.sipush 255, 3) := by decide +kernel
theorem dX9_append_31 : decode cX9_append 31 = .ok (.iand, 1) := by decide +kernel
theorem dX9_append_32 : decode cX9_append 32 = .ok (.iastore, 1) := by decide +kernel
theorem dX9_append_33 : decode cX9_append 33 = .ok (.aload_n 0, 1) := by decide +kernel
theorem dX9_append_34 : decode cX9_append 34 = .ok (.dup, 1) := by decide +kernel
theorem dX9_append_35 : decode cX9_append 35 = .ok (.getfield 15, 3) := by decide +kernel
theorem dX9_append_38 : decode cX9_append 38 = .ok (.iconst 1, 1) := by decide +kernel
theorem dX9_append_39 : decode cX9_append 39 = .ok (.iadd, 1) := by decide +kernel
theorem dX9_append_40 : decode cX9_append 40 = .ok (.putfield 15, 3) := by decide +kernel
theorem dX9_append_43 : decode cX9_append 43 = .ok (.iinc 2 (-8), 3) := by decide +kernel
theorem dX9_append_46 : decode cX9_append 46 = .ok (.goto (-43), 3) := by decide +kernel
theorem dX9_append_49 : decode cX9_append 49 = .ok (.return_, 1) := by decide +kernel
theorem dX9_rewind_0 : decode cX9_rewind 0 = .ok (.aload_n 0, 1) := by decide +kernel
theorem dX9_rewind_1 : decode cX9_rewind 1 = .ok (.iconst 0, 1) := by decide +kernel
theorem dX9_rewind_2 : decode cX9_rewind 2 = .ok (.putfield 25, 3) := by decide +kernel
theorem dX9_rewind_5 : decode cX9_rewind 5 = .ok (.aload_n 0, 1) := by decide +kernel
theorem dX9_rewind_6 : decode cX9_rewind 6 = .ok (.invokevirtual 28, 3) := by decide +kernel
theorem dX9_rewind_9 : decode cX9_rewind 9 = .ok (.return_, 1) := by decide +kernel
theorem dX9_next_0 : decode cX9_next 0 = .ok (.aload_n 0, 1) := by decide +kernel
theorem dX9_next_1 : decode cX9_next 1 = .ok (.getfield 25, 3) := by decide +kernel
theorem dX9_next_4 : decode cX9_next 4 = .ok (.istore_n 1, 1) := by decide +kernel
theorem dX9_next_5 : decode cX9_next 5 = .ok (.iload_n 1, 1) := by decide +kernel
theorem dX9_next_6 : decode cX9_next 6 = .ok (.aload_n 0, 1) := by decide +kernel
theorem dX9_next_7 : decode cX9_next 7 = .ok (.getfield 15, 3) := by decide +kernel
theorem dX9_next_10 : decode cX9_next 10 = .ok (.if_icmp .ge 21, 3) := by decide +kernel
theorem dX9_next_13 : decode cX9_next 13 = .ok (.aload_n 0, 1) := by decide +kernel
theorem dX9_next_14 : decode cX9_next 14 = .ok (.getfield 11, 3) := by decide +kernel
theorem dX9_next_17 : decode cX9_next 17 = .ok (.iload_n 1, 1) := by decide +kernel
theorem dX9_next_18 : decode cX9_next 18 = .ok (.iaload, 1) := by decide +kernel
theorem dX9_next_19 : decode cX9_next 19 = .ok (.invokestatic 31, 3) := by decide +kernel
theorem dX9_next_22 : decode cX9_next 22 = .ok (.ifCond .eq 9, 3) := by decide +kernel
theorem dX9_next_25 : decode cX9_next 25 = .ok (.iinc 1 1, 3) := by decide +kernel
theorem dX9_next_28 : decode cX9_next 28 = .ok (.goto (-23), 3) := by decide +kernel
theorem dX9_next_31 : decode cX9_next 31 = .ok (.aload_n 0, 1) := by decide +kernel
theorem dX9_next_32 : decode cX9_next 32 = .ok (.iload_n 1, 1) := by decide +kernel
theorem dX9_next_33 : decode cX9_next 33 = .ok (.putfield 22, 3) := by decide +kernel
theorem dX9_next_36 : decode cX9_next 36 = .ok (.iload_n 1, 1) := by decide +kernel
theorem dX9_next_37 : decode cX9_next 37 = .ok (.aload_n 0, 1) := by decide +kernel
theorem dX9_next_38 : decode cX9_next 38 = .ok (.getfield 15, 3) := by decide +kernel
theorem dX9_next_41 : decode cX9_next 41 = .ok (.if_icmp .lt 11, 3) := by decide +kernel
theorem dX9_next_44 : decode cX9_next 44 = .ok (.aload_n 0, 1) := by decide +kernel
theorem dX9_next_45 : decode cX9_next 45 = .ok (.iconst 0, 1) := by decide +kernel
theorem dX9_next_46 : decode cX9_next 46 = .ok (.putfield 19, 3) := by decide +kernel
theorem dX9_next_49 : decode cX9_next 49 = .ok (.goto 96, 3) := by decide +kernel
theorem dX9_next_52 : decode cX9_next 52 = .ok (.aload_n 0, 1) := by decide +kernel
theorem dX9_next_53 : decode cX9_next 53 = .ok (.getfield 11, 3) := by decide +kernel
theorem dX9_next_56 : decode cX9_next 56 = .ok (.iload_n 1, 1) := by decide +kernel
theorem dX9_next_57 : decode cX9_next 57 = .ok (.iaload, 1) := by decide +kernel
theorem dX9_next_58 : decode cX9_next 58 = .ok (.invokestatic 35, 3) := by decide +kernel
theorem dX9_next_61 : decode cX9_next 61 = .ok (.ifCond .eq 17, 3) := by decide +kernel
theorem dX9_next_64 : decode cX9_next 64 = .ok (.aload_n 0, 1) := by decide +kernel
theorem dX9_next_65 : decode cX9_next 65 = .ok (.iconst 1, 1) := by decide +kernel
theorem dX9_next_66 : decode cX9_next 66 = .ok (.putfield 19, 3) := by decide +kernel
theorem dX9_next_69 : decode cX9_next 69 = .ok (.aload_n 0, 1) := by decide +kernel
theorem dX9_next_70 : decode cX9_next 70 = .ok (.iload_n 1, 1) := by decide +kernel
theorem dX9_next_71 : decode cX9_next 71 = .ok (.invokevirtual 38, 3) := by decide +kernel
theorem dX9_next_74 : decode cX9_next 74 = .ok (.istore_n 1, 1) := by decide +kernel
theorem dX9_next_75 : decode cX9_next 75 = .ok (.goto 70, 3) := by decide +kernel
theorem dX9_next_78 : decode cX9_next 78 = .ok (.aload_n 0, 1) := by decide +kernel
theorem dX9_next_79 : decode cX9_next 79 = .ok (.getfield 11, 3) := by decide +kernel
theorem dX9_next_82 : decode cX9_next 82 = .ok (.iload_n 1, 1) := by decide +kernel
theorem dX9_next_83 : decode cX9_next 83 = .ok (.iaload, 1) := by decide +kernel
theorem dX9_next_84 : decode cX9_next 84 = .ok (.invokestatic 42, 3) := by decide +kernel
theorem dX9_next_87 : decode cX9_next 87 = .ok (.ifCond .eq 31, 3) := by decide +kernel
theorem dX9_next_90 : decode cX9_next 90 = .ok (.aload_n 0, 1) := by decide +kernel
theorem dX9_next_91 : decode cX9_next 91 = .ok (.iload_n 1, 1) := by decide +kernel
theorem dX9_next_92 : decode cX9_next 92 = .ok (.invokevirtual 45, 3) := by decide +kernel
theorem dX9_next_95 : decode cX9_next 95 = .ok (.istore_n 1, 1) := by decide +kernel
theorem dX9_next_96 : decode cX9_next 96 = .ok (.aload_n 0, 1) := by decide +kernel
theorem dX9_next_97 : decode cX9_next 97 = .ok (.iload_n 1, 1) := by decide +kernel
theorem dX9_next_98 : decode cX9_next 98 = .ok (.aload_n 0, 1) := by decide +kernel
theorem dX9_next_99 : decode cX9_next 99 = .ok (.getfield 22, 3) := by decide +kernel
theorem dX9_next_102 : decode cX9_next 102 = .ok (.isub, 1) := by decide +kernel
theorem dX9_next_103 : decode cX9_next 103 = .ok (.iconst 4, 1) := by decide +kernel
theorem dX9_next_104 : decode cX9_next 104 = .ok (.if_icmp .le 7, 3) := by decide +kernel
theorem dX9_next_107 : decode cX9_next 107 = .ok (.iconst 4, 1) := by decide +kernel
theorem dX9_next_108 : decode cX9_next 108 = .ok (.goto 4, 3) := by decide +kernel
theorem dX9_next_111 : decode cX9_next 111 = .ok (.iconst 2, 1) := by decide +kernel
theorem dX9_next_112 : decode cX9_next 112 = .ok (.putfield 19, 3) := by decide +kernel
theorem dX9_next_115 : decode cX9_next 115 = .ok (.goto 30, 3) := by decide +kernel
theorem dX9_next_118 : decode cX9_next 118 = .ok (.aload_n 0, 1) := by decide +kernel
theorem dX9_next_119 : decode cX9_next 119 = .ok (.ldc 48, 2) := by decide +kernel
theorem dX9_next_121 : decode cX9_next 121 = .ok (.aload_n 0, 1) := by decide +kernel
theorem dX9_next_122 : decode cX9_next 122 = .ok (.getfield 11, 3) := by decide +kernel
theorem dX9_next_125 : decode cX9_next 125 = .ok (.iload_n 1, 1) := by decide +kernel
theorem dX9_next_126 : decode cX9_next 126 = .ok (.iaload, 1) := by decide +kernel
theorem dX9_next_127 : decode cX9_next 127 = .ok (.i2c, 1) := by decide +kernel
theorem dX9_next_128 : decode cX9_next 128 = .ok (.invokevirtual 50, 3) := by decide +kernel
theorem dX9_next_131 : decode cX9_next 131 = .ok (.ifCond .lt 7, 3) := by decide +kernel
theorem dX9_next_134 : decode cX9_next 134 = .ok (.iconst 3, 1) := by decide +kernel
theorem dX9_next_135 : decode cX9_next 135 = .ok (.goto 4, 3) := by decide +kernel
theorem dX9_next_138 : decode cX9_next 138 = .ok (.iconst 4, 1) := by decide +kernel
theorem dX9_next_139 : decode cX9_next 139 = .ok (.putfield 19, 3) := by decide +kernel
theorem dX9_next_142 : decode cX9_next 142 = .ok (.iinc 1 1, 3) := by decide +kernel
theorem dX9_next_145 : decode cX9_next 145 = .ok (.aload_n 0, 1) := by decide +kernel
theorem dX9_next_146 : decode cX9_next 146 = .ok (.iload_n 1, 1) := by decide +kernel
theorem dX9_next_147 : decode cX9_next 147 = .ok (.putfield 25, 3) := by decide +kernel
theorem dX9_next_150 : decode cX9_next 150 = .ok (.return_, 1) := by decide +kernel
theorem dX9_behindLetters_0 : decode cX9_behindLetters 0 = .ok (.iload_n 1, 1) := by decide +kernel
theorem dX9_behindLetters_1 : decode cX9_behindLetters 1 = .ok (.istore_n 2, 1) := by decide +kernel
theorem dX9_behindLetters_2 : decode cX9_behindLetters 2 = .ok (.iload_n 2, 1) := by decide +kernel
theorem dX9_behindLetters_3 : decode cX9_behindLetters 3 = .ok (.aload_n 0, 1) := by decide +kernel
theorem dX9_behindLetters_4 : decode cX9_behindLetters 4 = .ok (.getfield 15, 3) := by decide +kernel
theorem dX9_behindLetters_7 : decode cX9_behindLetters 7 = .ok (.if_icmp .ge 21, 3) := by decide +kernel
theorem dX9_behindLetters_10 : decode cX9_behindLetters 10 = .ok (.aload_n 0, 1) := by decide +kernel
theorem dX9_behindLetters_11 : decode cX9_behindLetters 11 = .ok (.getfield 11, 3) := by decide +kernel
theorem dX9_behindLetters_14 : decode cX9_behindLetters 14 = .ok (.iload_n 2, 1) := by decide +kernel
theorem dX9_behindLetters_15 : decode cX9_behindLetters 15 = .ok (.iaload, 1) := by decide +kernel
theorem dX9_behindLetters_16 : decode cX9_behindLetters 16 = .ok (.invokestatic 35, 3) := by decide +kernel
theorem dX9_behindLetters_19 : decode cX9_behindLetters 19 = .ok (.ifCond .eq 9, 3) := by decide +kernel
theorem dX9_behindLetters_22 : decode cX9_behindLetters 22 = .ok (.iinc 2 1, 3) := by decide +kernel
theorem dX9_behindLetters_25 : decode cX9_behindLetters 25 = .ok (.goto (-23), 3) := by decide +kernel
theorem dX9_behindLetters_28 : decode cX9_behindLetters 28 = .ok (.iload_n 2, 1) := by decide +kernel
theorem dX9_behindLetters_29 : decode cX9_behindLetters 29 = .ok (.ireturn, 1) := by decide +kernel
theorem dX9_behindDigits_0 : decode cX9_behindDigits 0 = .ok (.iload_n 1, 1) := by decide +kernel
theorem dX9_behindDigits_1 : decode cX9_behindDigits 1 = .ok (.istore_n 2, 1) := by decide +kernel
theorem dX9_behindDigits_2 : decode cX9_behindDigits 2 = .ok (.iload_n 2, 1) := by decide +kernel
theorem dX9_behindDigits_3 : decode cX9_behindDigits 3 = .ok (.aload_n 0, 1) := by decide +kernel
theorem dX9_behindDigits_4 : decode cX9_behindDigits 4 = .ok (.getfield 15, 3) := by decide +kernel
theorem dX9_behindDigits_7 : decode cX9_behindDigits 7 = .ok (.if_icmp .ge 21, 3) := by decide +kernel
theorem dX9_behindDigits_10 : decode cX9_behindDigits 10 = .ok (.aload_n 0, 1) := by decide +kernel
theorem dX9_behindDigits_11 : decode cX9_behindDigits 11 = .ok (.getfield 11, 3) := by decide +kernel
theorem dX9_behindDigits_14 : decode cX9_behindDigits 14 = .ok (.iload_n 2, 1) := by decide +kernel
theorem dX9_behindDigits_15 : decode cX9_behindDigits 15 = .ok (.iaload, 1) := by decide +kernel
theorem dX9_behindDigits_16 : decode cX9_behindDigits 16 = .ok (.invokestatic 42, 3) := by decide +kernel
theorem dX9_behindDigits_19 : decode cX9_behindDigits 19 = .ok (.ifCond .eq 9, 3) := by decide +kernel
theorem dX9_behindDigits_22 : decode cX9_behindDigits 22 = .ok (.iinc 2 1, 3) := by decide +kernel
theorem dX9_behindDigits_25 : decode cX9_behindDigits 25 = .ok (.goto (-23), 3) := by decide +kernel
theorem dX9_behindDigits_28 : decode cX9_behindDigits 28 = .ok (.iload_n 2, 1) := by decide +kernel
theorem dX9_behindDigits_29 : decode cX9_behindDigits 29 = .ok (.ireturn, 1) := by decide +kernel
theorem dX9_isBlank_0 : decode cX9_isBlank 0 = .ok (.iload_n 0, 1) := by decide +kernel
theorem dX9_isBlank_1 : decode cX9_isBlank 1 = .ok (.bipush 32, 2) := by decide +kernel
theorem dX9_isBlank_3 : decode cX9_isBlank 3 = .ok (.if_icmp .eq 9, 3) := by decide +kernel
theorem dX9_isBlank_6 : decode cX9_isBlank 6 = .ok (.iload_n 0, 1) := by decide +kernel
theorem dX9_isBlank_7 : decode cX9_isBlank 7 = .ok (.bipush 10, 2) := by decide +kernel
theorem dX9_isBlank_9 : decode cX9_isBlank 9 = .ok (.if_icmp .ne 7, 3) := by decide +kernel
theorem dX9_isBlank_12 : decode cX9_isBlank 12 = .ok (.iconst 1, 1) := by decide +kernel
theorem dX9_isBlank_13 : decode cX9_isBlank 13 = .ok (.goto 4, 3) := by decide +kernel
theorem dX9_isBlank_16 : decode cX9_isBlank 16 = .ok (.iconst 0, 1) := by decide +kernel
theorem dX9_isBlank_17 : decode cX9_isBlank 17 = .ok (.ireturn, 1) := by decide +kernel
theorem dX9_isLetter_0 : decode cX9_isLetter 0 = .ok (.iload_n 0, 1) := by decide +kernel
theorem dX9_isLetter_1 : decode cX9_isLetter 1 = .ok (.bipush 97, 2) := by decide +kernel
theorem dX9_isLetter_3 : decode cX9_isLetter 3 = .ok (.bipush 122, 2) := by decide +kernel
theorem dX9_isLetter_5 : decode cX9_isLetter 5 = .ok (.invokestatic 55, 3) := by decide +kernel
theorem dX9_isLetter_8 : decode cX9_isLetter 8 = .ok (.ireturn, 1) := by decide +kernel
theorem dX9_isDigit_0 : decode cX9_isDigit 0 = .ok (.iload_n 0, 1) := by decide +kernel
theorem dX9_isDigit_1 : decode cX9_isDigit 1 = .ok (.bipush 48, 2) := by decide +kernel
theorem dX9_isDigit_3 : decode cX9_isDigit 3 = .ok (.bipush 57, 2) := by decide +kernel
theorem dX9_isDigit_5 : decode cX9_isDigit 5 = .ok (.invokestatic 55, 3) := by decide +kernel
theorem dX9_isDigit_8 : decode cX9_isDigit 8 = .ok (.ireturn, 1) := by decide +kernel
theorem dX9_isEnd_0 : decode cX9_isEnd 0 = .ok (.aload_n 0, 1) := by decide +kernel
theorem dX9_isEnd_1 : decode cX9_isEnd 1 = .ok (.getfield 19, 3) := by decide +kernel
theorem dX9_isEnd_4 : decode cX9_isEnd 4 = .ok (.ifCond .ne 7, 3) := by decide +kernel
theorem dX9_isEnd_7 : decode cX9_isEnd 7 = .ok (.iconst 1, 1) := by decide +kernel
theorem dX9_isEnd_8 : decode cX9_isEnd 8 = .ok (.goto 4, 3) := by decide +kernel
theorem dX9_isEnd_11 : decode cX9_isEnd 11 = .ok (.iconst 0, 1) := by decide +kernel
theorem dX9_isEnd_12 : decode cX9_isEnd 12 = .ok (.ireturn, 1) := by decide +kernel
theorem dX9_isWord_0 : decode cX9_isWord 0 = .ok (.aload_n 0, 1) := by decide +kernel
theorem dX9_isWord_1 : decode cX9_isWord 1 = .ok (.getfield 19, 3) := by decide +kernel
theorem dX9_isWord_4 : decode cX9_isWord 4 = .ok (.iconst 1, 1) := by decide +kernel
theorem dX9_isWord_5 : decode cX9_isWord 5 = .ok (.if_icmp .ne 20, 3) := by decide +kernel
theorem dX9_isWord_8 : decode cX9_isWord 8 = .ok (.aload_n 0, 1) := by decide +kernel
theorem dX9_isWord_9 : decode cX9_isWord 9 = .ok (.aload_n 1, 1) := by decide +kernel
theorem dX9_isWord_10 : decode cX9_isWord 10 = .ok (.iconst 0, 1) := by decide +kernel
theorem dX9_isWord_11 : decode cX9_isWord 11 = .ok (.aload_n 1, 1) := by decide +kernel
theorem dX9_isWord_12 : decode cX9_isWord 12 = .ok (.invokevirtual 59, 3) := by decide +kernel
theorem dX9_isWord_15 : decode cX9_isWord 15 = .ok (.invokevirtual 63, 3) := by decide +kernel
theorem dX9_isWord_18 : decode cX9_isWord 18 = .ok (.ifCond .eq 7, 3) := by decide +kernel
theorem dX9_isWord_21 : decode cX9_isWord 21 = .ok (.iconst 1, 1) := by decide +kernel
theorem dX9_isWord_22 : decode cX9_isWord 22 = .ok (.goto 4, 3) := by decide +kernel
theorem dX9_isWord_25 : decode cX9_isWord 25 = .ok (.iconst 0, 1) := by decide +kernel
theorem dX9_isWord_26 : decode cX9_isWord 26 = .ok (.ireturn, 1) := by decide +kernel
theorem dX9_wordIn_0 : decode cX9_wordIn 0 = .ok (.iconst 0, 1) := by decide +kernel
theorem dX9_wordIn_1 : decode cX9_wordIn 1 = .ok (.istore_n 2, 1) := by decide +kernel
theorem dX9_wordIn_2 : decode cX9_wordIn 2 = .ok (.iconst 0, 1) := by decide +kernel
theorem dX9_wordIn_3 : decode cX9_wordIn 3 = .ok (.istore_n 3, 1) := by decide +kernel
theorem dX9_wordIn_4 : decode cX9_wordIn 4 = .ok (.iconst 0, 1) := by decide +kernel
theorem dX9_wordIn_5 : decode cX9_wordIn 5 = .ok (.istore 4, 2) := by decide +kernel
theorem dX9_wordIn_7 : decode cX9_wordIn 7 = .ok (.iload 4, 2) := by decide +kernel
theorem dX9_wordIn_9 : decode cX9_wordIn 9 = .ok (.aload_n 1, 1) := by decide +kernel
theorem dX9_wordIn_10 : decode cX9_wordIn 10 = .ok (.invokevirtual 59, 3) := by decide +kernel
theorem dX9_wordIn_13 : decode cX9_wordIn 13 = .ok (.if_icmp .gt 58, 3) := by decide +kernel
theorem dX9_wordIn_16 : decode cX9_wordIn 16 = .ok (.aload_n 0, 1) := by decide +kernel
theorem dX9_wordIn_17 : decode cX9_wordIn 17 = .ok (.getfield 19, 3) := by decide +kernel
theorem dX9_wordIn_20 : decode cX9_wordIn 20 = .ok (.iconst 1, 1) := by decide +kernel
theorem dX9_wordIn_21 : decode cX9_wordIn 21 = .ok (.if_icmp .ne 50, 3) := by decide +kernel
theorem dX9_wordIn_24 : decode cX9_wordIn 24 = .ok (.iload 4, 2) := by decide +kernel
theorem dX9_wordIn_26 : decode cX9_wordIn 26 = .ok (.aload_n 1, 1) := by decide +kernel
theorem dX9_wordIn_27 : decode cX9_wordIn 27 = .ok (.invokevirtual 59, 3) := by decide +kernel
theorem dX9_wordIn_30 : decode cX9_wordIn 30 = .ok (.if_icmp .eq 14, 3) := by decide +kernel
theorem dX9_wordIn_33 : decode cX9_wordIn 33 = .ok (.aload_n 1, 1) := by decide +kernel
theorem dX9_wordIn_34 : decode cX9_wordIn 34 = .ok (.iload 4, 2) := by decide +kernel
theorem dX9_wordIn_36 : decode cX9_wordIn 36 = .ok (.invokevirtual 67, 3) := by decide +kernel
theorem dX9_wordIn_39 : decode cX9_wordIn 39 = .ok (.bipush 32, 2) := by decide +kernel
theorem dX9_wordIn_41 : decode cX9_wordIn 41 = .ok (.if_icmp .ne 24, 3) := by decide +kernel
theorem dX9_wordIn_44 : decode cX9_wordIn 44 = .ok (.aload_n 0, 1) := by decide +kernel
theorem dX9_wordIn_45 : decode cX9_wordIn 45 = .ok (.aload_n 1, 1) := by decide +kernel
theorem dX9_wordIn_46 : decode cX9_wordIn 46 = .ok (.iload_n 3, 1) := by decide +kernel
theorem dX9_wordIn_47 : decode cX9_wordIn 47 = .ok (.iload 4, 2) := by decide +kernel
theorem dX9_wordIn_49 : decode cX9_wordIn 49 = .ok (.invokevirtual 63, 3) := by decide +kernel
theorem dX9_wordIn_52 : decode cX9_wordIn 52 = .ok (.ifCond .eq 5, 3) := by decide +kernel
theorem dX9_wordIn_55 : decode cX9_wordIn 55 = .ok (.iload_n 2, 1) := by decide +kernel
theorem dX9_wordIn_56 : decode cX9_wordIn 56 = .ok (.ireturn, 1) := by decide +kernel
theorem dX9_wordIn_57 : decode cX9_wordIn 57 = .ok (.iinc 2 1, 3) := by decide +kernel
theorem dX9_wordIn_60 : decode cX9_wordIn 60 = .ok (.iload 4, 2) := by decide +kernel
theorem dX9_wordIn_62 : decode cX9_wordIn 62 = .ok (.iconst 1, 1) := by decide +kernel
theorem dX9_wordIn_63 : decode cX9_wordIn 63 = .ok (.iadd, 1) := by decide +kernel
theorem dX9_wordIn_64 : decode cX9_wordIn 64 = .ok (.istore_n 3, 1) := by decide +kernel
theorem dX9_wordIn_65 : decode cX9_wordIn 65 = .ok (.iinc 4 1, 3) := by decide +kernel
theorem dX9_wordIn_68 : decode cX9_wordIn 68 = .ok (.goto (-61), 3) := by decide +kernel
theorem dX9_wordIn_71 : decode cX9_wordIn 71 = .ok (.iconst (-1), 1) := by decide +kernel
theorem dX9_wordIn_72 : decode cX9_wordIn 72 = .ok (.ireturn, 1) := by decide +kernel
theorem dX9_isPart_0 : decode cX9_isPart 0 = .ok (.iload_n 3, 1) := by decide +kernel
theorem dX9_isPart_1 : decode cX9_isPart 1 = .ok (.iload_n 2, 1) := by decide +kernel
theorem dX9_isPart_2 : decode cX9_isPart 2 = .ok (.isub, 1) := by decide +kernel
theorem dX9_isPart_3 : decode cX9_isPart 3 = .ok (.aload_n 0, 1) := by decide +kernel
theorem dX9_isPart_4 : decode cX9_isPart 4 = .ok (.getfield 25, 3) := by decide +kernel
theorem dX9_isPart_7 : decode cX9_isPart 7 = .ok (.aload_n 0, 1) := by decide +kernel
theorem dX9_isPart_8 : decode cX9_isPart 8 = .ok (.getfield 22, 3) := by decide +kernel
theorem dX9_isPart_11 : decode cX9_isPart 11 = .ok (.isub, 1) := by decide +kernel
theorem dX9_isPart_12 : decode cX9_isPart 12 = .ok (.if_icmp .eq 5, 3) := by decide +kernel
theorem dX9_isPart_15 : decode cX9_isPart 15 = .ok (.iconst 0, 1) := by decide +kernel
theorem dX9_isPart_16 : decode cX9_isPart 16 = .ok (.ireturn, 1) := by decide +kernel
theorem dX9_isPart_17 : decode cX9_isPart 17 = .ok (.iconst 0, 1) := by decide +kernel
theorem dX9_isPart_18 : decode cX9_isPart 18 = .ok (.istore 4, 2) := by decide +kernel
theorem dX9_isPart_20 : decode cX9_isPart 20 = .ok (.iload 4, 2) := by decide +kernel
theorem dX9_isPart_22 : decode cX9_isPart 22 = .ok (.iload_n 3, 1) := by decide +kernel
theorem dX9_isPart_23 : decode cX9_isPart 23 = .ok (.iload_n 2, 1) := by decide +kernel
theorem dX9_isPart_24 : decode cX9_isPart 24 = .ok (.isub, 1) := by decide +kernel
theorem dX9_isPart_25 : decode cX9_isPart 25 = .ok (.if_icmp .ge 34, 3) := by decide +kernel
theorem dX9_isPart_28 : decode cX9_isPart 28 = .ok (.aload_n 1, 1) := by decide +kernel
theorem dX9_isPart_29 : decode cX9_isPart 29 = .ok (.iload_n 2, 1) := by decide +kernel
theorem dX9_isPart_30 : decode cX9_isPart 30 = .ok (.iload 4, 2) := by decide +kernel
theorem dX9_isPart_32 : decode cX9_isPart 32 = .ok (.iadd, 1) := by decide +kernel
theorem dX9_isPart_33 : decode cX9_isPart 33 = .ok (.invokevirtual 67, 3) := by decide +kernel
theorem dX9_isPart_36 : decode cX9_isPart 36 = .ok (.aload_n 0, 1) := by decide +kernel
theorem dX9_isPart_37 : decode cX9_isPart 37 = .ok (.getfield 11, 3) := by decide +kernel
theorem dX9_isPart_40 : decode cX9_isPart 40 = .ok (.aload_n 0, 1) := by decide +kernel
theorem dX9_isPart_41 : decode cX9_isPart 41 = .ok (.getfield 22, 3) := by decide +kernel
theorem dX9_isPart_44 : decode cX9_isPart 44 = .ok (.iload 4, 2) := by decide +kernel
theorem dX9_isPart_46 : decode cX9_isPart 46 = .ok (.iadd, 1) := by decide +kernel
theorem dX9_isPart_47 : decode cX9_isPart 47 = .ok (.iaload, 1) := by decide +kernel
theorem dX9_isPart_48 : decode cX9_isPart 48 = .ok (.if_icmp .eq 5, 3) := by decide +kernel
theorem dX9_isPart_51 : decode cX9_isPart 51 = .ok (.iconst 0, 1) := by decide +kernel
theorem dX9_isPart_52 : decode cX9_isPart 52 = .ok (.ireturn, 1) := by decide +kernel
theorem dX9_isPart_53 : decode cX9_isPart 53 = .ok (.iinc 4 1, 3) := by decide +kernel
theorem dX9_isPart_56 : decode cX9_isPart 56 = .ok (.goto (-36), 3) := by decide +kernel
theorem dX9_isPart_59 : decode cX9_isPart 59 = .ok (.iconst 1, 1) := by decide +kernel
theorem dX9_isPart_60 : decode cX9_isPart 60 = .ok (.ireturn, 1) := by decide +kernel
theorem dX9_sign_0 : decode cX9_sign 0 = .ok (.aload_n 0, 1) := by decide +kernel
theorem dX9_sign_1 : decode cX9_sign 1 = .ok (.getfield 19, 3) := by decide +kernel
theorem dX9_sign_4 : decode cX9_sign 4 = .ok (.iconst 3, 1) := by decide +kernel
theorem dX9_sign_5 : decode cX9_sign 5 = .ok (.if_icmp .ne 21, 3) := by decide +kernel
theorem dX9_sign_8 : decode cX9_sign 8 = .ok (.ldc 48, 2) := by decide +kernel
theorem dX9_sign_10 : decode cX9_sign 10 = .ok (.aload_n 0, 1) := by decide +kernel
theorem dX9_sign_11 : decode cX9_sign 11 = .ok (.getfield 11, 3) := by decide +kernel
theorem dX9_sign_14 : decode cX9_sign 14 = .ok (.aload_n 0, 1) := by decide +kernel
theorem dX9_sign_15 : decode cX9_sign 15 = .ok (.getfield 22, 3) := by decide +kernel
theorem dX9_sign_18 : decode cX9_sign 18 = .ok (.iaload, 1) := by decide +kernel
theorem dX9_sign_19 : decode cX9_sign 19 = .ok (.i2c, 1) := by decide +kernel
theorem dX9_sign_20 : decode cX9_sign 20 = .ok (.invokevirtual 50, 3) := by decide +kernel
theorem dX9_sign_23 : decode cX9_sign 23 = .ok (.goto 4, 3) := by decide +kernel
theorem dX9_sign_26 : decode cX9_sign 26 = .ok (.iconst (-1), 1) := by decide +kernel
theorem dX9_sign_27 : decode cX9_sign 27 = .ok (.ireturn, 1) := by decide +kernel
theorem dX9_number_0 : decode cX9_number 0 = .ok (.aload_n 0, 1) := by decide +kernel
theorem dX9_number_1 : decode cX9_number 1 = .ok (.getfield 19, 3) := by decide +kernel
theorem dX9_number_4 : decode cX9_number 4 = .ok (.iconst 2, 1) := by decide +kernel
theorem dX9_number_5 : decode cX9_number 5 = .ok (.if_icmp .eq 5, 3) := by decide +kernel
theorem dX9_number_8 : decode cX9_number 8 = .ok (.iconst (-1), 1) := by decide +kernel
theorem dX9_number_9 : decode cX9_number 9 = .ok (.ireturn, 1) := by decide +kernel
theorem dX9_number_10 : decode cX9_number 10 = .ok (.iconst 0, 1) := by decide +kernel
theorem dX9_number_11 : decode cX9_number 11 = .ok (.istore_n 1, 1) := by decide +kernel
theorem dX9_number_12 : decode cX9_number 12 = .ok (.aload_n 0, 1) := by decide +kernel
theorem dX9_number_13 : decode cX9_number 13 = .ok (.getfield 22, 3) := by decide +kernel
theorem dX9_number_16 : decode cX9_number 16 = .ok (.istore_n 2, 1) := by decide +kernel
theorem dX9_number_17 : decode cX9_number 17 = .ok (.iload_n 2, 1) := by decide +kernel
theorem dX9_number_18 : decode cX9_number 18 = .ok (.aload_n 0, 1) := by decide +kernel
theorem dX9_number_19 : decode cX9_number 19 = .ok (.getfield 25, 3) := by decide +kernel
theorem dX9_number_22 : decode cX9_number 22 = .ok (.if_icmp .ge 24, 3) := by decide +kernel
theorem dX9_number_25 : decode cX9_number 25 = .ok (.iload_n 1, 1) := by decide +kernel
theorem dX9_number_26 : decode cX9_number 26 = .ok (.bipush 10, 2) := by decide +kernel
theorem dX9_number_28 : decode cX9_number 28 = .ok (.imul, 1) := by decide +kernel
theorem dX9_number_29 : decode cX9_number 29 = .ok (.aload_n 0, 1) := by decide +kernel
theorem dX9_number_30 : decode cX9_number 30 = .ok (.getfield 11, 3) := by decide +kernel
theorem dX9_number_33 : decode cX9_number 33 = .ok (.iload_n 2, 1) := by decide +kernel
theorem dX9_number_34 : decode cX9_number 34 = .ok (.iaload, 1) := by decide +kernel
theorem dX9_number_35 : decode cX9_number 35 = .ok (.iadd, 1) := by decide +kernel
theorem dX9_number_36 : decode cX9_number 36 = .ok (.bipush 48, 2) := by decide +kernel
theorem dX9_number_38 : decode cX9_number 38 = .ok (.isub, 1) := by decide +kernel
theorem dX9_number_39 : decode cX9_number 39 = .ok (.istore_n 1, 1) := by decide +kernel
theorem dX9_number_40 : decode cX9_number 40 = .ok (.iinc 2 1, 3) := by decide +kernel
theorem dX9_number_43 : decode cX9_number 43 = .ok (.goto (-26), 3) := by decide +kernel
theorem dX9_number_46 : decode cX9_number 46 = .ok (.iload_n 1, 1) := by decide +kernel
theorem dX9_number_47 : decode cX9_number 47 = .ok (.ireturn, 1) := by decide +kernel
theorem dX10_init_0 : decode cX10_init 0 = .ok (.aload_n 0, 1) := by decide +kernel
theorem dX10_init_1 : decode cX10_init 1 = .ok (.invokespecial 3, 3) := by decide +kernel
theorem dX10_init_4 : decode cX10_init 4 = .ok (.aload_n 0, 1) := by decide +kernel
theorem dX10_init_5 : decode cX10_init 5 = .ok (.iconst 0, 1) := by decide +kernel
theorem dX10_init_6 : decode cX10_init 6 = .ok (.putfield 9, 3) := by decide +kernel
theorem dX10_init_9 : decode cX10_init 9 = .ok (.aload_n 0, 1) := by decide +kernel
theorem dX10_init_10 : decode cX10_init 10 = .ok (.iconst (-1), 1) := by decide +kernel
theorem dX10_init_11 : decode cX10_init 11 = .ok (.putfield 15, 3) := by decide +kernel
theorem dX10_init_14 : decode cX10_init 14 = .ok (.aload_n 0, 1) := by decide +kernel
theorem dX10_init_15 : decode cX10_init 15 = .ok (.iload_n 1, 1) := by decide +kernel
theorem dX10_init_16 : decode cX10_init 16 = .ok (.putfield 19, 3) := by decide +kernel
theorem dX10_init_19 : decode cX10_init 19 = .ok (.aload_n 0, 1) := by decide +kernel
theorem dX10_init_20 : decode cX10_init 20 = .ok (.iload_n 2, 1) := by decide +kernel
theorem dX10_init_21 : decode cX10_init 21 = .ok (.putfield 22, 3) := by decide +kernel
theorem dX10_init_24 : decode cX10_init 24 = .ok (.aload_n 0, 1) := by decide +kernel
theorem dX10_init_25 : decode cX10_init 25 = .ok (.iload_n 3, 1) := by decide +kernel
theorem dX10_init_26 : decode cX10_init 26 = .ok (.putfield 25, 3) := by decide +kernel
theorem dX10_init_29 : decode cX10_init 29 = .ok (.return_, 1) := by decide +kernel
theorem dX10_bears_0 : decode cX10_bears 0 = .ok (.aload_n 1, 1) := by decide +kernel
theorem dX10_bears_1 : decode cX10_bears 1 = .ok (.getfield 28, 3) := by decide +kernel
theorem dX10_bears_4 : decode cX10_bears 4 = .ok (.aload_n 0, 1) := by decide +kernel
theorem dX10_bears_5 : decode cX10_bears 5 = .ok (.getfield 25, 3) := by decide +kernel
theorem dX10_bears_8 : decode cX10_bears 8 = .ok (.iaload, 1) := by decide +kernel
theorem dX10_bears_9 : decode cX10_bears 9 = .ok (.aload_n 1, 1) := by decide +kernel
theorem dX10_bears_10 : decode cX10_bears 10 = .ok (.getfield 28, 3) := by decide +kernel
theorem dX10_bears_13 : decode cX10_bears 13 = .ok (.aload_n 0, 1) := by decide +kernel
theorem dX10_bears_14 : decode cX10_bears 14 = .ok (.getfield 22, 3) := by decide +kernel
theorem dX10_bears_17 : decode cX10_bears 17 = .ok (.iaload, 1) := by decide +kernel
theorem dX10_bears_18 : decode cX10_bears 18 = .ok (.isub, 1) := by decide +kernel
theorem dX10_bears_19 : decode cX10_bears 19 = .ok (.istore_n 3, 1) := by decide +kernel
theorem dX10_bears_20 : decode cX10_bears 20 = .ok (.aload_n 2, 1) := by decide +kernel
theorem dX10_bears_21 : decode cX10_bears 21 = .ok (.iconst 0, 1) := by decide +kernel
theorem dX10_bears_22 : decode cX10_bears 22 = .ok (.invokevirtual 36, 3) := by decide +kernel
theorem dX10_bears_25 : decode cX10_bears 25 = .ok (.istore 4, 2) := by decide +kernel
theorem dX10_bears_27 : decode cX10_bears 27 = .ok (.aload_n 2, 1) := by decide +kernel
theorem dX10_bears_28 : decode cX10_bears 28 = .ok (.iconst 1, 1) := by decide +kernel
theorem dX10_bears_29 : decode cX10_bears 29 = .ok (.invokevirtual 36, 3) := by decide +kernel
theorem dX10_bears_32 : decode cX10_bears 32 = .ok (.istore 5, 2) := by decide +kernel
theorem dX10_bears_34 : decode cX10_bears 34 = .ok (.aload_n 0, 1) := by decide +kernel
theorem dX10_bears_35 : decode cX10_bears 35 = .ok (.getfield 19, 3) := by decide +kernel
theorem dX10_bears_38 : decode cX10_bears 38 = .ok (.tableswitch 100 0 3 #[30, 59, 73, 87], 30) := by decide +kernel
theorem dX10_bears_68 : decode cX10_bears 68 = .ok (.iload 4, 2) := by decide +kernel
theorem dX10_bears_70 : decode cX10_bears 70 = .ok (.bipush 6, 2) := by decide +kernel
theorem dX10_bears_72 : decode cX10_bears 72 = .ok (.if_icmp .le 7, 3) := by decide +kernel
theorem dX10_bears_75 : decode cX10_bears 75 = .ok (.iconst 0, 1) := by decide +kernel
theorem dX10_bears_76 : decode cX10_bears 76 = .ok (.goto 20, 3) := by decide +kernel
theorem dX10_bears_79 : decode cX10_bears 79 = .ok (.iconst 0, 1) := by decide +kernel
theorem dX10_bears_80 : decode cX10_bears 80 = .ok (.bipush 30, 2) := by decide +kernel
theorem dX10_bears_82 : decode cX10_bears 82 = .ok (.iconst 3, 1) := by decide +kernel
theorem dX10_bears_83 : decode cX10_bears 83 = .ok (.iconst 0, 1) := by decide +kernel
theorem dX10_bears_84 : decode cX10_bears 84 = .ok (.iload_n 3, 1) := by decide +kernel
theorem dX10_bears_85 : decode cX10_bears 85 = .ok (.invokestatic 40, 3) := by decide +kernel
theorem dX10_bears_88 : decode cX10_bears 88 = .ok (.imul, 1) := by decide +kernel
theorem dX10_bears_89 : decode cX10_bears 89 = .ok (.isub, 1) := by decide +kernel
theorem dX10_bears_90 : decode cX10_bears 90 = .ok (.iload 4, 2) := by decide +kernel
theorem dX10_bears_92 : decode cX10_bears 92 = .ok (.isub, 1) := by decide +kernel
theorem dX10_bears_93 : decode cX10_bears 93 = .ok (.invokestatic 40, 3) := by decide +kernel
theorem dX10_bears_96 : decode cX10_bears 96 = .ok (.ireturn, 1) := by decide +kernel
theorem dX10_bears_97 : decode cX10_bears 97 = .ok (.aload_n 0, 1) := by decide +kernel
theorem dX10_bears_98 : decode cX10_bears 98 = .ok (.getfield 9, 3) := by decide +kernel
theorem dX10_bears_101 : decode cX10_bears 101 = .ok (.ifCond .eq 8, 3) := by decide +kernel
theorem dX10_bears_104 : decode cX10_bears 104 = .ok (.bipush 60, 2) := by decide +kernel
theorem dX10_bears_106 : decode cX10_bears 106 = .ok (.goto 4, 3) := by decide +kernel
theorem dX10_bears_109 : decode cX10_bears 109 = .ok (.iconst 0, 1) := by decide +kernel
theorem dX10_bears_110 : decode cX10_bears 110 = .ok (.ireturn, 1) := by decide +kernel
theorem dX10_bears_111 : decode cX10_bears 111 = .ok (.iload_n 3, 1) := by decide +kernel
theorem dX10_bears_112 : decode cX10_bears 112 = .ok (.ifCond .ge 11, 3) := by decide +kernel
theorem dX10_bears_115 : decode cX10_bears 115 = .ok (.bipush 8, 2) := by decide +kernel
theorem dX10_bears_117 : decode cX10_bears 117 = .ok (.iload 5, 2) := by decide +kernel
theorem dX10_bears_119 : decode cX10_bears 119 = .ok (.imul, 1) := by decide +kernel
theorem dX10_bears_120 : decode cX10_bears 120 = .ok (.goto 4, 3) := by decide +kernel
theorem dX10_bears_123 : decode cX10_bears 123 = .ok (.iconst 0, 1) := by decide +kernel
theorem dX10_bears_124 : decode cX10_bears 124 = .ok (.ireturn, 1) := by decide +kernel
theorem dX10_bears_125 : decode cX10_bears 125 = .ok (.iload 4, 2) := by decide +kernel
theorem dX10_bears_127 : decode cX10_bears 127 = .ok (.iconst 3, 1) := by decide +kernel
theorem dX10_bears_128 : decode cX10_bears 128 = .ok (.if_icmp .lt 8, 3) := by decide +kernel
theorem dX10_bears_131 : decode cX10_bears 131 = .ok (.bipush 40, 2) := by decide +kernel
theorem dX10_bears_133 : decode cX10_bears 133 = .ok (.goto 4, 3) := by decide +kernel
theorem dX10_bears_136 : decode cX10_bears 136 = .ok (.iconst 0, 1) := by decide +kernel
theorem dX10_bears_137 : decode cX10_bears 137 = .ok (.ireturn, 1) := by decide +kernel
theorem dX10_bears_138 : decode cX10_bears 138 = .ok (.iload_n 3, 1) := by decide +kernel
theorem dX10_bears_139 : decode cX10_bears 139 = .ok (.ifCond .ge 13, 3) := by decide +kernel
theorem dX10_bears_142 : decode cX10_bears 142 = .ok (.aload_n 0, 1) := by decide +kernel
theorem dX10_bears_143 : decode cX10_bears 143 = .ok (.iload 5, 2) := by decide +kernel
theorem dX10_bears_145 : decode cX10_bears 145 = .ok (.aload_n 2, 1) := by decide +kernel
theorem dX10_bears_146 : decode cX10_bears 146 = .ok (.invokevirtual 46, 3) := by decide +kernel
theorem dX10_bears_149 : decode cX10_bears 149 = .ok (.goto 4, 3) := by decide +kernel
theorem dX10_bears_152 : decode cX10_bears 152 = .ok (.iconst 0, 1) := by decide +kernel
theorem dX10_bears_153 : decode cX10_bears 153 = .ok (.ireturn, 1) := by decide +kernel
theorem dX10_streamBears_0 : decode cX10_streamBears 0 = .ok (.aload_n 2, 1) := by decide +kernel
theorem dX10_streamBears_1 : decode cX10_streamBears 1 = .ok (.invokevirtual 50, 3) := by decide +kernel
theorem dX10_streamBears_4 : decode cX10_streamBears 4 = .ok (.iconst 1, 1) := by decide +kernel
theorem dX10_streamBears_5 : decode cX10_streamBears 5 = .ok (.if_icmp .ne 8, 3) := by decide +kernel
theorem dX10_streamBears_8 : decode cX10_streamBears 8 = .ok (.bipush 12, 2) := by decide +kernel
theorem dX10_streamBears_10 : decode cX10_streamBears 10 = .ok (.goto 4, 3) := by decide +kernel
theorem dX10_streamBears_13 : decode cX10_streamBears 13 = .ok (.iconst 3, 1) := by decide +kernel
theorem dX10_streamBears_14 : decode cX10_streamBears 14 = .ok (.istore_n 3, 1) := by decide +kernel
theorem dX10_streamBears_15 : decode cX10_streamBears 15 = .ok (.iload_n 3, 1) := by decide +kernel
theorem dX10_streamBears_16 : decode cX10_streamBears 16 = .ok (.iload_n 1, 1) := by decide +kernel
theorem dX10_streamBears_17 : decode cX10_streamBears 17 = .ok (.imul, 1) := by decide +kernel
theorem dX10_streamBears_18 : decode cX10_streamBears 18 = .ok (.aload_n 0, 1) := by decide +kernel
theorem dX10_streamBears_19 : decode cX10_streamBears 19 = .ok (.getfield 15, 3) := by decide +kernel
theorem dX10_streamBears_22 : decode cX10_streamBears 22 = .ok (.aload_n 2, 1) := by decide +kernel
theorem dX10_streamBears_23 : decode cX10_streamBears 23 = .ok (.getfield 54, 3) := by decide +kernel
theorem dX10_streamBears_26 : decode cX10_streamBears 26 = .ok (.if_icmp .ne 8, 3) := by decide +kernel
theorem dX10_streamBears_29 : decode cX10_streamBears 29 = .ok (.bipush 40, 2) := by decide +kernel
theorem dX10_streamBears_31 : decode cX10_streamBears 31 = .ok (.goto 4, 3) := by decide +kernel
theorem dX10_streamBears_34 : decode cX10_streamBears 34 = .ok (.iconst 0, 1) := by decide +kernel
theorem dX10_streamBears_35 : decode cX10_streamBears 35 = .ok (.iadd, 1) := by decide +kernel
theorem dX10_streamBears_36 : decode cX10_streamBears 36 = .ok (.ireturn, 1) := by decide +kernel
theorem dX11_init_0 : decode cX11_init 0 = .ok (.aload_n 0, 1) := by decide +kernel
theorem dX11_init_1 : decode cX11_init 1 = .ok (.invokespecial 3, 3) := by decide +kernel
theorem dX11_init_4 : decode cX11_init 4 = .ok (.aload_n 0, 1) := by decide +kernel
theorem dX11_init_5 : decode cX11_init 5 = .ok (.new 9, 3) := by decide +kernel
theorem dX11_init_8 : decode cX11_init 8 = .ok (.dup, 1) := by decide +kernel
theorem dX11_init_9 : decode cX11_init 9 = .ok (.invokespecial 11, 3) := by decide +kernel
theorem dX11_init_12 : decode cX11_init 12 = .ok (.putfield 12, 3) := by decide +kernel
theorem dX11_init_15 : decode cX11_init 15 = .ok (.aload_n 0, 1) := by decide +kernel
theorem dX11_init_16 : decode cX11_init 16 = .ok (.new 16, 3) := by decide +kernel
theorem dX11_init_19 : decode cX11_init 19 = .ok (.dup, 1) := by decide +kernel
theorem dX11_init_20 : decode cX11_init 20 = .ok (.invokespecial 18, 3) := by decide +kernel
theorem dX11_init_23 : decode cX11_init 23 = .ok (.putfield 19, 3) := by decide +kernel
theorem dX11_init_26 : decode cX11_init 26 = .ok (.aload_n 0, 1) := by decide +kernel
theorem dX11_init_27 : decode cX11_init 27 = .ok (.new 23, 3) := by decide +kernel
theorem dX11_init_30 : decode cX11_init 30 = .ok (.dup, 1) := by decide +kernel
theorem dX11_init_31 : decode cX11_init 31 = .ok (.invokespecial 25, 3) := by decide +kernel
theorem dX11_init_34 : decode cX11_init 34 = .ok (.putfield 26, 3) := by decide +kernel
theorem dX11_init_37 : decode cX11_init 37 = .ok (.aload_n 0, 1) := by decide +kernel
theorem dX11_init_38 : decode cX11_init 38 = .ok (.sipush 300, 3) := by decide +kernel
theorem dX11_init_41 : decode cX11_init 41 = .ok (.anewarray 30, 3) := by decide +kernel
theorem dX11_init_44 : decode cX11_init 44 = .ok (.putfield 32, 3) := by decide +kernel
theorem dX11_init_47 : decode cX11_init 47 = .ok (.aload_n 0, 1) := by decide +kernel
theorem dX11_init_48 : decode cX11_init 48 = .ok (.iconst 0, 1) := by decide +kernel
theorem dX11_init_49 : decode cX11_init 49 = .ok (.putfield 36, 3) := by decide +kernel
theorem dX11_init_52 : decode cX11_init 52 = .ok (.aload_n 0, 1) := by decide +kernel
theorem dX11_init_53 : decode cX11_init 53 = .ok (.bipush 40, 2) := by decide +kernel
theorem dX11_init_55 : decode cX11_init 55 = .ok (.anewarray 40, 3) := by decide +kernel
theorem dX11_init_58 : decode cX11_init 58 = .ok (.putfield 42, 3) := by decide +kernel
theorem dX11_init_61 : decode cX11_init 61 = .ok (.aload_n 0, 1) := by decide +kernel
theorem dX11_init_62 : decode cX11_init 62 = .ok (.iconst 0, 1) := by decide +kernel
theorem dX11_init_63 : decode cX11_init 63 = .ok (.putfield 46, 3) := by decide +kernel
theorem dX11_init_66 : decode cX11_init 66 = .ok (.aload_n 0, 1) := by decide +kernel
theorem dX11_init_67 : decode cX11_init 67 = .ok (.iconst 0, 1) := by decide +kernel
theorem dX11_init_68 : decode cX11_init 68 = .ok (.putfield 49, 3) := by decide +kernel
theorem dX11_init_71 : decode cX11_init 71 = .ok (.aload_n 0, 1) := by decide +kernel
theorem dX11_init_72 : decode cX11_init 72 = .ok (.new 52, 3) := by decide +kernel
theorem dX11_init_75 : decode cX11_init 75 = .ok (.dup, 1) := by decide +kernel
theorem dX11_init_76 : decode cX11_init 76 = .ok (.invokespecial 54, 3) := by decide +kernel
theorem dX11_init_79 : decode cX11_init 79 = .ok (.putfield 55, 3) := by decide +kernel
theorem dX11_init_82 : decode cX11_init 82 = .ok (.aload_n 0, 1) := by decide +kernel
theorem dX11_init_83 : decode cX11_init 83 = .ok (.new 59, 3) := by decide +kernel
theorem dX11_init_86 : decode cX11_init 86 = .ok (.dup, 1) := by decide +kernel
theorem dX11_init_87 : decode cX11_init 87 = .ok (.invokespecial 61, 3) := by decide +kernel
theorem dX11_init_90 : decode cX11_init 90 = .ok (.putfield 62, 3) := by decide +kernel
theorem dX11_init_93 : decode cX11_init 93 = .ok (.aload_n 0, 1) := by decide +kernel
theorem dX11_init_94 : decode cX11_init 94 = .ok (.bipush 20, 2) := by decide +kernel
theorem dX11_init_96 : decode cX11_init 96 = .ok (.anewarray 66, 3) := by decide +kernel
theorem dX11_init_99 : decode cX11_init 99 = .ok (.putfield 68, 3) := by decide +kernel
theorem dX11_init_102 : decode cX11_init 102 = .ok (.aload_n 0, 1) := by decide +kernel
theorem dX11_init_103 : decode cX11_init 103 = .ok (.iconst 0, 1) := by decide +kernel
theorem dX11_init_104 : decode cX11_init 104 = .ok (.putfield 72, 3) := by decide +kernel
theorem dX11_init_107 : decode cX11_init 107 = .ok (.aload_n 0, 1) := by decide +kernel
theorem dX11_init_108 : decode cX11_init 108 = .ok (.iconst 0, 1) := by decide +kernel
theorem dX11_init_109 : decode cX11_init 109 = .ok (.putfield 75, 3) := by decide +kernel
theorem dX11_init_112 : decode cX11_init 112 = .ok (.aload_n 0, 1) := by decide +kernel
theorem dX11_init_113 : decode cX11_init 113 = .ok (.bipush 60, 2) := by decide +kernel
theorem dX11_init_115 : decode cX11_init 115 = .ok (.newarray .int, 2) := by decide +kernel
theorem dX11_init_117 : decode cX11_init 117 = .ok (.putfield 78, 3) := by decide +kernel
theorem dX11_init_120 : decode cX11_init 120 = .ok (.aload_n 0, 1) := by decide +kernel
theorem dX11_init_121 : decode cX11_init 121 = .ok (.bipush 60, 2) := by decide +kernel
theorem dX11_init_123 : decode cX11_init 123 = .ok (.newarray .int, 2) := by decide +kernel
theorem dX11_init_125 : decode cX11_init 125 = .ok (.putfield 82, 3) := by decide +kernel
theorem dX11_init_128 : decode cX11_init 128 = .ok (.aload_n 0, 1) := by decide +kernel
theorem dX11_init_129 : decode cX11_init 129 = .ok (.bipush 60, 2) := by decide +kernel
theorem dX11_init_131 : decode cX11_init 131 = .ok (.newarray .int, 2) := by decide +kernel
theorem dX11_init_133 : decode cX11_init 133 = .ok (.putfield 85, 3) := by decide +kernel
theorem dX11_init_136 : decode cX11_init 136 = .ok (.aload_n 0, 1) := by decide +kernel
theorem dX11_init_137 : decode cX11_init 137 = .ok (.iconst 0, 1) := by decide +kernel
theorem dX11_init_138 : decode cX11_init 138 = .ok (.putfield 88, 3) := by decide +kernel
theorem dX11_init_141 : decode cX11_init 141 = .ok (.aload_n 0, 1) := by decide +kernel
theorem dX11_init_142 : decode cX11_init 142 = .ok (.new 91, 3) := by decide +kernel
theorem dX11_init_145 : decode cX11_init 145 = .ok (.dup, 1) := by decide +kernel
theorem dX11_init_146 : decode cX11_init 146 = .ok (.invokespecial 93, 3) := by decide +kernel
theorem dX11_init_149 : decode cX11_init 149 = .ok (.putfield 94, 3) := by decide +kernel
theorem dX11_init_152 : decode cX11_init 152 = .ok (.aload_n 0, 1) := by decide +kernel
theorem dX11_init_153 : decode cX11_init 153 = .ok (.new 98, 3) := by decide +kernel
theorem dX11_init_156 : decode cX11_init 156 = .ok (.dup, 1) := by decide +kernel
theorem dX11_init_157 : decode cX11_init 157 = .ok (.invokespecial 100, 3) := by decide +kernel
theorem dX11_init_160 : decode cX11_init 160 = .ok (.putfield 101, 3) := by decide +kernel
theorem dX11_init_163 : decode cX11_init 163 = .ok (.aload_n 0, 1) := by decide +kernel
theorem dX11_init_164 : decode cX11_init 164 = .ok (.new 105, 3) := by decide +kernel
theorem dX11_init_167 : decode cX11_init 167 = .ok (.dup, 1) := by decide +kernel
theorem dX11_init_168 : decode cX11_init 168 = .ok (.invokespecial 107, 3) := by decide +kernel
theorem dX11_init_171 : decode cX11_init 171 = .ok (.putfield 108, 3) := by decide +kernel
theorem dX11_init_174 : decode cX11_init 174 = .ok (.return_, 1) := by decide +kernel
theorem dX11_cell_0 : decode cX11_cell 0 = .ok (.iload_n 1, 1) := by decide +kernel
theorem dX11_cell_1 : decode cX11_cell 1 = .ok (.invokestatic 112, 3) := by decide +kernel
theorem dX11_cell_4 : decode cX11_cell 4 = .ok (.ifCond .eq 13, 3) := by decide +kernel
theorem dX11_cell_7 : decode cX11_cell 7 = .ok (.iload_n 2, 1) := by decide +kernel
theorem dX11_cell_8 : decode cX11_cell 8 = .ok (.iconst 0, 1) := by decide +kernel
theorem dX11_cell_9 : decode cX11_cell 9 = .ok (.bipush 40, 2) := by decide +kernel
theorem dX11_cell_11 : decode cX11_cell 11 = .ok (.invokestatic 116, 3) := by decide +kernel
theorem dX11_cell_14 : decode cX11_cell 14 = .ok (.ifCond .ne 5, 3) := by decide +kernel
theorem dX11_cell_17 : decode cX11_cell 17 = .ok (.iconst 0, 1) := by decide +kernel
theorem dX11_cell_18 : decode cX11_cell 18 = .ok (.ireturn, 1) := by decide +kernel
theorem dX11_cell_19 : decode cX11_cell 19 = .ok (.aload_n 0, 1) := by decide +kernel
theorem dX11_cell_20 : decode cX11_cell 20 = .ok (.getfield 19, 3) := by decide +kernel
theorem dX11_cell_23 : decode cX11_cell 23 = .ok (.getfield 120, 3) := by decide +kernel
theorem dX11_cell_26 : decode cX11_cell 26 = .ok (.iload_n 1, 1) := by decide +kernel
theorem dX11_cell_27 : decode cX11_cell 27 = .ok (.iload_n 2, 1) := by decide +kernel
theorem dX11_cell_28 : decode cX11_cell 28 = .ok (.iastore, 1) := by decide +kernel
theorem dX11_cell_29 : decode cX11_cell 29 = .ok (.iconst 1, 1) := by decide +kernel
theorem dX11_cell_30 : decode cX11_cell 30 = .ok (.ireturn, 1) := by decide +kernel
theorem dX11_stand_0 : decode cX11_stand 0 = .ok (.iload_n 1, 1) := by decide +kernel
theorem dX11_stand_1 : decode cX11_stand 1 = .ok (.invokestatic 112, 3) := by decide +kernel
theorem dX11_stand_4 : decode cX11_stand 4 = .ok (.ifCond .eq 23, 3) := by decide +kernel
theorem dX11_stand_7 : decode cX11_stand 7 = .ok (.iload_n 2, 1) := by decide +kernel
theorem dX11_stand_8 : decode cX11_stand 8 = .ok (.iload_n 3, 1) := by decide +kernel
theorem dX11_stand_9 : decode cX11_stand 9 = .ok (.invokestatic 123, 3) := by decide +kernel
theorem dX11_stand_12 : decode cX11_stand 12 = .ok (.ifCond .eq 15, 3) := by decide +kernel
theorem dX11_stand_15 : decode cX11_stand 15 = .ok (.iload 4, 2) := by decide +kernel
theorem dX11_stand_17 : decode cX11_stand 17 = .ok (.iconst 0, 1) := by decide +kernel
theorem dX11_stand_18 : decode cX11_stand 18 = .ok (.sipush 200, 3) := by decide +kernel
theorem dX11_stand_21 : decode cX11_stand 21 = .ok (.invokestatic 116, 3) := by decide +kernel
theorem dX11_stand_24 : decode cX11_stand 24 = .ok (.ifCond .ne 5, 3) := by decide +kernel
theorem dX11_stand_27 : decode cX11_stand 27 = .ok (.iconst 0, 1) := by decide +kernel
theorem dX11_stand_28 : decode cX11_stand 28 = .ok (.ireturn, 1) := by decide +kernel
theorem dX11_stand_29 : decode cX11_stand 29 = .ok (.aload_n 0, 1) := by decide +kernel
theorem dX11_stand_30 : decode cX11_stand 30 = .ok (.getfield 19, 3) := by decide +kernel
theorem dX11_stand_33 : decode cX11_stand 33 = .ok (.getfield 127, 3) := by decide +kernel
theorem dX11_stand_36 : decode cX11_stand 36 = .ok (.iload_n 1, 1) := by decide +kernel
theorem dX11_stand_37 : decode cX11_stand 37 = .ok (.iload_n 2, 1) := by decide +kernel
theorem dX11_stand_38 : decode cX11_stand 38 = .ok (.iload_n 3, 1) := by decide +kernel
theorem dX11_stand_39 : decode cX11_stand 39 = .ok (.invokestatic 130, 3) := by decide +kernel
theorem dX11_stand_42 : decode cX11_stand 42 = .ok (.iload 4, 2) := by decide +kernel
theorem dX11_stand_44 : decode cX11_stand 44 = .ok (.iastore, 1) := by decide +kernel
theorem dX11_stand_45 : decode cX11_stand 45 = .ok (.iconst 1, 1) := by decide +kernel
theorem dX11_stand_46 : decode cX11_stand 46 = .ok (.ireturn, 1) := by decide +kernel
theorem dX11_sort_0 : decode cX11_sort 0 = .ok (.iload_n 1, 1) := by decide +kernel
theorem dX11_sort_1 : decode cX11_sort 1 = .ok (.iconst 0, 1) := by decide +kernel
theorem dX11_sort_2 : decode cX11_sort 2 = .ok (.iconst 3, 1) := by decide +kernel
theorem dX11_sort_3 : decode cX11_sort 3 = .ok (.invokestatic 116, 3) := by decide +kernel
theorem dX11_sort_6 : decode cX11_sort 6 = .ok (.ifCond .eq 22, 3) := by decide +kernel
theorem dX11_sort_9 : decode cX11_sort 9 = .ok (.iload_n 2, 1) := by decide +kernel
theorem dX11_sort_10 : decode cX11_sort 10 = .ok (.iconst 0, 1) := by decide +kernel
theorem dX11_sort_11 : decode cX11_sort 11 = .ok (.bipush 100, 2) := by decide +kernel
theorem dX11_sort_13 : decode cX11_sort 13 = .ok (.invokestatic 116, 3) := by decide +kernel
theorem dX11_sort_16 : decode cX11_sort 16 = .ok (.ifCond .eq 12, 3) := by decide +kernel
theorem dX11_sort_19 : decode cX11_sort 19 = .ok (.iload_n 3, 1) := by decide +kernel
theorem dX11_sort_20 : decode cX11_sort 20 = .ok (.iconst 1, 1) := by decide +kernel
theorem dX11_sort_21 : decode cX11_sort 21 = .ok (.iconst 3, 1) := by decide +kernel
theorem dX11_sort_22 : decode cX11_sort 22 = .ok (.invokestatic 116, 3) := by decide +kernel
theorem dX11_sort_25 : decode cX11_sort 25 = .ok (.ifCond .ne 5, 3) := by decide +kernel
theorem dX11_sort_28 : decode cX11_sort 28 = .ok (.iconst 0, 1) := by decide +kernel
theorem dX11_sort_29 : decode cX11_sort 29 = .ok (.ireturn, 1) := by decide +kernel
theorem dX11_sort_30 : decode cX11_sort 30 = .ok (.aload_n 0, 1) := by decide +kernel
theorem dX11_sort_31 : decode cX11_sort 31 = .ok (.getfield 19, 3) := by decide +kernel
theorem dX11_sort_34 : decode cX11_sort 34 = .ok (.getfield 134, 3) := by decide +kernel
theorem dX11_sort_37 : decode cX11_sort 37 = .ok (.iload_n 1, 1) := by decide +kernel
theorem dX11_sort_38 : decode cX11_sort 38 = .ok (.iload_n 2, 1) := by decide +kernel
theorem dX11_sort_39 : decode cX11_sort 39 = .ok (.iastore, 1) := by decide +kernel
theorem dX11_sort_40 : decode cX11_sort 40 = .ok (.aload_n 0, 1) := by decide +kernel
theorem dX11_sort_41 : decode cX11_sort 41 = .ok (.getfield 19, 3) := by decide +kernel
theorem dX11_sort_44 : decode cX11_sort 44 = .ok (.getfield 137, 3) := by decide +kernel
theorem dX11_sort_47 : decode cX11_sort 47 = .ok (.iload_n 1, 1) := by decide +kernel
theorem dX11_sort_48 : decode cX11_sort 48 = .ok (.iload_n 3, 1) := by decide +kernel
theorem dX11_sort_49 : decode cX11_sort 49 = .ok (.iastore, 1) := by decide +kernel
theorem dX11_sort_50 : decode cX11_sort 50 = .ok (.iconst 1, 1) := by decide +kernel
theorem dX11_sort_51 : decode cX11_sort 51 = .ok (.ireturn, 1) := by decide +kernel
theorem dX11_mill_0 : decode cX11_mill 0 = .ok (.iload_n 1, 1) := by decide +kernel
theorem dX11_mill_1 : decode cX11_mill 1 = .ok (.invokestatic 112, 3) := by decide +kernel
theorem dX11_mill_4 : decode cX11_mill 4 = .ok (.ifCond .eq 10, 3) := by decide +kernel
theorem dX11_mill_7 : decode cX11_mill 7 = .ok (.aload_n 0, 1) := by decide +kernel
theorem dX11_mill_8 : decode cX11_mill 8 = .ok (.getfield 36, 3) := by decide +kernel
theorem dX11_mill_11 : decode cX11_mill 11 = .ok (.ifCond .le 5, 3) := by decide +kernel
theorem dX11_mill_14 : decode cX11_mill 14 = .ok (.iconst 0, 1) := by decide +kernel
theorem dX11_mill_15 : decode cX11_mill 15 = .ok (.ireturn, 1) := by decide +kernel
theorem dX11_mill_16 : decode cX11_mill 16 = .ok (.aload_n 0, 1) := by decide +kernel
theorem dX11_mill_17 : decode cX11_mill 17 = .ok (.getfield 19, 3) := by decide +kernel
theorem dX11_mill_20 : decode cX11_mill 20 = .ok (.iload_n 1, 1) := by decide +kernel
theorem dX11_mill_21 : decode cX11_mill 21 = .ok (.putfield 140, 3) := by decide +kernel
theorem dX11_mill_24 : decode cX11_mill 24 = .ok (.iconst 1, 1) := by decide +kernel
theorem dX11_mill_25 : decode cX11_mill 25 = .ok (.ireturn, 1) := by decide +kernel
theorem dX11_weather_0 : decode cX11_weather 0 = .ok (.aload_n 0, 1) := by decide +kernel
theorem dX11_weather_1 : decode cX11_weather 1 = .ok (.getfield 12, 3) := by decide +kernel
theorem dX11_weather_4 : decode cX11_weather 4 = .ok (.iload_n 1, 1) := by decide +kernel
theorem dX11_weather_5 : decode cX11_weather 5 = .ok (.iload_n 2, 1) := by decide +kernel
theorem dX11_weather_6 : decode cX11_weather 6 = .ok (.iload_n 3, 1) := by decide +kernel
theorem dX11_weather_7 : decode cX11_weather 7 = .ok (.iload 4, 2) := by decide +kernel
theorem dX11_weather_9 : decode cX11_weather 9 = .ok (.invokevirtual 143, 3) := by decide +kernel
theorem dX11_weather_12 : decode cX11_weather 12 = .ok (.ireturn, 1) := by decide +kernel
theorem dX11_weatherOf_0 : decode cX11_weatherOf 0 = .ok (.iload_n 1, 1) := by decide +kernel
theorem dX11_weatherOf_1 : decode cX11_weatherOf 1 = .ok (.invokestatic 147, 3) := by decide +kernel
theorem dX11_weatherOf_4 : decode cX11_weatherOf 4 = .ok (.ifCond .eq 12, 3) := by decide +kernel
theorem dX11_weatherOf_7 : decode cX11_weatherOf 7 = .ok (.iload_n 2, 1) := by decide +kernel
theorem dX11_weatherOf_8 : decode cX11_weatherOf 8 = .ok (.iconst 0, 1) := by decide +kernel
theorem dX11_weatherOf_9 : decode cX11_weatherOf 9 = .ok (.iconst 2, 1) := by decide +kernel
theorem dX11_weatherOf_10 : decode cX11_weatherOf 10 = .ok (.invokestatic 116, 3) := by decide +kernel
theorem dX11_weatherOf_13 : decode cX11_weatherOf 13 = .ok (.ifCond .ne 5, 3) := by decide +kernel
theorem dX11_weatherOf_16 : decode cX11_weatherOf 16 = .ok (.iconst (-1), 1) := by decide +kernel
theorem dX11_weatherOf_17 : decode cX11_weatherOf 17 = .ok (.ireturn, 1) := by decide +kernel
theorem dX11_weatherOf_18 : decode cX11_weatherOf 18 = .ok (.aload_n 0, 1) := by decide +kernel
theorem dX11_weatherOf_19 : decode cX11_weatherOf 19 = .ok (.getfield 12, 3) := by decide +kernel
theorem dX11_weatherOf_22 : decode cX11_weatherOf 22 = .ok (.iload_n 1, 1) := by decide +kernel
theorem dX11_weatherOf_23 : decode cX11_weatherOf 23 = .ok (.iload_n 2, 1) := by decide +kernel
theorem dX11_weatherOf_24 : decode cX11_weatherOf 24 = .ok (.invokevirtual 150, 3) := by decide +kernel
theorem dX11_weatherOf_27 : decode cX11_weatherOf 27 = .ok (.ireturn, 1) := by decide +kernel
theorem dX11_of_0 : decode cX11_of 0 = .ok (.iload_n 1, 1) := by decide +kernel
theorem dX11_of_1 : decode cX11_of 1 = .ok (.invokestatic 112, 3) := by decide +kernel
theorem dX11_of_4 : decode cX11_of 4 = .ok (.ifCond .ne 5, 3) := by decide +kernel
theorem dX11_of_7 : decode cX11_of 7 = .ok (.iconst (-1), 1) := by decide +kernel
theorem dX11_of_8 : decode cX11_of 8 = .ok (.ireturn, 1) := by decide +kernel
theorem dX11_of_9 : decode cX11_of 9 = .ok (.iload_n 2, 1) := by decide +kernel
theorem dX11_of_10 : decode cX11_of 10 = .ok (.tableswitch 82 0 4 #[34, 44, 54, 64, 73], 34) := by decide +kernel
theorem dX11_of_44 : decode cX11_of 44 = .ok (.aload_n 0, 1) := by decide +kernel
theorem dX11_of_45 : decode cX11_of 45 = .ok (.getfield 19, 3) := by decide +kernel
theorem dX11_of_48 : decode cX11_of 48 = .ok (.getfield 120, 3) := by decide +kernel
theorem dX11_of_51 : decode cX11_of 51 = .ok (.iload_n 1, 1) := by decide +kernel
theorem dX11_of_52 : decode cX11_of 52 = .ok (.iaload, 1) := by decide +kernel
theorem dX11_of_53 : decode cX11_of 53 = .ok (.ireturn, 1) := by decide +kernel
theorem dX11_of_54 : decode cX11_of 54 = .ok (.aload_n 0, 1) := by decide +kernel
theorem dX11_of_55 : decode cX11_of 55 = .ok (.getfield 19, 3) := by decide +kernel
theorem dX11_of_58 : decode cX11_of 58 = .ok (.getfield 154, 3) := by decide +kernel
theorem dX11_of_61 : decode cX11_of 61 = .ok (.iload_n 1, 1) := by decide +kernel
theorem dX11_of_62 : decode cX11_of 62 = .ok (.iaload, 1) := by decide +kernel
theorem dX11_of_63 : decode cX11_of 63 = .ok (.ireturn, 1) := by decide +kernel
theorem dX11_of_64 : decode cX11_of 64 = .ok (.aload_n 0, 1) := by decide +kernel
theorem dX11_of_65 : decode cX11_of 65 = .ok (.getfield 19, 3) := by decide +kernel
theorem dX11_of_68 : decode cX11_of 68 = .ok (.getfield 157, 3) := by decide +kernel
theorem dX11_of_71 : decode cX11_of 71 = .ok (.iload_n 1, 1) := by decide +kernel
theorem dX11_of_72 : decode cX11_of 72 = .ok (.iaload, 1) := by decide +kernel
theorem dX11_of_73 : decode cX11_of 73 = .ok (.ireturn, 1) := by decide +kernel
theorem dX11_of_74 : decode cX11_of 74 = .ok (.aload_n 0, 1) := by decide +kernel
theorem dX11_of_75 : decode cX11_of 75 = .ok (.getfield 19, 3) := by decide +kernel
theorem dX11_of_78 : decode cX11_of 78 = .ok (.iload_n 1, 1) := by decide +kernel
theorem dX11_of_79 : decode cX11_of 79 = .ok (.invokevirtual 160, 3) := by decide +kernel
theorem dX11_of_82 : decode cX11_of 82 = .ok (.ireturn, 1) := by decide +kernel
theorem dX11_of_83 : decode cX11_of 83 = .ok (.aload_n 0, 1) := by decide +kernel
theorem dX11_of_84 : decode cX11_of 84 = .ok (.getfield 19, 3) := by decide +kernel
theorem dX11_of_87 : decode cX11_of 87 = .ok (.iload_n 1, 1) := by decide +kernel
theorem dX11_of_88 : decode cX11_of 88 = .ok (.invokevirtual 164, 3) := by decide +kernel
theorem dX11_of_91 : decode cX11_of 91 = .ok (.ireturn, 1) := by decide +kernel
theorem dX11_of_92 : decode cX11_of 92 = .ok (.iload_n 2, 1) := by decide +kernel
theorem dX11_of_93 : decode cX11_of 93 = .ok (.iconst 5, 1) := by decide +kernel
theorem dX11_of_94 : decode cX11_of 94 = .ok (.bipush 20, 2) := by decide +kernel
theorem dX11_of_96 : decode cX11_of 96 = .ok (.invokestatic 116, 3) := by decide +kernel
theorem dX11_of_99 : decode cX11_of 99 = .ok (.ifCond .eq 22, 3) := by decide +kernel
theorem dX11_of_102 : decode cX11_of 102 = .ok (.aload_n 0, 1) := by decide +kernel
theorem dX11_of_103 : decode cX11_of 103 = .ok (.getfield 19, 3) := by decide +kernel
theorem dX11_of_106 : decode cX11_of 106 = .ok (.getfield 127, 3) := by decide +kernel
theorem dX11_of_109 : decode cX11_of 109 = .ok (.iload_n 1, 1) := by decide +kernel
theorem dX11_of_110 : decode cX11_of 110 = .ok (.bipush 16, 2) := by decide +kernel
theorem dX11_of_112 : decode cX11_of 112 = .ok (.imul, 1) := by decide +kernel
theorem dX11_of_113 : decode cX11_of 113 = .ok (.iload_n 2, 1) := by decide +kernel
theorem dX11_of_114 : decode cX11_of 114 = .ok (.iadd, 1) := by decide +kernel
theorem dX11_of_115 : decode cX11_of 115 = .ok (.iconst 5, 1) := by decide +kernel
theorem dX11_of_116 : decode cX11_of 116 = .ok (.isub, 1) := by decide +kernel
theorem dX11_of_117 : decode cX11_of 117 = .ok (.iaload, 1) := by decide +kernel
theorem dX11_of_118 : decode cX11_of 118 = .ok (.goto 4, 3) := by decide +kernel
theorem dX11_of_121 : decode cX11_of 121 = .ok (.iconst (-1), 1) := by decide +kernel
theorem dX11_of_122 : decode cX11_of 122 = .ok (.ireturn, 1) := by decide +kernel
theorem dX11_price_0 : decode cX11_price 0 = .ok (.iload_n 1, 1) := by decide +kernel
theorem dX11_price_1 : decode cX11_price 1 = .ok (.iconst 2, 1) := by decide +kernel
theorem dX11_price_2 : decode cX11_price 2 = .ok (.bipush 6, 2) := by decide +kernel
theorem dX11_price_4 : decode cX11_price 4 = .ok (.invokestatic 116, 3) := by decide +kernel
theorem dX11_price_7 : decode cX11_price 7 = .ok (.ifCond .eq 13, 3) := by decide +kernel
theorem dX11_price_10 : decode cX11_price 10 = .ok (.iload_n 2, 1) := by decide +kernel
theorem dX11_price_11 : decode cX11_price 11 = .ok (.iconst 0, 1) := by decide +kernel
theorem dX11_price_12 : decode cX11_price 12 = .ok (.bipush 99, 2) := by decide +kernel
theorem dX11_price_14 : decode cX11_price 14 = .ok (.invokestatic 116, 3) := by decide +kernel
theorem dX11_price_17 : decode cX11_price 17 = .ok (.ifCond .ne 5, 3) := by decide +kernel
theorem dX11_price_20 : decode cX11_price 20 = .ok (.iconst 0, 1) := by decide +kernel
theorem dX11_price_21 : decode cX11_price 21 = .ok (.ireturn, 1) := by decide +kernel
theorem dX11_price_22 : decode cX11_price 22 = .ok (.aload_n 0, 1) := by decide +kernel
theorem dX11_price_23 : decode cX11_price 23 = .ok (.getfield 26, 3) := by decide +kernel
theorem dX11_price_26 : decode cX11_price 26 = .ok (.getfield 167, 3) := by decide +kernel
theorem dX11_price_29 : decode cX11_price 29 = .ok (.iload_n 1, 1) := by decide +kernel
theorem dX11_price_30 : decode cX11_price 30 = .ok (.iload_n 2, 1) := by decide +kernel
theorem dX11_price_31 : decode cX11_price 31 = .ok (.iastore, 1) := by decide +kernel
theorem dX11_price_32 : decode cX11_price 32 = .ok (.iconst 1, 1) := by decide +kernel
theorem dX11_price_33 : decode cX11_price 33 = .ok (.ireturn, 1) := by decide +kernel
theorem dX11_buck_0 : decode cX11_buck 0 = .ok (.iload_n 1, 1) := by decide +kernel
theorem dX11_buck_1 : decode cX11_buck 1 = .ok (.iload_n 2, 1) := by decide +kernel
theorem dX11_buck_2 : decode cX11_buck 2 = .ok (.invokestatic 123, 3) := by decide +kernel
theorem dX11_buck_5 : decode cX11_buck 5 = .ok (.ifCond .eq 19, 3) := by decide +kernel
theorem dX11_buck_8 : decode cX11_buck 8 = .ok (.aload_n 0, 1) := by decide +kernel
theorem dX11_buck_9 : decode cX11_buck 9 = .ok (.getfield 26, 3) := by decide +kernel
theorem dX11_buck_12 : decode cX11_buck 12 = .ok (.aload_n 0, 1) := by decide +kernel
theorem dX11_buck_13 : decode cX11_buck 13 = .ok (.getfield 19, 3) := by decide +kernel
theorem dX11_buck_16 : decode cX11_buck 16 = .ok (.iload_n 1, 1) := by decide +kernel
theorem dX11_buck_17 : decode cX11_buck 17 = .ok (.iload_n 2, 1) := by decide +kernel
theorem dX11_buck_18 : decode cX11_buck 18 = .ok (.invokevirtual 170, 3) := by decide +kernel
theorem dX11_buck_21 : decode cX11_buck 21 = .ok (.goto 4, 3) := by decide +kernel
theorem dX11_buck_24 : decode cX11_buck 24 = .ok (.iconst (-1), 1) := by decide +kernel
theorem dX11_buck_25 : decode cX11_buck 25 = .ok (.ireturn, 1) := by decide +kernel
theorem dX11_piece_0 : decode cX11_piece 0 = .ok (.iload_n 1, 1) := by decide +kernel
theorem dX11_piece_1 : decode cX11_piece 1 = .ok (.iload_n 2, 1) := by decide +kernel
theorem dX11_piece_2 : decode cX11_piece 2 = .ok (.invokestatic 123, 3) := by decide +kernel
theorem dX11_piece_5 : decode cX11_piece 5 = .ok (.ifCond .ne 5, 3) := by decide +kernel
theorem dX11_piece_8 : decode cX11_piece 8 = .ok (.iconst (-1), 1) := by decide +kernel
theorem dX11_piece_9 : decode cX11_piece 9 = .ok (.ireturn, 1) := by decide +kernel
theorem dX11_piece_10 : decode cX11_piece 10 = .ok (.aload_n 0, 1) := by decide +kernel
theorem dX11_piece_11 : decode cX11_piece 11 = .ok (.getfield 26, 3) := by decide +kernel
theorem dX11_piece_14 : decode cX11_piece 14 = .ok (.aload_n 0, 1) := by decide +kernel
theorem dX11_piece_15 : decode cX11_piece 15 = .ok (.getfield 19, 3) := by decide +kernel
theorem dX11_piece_18 : decode cX11_piece 18 = .ok (.iload_n 1, 1) := by decide +kernel
theorem dX11_piece_19 : decode cX11_piece 19 = .ok (.iload_n 2, 1) := by decide +kernel
theorem dX11_piece_20 : decode cX11_piece 20 = .ok (.invokevirtual 170, 3) := by decide +kernel
theorem dX11_piece_23 : decode cX11_piece 23 = .ok (.pop, 1) := by decide +kernel
theorem dX11_piece_24 : decode cX11_piece 24 = .ok (.iload_n 3, 1) := by decide +kernel
theorem dX11_piece_25 : decode cX11_piece 25 = .ok (.iconst 0, 1) := by decide +kernel
theorem dX11_piece_26 : decode cX11_piece 26 = .ok (.aload_n 0, 1) := by decide +kernel
theorem dX11_piece_27 : decode cX11_piece 27 = .ok (.getfield 26, 3) := by decide +kernel
theorem dX11_piece_30 : decode cX11_piece 30 = .ok (.getfield 174, 3) := by decide +kernel
theorem dX11_piece_33 : decode cX11_piece 33 = .ok (.iconst 1, 1) := by decide +kernel
theorem dX11_piece_34 : decode cX11_piece 34 = .ok (.isub, 1) := by decide +kernel
theorem dX11_piece_35 : decode cX11_piece 35 = .ok (.invokestatic 116, 3) := by decide +kernel
theorem dX11_piece_38 : decode cX11_piece 38 = .ok (.ifCond .eq 15, 3) := by decide +kernel
theorem dX11_piece_41 : decode cX11_piece 41 = .ok (.aload_n 0, 1) := by decide +kernel
theorem dX11_piece_42 : decode cX11_piece 42 = .ok (.getfield 26, 3) := by decide +kernel
theorem dX11_piece_45 : decode cX11_piece 45 = .ok (.getfield 177, 3) := by decide +kernel
theorem dX11_piece_48 : decode cX11_piece 48 = .ok (.iload_n 3, 1) := by decide +kernel
theorem dX11_piece_49 : decode cX11_piece 49 = .ok (.iaload, 1) := by decide +kernel
theorem dX11_piece_50 : decode cX11_piece 50 = .ok (.goto 4, 3) := by decide +kernel
theorem dX11_piece_53 : decode cX11_piece 53 = .ok (.iconst (-1), 1) := by decide +kernel
theorem dX11_piece_54 : decode cX11_piece 54 = .ok (.ireturn, 1) := by decide +kernel
theorem dX11_worth_0 : decode cX11_worth 0 = .ok (.iload_n 1, 1) := by decide +kernel
theorem dX11_worth_1 : decode cX11_worth 1 = .ok (.iload_n 2, 1) := by decide +kernel
theorem dX11_worth_2 : decode cX11_worth 2 = .ok (.invokestatic 123, 3) := by decide +kernel
theorem dX11_worth_5 : decode cX11_worth 5 = .ok (.ifCond .eq 20, 3) := by decide +kernel
theorem dX11_worth_8 : decode cX11_worth 8 = .ok (.aload_n 0, 1) := by decide +kernel
theorem dX11_worth_9 : decode cX11_worth 9 = .ok (.getfield 26, 3) := by decide +kernel
theorem dX11_worth_12 : decode cX11_worth 12 = .ok (.aload_n 0, 1) := by decide +kernel
theorem dX11_worth_13 : decode cX11_worth 13 = .ok (.getfield 19, 3) := by decide +kernel
theorem dX11_worth_16 : decode cX11_worth 16 = .ok (.iload_n 1, 1) := by decide +kernel
theorem dX11_worth_17 : decode cX11_worth 17 = .ok (.iload_n 2, 1) := by decide +kernel
theorem dX11_worth_18 : decode cX11_worth 18 = .ok (.iload_n 3, 1) := by decide +kernel
theorem dX11_worth_19 : decode cX11_worth 19 = .ok (.invokevirtual 180, 3) := by decide +kernel
theorem dX11_worth_22 : decode cX11_worth 22 = .ok (.goto 4, 3) := by decide +kernel
theorem dX11_worth_25 : decode cX11_worth 25 = .ok (.iconst (-1), 1) := by decide +kernel
theorem dX11_worth_26 : decode cX11_worth 26 = .ok (.ireturn, 1) := by decide +kernel
theorem dX11_fall_0 : decode cX11_fall 0 = .ok (.aload_n 0, 1) := by decide +kernel
theorem dX11_fall_1 : decode cX11_fall 1 = .ok (.iload_n 1, 1) := by decide +kernel
theorem dX11_fall_2 : decode cX11_fall 2 = .ok (.invokevirtual 184, 3) := by decide +kernel
theorem dX11_fall_5 : decode cX11_fall 5 = .ok (.astore 6, 2) := by decide +kernel
theorem dX11_fall_7 : decode cX11_fall 7 = .ok (.aload 6, 2) := by decide +kernel
theorem dX11_fall_9 : decode cX11_fall 9 = .ok (.ifnull 27, 3) := by decide +kernel
theorem dX11_fall_12 : decode cX11_fall 12 = .ok (.aload 6, 2) := by decide +kernel
theorem dX11_fall_14 : decode cX11_fall 14 = .ok (.getfield 188, 3) := by decide +kernel
theorem dX11_fall_17 : decode cX11_fall 17 = .ok (.ifCond .ne 19, 3) := by decide +kernel
theorem dX11_fall_20 : decode cX11_fall 20 = .ok (.iload_n 2, 1) := by decide +kernel
theorem dX11_fall_21 : decode cX11_fall 21 = .ok (.invokestatic 112, 3) := by decide +kernel
theorem dX11_fall_24 : decode cX11_fall 24 = .ok (.ifCond .eq 12, 3) := by decide +kernel
theorem dX11_fall_27 : decode cX11_fall 27 = .ok (.iload_n 3, 1) := by decide +kernel
theorem dX11_fall_28 : decode cX11_fall 28 = .ok (.iload 4, 2) := by decide +kernel
theorem dX11_fall_30 : decode cX11_fall 30 = .ok (.invokestatic 123, 3) := by decide +kernel
theorem dX11_fall_33 : decode cX11_fall 33 = .ok (.ifCond .ne 5, 3) := by decide +kernel
theorem dX11_fall_36 : decode cX11_fall 36 = .ok (.iconst (-1), 1) := by decide +kernel
theorem dX11_fall_37 : decode cX11_fall 37 = .ok (.ireturn, 1) := by decide +kernel
theorem dX11_fall_38 : decode cX11_fall 38 = .ok (.aload_n 0, 1) := by decide +kernel
theorem dX11_fall_39 : decode cX11_fall 39 = .ok (.getfield 19, 3) := by decide +kernel
theorem dX11_fall_42 : decode cX11_fall 42 = .ok (.getfield 127, 3) := by decide +kernel
theorem dX11_fall_45 : decode cX11_fall 45 = .ok (.iload_n 2, 1) := by decide +kernel
theorem dX11_fall_46 : decode cX11_fall 46 = .ok (.iload_n 3, 1) := by decide +kernel
theorem dX11_fall_47 : decode cX11_fall 47 = .ok (.iload 4, 2) := by decide +kernel
theorem dX11_fall_49 : decode cX11_fall 49 = .ok (.invokestatic 130, 3) := by decide +kernel
theorem dX11_fall_52 : decode cX11_fall 52 = .ok (.iaload, 1) := by decide +kernel
theorem dX11_fall_53 : decode cX11_fall 53 = .ok (.ifCond .ne 6, 3) := by decide +kernel
theorem dX11_fall_56 : decode cX11_fall 56 = .ok (.bipush (-2), 2) := by decide +kernel
theorem dX11_fall_58 : decode cX11_fall 58 = .ok (.ireturn, 1) := by decide +kernel
theorem dX11_fall_59 : decode cX11_fall 59 = .ok (.aload_n 0, 1) := by decide +kernel
theorem dX11_fall_60 : decode cX11_fall 60 = .ok (.iload_n 1, 1) := by decide +kernel
theorem dX11_fall_61 : decode cX11_fall 61 = .ok (.iload_n 2, 1) := by decide +kernel
theorem dX11_fall_62 : decode cX11_fall 62 = .ok (.iload_n 3, 1) := by decide +kernel
theorem dX11_fall_63 : decode cX11_fall 63 = .ok (.iload 4, 2) := by decide +kernel
theorem dX11_fall_65 : decode cX11_fall 65 = .ok (.invokevirtual 192, 3) := by decide +kernel
theorem dX11_fall_68 : decode cX11_fall 68 = .ok (.aload_n 0, 1) := by decide +kernel
theorem dX11_fall_69 : decode cX11_fall 69 = .ok (.getfield 62, 3) := by decide +kernel
theorem dX11_fall_72 : decode cX11_fall 72 = .ok (.aload_n 0, 1) := by decide +kernel
theorem dX11_fall_73 : decode cX11_fall 73 = .ok (.getfield 12, 3) := by decide +kernel
theorem dX11_fall_76 : decode cX11_fall 76 = .ok (.getfield 196, 3) := by decide +kernel
theorem dX11_fall_79 : decode cX11_fall 79 = .ok (.iconst 0, 1) := by decide +kernel
theorem dX11_fall_80 : decode cX11_fall 80 = .ok (.invokevirtual 199, 3) := by decide +kernel
theorem dX11_fall_83 : decode cX11_fall 83 = .ok (.iconst (-1), 1) := by decide +kernel
theorem dX11_fall_84 : decode cX11_fall 84 = .ok (.if_icmp .eq 6, 3) := by decide +kernel
theorem dX11_fall_87 : decode cX11_fall 87 = .ok (.bipush (-3), 2) := by decide +kernel
theorem dX11_fall_89 : decode cX11_fall 89 = .ok (.ireturn, 1) := by decide +kernel
theorem dX11_fall_90 : decode cX11_fall 90 = .ok (.iload 5, 2) := by decide +kernel
theorem dX11_fall_92 : decode cX11_fall 92 = .ok (.ifCond .ne 20, 3) := by decide +kernel
theorem dX11_fall_95 : decode cX11_fall 95 = .ok (.aload_n 0, 1) := by decide +kernel
theorem dX11_fall_96 : decode cX11_fall 96 = .ok (.getfield 26, 3) := by decide +kernel
theorem dX11_fall_99 : decode cX11_fall 99 = .ok (.aload_n 0, 1) := by decide +kernel
theorem dX11_fall_100 : decode cX11_fall 100 = .ok (.getfield 19, 3) := by decide +kernel
theorem dX11_fall_103 : decode cX11_fall 103 = .ok (.iload_n 3, 1) := by decide +kernel
theorem dX11_fall_104 : decode cX11_fall 104 = .ok (.iload 4, 2) := by decide +kernel
theorem dX11_fall_106 : decode cX11_fall 106 = .ok (.invokevirtual 170, 3) := by decide +kernel
theorem dX11_fall_109 : decode cX11_fall 109 = .ok (.goto 19, 3) := by decide +kernel
theorem dX11_fall_112 : decode cX11_fall 112 = .ok (.aload_n 0, 1) := by decide +kernel
theorem dX11_fall_113 : decode cX11_fall 113 = .ok (.getfield 26, 3) := by decide +kernel
theorem dX11_fall_116 : decode cX11_fall 116 = .ok (.aload_n 0, 1) := by decide +kernel
theorem dX11_fall_117 : decode cX11_fall 117 = .ok (.getfield 19, 3) := by decide +kernel
theorem dX11_fall_120 : decode cX11_fall 120 = .ok (.iload_n 3, 1) := by decide +kernel
theorem dX11_fall_121 : decode cX11_fall 121 = .ok (.iload 4, 2) := by decide +kernel
theorem dX11_fall_123 : decode cX11_fall 123 = .ok (.iload 5, 2) := by decide +kernel
theorem dX11_fall_125 : decode cX11_fall 125 = .ok (.invokevirtual 180, 3) := by decide +kernel
theorem dX11_fall_128 : decode cX11_fall 128 = .ok (.istore 7, 2) := by decide +kernel
theorem dX11_fall_130 : decode cX11_fall 130 = .ok (.iload 7, 2) := by decide +kernel
theorem dX11_fall_132 : decode cX11_fall 132 = .ok (.iconst (-1), 1) := by decide +kernel
theorem dX11_fall_133 : decode cX11_fall 133 = .ok (.if_icmp .ne 6, 3) := by decide +kernel
theorem dX11_fall_136 : decode cX11_fall 136 = .ok (.bipush (-4), 2) := by decide +kernel
theorem dX11_fall_138 : decode cX11_fall 138 = .ok (.ireturn, 1) := by decide +kernel
theorem dX11_fall_139 : decode cX11_fall 139 = .ok (.aload_n 0, 1) := by decide +kernel
theorem dX11_fall_140 : decode cX11_fall 140 = .ok (.getfield 36, 3) := by decide +kernel
theorem dX11_fall_143 : decode cX11_fall 143 = .ok (.aload_n 0, 1) := by decide +kernel
theorem dX11_fall_144 : decode cX11_fall 144 = .ok (.getfield 26, 3) := by decide +kernel
theorem dX11_fall_147 : decode cX11_fall 147 = .ok (.getfield 174, 3) := by decide +kernel
theorem dX11_fall_150 : decode cX11_fall 150 = .ok (.iadd, 1) := by decide +kernel
theorem dX11_fall_151 : decode cX11_fall 151 = .ok (.sipush 300, 3) := by decide +kernel
theorem dX11_fall_154 : decode cX11_fall 154 = .ok (.if_icmp .le 6, 3) := by decide +kernel
theorem dX11_fall_157 : decode cX11_fall 157 = .ok (.bipush (-5), 2) := by decide +kernel
theorem dX11_fall_159 : decode cX11_fall 159 = .ok (.ireturn, 1) := by decide +kernel
theorem dX11_fall_160 : decode cX11_fall 160 = .ok (.aload_n 0, 1) := by decide +kernel
theorem dX11_fall_161 : decode cX11_fall 161 = .ok (.getfield 62, 3) := by decide +kernel
theorem dX11_fall_164 : decode cX11_fall 164 = .ok (.aload_n 0, 1) := by decide +kernel
theorem dX11_fall_165 : decode cX11_fall 165 = .ok (.getfield 12, 3) := by decide +kernel
theorem dX11_fall_168 : decode cX11_fall 168 = .ok (.getfield 196, 3) := by decide +kernel
theorem dX11_fall_171 : decode cX11_fall 171 = .ok (.iconst 1, 1) := by decide +kernel
theorem dX11_fall_172 : decode cX11_fall 172 = .ok (.invokevirtual 202, 3) := by decide +kernel
theorem dX11_fall_175 : decode cX11_fall 175 = .ok (.istore 8, 2) := by decide +kernel
theorem dX11_fall_177 : decode cX11_fall 177 = .ok (.aload 6, 2) := by decide +kernel
theorem dX11_fall_179 : decode cX11_fall 179 = .ok (.dup, 1) := by decide +kernel
theorem dX11_fall_180 : decode cX11_fall 180 = .ok (.getfield 205, 3) := by decide +kernel
theorem dX11_fall_183 : decode cX11_fall 183 = .ok (.iload 8, 2) := by decide +kernel
theorem dX11_fall_185 : decode cX11_fall 185 = .ok (.aload_n 0, 1) := by decide +kernel
theorem dX11_fall_186 : decode cX11_fall 186 = .ok (.iload_n 2, 1) := by decide +kernel
theorem dX11_fall_187 : decode cX11_fall 187 = .ok (.iload_n 3, 1) := by decide +kernel
theorem dX11_fall_188 : decode cX11_fall 188 = .ok (.iload 4, 2) := by decide +kernel
theorem dX11_fall_190 : decode cX11_fall 190 = .ok (.aload 6, 2) := by decide +kernel
theorem dX11_fall_192 : decode cX11_fall 192 = .ok (.getfield 208, 3) := by decide +kernel
theorem dX11_fall_195 : decode cX11_fall 195 = .ok (.invokevirtual 211, 3) := by decide +kernel
theorem dX11_fall_198 : decode cX11_fall 198 = .ok (.imul, 1) := by decide +kernel
theorem dX11_fall_199 : decode cX11_fall 199 = .ok (.iadd, 1) := by decide +kernel
theorem dX11_fall_200 : decode cX11_fall 200 = .ok (.putfield 205, 3) := by decide +kernel
theorem dX11_fall_203 : decode cX11_fall 203 = .ok (.aload_n 0, 1) := by decide +kernel
theorem dX11_fall_204 : decode cX11_fall 204 = .ok (.getfield 19, 3) := by decide +kernel
theorem dX11_fall_207 : decode cX11_fall 207 = .ok (.iload_n 2, 1) := by decide +kernel
theorem dX11_fall_208 : decode cX11_fall 208 = .ok (.iload_n 3, 1) := by decide +kernel
theorem dX11_fall_209 : decode cX11_fall 209 = .ok (.iload 4, 2) := by decide +kernel
theorem dX11_fall_211 : decode cX11_fall 211 = .ok (.invokevirtual 215, 3) := by decide +kernel
theorem dX11_fall_214 : decode cX11_fall 214 = .ok (.aload_n 0, 1) := by decide +kernel
theorem dX11_fall_215 : decode cX11_fall 215 = .ok (.getfield 26, 3) := by decide +kernel
theorem dX11_fall_218 : decode cX11_fall 218 = .ok (.getfield 174, 3) := by decide +kernel
theorem dX11_fall_221 : decode cX11_fall 221 = .ok (.ireturn, 1) := by decide +kernel
theorem dX11_makeLogs_0 : decode cX11_makeLogs 0 = .ok (.iconst 0, 1) := by decide +kernel
theorem dX11_makeLogs_1 : decode cX11_makeLogs 1 = .ok (.istore 5, 2) := by decide +kernel
theorem dX11_makeLogs_3 : decode cX11_makeLogs 3 = .ok (.iconst 0, 1) := by decide +kernel
theorem dX11_makeLogs_4 : decode cX11_makeLogs 4 = .ok (.istore 6, 2) := by decide +kernel
theorem dX11_makeLogs_6 : decode cX11_makeLogs 6 = .ok (.iconst 0, 1) := by decide +kernel
theorem dX11_makeLogs_7 : decode cX11_makeLogs 7 = .ok (.istore 7, 2) := by decide +kernel
theorem dX11_makeLogs_9 : decode cX11_makeLogs 9 = .ok (.iload 7, 2) := by decide +kernel
theorem dX11_makeLogs_11 : decode cX11_makeLogs 11 = .ok (.aload_n 0, 1) := by decide +kernel
theorem dX11_makeLogs_12 : decode cX11_makeLogs 12 = .ok (.getfield 26, 3) := by decide +kernel
theorem dX11_makeLogs_15 : decode cX11_makeLogs 15 = .ok (.getfield 174, 3) := by decide +kernel
theorem dX11_makeLogs_18 : decode cX11_makeLogs 18 = .ok (.if_icmp .ge 112, 3) := by decide +kernel
theorem dX11_makeLogs_21 : decode cX11_makeLogs 21 = .ok (.aload_n 0, 1) := by decide +kernel
theorem dX11_makeLogs_22 : decode cX11_makeLogs 22 = .ok (.getfield 26, 3) := by decide +kernel
theorem dX11_makeLogs_25 : decode cX11_makeLogs 25 = .ok (.getfield 177, 3) := by decide +kernel
theorem dX11_makeLogs_28 : decode cX11_makeLogs 28 = .ok (.iload 7, 2) := by decide +kernel
theorem dX11_makeLogs_30 : decode cX11_makeLogs 30 = .ok (.iaload, 1) := by decide +kernel
theorem dX11_makeLogs_31 : decode cX11_makeLogs 31 = .ok (.istore 8, 2) := by decide +kernel
theorem dX11_makeLogs_33 : decode cX11_makeLogs 33 = .ok (.iload 6, 2) := by decide +kernel
theorem dX11_makeLogs_35 : decode cX11_makeLogs 35 = .ok (.iload 8, 2) := by decide +kernel
theorem dX11_makeLogs_37 : decode cX11_makeLogs 37 = .ok (.iadd, 1) := by decide +kernel
theorem dX11_makeLogs_38 : decode cX11_makeLogs 38 = .ok (.istore 6, 2) := by decide +kernel
theorem dX11_makeLogs_40 : decode cX11_makeLogs 40 = .ok (.new 30, 3) := by decide +kernel
theorem dX11_makeLogs_43 : decode cX11_makeLogs 43 = .ok (.dup, 1) := by decide +kernel
theorem dX11_makeLogs_44 : decode cX11_makeLogs 44 = .ok (.aload_n 0, 1) := by decide +kernel
theorem dX11_makeLogs_45 : decode cX11_makeLogs 45 = .ok (.getfield 36, 3) := by decide +kernel
theorem dX11_makeLogs_48 : decode cX11_makeLogs 48 = .ok (.iload_n 1, 1) := by decide +kernel
theorem dX11_makeLogs_49 : decode cX11_makeLogs 49 = .ok (.iload_n 2, 1) := by decide +kernel
theorem dX11_makeLogs_50 : decode cX11_makeLogs 50 = .ok (.iload 8, 2) := by decide +kernel
theorem dX11_makeLogs_52 : decode cX11_makeLogs 52 = .ok (.aload_n 0, 1) := by decide +kernel
theorem dX11_makeLogs_53 : decode cX11_makeLogs 53 = .ok (.getfield 19, 3) := by decide +kernel
theorem dX11_makeLogs_56 : decode cX11_makeLogs 56 = .ok (.iload_n 2, 1) := by decide +kernel
theorem dX11_makeLogs_57 : decode cX11_makeLogs 57 = .ok (.iload_n 3, 1) := by decide +kernel
theorem dX11_makeLogs_58 : decode cX11_makeLogs 58 = .ok (.iload 6, 2) := by decide +kernel
theorem dX11_makeLogs_60 : decode cX11_makeLogs 60 = .ok (.invokevirtual 219, 3) := by decide +kernel
theorem dX11_makeLogs_63 : decode cX11_makeLogs 63 = .ok (.iload 4, 2) := by decide +kernel
theorem dX11_makeLogs_65 : decode cX11_makeLogs 65 = .ok (.invokespecial 222, 3) := by decide +kernel
theorem dX11_makeLogs_68 : decode cX11_makeLogs 68 = .ok (.astore 9, 2) := by decide +kernel
theorem dX11_makeLogs_70 : decode cX11_makeLogs 70 = .ok (.aload 9, 2) := by decide +kernel
theorem dX11_makeLogs_72 : decode cX11_makeLogs 72 = .ok (.aload_n 0, 1) := by decide +kernel
theorem dX11_makeLogs_73 : decode cX11_makeLogs 73 = .ok (.getfield 12, 3) := by decide +kernel
theorem dX11_makeLogs_76 : decode cX11_makeLogs 76 = .ok (.getfield 196, 3) := by decide +kernel
theorem dX11_makeLogs_79 : decode cX11_makeLogs 79 = .ok (.invokevirtual 225, 3) := by decide +kernel
theorem dX11_makeLogs_82 : decode cX11_makeLogs 82 = .ok (.aload_n 0, 1) := by decide +kernel
theorem dX11_makeLogs_83 : decode cX11_makeLogs 83 = .ok (.getfield 32, 3) := by decide +kernel
theorem dX11_makeLogs_86 : decode cX11_makeLogs 86 = .ok (.aload_n 0, 1) := by decide +kernel
theorem dX11_makeLogs_87 : decode cX11_makeLogs 87 = .ok (.getfield 36, 3) := by decide +kernel
theorem dX11_makeLogs_90 : decode cX11_makeLogs 90 = .ok (.aload 9, 2) := by decide +kernel
theorem dX11_makeLogs_92 : decode cX11_makeLogs 92 = .ok (.aastore, 1) := by decide +kernel
theorem dX11_makeLogs_93 : decode cX11_makeLogs 93 = .ok (.aload_n 0, 1) := by decide +kernel
theorem dX11_makeLogs_94 : decode cX11_makeLogs 94 = .ok (.dup, 1) := by decide +kernel
theorem dX11_makeLogs_95 : decode cX11_makeLogs 95 = .ok (.getfield 36, 3) := by decide +kernel
theorem dX11_makeLogs_98 : decode cX11_makeLogs 98 = .ok (.iconst 1, 1) := by decide +kernel
theorem dX11_makeLogs_99 : decode cX11_makeLogs 99 = .ok (.iadd, 1) := by decide +kernel
theorem dX11_makeLogs_100 : decode cX11_makeLogs 100 = .ok (.putfield 36, 3) := by decide +kernel
theorem dX11_makeLogs_103 : decode cX11_makeLogs 103 = .ok (.aload_n 0, 1) := by decide +kernel
theorem dX11_makeLogs_104 : decode cX11_makeLogs 104 = .ok (.aload 9, 2) := by decide +kernel
theorem dX11_makeLogs_106 : decode cX11_makeLogs 106 = .ok (.iconst 0, 1) := by decide +kernel
theorem dX11_makeLogs_107 : decode cX11_makeLogs 107 = .ok (.invokevirtual 229, 3) := by decide +kernel
theorem dX11_makeLogs_110 : decode cX11_makeLogs 110 = .ok (.iload 5, 2) := by decide +kernel
theorem dX11_makeLogs_112 : decode cX11_makeLogs 112 = .ok (.aload 9, 2) := by decide +kernel
theorem dX11_makeLogs_114 : decode cX11_makeLogs 114 = .ok (.aload_n 0, 1) := by decide +kernel
theorem dX11_makeLogs_115 : decode cX11_makeLogs 115 = .ok (.getfield 75, 3) := by decide +kernel
theorem dX11_makeLogs_118 : decode cX11_makeLogs 118 = .ok (.invokevirtual 233, 3) := by decide +kernel
theorem dX11_makeLogs_121 : decode cX11_makeLogs 121 = .ok (.iadd, 1) := by decide +kernel
theorem dX11_makeLogs_122 : decode cX11_makeLogs 122 = .ok (.istore 5, 2) := by decide +kernel
theorem dX11_makeLogs_124 : decode cX11_makeLogs 124 = .ok (.iinc 7 1, 3) := by decide +kernel
theorem dX11_makeLogs_127 : decode cX11_makeLogs 127 = .ok (.goto (-118), 3) := by decide +kernel
theorem dX11_makeLogs_130 : decode cX11_makeLogs 130 = .ok (.iload 5, 2) := by decide +kernel
theorem dX11_makeLogs_132 : decode cX11_makeLogs 132 = .ok (.ireturn, 1) := by decide +kernel
theorem dX11_log_0 : decode cX11_log 0 = .ok (.aload_n 0, 1) := by decide +kernel
theorem dX11_log_1 : decode cX11_log 1 = .ok (.iload_n 1, 1) := by decide +kernel
theorem dX11_log_2 : decode cX11_log 2 = .ok (.invokevirtual 236, 3) := by decide +kernel
theorem dX11_log_5 : decode cX11_log 5 = .ok (.astore_n 3, 1) := by decide +kernel
theorem dX11_log_6 : decode cX11_log 6 = .ok (.aload_n 3, 1) := by decide +kernel
theorem dX11_log_7 : decode cX11_log 7 = .ok (.ifnonnull 7, 3) := by decide +kernel
theorem dX11_log_10 : decode cX11_log 10 = .ok (.iconst (-1), 1) := by decide +kernel
theorem dX11_log_11 : decode cX11_log 11 = .ok (.goto 8, 3) := by decide +kernel
theorem dX11_log_14 : decode cX11_log 14 = .ok (.aload_n 3, 1) := by decide +kernel
theorem dX11_log_15 : decode cX11_log 15 = .ok (.iload_n 2, 1) := by decide +kernel
theorem dX11_log_16 : decode cX11_log 16 = .ok (.invokevirtual 240, 3) := by decide +kernel
theorem dX11_log_19 : decode cX11_log 19 = .ok (.ireturn, 1) := by decide +kernel
theorem dX11_way_0 : decode cX11_way 0 = .ok (.iload_n 2, 1) := by decide +kernel
theorem dX11_way_1 : decode cX11_way 1 = .ok (.invokestatic 112, 3) := by decide +kernel
theorem dX11_way_4 : decode cX11_way 4 = .ok (.ifCond .eq 18, 3) := by decide +kernel
theorem dX11_way_7 : decode cX11_way 7 = .ok (.iload_n 3, 1) := by decide +kernel
theorem dX11_way_8 : decode cX11_way 8 = .ok (.invokestatic 112, 3) := by decide +kernel
theorem dX11_way_11 : decode cX11_way 11 = .ok (.ifCond .eq 11, 3) := by decide +kernel
theorem dX11_way_14 : decode cX11_way 14 = .ok (.iload_n 2, 1) := by decide +kernel
theorem dX11_way_15 : decode cX11_way 15 = .ok (.iload_n 3, 1) := by decide +kernel
theorem dX11_way_16 : decode cX11_way 16 = .ok (.invokestatic 243, 3) := by decide +kernel
theorem dX11_way_19 : decode cX11_way 19 = .ok (.ifCond .ne 5, 3) := by decide +kernel
theorem dX11_way_22 : decode cX11_way 22 = .ok (.iconst (-1), 1) := by decide +kernel
theorem dX11_way_23 : decode cX11_way 23 = .ok (.ireturn, 1) := by decide +kernel
theorem dX11_way_24 : decode cX11_way 24 = .ok (.iload_n 1, 1) := by decide +kernel
theorem dX11_way_25 : decode cX11_way 25 = .ok (.iconst 0, 1) := by decide +kernel
theorem dX11_way_26 : decode cX11_way 26 = .ok (.iconst 4, 1) := by decide +kernel
theorem dX11_way_27 : decode cX11_way 27 = .ok (.invokestatic 116, 3) := by decide +kernel
theorem dX11_way_30 : decode cX11_way 30 = .ok (.ifCond .eq 12, 3) := by decide +kernel
theorem dX11_way_33 : decode cX11_way 33 = .ok (.aload_n 0, 1) := by decide +kernel
theorem dX11_way_34 : decode cX11_way 34 = .ok (.getfield 46, 3) := by decide +kernel
theorem dX11_way_37 : decode cX11_way 37 = .ok (.bipush 40, 2) := by decide +kernel
theorem dX11_way_39 : decode cX11_way 39 = .ok (.if_icmp .lt 5, 3) := by decide +kernel
theorem dX11_way_42 : decode cX11_way 42 = .ok (.iconst (-1), 1) := by decide +kernel
theorem dX11_way_43 : decode cX11_way 43 = .ok (.ireturn, 1) := by decide +kernel
theorem dX11_way_44 : decode cX11_way 44 = .ok (.aload_n 0, 1) := by decide +kernel
theorem dX11_way_45 : decode cX11_way 45 = .ok (.getfield 42, 3) := by decide +kernel
theorem dX11_way_48 : decode cX11_way 48 = .ok (.aload_n 0, 1) := by decide +kernel
theorem dX11_way_49 : decode cX11_way 49 = .ok (.getfield 46, 3) := by decide +kernel
theorem dX11_way_52 : decode cX11_way 52 = .ok (.new 40, 3) := by decide +kernel
theorem dX11_way_55 : decode cX11_way 55 = .ok (.dup, 1) := by decide +kernel
theorem dX11_way_56 : decode cX11_way 56 = .ok (.iload_n 1, 1) := by decide +kernel
theorem dX11_way_57 : decode cX11_way 57 = .ok (.iload_n 2, 1) := by decide +kernel
theorem dX11_way_58 : decode cX11_way 58 = .ok (.iload_n 3, 1) := by decide +kernel
theorem dX11_way_59 : decode cX11_way 59 = .ok (.invokespecial 246, 3) := by decide +kernel
theorem dX11_way_62 : decode cX11_way 62 = .ok (.aastore, 1) := by decide +kernel
theorem dX11_way_63 : decode cX11_way 63 = .ok (.aload_n 0, 1) := by decide +kernel
theorem dX11_way_64 : decode cX11_way 64 = .ok (.dup, 1) := by decide +kernel
theorem dX11_way_65 : decode cX11_way 65 = .ok (.getfield 46, 3) := by decide +kernel
theorem dX11_way_68 : decode cX11_way 68 = .ok (.iconst 1, 1) := by decide +kernel
theorem dX11_way_69 : decode cX11_way 69 = .ok (.iadd, 1) := by decide +kernel
theorem dX11_way_70 : decode cX11_way 70 = .ok (.putfield 46, 3) := by decide +kernel
theorem dX11_way_73 : decode cX11_way 73 = .ok (.aload_n 0, 1) := by decide +kernel
theorem dX11_way_74 : decode cX11_way 74 = .ok (.getfield 46, 3) := by decide +kernel
theorem dX11_way_77 : decode cX11_way 77 = .ok (.iconst 1, 1) := by decide +kernel
theorem dX11_way_78 : decode cX11_way 78 = .ok (.isub, 1) := by decide +kernel
theorem dX11_way_79 : decode cX11_way 79 = .ok (.ireturn, 1) := by decide +kernel
theorem dX11_iron_0 : decode cX11_iron 0 = .ok (.iload_n 1, 1) := by decide +kernel
theorem dX11_iron_1 : decode cX11_iron 1 = .ok (.iconst 0, 1) := by decide +kernel
theorem dX11_iron_2 : decode cX11_iron 2 = .ok (.sipush 500, 3) := by decide +kernel
theorem dX11_iron_5 : decode cX11_iron 5 = .ok (.invokestatic 116, 3) := by decide +kernel
theorem dX11_iron_8 : decode cX11_iron 8 = .ok (.ifCond .eq 15, 3) := by decide +kernel
theorem dX11_iron_11 : decode cX11_iron 11 = .ok (.aload_n 0, 1) := by decide +kernel
theorem dX11_iron_12 : decode cX11_iron 12 = .ok (.getfield 49, 3) := by decide +kernel
theorem dX11_iron_15 : decode cX11_iron 15 = .ok (.iload_n 1, 1) := by decide +kernel
theorem dX11_iron_16 : decode cX11_iron 16 = .ok (.iadd, 1) := by decide +kernel
theorem dX11_iron_17 : decode cX11_iron 17 = .ok (.sipush 5000, 3) := by decide +kernel
theorem dX11_iron_20 : decode cX11_iron 20 = .ok (.if_icmp .le 5, 3) := by decide +kernel
theorem dX11_iron_23 : decode cX11_iron 23 = .ok (.iconst (-1), 1) := by decide +kernel
theorem dX11_iron_24 : decode cX11_iron 24 = .ok (.ireturn, 1) := by decide +kernel
theorem dX11_iron_25 : decode cX11_iron 25 = .ok (.aload_n 0, 1) := by decide +kernel
theorem dX11_iron_26 : decode cX11_iron 26 = .ok (.dup, 1) := by decide +kernel
theorem dX11_iron_27 : decode cX11_iron 27 = .ok (.getfield 49, 3) := by decide +kernel
theorem dX11_iron_30 : decode cX11_iron 30 = .ok (.iload_n 1, 1) := by decide +kernel
theorem dX11_iron_31 : decode cX11_iron 31 = .ok (.iadd, 1) := by decide +kernel
theorem dX11_iron_32 : decode cX11_iron 32 = .ok (.putfield 49, 3) := by decide +kernel
theorem dX11_iron_35 : decode cX11_iron 35 = .ok (.aload_n 0, 1) := by decide +kernel
theorem dX11_iron_36 : decode cX11_iron 36 = .ok (.getfield 49, 3) := by decide +kernel
theorem dX11_iron_39 : decode cX11_iron 39 = .ok (.ireturn, 1) := by decide +kernel
theorem dX11_lay_0 : decode cX11_lay 0 = .ok (.aload_n 0, 1) := by decide +kernel
theorem dX11_lay_1 : decode cX11_lay 1 = .ok (.iload_n 1, 1) := by decide +kernel
theorem dX11_lay_2 : decode cX11_lay 2 = .ok (.invokevirtual 248, 3) := by decide +kernel
theorem dX11_lay_5 : decode cX11_lay 5 = .ok (.astore_n 3, 1) := by decide +kernel
theorem dX11_lay_6 : decode cX11_lay 6 = .ok (.aload_n 3, 1) := by decide +kernel
theorem dX11_lay_7 : decode cX11_lay 7 = .ok (.ifnull 19, 3) := by decide +kernel
theorem dX11_lay_10 : decode cX11_lay 10 = .ok (.aload_n 3, 1) := by decide +kernel
theorem dX11_lay_11 : decode cX11_lay 11 = .ok (.getfield 252, 3) := by decide +kernel
theorem dX11_lay_14 : decode cX11_lay 14 = .ok (.iconst 1, 1) := by decide +kernel
theorem dX11_lay_15 : decode cX11_lay 15 = .ok (.if_icmp .ne 11, 3) := by decide +kernel
theorem dX11_lay_18 : decode cX11_lay 18 = .ok (.aload_n 3, 1) := by decide +kernel
theorem dX11_lay_19 : decode cX11_lay 19 = .ok (.getfield 255, 3) := by decide +kernel
theorem dX11_lay_22 : decode cX11_lay 22 = .ok (.iload_n 2, 1) := by decide +kernel
theorem dX11_lay_23 : decode cX11_lay 23 = .ok (.if_icmp .ne 5, 3) := by decide +kernel
theorem dX11_lay_26 : decode cX11_lay 26 = .ok (.iconst 0, 1) := by decide +kernel
theorem dX11_lay_27 : decode cX11_lay 27 = .ok (.ireturn, 1) := by decide +kernel
theorem dX11_lay_28 : decode cX11_lay 28 = .ok (.iload_n 2, 1) := by decide +kernel
theorem dX11_lay_29 : decode cX11_lay 29 = .ok (.ifCond .eq 14, 3) := by decide +kernel
theorem dX11_lay_32 : decode cX11_lay 32 = .ok (.aload_n 0, 1) := by decide +kernel
theorem dX11_lay_33 : decode cX11_lay 33 = .ok (.getfield 49, 3) := by decide +kernel
theorem dX11_lay_36 : decode cX11_lay 36 = .ok (.bipush 10, 2) := by decide +kernel
theorem dX11_lay_38 : decode cX11_lay 38 = .ok (.if_icmp .ge 5, 3) := by decide +kernel
theorem dX11_lay_41 : decode cX11_lay 41 = .ok (.iconst 0, 1) := by decide +kernel
theorem dX11_lay_42 : decode cX11_lay 42 = .ok (.ireturn, 1) := by decide +kernel
theorem dX11_lay_43 : decode cX11_lay 43 = .ok (.aload_n 0, 1) := by decide +kernel
theorem dX11_lay_44 : decode cX11_lay 44 = .ok (.dup, 1) := by decide +kernel
theorem dX11_lay_45 : decode cX11_lay 45 = .ok (.getfield 49, 3) := by decide +kernel
theorem dX11_lay_48 : decode cX11_lay 48 = .ok (.iload_n 2, 1) := by decide +kernel
theorem dX11_lay_49 : decode cX11_lay 49 = .ok (.ifCond .eq 8, 3) := by decide +kernel
theorem dX11_lay_52 : decode cX11_lay 52 = .ok (.bipush (-10), 2) := by decide +kernel
theorem dX11_lay_54 : decode cX11_lay 54 = .ok (.goto 5, 3) := by decide +kernel
theorem dX11_lay_57 : decode cX11_lay 57 = .ok (.bipush 10, 2) := by decide +kernel
theorem dX11_lay_59 : decode cX11_lay 59 = .ok (.iadd, 1) := by decide +kernel
theorem dX11_lay_60 : decode cX11_lay 60 = .ok (.putfield 49, 3) := by decide +kernel
theorem dX11_lay_63 : decode cX11_lay 63 = .ok (.aload_n 3, 1) := by decide +kernel
theorem dX11_lay_64 : decode cX11_lay 64 = .ok (.iload_n 2, 1) := by decide +kernel
theorem dX11_lay_65 : decode cX11_lay 65 = .ok (.putfield 255, 3) := by decide +kernel
theorem dX11_lay_68 : decode cX11_lay 68 = .ok (.iconst 1, 1) := by decide +kernel
theorem dX11_lay_69 : decode cX11_lay 69 = .ok (.ireturn, 1) := by decide +kernel
theorem dX11_ironLaid_0 : decode cX11_ironLaid 0 = .ok (.iconst 0, 1) := by decide +kernel
theorem dX11_ironLaid_1 : decode cX11_ironLaid 1 = .ok (.istore_n 1, 1) := by decide +kernel
theorem dX11_ironLaid_2 : decode cX11_ironLaid 2 = .ok (.iconst 0, 1) := by decide +kernel
theorem dX11_ironLaid_3 : decode cX11_ironLaid 3 = .ok (.istore_n 2, 1) := by decide +kernel
theorem dX11_ironLaid_4 : decode cX11_ironLaid 4 = .ok (.iload_n 2, 1) := by decide +kernel
theorem dX11_ironLaid_5 : decode cX11_ironLaid 5 = .ok (.aload_n 0, 1) := by decide +kernel
theorem dX11_ironLaid_6 : decode cX11_ironLaid 6 = .ok (.getfield 46, 3) := by decide +kernel
theorem dX11_ironLaid_9 : decode cX11_ironLaid 9 = .ok (.if_icmp .ge 36, 3) := by decide +kernel
theorem dX11_ironLaid_12 : decode cX11_ironLaid 12 = .ok (.aload_n 0, 1) := by decide +kernel
theorem dX11_ironLaid_13 : decode cX11_ironLaid 13 = .ok (.getfield 42, 3) := by decide +kernel
theorem dX11_ironLaid_16 : decode cX11_ironLaid 16 = .ok (.iload_n 2, 1) := by decide +kernel
theorem dX11_ironLaid_17 : decode cX11_ironLaid 17 = .ok (.aaload, 1) := by decide +kernel
theorem dX11_ironLaid_18 : decode cX11_ironLaid 18 = .ok (.astore_n 3, 1) := by decide +kernel
theorem dX11_ironLaid_19 : decode cX11_ironLaid 19 = .ok (.iload_n 1, 1) := by decide +kernel
theorem dX11_ironLaid_20 : decode cX11_ironLaid 20 = .ok (.aload_n 3, 1) := by decide +kernel
theorem dX11_ironLaid_21 : decode cX11_ironLaid 21 = .ok (.ifnull 15, 3) := by decide +kernel
theorem dX11_ironLaid_24 : decode cX11_ironLaid 24 = .ok (.aload_n 3, 1) := by decide +kernel
theorem dX11_ironLaid_25 : decode cX11_ironLaid 25 = .ok (.getfield 255, 3) := by decide +kernel
theorem dX11_ironLaid_28 : decode cX11_ironLaid 28 = .ok (.ifCond .eq 8, 3) := by decide +kernel
theorem dX11_ironLaid_31 : decode cX11_ironLaid 31 = .ok (.bipush 10, 2) := by decide +kernel
theorem dX11_ironLaid_33 : decode cX11_ironLaid 33 = .ok (.goto 4, 3) := by decide +kernel
theorem dX11_ironLaid_36 : decode cX11_ironLaid 36 = .ok (.iconst 0, 1) := by decide +kernel
theorem dX11_ironLaid_37 : decode cX11_ironLaid 37 = .ok (.iadd, 1) := by decide +kernel
theorem dX11_ironLaid_38 : decode cX11_ironLaid 38 = .ok (.istore_n 1, 1) := by decide +kernel
theorem dX11_ironLaid_39 : decode cX11_ironLaid 39 = .ok (.iinc 2 1, 3) := by decide +kernel
theorem dX11_ironLaid_42 : decode cX11_ironLaid 42 = .ok (.goto (-38), 3) := by decide +kernel
theorem dX11_ironLaid_45 : decode cX11_ironLaid 45 = .ok (.iload_n 1, 1) := by decide +kernel
theorem dX11_ironLaid_46 : decode cX11_ironLaid 46 = .ok (.ireturn, 1) := by decide +kernel
theorem dX11_dam_0 : decode cX11_dam 0 = .ok (.aload_n 0, 1) := by decide +kernel
theorem dX11_dam_1 : decode cX11_dam 1 = .ok (.iload_n 1, 1) := by decide +kernel
theorem dX11_dam_2 : decode cX11_dam 2 = .ok (.invokevirtual 248, 3) := by decide +kernel
theorem dX11_dam_5 : decode cX11_dam 5 = .ok (.astore_n 2, 1) := by decide +kernel
theorem dX11_dam_6 : decode cX11_dam 6 = .ok (.aload_n 2, 1) := by decide +kernel
theorem dX11_dam_7 : decode cX11_dam 7 = .ok (.ifnull 25, 3) := by decide +kernel
theorem dX11_dam_10 : decode cX11_dam 10 = .ok (.aload_n 2, 1) := by decide +kernel
theorem dX11_dam_11 : decode cX11_dam 11 = .ok (.getfield 252, 3) := by decide +kernel
theorem dX11_dam_14 : decode cX11_dam 14 = .ok (.iconst 4, 1) := by decide +kernel
theorem dX11_dam_15 : decode cX11_dam 15 = .ok (.if_icmp .ne 17, 3) := by decide +kernel
theorem dX11_dam_18 : decode cX11_dam 18 = .ok (.aload_n 2, 1) := by decide +kernel
theorem dX11_dam_19 : decode cX11_dam 19 = .ok (.getfield 258, 3) := by decide +kernel
theorem dX11_dam_22 : decode cX11_dam 22 = .ok (.aload_n 0, 1) := by decide +kernel
theorem dX11_dam_23 : decode cX11_dam 23 = .ok (.getfield 12, 3) := by decide +kernel
theorem dX11_dam_26 : decode cX11_dam 26 = .ok (.getfield 196, 3) := by decide +kernel
theorem dX11_dam_29 : decode cX11_dam 29 = .ok (.if_icmp .ne 5, 3) := by decide +kernel
theorem dX11_dam_32 : decode cX11_dam 32 = .ok (.iconst 0, 1) := by decide +kernel
theorem dX11_dam_33 : decode cX11_dam 33 = .ok (.ireturn, 1) := by decide +kernel
theorem dX11_dam_34 : decode cX11_dam 34 = .ok (.aload_n 2, 1) := by decide +kernel
theorem dX11_dam_35 : decode cX11_dam 35 = .ok (.aload_n 0, 1) := by decide +kernel
theorem dX11_dam_36 : decode cX11_dam 36 = .ok (.getfield 12, 3) := by decide +kernel
theorem dX11_dam_39 : decode cX11_dam 39 = .ok (.getfield 196, 3) := by decide +kernel
theorem dX11_dam_42 : decode cX11_dam 42 = .ok (.putfield 258, 3) := by decide +kernel
theorem dX11_dam_45 : decode cX11_dam 45 = .ok (.iconst 1, 1) := by decide +kernel
theorem dX11_dam_46 : decode cX11_dam 46 = .ok (.ireturn, 1) := by decide +kernel
theorem dX11_carry_0 : decode cX11_carry 0 = .ok (.aload_n 0, 1) := by decide +kernel
theorem dX11_carry_1 : decode cX11_carry 1 = .ok (.iload_n 1, 1) := by decide +kernel
theorem dX11_carry_2 : decode cX11_carry 2 = .ok (.invokevirtual 248, 3) := by decide +kernel
theorem dX11_carry_5 : decode cX11_carry 5 = .ok (.astore_n 2, 1) := by decide +kernel
theorem dX11_carry_6 : decode cX11_carry 6 = .ok (.aload_n 2, 1) := by decide +kernel
theorem dX11_carry_7 : decode cX11_carry 7 = .ok (.ifnonnull 7, 3) := by decide +kernel
theorem dX11_carry_10 : decode cX11_carry 10 = .ok (.iconst (-1), 1) := by decide +kernel
theorem dX11_carry_11 : decode cX11_carry 11 = .ok (.goto 8, 3) := by decide +kernel
theorem dX11_carry_14 : decode cX11_carry 14 = .ok (.aload_n 0, 1) := by decide +kernel
theorem dX11_carry_15 : decode cX11_carry 15 = .ok (.aload_n 2, 1) := by decide +kernel
theorem dX11_carry_16 : decode cX11_carry 16 = .ok (.invokevirtual 261, 3) := by decide +kernel
theorem dX11_carry_19 : decode cX11_carry 19 = .ok (.ireturn, 1) := by decide +kernel
theorem dX11_carryNow_0 : decode cX11_carryNow 0 = .ok (.aload_n 0, 1) := by decide +kernel
theorem dX11_carryNow_1 : decode cX11_carryNow 1 = .ok (.aload_n 1, 1) := by decide +kernel
theorem dX11_carryNow_2 : decode cX11_carryNow 2 = .ok (.invokevirtual 265, 3) := by decide +kernel
theorem dX11_carryNow_5 : decode cX11_carryNow 5 = .ok (.aload_n 0, 1) := by decide +kernel
theorem dX11_carryNow_6 : decode cX11_carryNow 6 = .ok (.getfield 62, 3) := by decide +kernel
theorem dX11_carryNow_9 : decode cX11_carryNow 9 = .ok (.aload_n 0, 1) := by decide +kernel
theorem dX11_carryNow_10 : decode cX11_carryNow 10 = .ok (.getfield 12, 3) := by decide +kernel
theorem dX11_carryNow_13 : decode cX11_carryNow 13 = .ok (.getfield 196, 3) := by decide +kernel
theorem dX11_carryNow_16 : decode cX11_carryNow 16 = .ok (.iconst 1, 1) := by decide +kernel
theorem dX11_carryNow_17 : decode cX11_carryNow 17 = .ok (.invokevirtual 199, 3) := by decide +kernel
theorem dX11_carryNow_20 : decode cX11_carryNow 20 = .ok (.iconst (-1), 1) := by decide +kernel
theorem dX11_carryNow_21 : decode cX11_carryNow 21 = .ok (.if_icmp .eq 5, 3) := by decide +kernel
theorem dX11_carryNow_24 : decode cX11_carryNow 24 = .ok (.iconst 0, 1) := by decide +kernel
theorem dX11_carryNow_25 : decode cX11_carryNow 25 = .ok (.ireturn, 1) := by decide +kernel
theorem dX11_carryNow_26 : decode cX11_carryNow 26 = .ok (.aload_n 1, 1) := by decide +kernel
theorem dX11_carryNow_27 : decode cX11_carryNow 27 = .ok (.aload_n 0, 1) := by decide +kernel
theorem dX11_carryNow_28 : decode cX11_carryNow 28 = .ok (.getfield 19, 3) := by decide +kernel
theorem dX11_carryNow_31 : decode cX11_carryNow 31 = .ok (.aload_n 0, 1) := by decide +kernel
theorem dX11_carryNow_32 : decode cX11_carryNow 32 = .ok (.getfield 12, 3) := by decide +kernel
theorem dX11_carryNow_35 : decode cX11_carryNow 35 = .ok (.invokevirtual 269, 3) := by decide +kernel
theorem dX11_carryNow_38 : decode cX11_carryNow 38 = .ok (.ireturn, 1) := by decide +kernel
theorem dX11_day_0 : decode cX11_day 0 = .ok (.aload_n 0, 1) := by decide +kernel
theorem dX11_day_1 : decode cX11_day 1 = .ok (.getfield 12, 3) := by decide +kernel
theorem dX11_day_4 : decode cX11_day 4 = .ok (.getfield 196, 3) := by decide +kernel
theorem dX11_day_7 : decode cX11_day 7 = .ok (.sipush 3999, 3) := by decide +kernel
theorem dX11_day_10 : decode cX11_day 10 = .ok (.if_icmp .lt 5, 3) := by decide +kernel
theorem dX11_day_13 : decode cX11_day 13 = .ok (.iconst (-1), 1) := by decide +kernel
theorem dX11_day_14 : decode cX11_day 14 = .ok (.ireturn, 1) := by decide +kernel
theorem dX11_day_15 : decode cX11_day 15 = .ok (.iconst 0, 1) := by decide +kernel
theorem dX11_day_16 : decode cX11_day 16 = .ok (.istore_n 1, 1) := by decide +kernel
theorem dX11_day_17 : decode cX11_day 17 = .ok (.iconst 0, 1) := by decide +kernel
theorem dX11_day_18 : decode cX11_day 18 = .ok (.istore_n 2, 1) := by decide +kernel
theorem dX11_day_19 : decode cX11_day 19 = .ok (.iload_n 2, 1) := by decide +kernel
theorem dX11_day_20 : decode cX11_day 20 = .ok (.aload_n 0, 1) := by decide +kernel
theorem dX11_day_21 : decode cX11_day 21 = .ok (.getfield 46, 3) := by decide +kernel
theorem dX11_day_24 : decode cX11_day 24 = .ok (.if_icmp .ge 43, 3) := by decide +kernel
theorem dX11_day_27 : decode cX11_day 27 = .ok (.aload_n 0, 1) := by decide +kernel
theorem dX11_day_28 : decode cX11_day 28 = .ok (.getfield 42, 3) := by decide +kernel
theorem dX11_day_31 : decode cX11_day 31 = .ok (.iload_n 2, 1) := by decide +kernel
theorem dX11_day_32 : decode cX11_day 32 = .ok (.aaload, 1) := by decide +kernel
theorem dX11_day_33 : decode cX11_day 33 = .ok (.astore_n 3, 1) := by decide +kernel
theorem dX11_day_34 : decode cX11_day 34 = .ok (.aload_n 3, 1) := by decide +kernel
theorem dX11_day_35 : decode cX11_day 35 = .ok (.ifnull 26, 3) := by decide +kernel
theorem dX11_day_38 : decode cX11_day 38 = .ok (.aload_n 0, 1) := by decide +kernel
theorem dX11_day_39 : decode cX11_day 39 = .ok (.getfield 19, 3) := by decide +kernel
theorem dX11_day_42 : decode cX11_day 42 = .ok (.getfield 157, 3) := by decide +kernel
theorem dX11_day_45 : decode cX11_day 45 = .ok (.aload_n 3, 1) := by decide +kernel
theorem dX11_day_46 : decode cX11_day 46 = .ok (.getfield 273, 3) := by decide +kernel
theorem dX11_day_49 : decode cX11_day 49 = .ok (.iaload, 1) := by decide +kernel
theorem dX11_day_50 : decode cX11_day 50 = .ok (.ifCond .le 11, 3) := by decide +kernel
theorem dX11_day_53 : decode cX11_day 53 = .ok (.iload_n 1, 1) := by decide +kernel
theorem dX11_day_54 : decode cX11_day 54 = .ok (.aload_n 0, 1) := by decide +kernel
theorem dX11_day_55 : decode cX11_day 55 = .ok (.aload_n 3, 1) := by decide +kernel
theorem dX11_day_56 : decode cX11_day 56 = .ok (.invokevirtual 276, 3) := by decide +kernel
theorem dX11_day_59 : decode cX11_day 59 = .ok (.iadd, 1) := by decide +kernel
theorem dX11_day_60 : decode cX11_day 60 = .ok (.istore_n 1, 1) := by decide +kernel
theorem dX11_day_61 : decode cX11_day 61 = .ok (.iinc 2 1, 3) := by decide +kernel
theorem dX11_day_64 : decode cX11_day 64 = .ok (.goto (-45), 3) := by decide +kernel
theorem dX11_day_67 : decode cX11_day 67 = .ok (.aload_n 0, 1) := by decide +kernel
theorem dX11_day_68 : decode cX11_day 68 = .ok (.invokevirtual 279, 3) := by decide +kernel
theorem dX11_day_71 : decode cX11_day 71 = .ok (.aload_n 0, 1) := by decide +kernel
theorem dX11_day_72 : decode cX11_day 72 = .ok (.getfield 12, 3) := by decide +kernel
theorem dX11_day_75 : decode cX11_day 75 = .ok (.getfield 196, 3) := by decide +kernel
theorem dX11_day_78 : decode cX11_day 78 = .ok (.bipush 25, 2) := by decide +kernel
theorem dX11_day_80 : decode cX11_day 80 = .ok (.irem, 1) := by decide +kernel
theorem dX11_day_81 : decode cX11_day 81 = .ok (.bipush 24, 2) := by decide +kernel
theorem dX11_day_83 : decode cX11_day 83 = .ok (.if_icmp .ne 7, 3) := by decide +kernel
theorem dX11_day_86 : decode cX11_day 86 = .ok (.aload_n 0, 1) := by decide +kernel
theorem dX11_day_87 : decode cX11_day 87 = .ok (.invokevirtual 282, 3) := by decide +kernel
theorem dX11_day_90 : decode cX11_day 90 = .ok (.aload_n 0, 1) := by decide +kernel
theorem dX11_day_91 : decode cX11_day 91 = .ok (.getfield 12, 3) := by decide +kernel
theorem dX11_day_94 : decode cX11_day 94 = .ok (.getfield 196, 3) := by decide +kernel
theorem dX11_day_97 : decode cX11_day 97 = .ok (.bipush 100, 2) := by decide +kernel
theorem dX11_day_99 : decode cX11_day 99 = .ok (.irem, 1) := by decide +kernel
theorem dX11_day_100 : decode cX11_day 100 = .ok (.bipush 99, 2) := by decide +kernel
theorem dX11_day_102 : decode cX11_day 102 = .ok (.if_icmp .ne 10, 3) := by decide +kernel
theorem dX11_day_105 : decode cX11_day 105 = .ok (.aload_n 0, 1) := by decide +kernel
theorem dX11_day_106 : decode cX11_day 106 = .ok (.getfield 19, 3) := by decide +kernel
theorem dX11_day_109 : decode cX11_day 109 = .ok (.invokevirtual 285, 3) := by decide +kernel
theorem dX11_day_112 : decode cX11_day 112 = .ok (.aload_n 0, 1) := by decide +kernel
theorem dX11_day_113 : decode cX11_day 113 = .ok (.getfield 12, 3) := by decide +kernel
theorem dX11_day_116 : decode cX11_day 116 = .ok (.invokevirtual 288, 3) := by decide +kernel
theorem dX11_day_119 : decode cX11_day 119 = .ok (.iload_n 1, 1) := by decide +kernel
theorem dX11_day_120 : decode cX11_day 120 = .ok (.ireturn, 1) := by decide +kernel
theorem dX11_carryOver_0 : decode cX11_carryOver 0 = .ok (.aload_n 0, 1) := by decide +kernel
theorem dX11_carryOver_1 : decode cX11_carryOver 1 = .ok (.aload_n 1, 1) := by decide +kernel
theorem dX11_carryOver_2 : decode cX11_carryOver 2 = .ok (.invokevirtual 261, 3) := by decide +kernel
theorem dX11_carryOver_5 : decode cX11_carryOver 5 = .ok (.istore_n 2, 1) := by decide +kernel
theorem dX11_carryOver_6 : decode cX11_carryOver 6 = .ok (.iconst 0, 1) := by decide +kernel
theorem dX11_carryOver_7 : decode cX11_carryOver 7 = .ok (.istore_n 3, 1) := by decide +kernel
theorem dX11_carryOver_8 : decode cX11_carryOver 8 = .ok (.iconst 0, 1) := by decide +kernel
theorem dX11_carryOver_9 : decode cX11_carryOver 9 = .ok (.istore 4, 2) := by decide +kernel
theorem dX11_carryOver_11 : decode cX11_carryOver 11 = .ok (.iload 4, 2) := by decide +kernel
theorem dX11_carryOver_13 : decode cX11_carryOver 13 = .ok (.aload_n 0, 1) := by decide +kernel
theorem dX11_carryOver_14 : decode cX11_carryOver 14 = .ok (.getfield 36, 3) := by decide +kernel
theorem dX11_carryOver_17 : decode cX11_carryOver 17 = .ok (.if_icmp .ge 73, 3) := by decide +kernel
theorem dX11_carryOver_20 : decode cX11_carryOver 20 = .ok (.iload_n 2, 1) := by decide +kernel
theorem dX11_carryOver_21 : decode cX11_carryOver 21 = .ok (.ifCond .le 69, 3) := by decide +kernel
theorem dX11_carryOver_24 : decode cX11_carryOver 24 = .ok (.aload_n 0, 1) := by decide +kernel
theorem dX11_carryOver_25 : decode cX11_carryOver 25 = .ok (.getfield 32, 3) := by decide +kernel
theorem dX11_carryOver_28 : decode cX11_carryOver 28 = .ok (.iload 4, 2) := by decide +kernel
theorem dX11_carryOver_30 : decode cX11_carryOver 30 = .ok (.aaload, 1) := by decide +kernel
theorem dX11_carryOver_31 : decode cX11_carryOver 31 = .ok (.astore 5, 2) := by decide +kernel
theorem dX11_carryOver_33 : decode cX11_carryOver 33 = .ok (.aload 5, 2) := by decide +kernel
theorem dX11_carryOver_35 : decode cX11_carryOver 35 = .ok (.ifnull 49, 3) := by decide +kernel
theorem dX11_carryOver_38 : decode cX11_carryOver 38 = .ok (.aload 5, 2) := by decide +kernel
theorem dX11_carryOver_40 : decode cX11_carryOver 40 = .ok (.aload_n 1, 1) := by decide +kernel
theorem dX11_carryOver_41 : decode cX11_carryOver 41 = .ok (.getfield 273, 3) := by decide +kernel
theorem dX11_carryOver_44 : decode cX11_carryOver 44 = .ok (.aload_n 0, 1) := by decide +kernel
theorem dX11_carryOver_45 : decode cX11_carryOver 45 = .ok (.getfield 12, 3) := by decide +kernel
theorem dX11_carryOver_48 : decode cX11_carryOver 48 = .ok (.getfield 196, 3) := by decide +kernel
theorem dX11_carryOver_51 : decode cX11_carryOver 51 = .ok (.invokevirtual 291, 3) := by decide +kernel
theorem dX11_carryOver_54 : decode cX11_carryOver 54 = .ok (.ifCond .eq 30, 3) := by decide +kernel
theorem dX11_carryOver_57 : decode cX11_carryOver 57 = .ok (.aload 5, 2) := by decide +kernel
theorem dX11_carryOver_59 : decode cX11_carryOver 59 = .ok (.invokevirtual 294, 3) := by decide +kernel
theorem dX11_carryOver_62 : decode cX11_carryOver 62 = .ok (.iload_n 2, 1) := by decide +kernel
theorem dX11_carryOver_63 : decode cX11_carryOver 63 = .ok (.if_icmp .gt 21, 3) := by decide +kernel
theorem dX11_carryOver_66 : decode cX11_carryOver 66 = .ok (.iload_n 2, 1) := by decide +kernel
theorem dX11_carryOver_67 : decode cX11_carryOver 67 = .ok (.aload 5, 2) := by decide +kernel
theorem dX11_carryOver_69 : decode cX11_carryOver 69 = .ok (.invokevirtual 294, 3) := by decide +kernel
theorem dX11_carryOver_72 : decode cX11_carryOver 72 = .ok (.isub, 1) := by decide +kernel
theorem dX11_carryOver_73 : decode cX11_carryOver 73 = .ok (.istore_n 2, 1) := by decide +kernel
theorem dX11_carryOver_74 : decode cX11_carryOver 74 = .ok (.iinc 3 1, 3) := by decide +kernel
theorem dX11_carryOver_77 : decode cX11_carryOver 77 = .ok (.aload_n 0, 1) := by decide +kernel
theorem dX11_carryOver_78 : decode cX11_carryOver 78 = .ok (.aload 5, 2) := by decide +kernel
theorem dX11_carryOver_80 : decode cX11_carryOver 80 = .ok (.aload_n 1, 1) := by decide +kernel
theorem dX11_carryOver_81 : decode cX11_carryOver 81 = .ok (.invokevirtual 298, 3) := by decide +kernel
theorem dX11_carryOver_84 : decode cX11_carryOver 84 = .ok (.iinc 4 1, 3) := by decide +kernel
theorem dX11_carryOver_87 : decode cX11_carryOver 87 = .ok (.goto (-76), 3) := by decide +kernel
theorem dX11_carryOver_90 : decode cX11_carryOver 90 = .ok (.iload_n 3, 1) := by decide +kernel
theorem dX11_carryOver_91 : decode cX11_carryOver 91 = .ok (.ireturn, 1) := by decide +kernel
theorem dX11_moveLog_0 : decode cX11_moveLog 0 = .ok (.aload_n 0, 1) := by decide +kernel
theorem dX11_moveLog_1 : decode cX11_moveLog 1 = .ok (.getfield 19, 3) := by decide +kernel
theorem dX11_moveLog_4 : decode cX11_moveLog 4 = .ok (.getfield 157, 3) := by decide +kernel
theorem dX11_moveLog_7 : decode cX11_moveLog 7 = .ok (.aload_n 1, 1) := by decide +kernel
theorem dX11_moveLog_8 : decode cX11_moveLog 8 = .ok (.getfield 302, 3) := by decide +kernel
theorem dX11_moveLog_11 : decode cX11_moveLog 11 = .ok (.dup2, 1) := by decide +kernel
theorem dX11_moveLog_12 : decode cX11_moveLog 12 = .ok (.iaload, 1) := by decide +kernel
theorem dX11_moveLog_13 : decode cX11_moveLog 13 = .ok (.iconst 1, 1) := by decide +kernel
theorem dX11_moveLog_14 : decode cX11_moveLog 14 = .ok (.isub, 1) := by decide +kernel
theorem dX11_moveLog_15 : decode cX11_moveLog 15 = .ok (.iastore, 1) := by decide +kernel
theorem dX11_moveLog_16 : decode cX11_moveLog 16 = .ok (.aload_n 0, 1) := by decide +kernel
theorem dX11_moveLog_17 : decode cX11_moveLog 17 = .ok (.getfield 19, 3) := by decide +kernel
theorem dX11_moveLog_20 : decode cX11_moveLog 20 = .ok (.getfield 157, 3) := by decide +kernel
theorem dX11_moveLog_23 : decode cX11_moveLog 23 = .ok (.aload_n 2, 1) := by decide +kernel
theorem dX11_moveLog_24 : decode cX11_moveLog 24 = .ok (.getfield 305, 3) := by decide +kernel
theorem dX11_moveLog_27 : decode cX11_moveLog 27 = .ok (.dup2, 1) := by decide +kernel
theorem dX11_moveLog_28 : decode cX11_moveLog 28 = .ok (.iaload, 1) := by decide +kernel
