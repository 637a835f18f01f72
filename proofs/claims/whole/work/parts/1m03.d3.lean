theorem dX12_lays_90 : decode cX12_lays 90 = .ok (.istore 7, 2) := by decide +kernel
theorem dX12_lays_92 : decode cX12_lays 92 = .ok (.aload_n 0, 1) := by decide +kernel
theorem dX12_lays_93 : decode cX12_lays 93 = .ok (.getfield 40, 3) := by decide +kernel
theorem dX12_lays_96 : decode cX12_lays 96 = .ok (.iload 8, 2) := by decide +kernel
theorem dX12_lays_98 : decode cX12_lays 98 = .ok (.iload 9, 2) := by decide +kernel
theorem dX12_lays_100 : decode cX12_lays 100 = .ok (.iastore, 1) := by decide +kernel
theorem dX12_lays_101 : decode cX12_lays 101 = .ok (.iload 5, 2) := by decide +kernel
theorem dX12_lays_103 : decode cX12_lays 103 = .ok (.iload 9, 2) := by decide +kernel
theorem dX12_lays_105 : decode cX12_lays 105 = .ok (.iadd, 1) := by decide +kernel
theorem dX12_lays_106 : decode cX12_lays 106 = .ok (.istore 5, 2) := by decide +kernel
theorem dX12_lays_108 : decode cX12_lays 108 = .ok (.iinc 8 (-1), 3) := by decide +kernel
theorem dX12_lays_111 : decode cX12_lays 111 = .ok (.goto (-53), 3) := by decide +kernel
theorem dX12_lays_114 : decode cX12_lays 114 = .ok (.aload_n 0, 1) := by decide +kernel
theorem dX12_lays_115 : decode cX12_lays 115 = .ok (.iload 7, 2) := by decide +kernel
theorem dX12_lays_117 : decode cX12_lays 117 = .ok (.ifCond .eq 8, 3) := by decide +kernel
theorem dX12_lays_120 : decode cX12_lays 120 = .ok (.iload 4, 2) := by decide +kernel
theorem dX12_lays_122 : decode cX12_lays 122 = .ok (.goto 4, 3) := by decide +kernel
theorem dX12_lays_125 : decode cX12_lays 125 = .ok (.iconst 0, 1) := by decide +kernel
theorem dX12_lays_126 : decode cX12_lays 126 = .ok (.putfield 286, 3) := by decide +kernel
theorem dX12_lays_129 : decode cX12_lays 129 = .ok (.iload 7, 2) := by decide +kernel
theorem dX12_lays_131 : decode cX12_lays 131 = .ok (.ifCond .eq 16, 3) := by decide +kernel
theorem dX12_lays_134 : decode cX12_lays 134 = .ok (.iload 5, 2) := by decide +kernel
theorem dX12_lays_136 : decode cX12_lays 136 = .ok (.iload_n 2, 1) := by decide +kernel
theorem dX12_lays_137 : decode cX12_lays 137 = .ok (.invokestatic 280, 3) := by decide +kernel
theorem dX12_lays_140 : decode cX12_lays 140 = .ok (.if_icmp .gt 7, 3) := by decide +kernel
theorem dX12_lays_143 : decode cX12_lays 143 = .ok (.iconst 1, 1) := by decide +kernel
theorem dX12_lays_144 : decode cX12_lays 144 = .ok (.goto 4, 3) := by decide +kernel
theorem dX12_lays_147 : decode cX12_lays 147 = .ok (.iconst 0, 1) := by decide +kernel
theorem dX12_lays_148 : decode cX12_lays 148 = .ok (.ireturn, 1) := by decide +kernel
theorem dX12_worth_0 : decode cX12_worth 0 = .ok (.aload_n 0, 1) := by decide +kernel
theorem dX12_worth_1 : decode cX12_worth 1 = .ok (.iconst 0, 1) := by decide +kernel
theorem dX12_worth_2 : decode cX12_worth 2 = .ok (.putfield 235, 3) := by decide +kernel
theorem dX12_worth_5 : decode cX12_worth 5 = .ok (.iload_n 1, 1) := by decide +kernel
theorem dX12_worth_6 : decode cX12_worth 6 = .ok (.iload_n 2, 1) := by decide +kernel
theorem dX12_worth_7 : decode cX12_worth 7 = .ok (.invokestatic 257, 3) := by decide +kernel
theorem dX12_worth_10 : decode cX12_worth 10 = .ok (.ifCond .eq 13, 3) := by decide +kernel
theorem dX12_worth_13 : decode cX12_worth 13 = .ok (.aload_n 0, 1) := by decide +kernel
theorem dX12_worth_14 : decode cX12_worth 14 = .ok (.iload_n 1, 1) := by decide +kernel
theorem dX12_worth_15 : decode cX12_worth 15 = .ok (.iload_n 2, 1) := by decide +kernel
theorem dX12_worth_16 : decode cX12_worth 16 = .ok (.iload_n 3, 1) := by decide +kernel
theorem dX12_worth_17 : decode cX12_worth 17 = .ok (.invokevirtual 292, 3) := by decide +kernel
theorem dX12_worth_20 : decode cX12_worth 20 = .ok (.ifCond .ne 5, 3) := by decide +kernel
theorem dX12_worth_23 : decode cX12_worth 23 = .ok (.iconst (-1), 1) := by decide +kernel
theorem dX12_worth_24 : decode cX12_worth 24 = .ok (.ireturn, 1) := by decide +kernel
theorem dX12_worth_25 : decode cX12_worth 25 = .ok (.iconst 0, 1) := by decide +kernel
theorem dX12_worth_26 : decode cX12_worth 26 = .ok (.istore 4, 2) := by decide +kernel
theorem dX12_worth_28 : decode cX12_worth 28 = .ok (.iconst 0, 1) := by decide +kernel
theorem dX12_worth_29 : decode cX12_worth 29 = .ok (.istore 5, 2) := by decide +kernel
theorem dX12_worth_31 : decode cX12_worth 31 = .ok (.iconst 0, 1) := by decide +kernel
theorem dX12_worth_32 : decode cX12_worth 32 = .ok (.istore 6, 2) := by decide +kernel
theorem dX12_worth_34 : decode cX12_worth 34 = .ok (.iload 6, 2) := by decide +kernel
theorem dX12_worth_36 : decode cX12_worth 36 = .ok (.aload_n 0, 1) := by decide +kernel
theorem dX12_worth_37 : decode cX12_worth 37 = .ok (.getfield 286, 3) := by decide +kernel
theorem dX12_worth_40 : decode cX12_worth 40 = .ok (.if_icmp .ge 47, 3) := by decide +kernel
theorem dX12_worth_43 : decode cX12_worth 43 = .ok (.iload 4, 2) := by decide +kernel
theorem dX12_worth_45 : decode cX12_worth 45 = .ok (.aload_n 0, 1) := by decide +kernel
theorem dX12_worth_46 : decode cX12_worth 46 = .ok (.getfield 40, 3) := by decide +kernel
theorem dX12_worth_49 : decode cX12_worth 49 = .ok (.iload 6, 2) := by decide +kernel
theorem dX12_worth_51 : decode cX12_worth 51 = .ok (.iaload, 1) := by decide +kernel
theorem dX12_worth_52 : decode cX12_worth 52 = .ok (.iadd, 1) := by decide +kernel
theorem dX12_worth_53 : decode cX12_worth 53 = .ok (.istore 4, 2) := by decide +kernel
theorem dX12_worth_55 : decode cX12_worth 55 = .ok (.iload 5, 2) := by decide +kernel
theorem dX12_worth_57 : decode cX12_worth 57 = .ok (.aload_n 0, 1) := by decide +kernel
theorem dX12_worth_58 : decode cX12_worth 58 = .ok (.getfield 37, 3) := by decide +kernel
theorem dX12_worth_61 : decode cX12_worth 61 = .ok (.aload_n 0, 1) := by decide +kernel
theorem dX12_worth_62 : decode cX12_worth 62 = .ok (.getfield 40, 3) := by decide +kernel
theorem dX12_worth_65 : decode cX12_worth 65 = .ok (.iload 6, 2) := by decide +kernel
theorem dX12_worth_67 : decode cX12_worth 67 = .ok (.iaload, 1) := by decide +kernel
theorem dX12_worth_68 : decode cX12_worth 68 = .ok (.iaload, 1) := by decide +kernel
theorem dX12_worth_69 : decode cX12_worth 69 = .ok (.aload_n 0, 1) := by decide +kernel
theorem dX12_worth_70 : decode cX12_worth 70 = .ok (.iload_n 1, 1) := by decide +kernel
theorem dX12_worth_71 : decode cX12_worth 71 = .ok (.iload_n 2, 1) := by decide +kernel
theorem dX12_worth_72 : decode cX12_worth 72 = .ok (.iload 4, 2) := by decide +kernel
theorem dX12_worth_74 : decode cX12_worth 74 = .ok (.invokevirtual 283, 3) := by decide +kernel
theorem dX12_worth_77 : decode cX12_worth 77 = .ok (.imul, 1) := by decide +kernel
theorem dX12_worth_78 : decode cX12_worth 78 = .ok (.iadd, 1) := by decide +kernel
theorem dX12_worth_79 : decode cX12_worth 79 = .ok (.istore 5, 2) := by decide +kernel
theorem dX12_worth_81 : decode cX12_worth 81 = .ok (.iinc 6 1, 3) := by decide +kernel
theorem dX12_worth_84 : decode cX12_worth 84 = .ok (.goto (-50), 3) := by decide +kernel
theorem dX12_worth_87 : decode cX12_worth 87 = .ok (.iload 5, 2) := by decide +kernel
theorem dX12_worth_89 : decode cX12_worth 89 = .ok (.ireturn, 1) := by decide +kernel
theorem dX12_isLog_0 : decode cX12_isLog 0 = .ok (.iload_n 1, 1) := by decide +kernel
theorem dX12_isLog_1 : decode cX12_isLog 1 = .ok (.iconst 0, 1) := by decide +kernel
theorem dX12_isLog_2 : decode cX12_isLog 2 = .ok (.aload_n 0, 1) := by decide +kernel
theorem dX12_isLog_3 : decode cX12_isLog 3 = .ok (.getfield 265, 3) := by decide +kernel
theorem dX12_isLog_6 : decode cX12_isLog 6 = .ok (.iconst 1, 1) := by decide +kernel
theorem dX12_isLog_7 : decode cX12_isLog 7 = .ok (.isub, 1) := by decide +kernel
theorem dX12_isLog_8 : decode cX12_isLog 8 = .ok (.invokestatic 238, 3) := by decide +kernel
theorem dX12_isLog_11 : decode cX12_isLog 11 = .ok (.ireturn, 1) := by decide +kernel
theorem dX12_becomes_0 : decode cX12_becomes 0 = .ok (.aload_n 0, 1) := by decide +kernel
theorem dX12_becomes_1 : decode cX12_becomes 1 = .ok (.getfield 67, 3) := by decide +kernel
theorem dX12_becomes_4 : decode cX12_becomes 4 = .ok (.iload_n 1, 1) := by decide +kernel
theorem dX12_becomes_5 : decode cX12_becomes 5 = .ok (.iload_n 2, 1) := by decide +kernel
theorem dX12_becomes_6 : decode cX12_becomes 6 = .ok (.iastore, 1) := by decide +kernel
theorem dX12_becomes_7 : decode cX12_becomes 7 = .ok (.aload_n 0, 1) := by decide +kernel
theorem dX12_becomes_8 : decode cX12_becomes 8 = .ok (.getfield 73, 3) := by decide +kernel
theorem dX12_becomes_11 : decode cX12_becomes 11 = .ok (.iconst 5, 1) := by decide +kernel
theorem dX12_becomes_12 : decode cX12_becomes 12 = .ok (.iload_n 1, 1) := by decide +kernel
theorem dX12_becomes_13 : decode cX12_becomes 13 = .ok (.imul, 1) := by decide +kernel
theorem dX12_becomes_14 : decode cX12_becomes 14 = .ok (.iload_n 2, 1) := by decide +kernel
theorem dX12_becomes_15 : decode cX12_becomes 15 = .ok (.iadd, 1) := by decide +kernel
theorem dX12_becomes_16 : decode cX12_becomes 16 = .ok (.aload_n 0, 1) := by decide +kernel
theorem dX12_becomes_17 : decode cX12_becomes 17 = .ok (.getfield 271, 3) := by decide +kernel
theorem dX12_becomes_20 : decode cX12_becomes 20 = .ok (.iastore, 1) := by decide +kernel
theorem dX12_becomes_21 : decode cX12_becomes 21 = .ok (.aload_n 0, 1) := by decide +kernel
theorem dX12_becomes_22 : decode cX12_becomes 22 = .ok (.getfield 76, 3) := by decide +kernel
theorem dX12_becomes_25 : decode cX12_becomes 25 = .ok (.iconst 5, 1) := by decide +kernel
theorem dX12_becomes_26 : decode cX12_becomes 26 = .ok (.iload_n 1, 1) := by decide +kernel
theorem dX12_becomes_27 : decode cX12_becomes 27 = .ok (.imul, 1) := by decide +kernel
theorem dX12_becomes_28 : decode cX12_becomes 28 = .ok (.iload_n 2, 1) := by decide +kernel
theorem dX12_becomes_29 : decode cX12_becomes 29 = .ok (.iadd, 1) := by decide +kernel
theorem dX12_becomes_30 : decode cX12_becomes 30 = .ok (.aload_n 0, 1) := by decide +kernel
theorem dX12_becomes_31 : decode cX12_becomes 31 = .ok (.getfield 271, 3) := by decide +kernel
theorem dX12_becomes_34 : decode cX12_becomes 34 = .ok (.aload_n 0, 1) := by decide +kernel
theorem dX12_becomes_35 : decode cX12_becomes 35 = .ok (.aload_n 0, 1) := by decide +kernel
theorem dX12_becomes_36 : decode cX12_becomes 36 = .ok (.getfield 46, 3) := by decide +kernel
theorem dX12_becomes_39 : decode cX12_becomes 39 = .ok (.iload_n 1, 1) := by decide +kernel
theorem dX12_becomes_40 : decode cX12_becomes 40 = .ok (.iaload, 1) := by decide +kernel
theorem dX12_becomes_41 : decode cX12_becomes 41 = .ok (.invokevirtual 295, 3) := by decide +kernel
theorem dX12_becomes_44 : decode cX12_becomes 44 = .ok (.iconst 4, 1) := by decide +kernel
theorem dX12_becomes_45 : decode cX12_becomes 45 = .ok (.idiv, 1) := by decide +kernel
theorem dX12_becomes_46 : decode cX12_becomes 46 = .ok (.iadd, 1) := by decide +kernel
theorem dX12_becomes_47 : decode cX12_becomes 47 = .ok (.iastore, 1) := by decide +kernel
theorem dX12_becomes_48 : decode cX12_becomes 48 = .ok (.return_, 1) := by decide +kernel
theorem dX12_volume_0 : decode cX12_volume 0 = .ok (.aload_n 0, 1) := by decide +kernel
theorem dX12_volume_1 : decode cX12_volume 1 = .ok (.getfield 52, 3) := by decide +kernel
theorem dX12_volume_4 : decode cX12_volume 4 = .ok (.iload_n 1, 1) := by decide +kernel
theorem dX12_volume_5 : decode cX12_volume 5 = .ok (.iaload, 1) := by decide +kernel
theorem dX12_volume_6 : decode cX12_volume 6 = .ok (.aload_n 0, 1) := by decide +kernel
theorem dX12_volume_7 : decode cX12_volume 7 = .ok (.getfield 55, 3) := by decide +kernel
theorem dX12_volume_10 : decode cX12_volume 10 = .ok (.iload_n 1, 1) := by decide +kernel
theorem dX12_volume_11 : decode cX12_volume 11 = .ok (.iaload, 1) := by decide +kernel
theorem dX12_volume_12 : decode cX12_volume 12 = .ok (.imul, 1) := by decide +kernel
theorem dX12_volume_13 : decode cX12_volume 13 = .ok (.bipush 8, 2) := by decide +kernel
theorem dX12_volume_15 : decode cX12_volume 15 = .ok (.idiv, 1) := by decide +kernel
theorem dX12_volume_16 : decode cX12_volume 16 = .ok (.iconst 1, 1) := by decide +kernel
theorem dX12_volume_17 : decode cX12_volume 17 = .ok (.iadd, 1) := by decide +kernel
theorem dX12_volume_18 : decode cX12_volume 18 = .ok (.ireturn, 1) := by decide +kernel
theorem dX12_falls_0 : decode cX12_falls 0 = .ok (.aload_n 0, 1) := by decide +kernel
theorem dX12_falls_1 : decode cX12_falls 1 = .ok (.getfield 265, 3) := by decide +kernel
theorem dX12_falls_4 : decode cX12_falls 4 = .ok (.istore 6, 2) := by decide +kernel
theorem dX12_falls_6 : decode cX12_falls 6 = .ok (.aload_n 0, 1) := by decide +kernel
theorem dX12_falls_7 : decode cX12_falls 7 = .ok (.dup, 1) := by decide +kernel
theorem dX12_falls_8 : decode cX12_falls 8 = .ok (.getfield 265, 3) := by decide +kernel
theorem dX12_falls_11 : decode cX12_falls 11 = .ok (.iconst 1, 1) := by decide +kernel
theorem dX12_falls_12 : decode cX12_falls 12 = .ok (.iadd, 1) := by decide +kernel
theorem dX12_falls_13 : decode cX12_falls 13 = .ok (.putfield 265, 3) := by decide +kernel
theorem dX12_falls_16 : decode cX12_falls 16 = .ok (.aload_n 0, 1) := by decide +kernel
theorem dX12_falls_17 : decode cX12_falls 17 = .ok (.getfield 46, 3) := by decide +kernel
theorem dX12_falls_20 : decode cX12_falls 20 = .ok (.iload 6, 2) := by decide +kernel
theorem dX12_falls_22 : decode cX12_falls 22 = .ok (.iload_n 1, 1) := by decide +kernel
theorem dX12_falls_23 : decode cX12_falls 23 = .ok (.iastore, 1) := by decide +kernel
theorem dX12_falls_24 : decode cX12_falls 24 = .ok (.aload_n 0, 1) := by decide +kernel
theorem dX12_falls_25 : decode cX12_falls 25 = .ok (.getfield 49, 3) := by decide +kernel
theorem dX12_falls_28 : decode cX12_falls 28 = .ok (.iload 6, 2) := by decide +kernel
theorem dX12_falls_30 : decode cX12_falls 30 = .ok (.iload_n 2, 1) := by decide +kernel
theorem dX12_falls_31 : decode cX12_falls 31 = .ok (.iastore, 1) := by decide +kernel
theorem dX12_falls_32 : decode cX12_falls 32 = .ok (.aload_n 0, 1) := by decide +kernel
theorem dX12_falls_33 : decode cX12_falls 33 = .ok (.getfield 52, 3) := by decide +kernel
theorem dX12_falls_36 : decode cX12_falls 36 = .ok (.iload 6, 2) := by decide +kernel
theorem dX12_falls_38 : decode cX12_falls 38 = .ok (.iload_n 3, 1) := by decide +kernel
theorem dX12_falls_39 : decode cX12_falls 39 = .ok (.iastore, 1) := by decide +kernel
theorem dX12_falls_40 : decode cX12_falls 40 = .ok (.aload_n 0, 1) := by decide +kernel
theorem dX12_falls_41 : decode cX12_falls 41 = .ok (.getfield 55, 3) := by decide +kernel
theorem dX12_falls_44 : decode cX12_falls 44 = .ok (.iload 6, 2) := by decide +kernel
theorem dX12_falls_46 : decode cX12_falls 46 = .ok (.iload 4, 2) := by decide +kernel
theorem dX12_falls_48 : decode cX12_falls 48 = .ok (.iastore, 1) := by decide +kernel
theorem dX12_falls_49 : decode cX12_falls 49 = .ok (.aload_n 0, 1) := by decide +kernel
theorem dX12_falls_50 : decode cX12_falls 50 = .ok (.getfield 58, 3) := by decide +kernel
theorem dX12_falls_53 : decode cX12_falls 53 = .ok (.iload 6, 2) := by decide +kernel
theorem dX12_falls_55 : decode cX12_falls 55 = .ok (.aload_n 0, 1) := by decide +kernel
theorem dX12_falls_56 : decode cX12_falls 56 = .ok (.getfield 271, 3) := by decide +kernel
theorem dX12_falls_59 : decode cX12_falls 59 = .ok (.iastore, 1) := by decide +kernel
theorem dX12_falls_60 : decode cX12_falls 60 = .ok (.aload_n 0, 1) := by decide +kernel
theorem dX12_falls_61 : decode cX12_falls 61 = .ok (.getfield 61, 3) := by decide +kernel
theorem dX12_falls_64 : decode cX12_falls 64 = .ok (.iload 6, 2) := by decide +kernel
theorem dX12_falls_66 : decode cX12_falls 66 = .ok (.iload 5, 2) := by decide +kernel
theorem dX12_falls_68 : decode cX12_falls 68 = .ok (.iastore, 1) := by decide +kernel
theorem dX12_falls_69 : decode cX12_falls 69 = .ok (.bipush 7, 2) := by decide +kernel
theorem dX12_falls_71 : decode cX12_falls 71 = .ok (.iload 6, 2) := by decide +kernel
theorem dX12_falls_73 : decode cX12_falls 73 = .ok (.imul, 1) := by decide +kernel
theorem dX12_falls_74 : decode cX12_falls 74 = .ok (.iload_n 1, 1) := by decide +kernel
theorem dX12_falls_75 : decode cX12_falls 75 = .ok (.iadd, 1) := by decide +kernel
theorem dX12_falls_76 : decode cX12_falls 76 = .ok (.iload 4, 2) := by decide +kernel
theorem dX12_falls_78 : decode cX12_falls 78 = .ok (.iconst 3, 1) := by decide +kernel
theorem dX12_falls_79 : decode cX12_falls 79 = .ok (.iadd, 1) := by decide +kernel
theorem dX12_falls_80 : decode cX12_falls 80 = .ok (.irem, 1) := by decide +kernel
theorem dX12_falls_81 : decode cX12_falls 81 = .ok (.istore 7, 2) := by decide +kernel
theorem dX12_falls_83 : decode cX12_falls 83 = .ok (.aload_n 0, 1) := by decide +kernel
theorem dX12_falls_84 : decode cX12_falls 84 = .ok (.getfield 64, 3) := by decide +kernel
theorem dX12_falls_87 : decode cX12_falls 87 = .ok (.iload 6, 2) := by decide +kernel
theorem dX12_falls_89 : decode cX12_falls 89 = .ok (.iload 7, 2) := by decide +kernel
theorem dX12_falls_91 : decode cX12_falls 91 = .ok (.iload 4, 2) := by decide +kernel
theorem dX12_falls_93 : decode cX12_falls 93 = .ok (.if_icmp .lt 7, 3) := by decide +kernel
theorem dX12_falls_96 : decode cX12_falls 96 = .ok (.iconst (-1), 1) := by decide +kernel
theorem dX12_falls_97 : decode cX12_falls 97 = .ok (.goto 5, 3) := by decide +kernel
theorem dX12_falls_100 : decode cX12_falls 100 = .ok (.iload 7, 2) := by decide +kernel
theorem dX12_falls_102 : decode cX12_falls 102 = .ok (.iastore, 1) := by decide +kernel
theorem dX12_falls_103 : decode cX12_falls 103 = .ok (.aload_n 0, 1) := by decide +kernel
theorem dX12_falls_104 : decode cX12_falls 104 = .ok (.getfield 70, 3) := by decide +kernel
theorem dX12_falls_107 : decode cX12_falls 107 = .ok (.iload 6, 2) := by decide +kernel
theorem dX12_falls_109 : decode cX12_falls 109 = .ok (.aload_n 0, 1) := by decide +kernel
theorem dX12_falls_110 : decode cX12_falls 110 = .ok (.getfield 271, 3) := by decide +kernel
theorem dX12_falls_113 : decode cX12_falls 113 = .ok (.iastore, 1) := by decide +kernel
theorem dX12_falls_114 : decode cX12_falls 114 = .ok (.iconst 0, 1) := by decide +kernel
theorem dX12_falls_115 : decode cX12_falls 115 = .ok (.istore 8, 2) := by decide +kernel
theorem dX12_falls_117 : decode cX12_falls 117 = .ok (.iload 8, 2) := by decide +kernel
theorem dX12_falls_119 : decode cX12_falls 119 = .ok (.iconst 5, 1) := by decide +kernel
theorem dX12_falls_120 : decode cX12_falls 120 = .ok (.if_icmp .ge 22, 3) := by decide +kernel
theorem dX12_falls_123 : decode cX12_falls 123 = .ok (.aload_n 0, 1) := by decide +kernel
theorem dX12_falls_124 : decode cX12_falls 124 = .ok (.getfield 73, 3) := by decide +kernel
theorem dX12_falls_127 : decode cX12_falls 127 = .ok (.iconst 5, 1) := by decide +kernel
theorem dX12_falls_128 : decode cX12_falls 128 = .ok (.iload 6, 2) := by decide +kernel
theorem dX12_falls_130 : decode cX12_falls 130 = .ok (.imul, 1) := by decide +kernel
theorem dX12_falls_131 : decode cX12_falls 131 = .ok (.iload 8, 2) := by decide +kernel
theorem dX12_falls_133 : decode cX12_falls 133 = .ok (.iadd, 1) := by decide +kernel
theorem dX12_falls_134 : decode cX12_falls 134 = .ok (.iconst (-1), 1) := by decide +kernel
theorem dX12_falls_135 : decode cX12_falls 135 = .ok (.iastore, 1) := by decide +kernel
theorem dX12_falls_136 : decode cX12_falls 136 = .ok (.iinc 8 1, 3) := by decide +kernel
theorem dX12_falls_139 : decode cX12_falls 139 = .ok (.goto (-22), 3) := by decide +kernel
theorem dX12_falls_142 : decode cX12_falls 142 = .ok (.aload_n 0, 1) := by decide +kernel
theorem dX12_falls_143 : decode cX12_falls 143 = .ok (.iload 6, 2) := by decide +kernel
theorem dX12_falls_145 : decode cX12_falls 145 = .ok (.iconst 0, 1) := by decide +kernel
theorem dX12_falls_146 : decode cX12_falls 146 = .ok (.invokevirtual 298, 3) := by decide +kernel
theorem dX12_falls_149 : decode cX12_falls 149 = .ok (.aload_n 0, 1) := by decide +kernel
theorem dX12_falls_150 : decode cX12_falls 150 = .ok (.getfield 79, 3) := by decide +kernel
theorem dX12_falls_153 : decode cX12_falls 153 = .ok (.iconst 5, 1) := by decide +kernel
theorem dX12_falls_154 : decode cX12_falls 154 = .ok (.iload 6, 2) := by decide +kernel
theorem dX12_falls_156 : decode cX12_falls 156 = .ok (.imul, 1) := by decide +kernel
theorem dX12_falls_157 : decode cX12_falls 157 = .ok (.iload_n 1, 1) := by decide +kernel
theorem dX12_falls_158 : decode cX12_falls 158 = .ok (.iastore, 1) := by decide +kernel
theorem dX12_falls_159 : decode cX12_falls 159 = .ok (.aload_n 0, 1) := by decide +kernel
theorem dX12_falls_160 : decode cX12_falls 160 = .ok (.getfield 79, 3) := by decide +kernel
theorem dX12_falls_163 : decode cX12_falls 163 = .ok (.iconst 5, 1) := by decide +kernel
theorem dX12_falls_164 : decode cX12_falls 164 = .ok (.iload 6, 2) := by decide +kernel
theorem dX12_falls_166 : decode cX12_falls 166 = .ok (.imul, 1) := by decide +kernel
theorem dX12_falls_167 : decode cX12_falls 167 = .ok (.iconst 1, 1) := by decide +kernel
theorem dX12_falls_168 : decode cX12_falls 168 = .ok (.iadd, 1) := by decide +kernel
theorem dX12_falls_169 : decode cX12_falls 169 = .ok (.iload_n 2, 1) := by decide +kernel
theorem dX12_falls_170 : decode cX12_falls 170 = .ok (.iastore, 1) := by decide +kernel
theorem dX12_falls_171 : decode cX12_falls 171 = .ok (.aload_n 0, 1) := by decide +kernel
theorem dX12_falls_172 : decode cX12_falls 172 = .ok (.getfield 79, 3) := by decide +kernel
theorem dX12_falls_175 : decode cX12_falls 175 = .ok (.iconst 5, 1) := by decide +kernel
theorem dX12_falls_176 : decode cX12_falls 176 = .ok (.iload 6, 2) := by decide +kernel
theorem dX12_falls_178 : decode cX12_falls 178 = .ok (.imul, 1) := by decide +kernel
theorem dX12_falls_179 : decode cX12_falls 179 = .ok (.iconst 2, 1) := by decide +kernel
theorem dX12_falls_180 : decode cX12_falls 180 = .ok (.iadd, 1) := by decide +kernel
theorem dX12_falls_181 : decode cX12_falls 181 = .ok (.iload_n 3, 1) := by decide +kernel
theorem dX12_falls_182 : decode cX12_falls 182 = .ok (.iastore, 1) := by decide +kernel
theorem dX12_falls_183 : decode cX12_falls 183 = .ok (.aload_n 0, 1) := by decide +kernel
theorem dX12_falls_184 : decode cX12_falls 184 = .ok (.getfield 79, 3) := by decide +kernel
theorem dX12_falls_187 : decode cX12_falls 187 = .ok (.iconst 5, 1) := by decide +kernel
theorem dX12_falls_188 : decode cX12_falls 188 = .ok (.iload 6, 2) := by decide +kernel
theorem dX12_falls_190 : decode cX12_falls 190 = .ok (.imul, 1) := by decide +kernel
theorem dX12_falls_191 : decode cX12_falls 191 = .ok (.iconst 3, 1) := by decide +kernel
theorem dX12_falls_192 : decode cX12_falls 192 = .ok (.iadd, 1) := by decide +kernel
theorem dX12_falls_193 : decode cX12_falls 193 = .ok (.iload 4, 2) := by decide +kernel
theorem dX12_falls_195 : decode cX12_falls 195 = .ok (.iastore, 1) := by decide +kernel
theorem dX12_falls_196 : decode cX12_falls 196 = .ok (.aload_n 0, 1) := by decide +kernel
theorem dX12_falls_197 : decode cX12_falls 197 = .ok (.getfield 79, 3) := by decide +kernel
theorem dX12_falls_200 : decode cX12_falls 200 = .ok (.iconst 5, 1) := by decide +kernel
theorem dX12_falls_201 : decode cX12_falls 201 = .ok (.iload 6, 2) := by decide +kernel
theorem dX12_falls_203 : decode cX12_falls 203 = .ok (.imul, 1) := by decide +kernel
theorem dX12_falls_204 : decode cX12_falls 204 = .ok (.iconst 4, 1) := by decide +kernel
theorem dX12_falls_205 : decode cX12_falls 205 = .ok (.iadd, 1) := by decide +kernel
theorem dX12_falls_206 : decode cX12_falls 206 = .ok (.aload_n 0, 1) := by decide +kernel
theorem dX12_falls_207 : decode cX12_falls 207 = .ok (.getfield 271, 3) := by decide +kernel
theorem dX12_falls_210 : decode cX12_falls 210 = .ok (.iastore, 1) := by decide +kernel
theorem dX12_falls_211 : decode cX12_falls 211 = .ok (.aload_n 0, 1) := by decide +kernel
theorem dX12_falls_212 : decode cX12_falls 212 = .ok (.getfield 82, 3) := by decide +kernel
theorem dX12_falls_215 : decode cX12_falls 215 = .ok (.iload 6, 2) := by decide +kernel
theorem dX12_falls_217 : decode cX12_falls 217 = .ok (.aload_n 0, 1) := by decide +kernel
theorem dX12_falls_218 : decode cX12_falls 218 = .ok (.iload 6, 2) := by decide +kernel
theorem dX12_falls_220 : decode cX12_falls 220 = .ok (.iconst 0, 1) := by decide +kernel
theorem dX12_falls_221 : decode cX12_falls 221 = .ok (.invokevirtual 302, 3) := by decide +kernel
theorem dX12_falls_224 : decode cX12_falls 224 = .ok (.iastore, 1) := by decide +kernel
theorem dX12_falls_225 : decode cX12_falls 225 = .ok (.aload_n 0, 1) := by decide +kernel
theorem dX12_falls_226 : decode cX12_falls 226 = .ok (.getfield 85, 3) := by decide +kernel
theorem dX12_falls_229 : decode cX12_falls 229 = .ok (.iload 6, 2) := by decide +kernel
theorem dX12_falls_231 : decode cX12_falls 231 = .ok (.aload_n 0, 1) := by decide +kernel
theorem dX12_falls_232 : decode cX12_falls 232 = .ok (.iload 6, 2) := by decide +kernel
theorem dX12_falls_234 : decode cX12_falls 234 = .ok (.iconst 1, 1) := by decide +kernel
theorem dX12_falls_235 : decode cX12_falls 235 = .ok (.invokevirtual 302, 3) := by decide +kernel
theorem dX12_falls_238 : decode cX12_falls 238 = .ok (.iastore, 1) := by decide +kernel
theorem dX12_falls_239 : decode cX12_falls 239 = .ok (.return_, 1) := by decide +kernel
theorem dX12_sums_0 : decode cX12_sums 0 = .ok (.iconst 0, 1) := by decide +kernel
theorem dX12_sums_1 : decode cX12_sums 1 = .ok (.istore_n 3, 1) := by decide +kernel
theorem dX12_sums_2 : decode cX12_sums 2 = .ok (.iconst 0, 1) := by decide +kernel
theorem dX12_sums_3 : decode cX12_sums 3 = .ok (.istore 4, 2) := by decide +kernel
theorem dX12_sums_5 : decode cX12_sums 5 = .ok (.iload 4, 2) := by decide +kernel
theorem dX12_sums_7 : decode cX12_sums 7 = .ok (.iconst 5, 1) := by decide +kernel
theorem dX12_sums_8 : decode cX12_sums 8 = .ok (.if_icmp .ge 40, 3) := by decide +kernel
theorem dX12_sums_11 : decode cX12_sums 11 = .ok (.iload_n 3, 1) := by decide +kernel
theorem dX12_sums_12 : decode cX12_sums 12 = .ok (.aload_n 0, 1) := by decide +kernel
theorem dX12_sums_13 : decode cX12_sums 13 = .ok (.getfield 79, 3) := by decide +kernel
theorem dX12_sums_16 : decode cX12_sums 16 = .ok (.iconst 5, 1) := by decide +kernel
theorem dX12_sums_17 : decode cX12_sums 17 = .ok (.iload_n 1, 1) := by decide +kernel
theorem dX12_sums_18 : decode cX12_sums 18 = .ok (.imul, 1) := by decide +kernel
theorem dX12_sums_19 : decode cX12_sums 19 = .ok (.iload 4, 2) := by decide +kernel
theorem dX12_sums_21 : decode cX12_sums 21 = .ok (.iadd, 1) := by decide +kernel
theorem dX12_sums_22 : decode cX12_sums 22 = .ok (.iaload, 1) := by decide +kernel
theorem dX12_sums_23 : decode cX12_sums 23 = .ok (.iload_n 2, 1) := by decide +kernel
theorem dX12_sums_24 : decode cX12_sums 24 = .ok (.ifCond .ne 7, 3) := by decide +kernel
theorem dX12_sums_27 : decode cX12_sums 27 = .ok (.iconst 1, 1) := by decide +kernel
theorem dX12_sums_28 : decode cX12_sums 28 = .ok (.goto 7, 3) := by decide +kernel
theorem dX12_sums_31 : decode cX12_sums 31 = .ok (.iload 4, 2) := by decide +kernel
theorem dX12_sums_33 : decode cX12_sums 33 = .ok (.iconst 1, 1) := by decide +kernel
theorem dX12_sums_34 : decode cX12_sums 34 = .ok (.iadd, 1) := by decide +kernel
theorem dX12_sums_35 : decode cX12_sums 35 = .ok (.imul, 1) := by decide +kernel
theorem dX12_sums_36 : decode cX12_sums 36 = .ok (.iadd, 1) := by decide +kernel
theorem dX12_sums_37 : decode cX12_sums 37 = .ok (.ldc_w 305, 3) := by decide +kernel
theorem dX12_sums_40 : decode cX12_sums 40 = .ok (.irem, 1) := by decide +kernel
theorem dX12_sums_41 : decode cX12_sums 41 = .ok (.istore_n 3, 1) := by decide +kernel
theorem dX12_sums_42 : decode cX12_sums 42 = .ok (.iinc 4 1, 3) := by decide +kernel
theorem dX12_sums_45 : decode cX12_sums 45 = .ok (.goto (-40), 3) := by decide +kernel
theorem dX12_sums_48 : decode cX12_sums 48 = .ok (.iload_n 3, 1) := by decide +kernel
theorem dX12_sums_49 : decode cX12_sums 49 = .ok (.ireturn, 1) := by decide +kernel
theorem dX12_knew_0 : decode cX12_knew 0 = .ok (.aload_n 0, 1) := by decide +kernel
theorem dX12_knew_1 : decode cX12_knew 1 = .ok (.iconst 0, 1) := by decide +kernel
theorem dX12_knew_2 : decode cX12_knew 2 = .ok (.putfield 235, 3) := by decide +kernel
theorem dX12_knew_5 : decode cX12_knew 5 = .ok (.aload_n 0, 1) := by decide +kernel
theorem dX12_knew_6 : decode cX12_knew 6 = .ok (.iload_n 1, 1) := by decide +kernel
theorem dX12_knew_7 : decode cX12_knew 7 = .ok (.invokevirtual 306, 3) := by decide +kernel
theorem dX12_knew_10 : decode cX12_knew 10 = .ok (.ifCond .eq 24, 3) := by decide +kernel
theorem dX12_knew_13 : decode cX12_knew 13 = .ok (.iload_n 3, 1) := by decide +kernel
theorem dX12_knew_14 : decode cX12_knew 14 = .ok (.iconst 0, 1) := by decide +kernel
theorem dX12_knew_15 : decode cX12_knew 15 = .ok (.aload_n 0, 1) := by decide +kernel
theorem dX12_knew_16 : decode cX12_knew 16 = .ok (.getfield 271, 3) := by decide +kernel
theorem dX12_knew_19 : decode cX12_knew 19 = .ok (.invokestatic 238, 3) := by decide +kernel
theorem dX12_knew_22 : decode cX12_knew 22 = .ok (.ifCond .eq 12, 3) := by decide +kernel
theorem dX12_knew_25 : decode cX12_knew 25 = .ok (.iload_n 2, 1) := by decide +kernel
theorem dX12_knew_26 : decode cX12_knew 26 = .ok (.iconst 0, 1) := by decide +kernel
theorem dX12_knew_27 : decode cX12_knew 27 = .ok (.iload_n 3, 1) := by decide +kernel
theorem dX12_knew_28 : decode cX12_knew 28 = .ok (.invokestatic 238, 3) := by decide +kernel
theorem dX12_knew_31 : decode cX12_knew 31 = .ok (.ifCond .ne 6, 3) := by decide +kernel
theorem dX12_knew_34 : decode cX12_knew 34 = .ok (.bipush (-2), 2) := by decide +kernel
theorem dX12_knew_36 : decode cX12_knew 36 = .ok (.ireturn, 1) := by decide +kernel
theorem dX12_knew_37 : decode cX12_knew 37 = .ok (.iconst (-1), 1) := by decide +kernel
theorem dX12_knew_38 : decode cX12_knew 38 = .ok (.istore 4, 2) := by decide +kernel
theorem dX12_knew_40 : decode cX12_knew 40 = .ok (.iconst 0, 1) := by decide +kernel
theorem dX12_knew_41 : decode cX12_knew 41 = .ok (.istore 5, 2) := by decide +kernel
theorem dX12_knew_43 : decode cX12_knew 43 = .ok (.iload 5, 2) := by decide +kernel
theorem dX12_knew_45 : decode cX12_knew 45 = .ok (.iconst 5, 1) := by decide +kernel
theorem dX12_knew_46 : decode cX12_knew 46 = .ok (.if_icmp .ge 58, 3) := by decide +kernel
theorem dX12_knew_49 : decode cX12_knew 49 = .ok (.aload_n 0, 1) := by decide +kernel
theorem dX12_knew_50 : decode cX12_knew 50 = .ok (.getfield 73, 3) := by decide +kernel
theorem dX12_knew_53 : decode cX12_knew 53 = .ok (.iconst 5, 1) := by decide +kernel
theorem dX12_knew_54 : decode cX12_knew 54 = .ok (.iload_n 1, 1) := by decide +kernel
theorem dX12_knew_55 : decode cX12_knew 55 = .ok (.imul, 1) := by decide +kernel
theorem dX12_knew_56 : decode cX12_knew 56 = .ok (.iload 5, 2) := by decide +kernel
theorem dX12_knew_58 : decode cX12_knew 58 = .ok (.iadd, 1) := by decide +kernel
theorem dX12_knew_59 : decode cX12_knew 59 = .ok (.iaload, 1) := by decide +kernel
theorem dX12_knew_60 : decode cX12_knew 60 = .ok (.iconst (-1), 1) := by decide +kernel
theorem dX12_knew_61 : decode cX12_knew 61 = .ok (.if_icmp .eq 37, 3) := by decide +kernel
theorem dX12_knew_64 : decode cX12_knew 64 = .ok (.aload_n 0, 1) := by decide +kernel
theorem dX12_knew_65 : decode cX12_knew 65 = .ok (.getfield 73, 3) := by decide +kernel
theorem dX12_knew_68 : decode cX12_knew 68 = .ok (.iconst 5, 1) := by decide +kernel
theorem dX12_knew_69 : decode cX12_knew 69 = .ok (.iload_n 1, 1) := by decide +kernel
theorem dX12_knew_70 : decode cX12_knew 70 = .ok (.imul, 1) := by decide +kernel
theorem dX12_knew_71 : decode cX12_knew 71 = .ok (.iload 5, 2) := by decide +kernel
theorem dX12_knew_73 : decode cX12_knew 73 = .ok (.iadd, 1) := by decide +kernel
theorem dX12_knew_74 : decode cX12_knew 74 = .ok (.iaload, 1) := by decide +kernel
theorem dX12_knew_75 : decode cX12_knew 75 = .ok (.iload_n 2, 1) := by decide +kernel
theorem dX12_knew_76 : decode cX12_knew 76 = .ok (.if_icmp .gt 22, 3) := by decide +kernel
theorem dX12_knew_79 : decode cX12_knew 79 = .ok (.aload_n 0, 1) := by decide +kernel
theorem dX12_knew_80 : decode cX12_knew 80 = .ok (.getfield 76, 3) := by decide +kernel
theorem dX12_knew_83 : decode cX12_knew 83 = .ok (.iconst 5, 1) := by decide +kernel
theorem dX12_knew_84 : decode cX12_knew 84 = .ok (.iload_n 1, 1) := by decide +kernel
theorem dX12_knew_85 : decode cX12_knew 85 = .ok (.imul, 1) := by decide +kernel
theorem dX12_knew_86 : decode cX12_knew 86 = .ok (.iload 5, 2) := by decide +kernel
theorem dX12_knew_88 : decode cX12_knew 88 = .ok (.iadd, 1) := by decide +kernel
theorem dX12_knew_89 : decode cX12_knew 89 = .ok (.iaload, 1) := by decide +kernel
theorem dX12_knew_90 : decode cX12_knew 90 = .ok (.iload_n 3, 1) := by decide +kernel
theorem dX12_knew_91 : decode cX12_knew 91 = .ok (.if_icmp .gt 7, 3) := by decide +kernel
theorem dX12_knew_94 : decode cX12_knew 94 = .ok (.iload 5, 2) := by decide +kernel
theorem dX12_knew_96 : decode cX12_knew 96 = .ok (.istore 4, 2) := by decide +kernel
theorem dX12_knew_98 : decode cX12_knew 98 = .ok (.iinc 5 1, 3) := by decide +kernel
theorem dX12_knew_101 : decode cX12_knew 101 = .ok (.goto (-58), 3) := by decide +kernel
theorem dX12_knew_104 : decode cX12_knew 104 = .ok (.iload 4, 2) := by decide +kernel
theorem dX12_knew_106 : decode cX12_knew 106 = .ok (.ireturn, 1) := by decide +kernel
theorem dX12_alter_0 : decode cX12_alter 0 = .ok (.aload_n 0, 1) := by decide +kernel
theorem dX12_alter_1 : decode cX12_alter 1 = .ok (.iconst 0, 1) := by decide +kernel
theorem dX12_alter_2 : decode cX12_alter 2 = .ok (.putfield 235, 3) := by decide +kernel
theorem dX12_alter_5 : decode cX12_alter 5 = .ok (.aload_n 0, 1) := by decide +kernel
theorem dX12_alter_6 : decode cX12_alter 6 = .ok (.iload_n 1, 1) := by decide +kernel
theorem dX12_alter_7 : decode cX12_alter 7 = .ok (.invokevirtual 306, 3) := by decide +kernel
theorem dX12_alter_10 : decode cX12_alter 10 = .ok (.ifCond .eq 23, 3) := by decide +kernel
theorem dX12_alter_13 : decode cX12_alter 13 = .ok (.iload_n 2, 1) := by decide +kernel
theorem dX12_alter_14 : decode cX12_alter 14 = .ok (.iconst 0, 1) := by decide +kernel
theorem dX12_alter_15 : decode cX12_alter 15 = .ok (.iconst 4, 1) := by decide +kernel
theorem dX12_alter_16 : decode cX12_alter 16 = .ok (.invokestatic 238, 3) := by decide +kernel
theorem dX12_alter_19 : decode cX12_alter 19 = .ok (.ifCond .eq 14, 3) := by decide +kernel
theorem dX12_alter_22 : decode cX12_alter 22 = .ok (.iload_n 3, 1) := by decide +kernel
theorem dX12_alter_23 : decode cX12_alter 23 = .ok (.iconst 1, 1) := by decide +kernel
theorem dX12_alter_24 : decode cX12_alter 24 = .ok (.ldc_w 309, 3) := by decide +kernel
theorem dX12_alter_27 : decode cX12_alter 27 = .ok (.invokestatic 238, 3) := by decide +kernel
theorem dX12_alter_30 : decode cX12_alter 30 = .ok (.ifCond .ne 5, 3) := by decide +kernel
theorem dX12_alter_33 : decode cX12_alter 33 = .ok (.iconst 0, 1) := by decide +kernel
theorem dX12_alter_34 : decode cX12_alter 34 = .ok (.ireturn, 1) := by decide +kernel
theorem dX12_alter_35 : decode cX12_alter 35 = .ok (.aload_n 0, 1) := by decide +kernel
theorem dX12_alter_36 : decode cX12_alter 36 = .ok (.getfield 79, 3) := by decide +kernel
theorem dX12_alter_39 : decode cX12_alter 39 = .ok (.iconst 5, 1) := by decide +kernel
theorem dX12_alter_40 : decode cX12_alter 40 = .ok (.iload_n 1, 1) := by decide +kernel
theorem dX12_alter_41 : decode cX12_alter 41 = .ok (.imul, 1) := by decide +kernel
theorem dX12_alter_42 : decode cX12_alter 42 = .ok (.iload_n 2, 1) := by decide +kernel
theorem dX12_alter_43 : decode cX12_alter 43 = .ok (.iadd, 1) := by decide +kernel
theorem dX12_alter_44 : decode cX12_alter 44 = .ok (.dup2, 1) := by decide +kernel
theorem dX12_alter_45 : decode cX12_alter 45 = .ok (.iaload, 1) := by decide +kernel
theorem dX12_alter_46 : decode cX12_alter 46 = .ok (.iload_n 3, 1) := by decide +kernel
theorem dX12_alter_47 : decode cX12_alter 47 = .ok (.ixor, 1) := by decide +kernel
theorem dX12_alter_48 : decode cX12_alter 48 = .ok (.iastore, 1) := by decide +kernel
theorem dX12_alter_49 : decode cX12_alter 49 = .ok (.iconst 1, 1) := by decide +kernel
theorem dX12_alter_50 : decode cX12_alter 50 = .ok (.ireturn, 1) := by decide +kernel
theorem dX12_checks_0 : decode cX12_checks 0 = .ok (.aload_n 0, 1) := by decide +kernel
theorem dX12_checks_1 : decode cX12_checks 1 = .ok (.iload_n 1, 1) := by decide +kernel
theorem dX12_checks_2 : decode cX12_checks 2 = .ok (.iconst 0, 1) := by decide +kernel
theorem dX12_checks_3 : decode cX12_checks 3 = .ok (.invokevirtual 302, 3) := by decide +kernel
theorem dX12_checks_6 : decode cX12_checks 6 = .ok (.aload_n 0, 1) := by decide +kernel
theorem dX12_checks_7 : decode cX12_checks 7 = .ok (.getfield 82, 3) := by decide +kernel
theorem dX12_checks_10 : decode cX12_checks 10 = .ok (.iload_n 1, 1) := by decide +kernel
theorem dX12_checks_11 : decode cX12_checks 11 = .ok (.iaload, 1) := by decide +kernel
theorem dX12_checks_12 : decode cX12_checks 12 = .ok (.if_icmp .ne 20, 3) := by decide +kernel
theorem dX12_checks_15 : decode cX12_checks 15 = .ok (.aload_n 0, 1) := by decide +kernel
theorem dX12_checks_16 : decode cX12_checks 16 = .ok (.iload_n 1, 1) := by decide +kernel
theorem dX12_checks_17 : decode cX12_checks 17 = .ok (.iconst 1, 1) := by decide +kernel
theorem dX12_checks_18 : decode cX12_checks 18 = .ok (.invokevirtual 302, 3) := by decide +kernel
theorem dX12_checks_21 : decode cX12_checks 21 = .ok (.aload_n 0, 1) := by decide +kernel
theorem dX12_checks_22 : decode cX12_checks 22 = .ok (.getfield 85, 3) := by decide +kernel
theorem dX12_checks_25 : decode cX12_checks 25 = .ok (.iload_n 1, 1) := by decide +kernel
theorem dX12_checks_26 : decode cX12_checks 26 = .ok (.iaload, 1) := by decide +kernel
theorem dX12_checks_27 : decode cX12_checks 27 = .ok (.if_icmp .ne 5, 3) := by decide +kernel
theorem dX12_checks_30 : decode cX12_checks 30 = .ok (.iconst (-1), 1) := by decide +kernel
theorem dX12_checks_31 : decode cX12_checks 31 = .ok (.ireturn, 1) := by decide +kernel
theorem dX12_checks_32 : decode cX12_checks 32 = .ok (.iconst 0, 1) := by decide +kernel
theorem dX12_checks_33 : decode cX12_checks 33 = .ok (.istore_n 2, 1) := by decide +kernel
theorem dX12_checks_34 : decode cX12_checks 34 = .ok (.iload_n 2, 1) := by decide +kernel
theorem dX12_checks_35 : decode cX12_checks 35 = .ok (.iconst 5, 1) := by decide +kernel
theorem dX12_checks_36 : decode cX12_checks 36 = .ok (.if_icmp .ge 114, 3) := by decide +kernel
theorem dX12_checks_39 : decode cX12_checks 39 = .ok (.aload_n 0, 1) := by decide +kernel
theorem dX12_checks_40 : decode cX12_checks 40 = .ok (.getfield 79, 3) := by decide +kernel
theorem dX12_checks_43 : decode cX12_checks 43 = .ok (.iconst 5, 1) := by decide +kernel
theorem dX12_checks_44 : decode cX12_checks 44 = .ok (.iload_n 1, 1) := by decide +kernel
theorem dX12_checks_45 : decode cX12_checks 45 = .ok (.imul, 1) := by decide +kernel
theorem dX12_checks_46 : decode cX12_checks 46 = .ok (.iload_n 2, 1) := by decide +kernel
theorem dX12_checks_47 : decode cX12_checks 47 = .ok (.iadd, 1) := by decide +kernel
theorem dX12_checks_48 : decode cX12_checks 48 = .ok (.iaload, 1) := by decide +kernel
theorem dX12_checks_49 : decode cX12_checks 49 = .ok (.istore_n 3, 1) := by decide +kernel
theorem dX12_checks_50 : decode cX12_checks 50 = .ok (.iload_n 3, 1) := by decide +kernel
theorem dX12_checks_51 : decode cX12_checks 51 = .ok (.aload_n 0, 1) := by decide +kernel
theorem dX12_checks_52 : decode cX12_checks 52 = .ok (.getfield 82, 3) := by decide +kernel
theorem dX12_checks_55 : decode cX12_checks 55 = .ok (.iload_n 1, 1) := by decide +kernel
theorem dX12_checks_56 : decode cX12_checks 56 = .ok (.iaload, 1) := by decide +kernel
theorem dX12_checks_57 : decode cX12_checks 57 = .ok (.iadd, 1) := by decide +kernel
theorem dX12_checks_58 : decode cX12_checks 58 = .ok (.aload_n 0, 1) := by decide +kernel
theorem dX12_checks_59 : decode cX12_checks 59 = .ok (.iload_n 1, 1) := by decide +kernel
theorem dX12_checks_60 : decode cX12_checks 60 = .ok (.iconst 0, 1) := by decide +kernel
theorem dX12_checks_61 : decode cX12_checks 61 = .ok (.invokevirtual 302, 3) := by decide +kernel
theorem dX12_checks_64 : decode cX12_checks 64 = .ok (.isub, 1) := by decide +kernel
theorem dX12_checks_65 : decode cX12_checks 65 = .ok (.ldc_w 305, 3) := by decide +kernel
theorem dX12_checks_68 : decode cX12_checks 68 = .ok (.iadd, 1) := by decide +kernel
theorem dX12_checks_69 : decode cX12_checks 69 = .ok (.ldc_w 305, 3) := by decide +kernel
theorem dX12_checks_72 : decode cX12_checks 72 = .ok (.irem, 1) := by decide +kernel
theorem dX12_checks_73 : decode cX12_checks 73 = .ok (.istore 4, 2) := by decide +kernel
theorem dX12_checks_75 : decode cX12_checks 75 = .ok (.aload_n 0, 1) := by decide +kernel
theorem dX12_checks_76 : decode cX12_checks 76 = .ok (.getfield 79, 3) := by decide +kernel
theorem dX12_checks_79 : decode cX12_checks 79 = .ok (.iconst 5, 1) := by decide +kernel
theorem dX12_checks_80 : decode cX12_checks 80 = .ok (.iload_n 1, 1) := by decide +kernel
theorem dX12_checks_81 : decode cX12_checks 81 = .ok (.imul, 1) := by decide +kernel
theorem dX12_checks_82 : decode cX12_checks 82 = .ok (.iload_n 2, 1) := by decide +kernel
theorem dX12_checks_83 : decode cX12_checks 83 = .ok (.iadd, 1) := by decide +kernel
theorem dX12_checks_84 : decode cX12_checks 84 = .ok (.iload 4, 2) := by decide +kernel
theorem dX12_checks_86 : decode cX12_checks 86 = .ok (.iastore, 1) := by decide +kernel
theorem dX12_checks_87 : decode cX12_checks 87 = .ok (.iload 4, 2) := by decide +kernel
theorem dX12_checks_89 : decode cX12_checks 89 = .ok (.ldc_w 310, 3) := by decide +kernel
theorem dX12_checks_92 : decode cX12_checks 92 = .ok (.if_icmp .ge 22, 3) := by decide +kernel
theorem dX12_checks_95 : decode cX12_checks 95 = .ok (.aload_n 0, 1) := by decide +kernel
theorem dX12_checks_96 : decode cX12_checks 96 = .ok (.iload_n 1, 1) := by decide +kernel
theorem dX12_checks_97 : decode cX12_checks 97 = .ok (.iconst 1, 1) := by decide +kernel
theorem dX12_checks_98 : decode cX12_checks 98 = .ok (.invokevirtual 302, 3) := by decide +kernel
theorem dX12_checks_101 : decode cX12_checks 101 = .ok (.aload_n 0, 1) := by decide +kernel
theorem dX12_checks_102 : decode cX12_checks 102 = .ok (.getfield 85, 3) := by decide +kernel
theorem dX12_checks_105 : decode cX12_checks 105 = .ok (.iload_n 1, 1) := by decide +kernel
theorem dX12_checks_106 : decode cX12_checks 106 = .ok (.iaload, 1) := by decide +kernel
theorem dX12_checks_107 : decode cX12_checks 107 = .ok (.if_icmp .ne 7, 3) := by decide +kernel
theorem dX12_checks_110 : decode cX12_checks 110 = .ok (.iconst 1, 1) := by decide +kernel
theorem dX12_checks_111 : decode cX12_checks 111 = .ok (.goto 4, 3) := by decide +kernel
theorem dX12_checks_114 : decode cX12_checks 114 = .ok (.iconst 0, 1) := by decide +kernel
theorem dX12_checks_115 : decode cX12_checks 115 = .ok (.istore 5, 2) := by decide +kernel
theorem dX12_checks_117 : decode cX12_checks 117 = .ok (.aload_n 0, 1) := by decide +kernel
theorem dX12_checks_118 : decode cX12_checks 118 = .ok (.getfield 79, 3) := by decide +kernel
theorem dX12_checks_121 : decode cX12_checks 121 = .ok (.iconst 5, 1) := by decide +kernel
theorem dX12_checks_122 : decode cX12_checks 122 = .ok (.iload_n 1, 1) := by decide +kernel
theorem dX12_checks_123 : decode cX12_checks 123 = .ok (.imul, 1) := by decide +kernel
theorem dX12_checks_124 : decode cX12_checks 124 = .ok (.iload_n 2, 1) := by decide +kernel
theorem dX12_checks_125 : decode cX12_checks 125 = .ok (.iadd, 1) := by decide +kernel
theorem dX12_checks_126 : decode cX12_checks 126 = .ok (.iload_n 3, 1) := by decide +kernel
theorem dX12_checks_127 : decode cX12_checks 127 = .ok (.iastore, 1) := by decide +kernel
theorem dX12_checks_128 : decode cX12_checks 128 = .ok (.iload 5, 2) := by decide +kernel
theorem dX12_checks_130 : decode cX12_checks 130 = .ok (.ifCond .ne 6, 3) := by decide +kernel
theorem dX12_checks_133 : decode cX12_checks 133 = .ok (.goto 11, 3) := by decide +kernel
theorem dX12_checks_136 : decode cX12_checks 136 = .ok (.aload_n 0, 1) := by decide +kernel
theorem dX12_checks_137 : decode cX12_checks 137 = .ok (.iload 4, 2) := by decide +kernel
theorem dX12_checks_139 : decode cX12_checks 139 = .ok (.putfield 311, 3) := by decide +kernel
theorem dX12_checks_142 : decode cX12_checks 142 = .ok (.iload_n 2, 1) := by decide +kernel
theorem dX12_checks_143 : decode cX12_checks 143 = .ok (.ireturn, 1) := by decide +kernel
theorem dX12_checks_144 : decode cX12_checks 144 = .ok (.iinc 2 1, 3) := by decide +kernel
theorem dX12_checks_147 : decode cX12_checks 147 = .ok (.goto (-113), 3) := by decide +kernel
theorem dX12_checks_150 : decode cX12_checks 150 = .ok (.bipush (-2), 2) := by decide +kernel
theorem dX12_checks_152 : decode cX12_checks 152 = .ok (.ireturn, 1) := by decide +kernel
theorem dX12_checked_0 : decode cX12_checked 0 = .ok (.aload_n 0, 1) := by decide +kernel
theorem dX12_checked_1 : decode cX12_checked 1 = .ok (.iconst 0, 1) := by decide +kernel
theorem dX12_checked_2 : decode cX12_checked 2 = .ok (.putfield 235, 3) := by decide +kernel
theorem dX12_checked_5 : decode cX12_checked 5 = .ok (.aload_n 0, 1) := by decide +kernel
theorem dX12_checked_6 : decode cX12_checked 6 = .ok (.iload_n 1, 1) := by decide +kernel
theorem dX12_checked_7 : decode cX12_checked 7 = .ok (.invokevirtual 306, 3) := by decide +kernel
theorem dX12_checked_10 : decode cX12_checked 10 = .ok (.ifCond .eq 12, 3) := by decide +kernel
theorem dX12_checked_13 : decode cX12_checked 13 = .ok (.iload_n 2, 1) := by decide +kernel
theorem dX12_checked_14 : decode cX12_checked 14 = .ok (.iconst 0, 1) := by decide +kernel
theorem dX12_checked_15 : decode cX12_checked 15 = .ok (.iconst 1, 1) := by decide +kernel
theorem dX12_checked_16 : decode cX12_checked 16 = .ok (.invokestatic 238, 3) := by decide +kernel
theorem dX12_checked_19 : decode cX12_checked 19 = .ok (.ifCond .ne 6, 3) := by decide +kernel
theorem dX12_checked_22 : decode cX12_checked 22 = .ok (.bipush (-3), 2) := by decide +kernel
theorem dX12_checked_24 : decode cX12_checked 24 = .ok (.ireturn, 1) := by decide +kernel
theorem dX12_checked_25 : decode cX12_checked 25 = .ok (.aload_n 0, 1) := by decide +kernel
theorem dX12_checked_26 : decode cX12_checked 26 = .ok (.iload_n 1, 1) := by decide +kernel
theorem dX12_checked_27 : decode cX12_checked 27 = .ok (.invokevirtual 314, 3) := by decide +kernel
theorem dX12_checked_30 : decode cX12_checked 30 = .ok (.istore_n 3, 1) := by decide +kernel
theorem dX12_checked_31 : decode cX12_checked 31 = .ok (.iload_n 2, 1) := by decide +kernel
theorem dX12_checked_32 : decode cX12_checked 32 = .ok (.ifCond .ne 7, 3) := by decide +kernel
theorem dX12_checked_35 : decode cX12_checked 35 = .ok (.iload_n 3, 1) := by decide +kernel
theorem dX12_checked_36 : decode cX12_checked 36 = .ok (.goto 16, 3) := by decide +kernel
theorem dX12_checked_39 : decode cX12_checked 39 = .ok (.iload_n 3, 1) := by decide +kernel
theorem dX12_checked_40 : decode cX12_checked 40 = .ok (.ifCond .ge 8, 3) := by decide +kernel
theorem dX12_checked_43 : decode cX12_checked 43 = .ok (.bipush (-3), 2) := by decide +kernel
theorem dX12_checked_45 : decode cX12_checked 45 = .ok (.goto 7, 3) := by decide +kernel
theorem dX12_checked_48 : decode cX12_checked 48 = .ok (.aload_n 0, 1) := by decide +kernel
theorem dX12_checked_49 : decode cX12_checked 49 = .ok (.getfield 311, 3) := by decide +kernel
theorem dX12_checked_52 : decode cX12_checked 52 = .ok (.ireturn, 1) := by decide +kernel
theorem dX12_log_0 : decode cX12_log 0 = .ok (.aload_n 0, 1) := by decide +kernel
theorem dX12_log_1 : decode cX12_log 1 = .ok (.iconst 0, 1) := by decide +kernel
theorem dX12_log_2 : decode cX12_log 2 = .ok (.putfield 235, 3) := by decide +kernel
theorem dX12_log_5 : decode cX12_log 5 = .ok (.aload_n 0, 1) := by decide +kernel
theorem dX12_log_6 : decode cX12_log 6 = .ok (.iload_n 1, 1) := by decide +kernel
theorem dX12_log_7 : decode cX12_log 7 = .ok (.invokevirtual 306, 3) := by decide +kernel
theorem dX12_log_10 : decode cX12_log 10 = .ok (.ifCond .ne 5, 3) := by decide +kernel
theorem dX12_log_13 : decode cX12_log 13 = .ok (.iconst (-1), 1) := by decide +kernel
theorem dX12_log_14 : decode cX12_log 14 = .ok (.ireturn, 1) := by decide +kernel
theorem dX12_log_15 : decode cX12_log 15 = .ok (.iload_n 2, 1) := by decide +kernel
theorem dX12_log_16 : decode cX12_log 16 = .ok (.tableswitch 114 0 8 #[52, 59, 66, 73, 80, 87, 94, 101, 107], 52) := by decide +kernel
theorem dX12_log_68 : decode cX12_log 68 = .ok (.aload_n 0, 1) := by decide +kernel
theorem dX12_log_69 : decode cX12_log 69 = .ok (.getfield 46, 3) := by decide +kernel
theorem dX12_log_72 : decode cX12_log 72 = .ok (.iload_n 1, 1) := by decide +kernel
theorem dX12_log_73 : decode cX12_log 73 = .ok (.iaload, 1) := by decide +kernel
theorem dX12_log_74 : decode cX12_log 74 = .ok (.ireturn, 1) := by decide +kernel
theorem dX12_log_75 : decode cX12_log 75 = .ok (.aload_n 0, 1) := by decide +kernel
theorem dX12_log_76 : decode cX12_log 76 = .ok (.getfield 49, 3) := by decide +kernel
theorem dX12_log_79 : decode cX12_log 79 = .ok (.iload_n 1, 1) := by decide +kernel
theorem dX12_log_80 : decode cX12_log 80 = .ok (.iaload, 1) := by decide +kernel
theorem dX12_log_81 : decode cX12_log 81 = .ok (.ireturn, 1) := by decide +kernel
theorem dX12_log_82 : decode cX12_log 82 = .ok (.aload_n 0, 1) := by decide +kernel
theorem dX12_log_83 : decode cX12_log 83 = .ok (.getfield 52, 3) := by decide +kernel
theorem dX12_log_86 : decode cX12_log 86 = .ok (.iload_n 1, 1) := by decide +kernel
theorem dX12_log_87 : decode cX12_log 87 = .ok (.iaload, 1) := by decide +kernel
theorem dX12_log_88 : decode cX12_log 88 = .ok (.ireturn, 1) := by decide +kernel
theorem dX12_log_89 : decode cX12_log 89 = .ok (.aload_n 0, 1) := by decide +kernel
theorem dX12_log_90 : decode cX12_log 90 = .ok (.getfield 55, 3) := by decide +kernel
theorem dX12_log_93 : decode cX12_log 93 = .ok (.iload_n 1, 1) := by decide +kernel
theorem dX12_log_94 : decode cX12_log 94 = .ok (.iaload, 1) := by decide +kernel
theorem dX12_log_95 : decode cX12_log 95 = .ok (.ireturn, 1) := by decide +kernel
theorem dX12_log_96 : decode cX12_log 96 = .ok (.aload_n 0, 1) := by decide +kernel
theorem dX12_log_97 : decode cX12_log 97 = .ok (.getfield 58, 3) := by decide +kernel
theorem dX12_log_100 : decode cX12_log 100 = .ok (.iload_n 1, 1) := by decide +kernel
theorem dX12_log_101 : decode cX12_log 101 = .ok (.iaload, 1) := by decide +kernel
theorem dX12_log_102 : decode cX12_log 102 = .ok (.ireturn, 1) := by decide +kernel
theorem dX12_log_103 : decode cX12_log 103 = .ok (.aload_n 0, 1) := by decide +kernel
theorem dX12_log_104 : decode cX12_log 104 = .ok (.getfield 61, 3) := by decide +kernel
theorem dX12_log_107 : decode cX12_log 107 = .ok (.iload_n 1, 1) := by decide +kernel
theorem dX12_log_108 : decode cX12_log 108 = .ok (.iaload, 1) := by decide +kernel
theorem dX12_log_109 : decode cX12_log 109 = .ok (.ireturn, 1) := by decide +kernel
theorem dX12_log_110 : decode cX12_log 110 = .ok (.aload_n 0, 1) := by decide +kernel
theorem dX12_log_111 : decode cX12_log 111 = .ok (.getfield 67, 3) := by decide +kernel
theorem dX12_log_114 : decode cX12_log 114 = .ok (.iload_n 1, 1) := by decide +kernel
theorem dX12_log_115 : decode cX12_log 115 = .ok (.iaload, 1) := by decide +kernel
theorem dX12_log_116 : decode cX12_log 116 = .ok (.ireturn, 1) := by decide +kernel
theorem dX12_log_117 : decode cX12_log 117 = .ok (.aload_n 0, 1) := by decide +kernel
theorem dX12_log_118 : decode cX12_log 118 = .ok (.iload_n 1, 1) := by decide +kernel
theorem dX12_log_119 : decode cX12_log 119 = .ok (.invokevirtual 317, 3) := by decide +kernel
theorem dX12_log_122 : decode cX12_log 122 = .ok (.ireturn, 1) := by decide +kernel
theorem dX12_log_123 : decode cX12_log 123 = .ok (.aload_n 0, 1) := by decide +kernel
theorem dX12_log_124 : decode cX12_log 124 = .ok (.getfield 64, 3) := by decide +kernel
theorem dX12_log_127 : decode cX12_log 127 = .ok (.iload_n 1, 1) := by decide +kernel
theorem dX12_log_128 : decode cX12_log 128 = .ok (.iaload, 1) := by decide +kernel
theorem dX12_log_129 : decode cX12_log 129 = .ok (.ireturn, 1) := by decide +kernel
theorem dX12_log_130 : decode cX12_log 130 = .ok (.iconst (-1), 1) := by decide +kernel
theorem dX12_log_131 : decode cX12_log 131 = .ok (.ireturn, 1) := by decide +kernel
theorem dX12_feed_0 : decode cX12_feed 0 = .ok (.aload_n 0, 1) := by decide +kernel
theorem dX12_feed_1 : decode cX12_feed 1 = .ok (.iconst 0, 1) := by decide +kernel
theorem dX12_feed_2 : decode cX12_feed 2 = .ok (.putfield 235, 3) := by decide +kernel
theorem dX12_feed_5 : decode cX12_feed 5 = .ok (.aload_n 0, 1) := by decide +kernel
theorem dX12_feed_6 : decode cX12_feed 6 = .ok (.getfield 320, 3) := by decide +kernel
theorem dX12_feed_9 : decode cX12_feed 9 = .ok (.sipush 280, 3) := by decide +kernel
theorem dX12_feed_12 : decode cX12_feed 12 = .ok (.if_icmp .le 5, 3) := by decide +kernel
theorem dX12_feed_15 : decode cX12_feed 15 = .ok (.iconst (-1), 1) := by decide +kernel
theorem dX12_feed_16 : decode cX12_feed 16 = .ok (.ireturn, 1) := by decide +kernel
theorem dX12_feed_17 : decode cX12_feed 17 = .ok (.iconst 0, 1) := by decide +kernel
theorem dX12_feed_18 : decode cX12_feed 18 = .ok (.istore 6, 2) := by decide +kernel
theorem dX12_feed_20 : decode cX12_feed 20 = .ok (.iload 6, 2) := by decide +kernel
theorem dX12_feed_22 : decode cX12_feed 22 = .ok (.bipush 20, 2) := by decide +kernel
theorem dX12_feed_24 : decode cX12_feed 24 = .ok (.if_icmp .ge 90, 3) := by decide +kernel
theorem dX12_feed_27 : decode cX12_feed 27 = .ok (.iload 6, 2) := by decide +kernel
theorem dX12_feed_29 : decode cX12_feed 29 = .ok (.iconst 4, 1) := by decide +kernel
theorem dX12_feed_30 : decode cX12_feed 30 = .ok (.if_icmp .ge 7, 3) := by decide +kernel
theorem dX12_feed_33 : decode cX12_feed 33 = .ok (.iload_n 1, 1) := by decide +kernel
theorem dX12_feed_34 : decode cX12_feed 34 = .ok (.goto 39, 3) := by decide +kernel
theorem dX12_feed_37 : decode cX12_feed 37 = .ok (.iload 6, 2) := by decide +kernel
theorem dX12_feed_39 : decode cX12_feed 39 = .ok (.bipush 8, 2) := by decide +kernel
theorem dX12_feed_41 : decode cX12_feed 41 = .ok (.if_icmp .ge 7, 3) := by decide +kernel
theorem dX12_feed_44 : decode cX12_feed 44 = .ok (.iload_n 2, 1) := by decide +kernel
theorem dX12_feed_45 : decode cX12_feed 45 = .ok (.goto 28, 3) := by decide +kernel
theorem dX12_feed_48 : decode cX12_feed 48 = .ok (.iload 6, 2) := by decide +kernel
theorem dX12_feed_50 : decode cX12_feed 50 = .ok (.bipush 12, 2) := by decide +kernel
theorem dX12_feed_52 : decode cX12_feed 52 = .ok (.if_icmp .ge 7, 3) := by decide +kernel
theorem dX12_feed_55 : decode cX12_feed 55 = .ok (.iload_n 3, 1) := by decide +kernel
theorem dX12_feed_56 : decode cX12_feed 56 = .ok (.goto 17, 3) := by decide +kernel
theorem dX12_feed_59 : decode cX12_feed 59 = .ok (.iload 6, 2) := by decide +kernel
theorem dX12_feed_61 : decode cX12_feed 61 = .ok (.bipush 16, 2) := by decide +kernel
theorem dX12_feed_63 : decode cX12_feed 63 = .ok (.if_icmp .ge 8, 3) := by decide +kernel
theorem dX12_feed_66 : decode cX12_feed 66 = .ok (.iload 4, 2) := by decide +kernel
theorem dX12_feed_68 : decode cX12_feed 68 = .ok (.goto 5, 3) := by decide +kernel
theorem dX12_feed_71 : decode cX12_feed 71 = .ok (.iload 5, 2) := by decide +kernel
theorem dX12_feed_73 : decode cX12_feed 73 = .ok (.istore 7, 2) := by decide +kernel
theorem dX12_feed_75 : decode cX12_feed 75 = .ok (.aload_n 0, 1) := by decide +kernel
theorem dX12_feed_76 : decode cX12_feed 76 = .ok (.getfield 116, 3) := by decide +kernel
theorem dX12_feed_79 : decode cX12_feed 79 = .ok (.aload_n 0, 1) := by decide +kernel
theorem dX12_feed_80 : decode cX12_feed 80 = .ok (.getfield 320, 3) := by decide +kernel
theorem dX12_feed_83 : decode cX12_feed 83 = .ok (.iload 7, 2) := by decide +kernel
theorem dX12_feed_85 : decode cX12_feed 85 = .ok (.bipush 24, 2) := by decide +kernel
theorem dX12_feed_87 : decode cX12_feed 87 = .ok (.bipush 8, 2) := by decide +kernel
theorem dX12_feed_89 : decode cX12_feed 89 = .ok (.iload 6, 2) := by decide +kernel
theorem dX12_feed_91 : decode cX12_feed 91 = .ok (.iconst 4, 1) := by decide +kernel
theorem dX12_feed_92 : decode cX12_feed 92 = .ok (.irem, 1) := by decide +kernel
theorem dX12_feed_93 : decode cX12_feed 93 = .ok (.imul, 1) := by decide +kernel
theorem dX12_feed_94 : decode cX12_feed 94 = .ok (.isub, 1) := by decide +kernel
theorem dX12_feed_95 : decode cX12_feed 95 = .ok (.ishr, 1) := by decide +kernel
theorem dX12_feed_96 : decode cX12_feed 96 = .ok (.i2b, 1) := by decide +kernel
theorem dX12_feed_97 : decode cX12_feed 97 = .ok (.bastore, 1) := by decide +kernel
theorem dX12_feed_98 : decode cX12_feed 98 = .ok (.aload_n 0, 1) := by decide +kernel
theorem dX12_feed_99 : decode cX12_feed 99 = .ok (.dup, 1) := by decide +kernel
theorem dX12_feed_100 : decode cX12_feed 100 = .ok (.getfield 320, 3) := by decide +kernel
theorem dX12_feed_103 : decode cX12_feed 103 = .ok (.iconst 1, 1) := by decide +kernel
theorem dX12_feed_104 : decode cX12_feed 104 = .ok (.iadd, 1) := by decide +kernel
theorem dX12_feed_105 : decode cX12_feed 105 = .ok (.putfield 320, 3) := by decide +kernel
theorem dX12_feed_108 : decode cX12_feed 108 = .ok (.iinc 6 1, 3) := by decide +kernel
theorem dX12_feed_111 : decode cX12_feed 111 = .ok (.goto (-91), 3) := by decide +kernel
theorem dX12_feed_114 : decode cX12_feed 114 = .ok (.aload_n 0, 1) := by decide +kernel
theorem dX12_feed_115 : decode cX12_feed 115 = .ok (.getfield 320, 3) := by decide +kernel
theorem dX12_feed_118 : decode cX12_feed 118 = .ok (.ireturn, 1) := by decide +kernel
theorem dX12_end_0 : decode cX12_end 0 = .ok (.aload_n 0, 1) := by decide +kernel
theorem dX12_end_1 : decode cX12_end 1 = .ok (.iconst 0, 1) := by decide +kernel
theorem dX12_end_2 : decode cX12_end 2 = .ok (.putfield 235, 3) := by decide +kernel
theorem dX12_end_5 : decode cX12_end 5 = .ok (.iload_n 1, 1) := by decide +kernel
theorem dX12_end_6 : decode cX12_end 6 = .ok (.iconst 0, 1) := by decide +kernel
theorem dX12_end_7 : decode cX12_end 7 = .ok (.aload_n 0, 1) := by decide +kernel
theorem dX12_end_8 : decode cX12_end 8 = .ok (.getfield 320, 3) := by decide +kernel
theorem dX12_end_11 : decode cX12_end 11 = .ok (.invokestatic 238, 3) := by decide +kernel
theorem dX12_end_14 : decode cX12_end 14 = .ok (.ifCond .ne 5, 3) := by decide +kernel
theorem dX12_end_17 : decode cX12_end 17 = .ok (.iconst (-1), 1) := by decide +kernel
theorem dX12_end_18 : decode cX12_end 18 = .ok (.ireturn, 1) := by decide +kernel
theorem dX12_end_19 : decode cX12_end 19 = .ok (.aload_n 0, 1) := by decide +kernel
theorem dX12_end_20 : decode cX12_end 20 = .ok (.iload_n 1, 1) := by decide +kernel
theorem dX12_end_21 : decode cX12_end 21 = .ok (.putfield 320, 3) := by decide +kernel
theorem dX12_end_24 : decode cX12_end 24 = .ok (.iload_n 1, 1) := by decide +kernel
theorem dX12_end_25 : decode cX12_end 25 = .ok (.ireturn, 1) := by decide +kernel
theorem dX12_byteAt_0 : decode cX12_byteAt 0 = .ok (.iload_n 1, 1) := by decide +kernel
theorem dX12_byteAt_1 : decode cX12_byteAt 1 = .ok (.aload_n 0, 1) := by decide +kernel
theorem dX12_byteAt_2 : decode cX12_byteAt 2 = .ok (.getfield 320, 3) := by decide +kernel
theorem dX12_byteAt_5 : decode cX12_byteAt 5 = .ok (.if_icmp .ge 16, 3) := by decide +kernel
theorem dX12_byteAt_8 : decode cX12_byteAt 8 = .ok (.aload_n 0, 1) := by decide +kernel
theorem dX12_byteAt_9 : decode cX12_byteAt 9 = .ok (.getfield 116, 3) := by decide +kernel
theorem dX12_byteAt_12 : decode cX12_byteAt 12 = .ok (.iload_n 1, 1) := by decide +kernel
theorem dX12_byteAt_13 : decode cX12_byteAt 13 = .ok (.baload, 1) := by decide +kernel
theorem dX12_byteAt_14 : decode cX12_byteAt 14 = .ok (.sipush 255, 3) := by decide +kernel
theorem dX12_byteAt_17 : decode cX12_byteAt 17 = .ok (.iand, 1) := by decide +kernel
theorem dX12_byteAt_18 : decode cX12_byteAt 18 = .ok (.goto 4, 3) := by decide +kernel
theorem dX12_byteAt_21 : decode cX12_byteAt 21 = .ok (.iconst 0, 1) := by decide +kernel
theorem dX12_byteAt_22 : decode cX12_byteAt 22 = .ok (.ireturn, 1) := by decide +kernel
theorem dX12_next_0 : decode cX12_next 0 = .ok (.aload_n 0, 1) := by decide +kernel
theorem dX12_next_1 : decode cX12_next 1 = .ok (.aload_n 0, 1) := by decide +kernel
theorem dX12_next_2 : decode cX12_next 2 = .ok (.getfield 323, 3) := by decide +kernel
theorem dX12_next_5 : decode cX12_next 5 = .ok (.putfield 326, 3) := by decide +kernel
theorem dX12_next_8 : decode cX12_next 8 = .ok (.aload_n 0, 1) := by decide +kernel
theorem dX12_next_9 : decode cX12_next 9 = .ok (.aload_n 0, 1) := by decide +kernel
theorem dX12_next_10 : decode cX12_next 10 = .ok (.getfield 326, 3) := by decide +kernel
theorem dX12_next_13 : decode cX12_next 13 = .ok (.invokevirtual 329, 3) := by decide +kernel
theorem dX12_next_16 : decode cX12_next 16 = .ok (.bipush 32, 2) := by decide +kernel
theorem dX12_next_18 : decode cX12_next 18 = .ok (.if_icmp .eq 16, 3) := by decide +kernel
theorem dX12_next_21 : decode cX12_next 21 = .ok (.aload_n 0, 1) := by decide +kernel
theorem dX12_next_22 : decode cX12_next 22 = .ok (.aload_n 0, 1) := by decide +kernel
theorem dX12_next_23 : decode cX12_next 23 = .ok (.getfield 326, 3) := by decide +kernel
theorem dX12_next_26 : decode cX12_next 26 = .ok (.invokevirtual 329, 3) := by decide +kernel
theorem dX12_next_29 : decode cX12_next 29 = .ok (.bipush 10, 2) := by decide +kernel
theorem dX12_next_31 : decode cX12_next 31 = .ok (.if_icmp .ne 16, 3) := by decide +kernel
theorem dX12_next_34 : decode cX12_next 34 = .ok (.aload_n 0, 1) := by decide +kernel
theorem dX12_next_35 : decode cX12_next 35 = .ok (.dup, 1) := by decide +kernel
theorem dX12_next_36 : decode cX12_next 36 = .ok (.getfield 326, 3) := by decide +kernel
theorem dX12_next_39 : decode cX12_next 39 = .ok (.iconst 1, 1) := by decide +kernel
theorem dX12_next_40 : decode cX12_next 40 = .ok (.iadd, 1) := by decide +kernel
theorem dX12_next_41 : decode cX12_next 41 = .ok (.putfield 326, 3) := by decide +kernel
theorem dX12_next_44 : decode cX12_next 44 = .ok (.goto (-36), 3) := by decide +kernel
theorem dX12_next_47 : decode cX12_next 47 = .ok (.aload_n 0, 1) := by decide +kernel
theorem dX12_next_48 : decode cX12_next 48 = .ok (.aload_n 0, 1) := by decide +kernel
theorem dX12_next_49 : decode cX12_next 49 = .ok (.getfield 326, 3) := by decide +kernel
theorem dX12_next_52 : decode cX12_next 52 = .ok (.putfield 323, 3) := by decide +kernel
theorem dX12_next_55 : decode cX12_next 55 = .ok (.aload_n 0, 1) := by decide +kernel
theorem dX12_next_56 : decode cX12_next 56 = .ok (.aload_n 0, 1) := by decide +kernel
theorem dX12_next_57 : decode cX12_next 57 = .ok (.getfield 326, 3) := by decide +kernel
theorem dX12_next_60 : decode cX12_next 60 = .ok (.invokevirtual 329, 3) := by decide +kernel
theorem dX12_next_63 : decode cX12_next 63 = .ok (.istore_n 1, 1) := by decide +kernel
theorem dX12_next_64 : decode cX12_next 64 = .ok (.aload_n 0, 1) := by decide +kernel
theorem dX12_next_65 : decode cX12_next 65 = .ok (.getfield 326, 3) := by decide +kernel
theorem dX12_next_68 : decode cX12_next 68 = .ok (.aload_n 0, 1) := by decide +kernel
theorem dX12_next_69 : decode cX12_next 69 = .ok (.getfield 320, 3) := by decide +kernel
theorem dX12_next_72 : decode cX12_next 72 = .ok (.if_icmp .lt 11, 3) := by decide +kernel
theorem dX12_next_75 : decode cX12_next 75 = .ok (.aload_n 0, 1) := by decide +kernel
theorem dX12_next_76 : decode cX12_next 76 = .ok (.iconst 0, 1) := by decide +kernel
theorem dX12_next_77 : decode cX12_next 77 = .ok (.putfield 332, 3) := by decide +kernel
theorem dX12_next_80 : decode cX12_next 80 = .ok (.goto 204, 3) := by decide +kernel
theorem dX12_next_83 : decode cX12_next 83 = .ok (.iload_n 1, 1) := by decide +kernel
theorem dX12_next_84 : decode cX12_next 84 = .ok (.bipush 97, 2) := by decide +kernel
theorem dX12_next_86 : decode cX12_next 86 = .ok (.bipush 122, 2) := by decide +kernel
theorem dX12_next_88 : decode cX12_next 88 = .ok (.invokestatic 238, 3) := by decide +kernel
theorem dX12_next_91 : decode cX12_next 91 = .ok (.ifCond .eq 42, 3) := by decide +kernel
theorem dX12_next_94 : decode cX12_next 94 = .ok (.aload_n 0, 1) := by decide +kernel
theorem dX12_next_95 : decode cX12_next 95 = .ok (.aload_n 0, 1) := by decide +kernel
theorem dX12_next_96 : decode cX12_next 96 = .ok (.getfield 323, 3) := by decide +kernel
theorem dX12_next_99 : decode cX12_next 99 = .ok (.invokevirtual 329, 3) := by decide +kernel
theorem dX12_next_102 : decode cX12_next 102 = .ok (.bipush 97, 2) := by decide +kernel
theorem dX12_next_104 : decode cX12_next 104 = .ok (.bipush 122, 2) := by decide +kernel
theorem dX12_next_106 : decode cX12_next 106 = .ok (.invokestatic 238, 3) := by decide +kernel
theorem dX12_next_109 : decode cX12_next 109 = .ok (.ifCond .eq 16, 3) := by decide +kernel
theorem dX12_next_112 : decode cX12_next 112 = .ok (.aload_n 0, 1) := by decide +kernel
theorem dX12_next_113 : decode cX12_next 113 = .ok (.dup, 1) := by decide +kernel
theorem dX12_next_114 : decode cX12_next 114 = .ok (.getfield 323, 3) := by decide +kernel
theorem dX12_next_117 : decode cX12_next 117 = .ok (.iconst 1, 1) := by decide +kernel
theorem dX12_next_118 : decode cX12_next 118 = .ok (.iadd, 1) := by decide +kernel
theorem dX12_next_119 : decode cX12_next 119 = .ok (.putfield 323, 3) := by decide +kernel
theorem dX12_next_122 : decode cX12_next 122 = .ok (.goto (-28), 3) := by decide +kernel
theorem dX12_next_125 : decode cX12_next 125 = .ok (.aload_n 0, 1) := by decide +kernel
theorem dX12_next_126 : decode cX12_next 126 = .ok (.iconst 1, 1) := by decide +kernel
theorem dX12_next_127 : decode cX12_next 127 = .ok (.putfield 332, 3) := by decide +kernel
theorem dX12_next_130 : decode cX12_next 130 = .ok (.goto 154, 3) := by decide +kernel
theorem dX12_next_133 : decode cX12_next 133 = .ok (.iload_n 1, 1) := by decide +kernel
theorem dX12_next_134 : decode cX12_next 134 = .ok (.bipush 48, 2) := by decide +kernel
theorem dX12_next_136 : decode cX12_next 136 = .ok (.bipush 57, 2) := by decide +kernel
theorem dX12_next_138 : decode cX12_next 138 = .ok (.invokestatic 238, 3) := by decide +kernel
theorem dX12_next_141 : decode cX12_next 141 = .ok (.ifCond .eq 100, 3) := by decide +kernel
theorem dX12_next_144 : decode cX12_next 144 = .ok (.aload_n 0, 1) := by decide +kernel
theorem dX12_next_145 : decode cX12_next 145 = .ok (.iconst 0, 1) := by decide +kernel
theorem dX12_next_146 : decode cX12_next 146 = .ok (.putfield 335, 3) := by decide +kernel
theorem dX12_next_149 : decode cX12_next 149 = .ok (.aload_n 0, 1) := by decide +kernel
theorem dX12_next_150 : decode cX12_next 150 = .ok (.aload_n 0, 1) := by decide +kernel
theorem dX12_next_151 : decode cX12_next 151 = .ok (.getfield 323, 3) := by decide +kernel
theorem dX12_next_154 : decode cX12_next 154 = .ok (.invokevirtual 329, 3) := by decide +kernel
theorem dX12_next_157 : decode cX12_next 157 = .ok (.bipush 48, 2) := by decide +kernel
theorem dX12_next_159 : decode cX12_next 159 = .ok (.bipush 57, 2) := by decide +kernel
theorem dX12_next_161 : decode cX12_next 161 = .ok (.invokestatic 238, 3) := by decide +kernel
theorem dX12_next_164 : decode cX12_next 164 = .ok (.ifCond .eq 52, 3) := by decide +kernel
theorem dX12_next_167 : decode cX12_next 167 = .ok (.aload_n 0, 1) := by decide +kernel
theorem dX12_next_168 : decode cX12_next 168 = .ok (.getfield 323, 3) := by decide +kernel
theorem dX12_next_171 : decode cX12_next 171 = .ok (.aload_n 0, 1) := by decide +kernel
theorem dX12_next_172 : decode cX12_next 172 = .ok (.getfield 326, 3) := by decide +kernel
theorem dX12_next_175 : decode cX12_next 175 = .ok (.isub, 1) := by decide +kernel
theorem dX12_next_176 : decode cX12_next 176 = .ok (.iconst 4, 1) := by decide +kernel
theorem dX12_next_177 : decode cX12_next 177 = .ok (.if_icmp .ge 26, 3) := by decide +kernel
theorem dX12_next_180 : decode cX12_next 180 = .ok (.aload_n 0, 1) := by decide +kernel
theorem dX12_next_181 : decode cX12_next 181 = .ok (.bipush 10, 2) := by decide +kernel
theorem dX12_next_183 : decode cX12_next 183 = .ok (.aload_n 0, 1) := by decide +kernel
theorem dX12_next_184 : decode cX12_next 184 = .ok (.getfield 335, 3) := by decide +kernel
theorem dX12_next_187 : decode cX12_next 187 = .ok (.imul, 1) := by decide +kernel
theorem dX12_next_188 : decode cX12_next 188 = .ok (.aload_n 0, 1) := by decide +kernel
theorem dX12_next_189 : decode cX12_next 189 = .ok (.aload_n 0, 1) := by decide +kernel
theorem dX12_next_190 : decode cX12_next 190 = .ok (.getfield 323, 3) := by decide +kernel
theorem dX12_next_193 : decode cX12_next 193 = .ok (.invokevirtual 329, 3) := by decide +kernel
theorem dX12_next_196 : decode cX12_next 196 = .ok (.iadd, 1) := by decide +kernel
theorem dX12_next_197 : decode cX12_next 197 = .ok (.bipush 48, 2) := by decide +kernel
theorem dX12_next_199 : decode cX12_next 199 = .ok (.isub, 1) := by decide +kernel
theorem dX12_next_200 : decode cX12_next 200 = .ok (.putfield 335, 3) := by decide +kernel
theorem dX12_next_203 : decode cX12_next 203 = .ok (.aload_n 0, 1) := by decide +kernel
theorem dX12_next_204 : decode cX12_next 204 = .ok (.dup, 1) := by decide +kernel
theorem dX12_next_205 : decode cX12_next 205 = .ok (.getfield 323, 3) := by decide +kernel
theorem dX12_next_208 : decode cX12_next 208 = .ok (.iconst 1, 1) := by decide +kernel
theorem dX12_next_209 : decode cX12_next 209 = .ok (.iadd, 1) := by decide +kernel
theorem dX12_next_210 : decode cX12_next 210 = .ok (.putfield 323, 3) := by decide +kernel
theorem dX12_next_213 : decode cX12_next 213 = .ok (.goto (-64), 3) := by decide +kernel
theorem dX12_next_216 : decode cX12_next 216 = .ok (.aload_n 0, 1) := by decide +kernel
theorem dX12_next_217 : decode cX12_next 217 = .ok (.aload_n 0, 1) := by decide +kernel
theorem dX12_next_218 : decode cX12_next 218 = .ok (.getfield 323, 3) := by decide +kernel
theorem dX12_next_221 : decode cX12_next 221 = .ok (.aload_n 0, 1) := by decide +kernel
theorem dX12_next_222 : decode cX12_next 222 = .ok (.getfield 326, 3) := by decide +kernel
theorem dX12_next_225 : decode cX12_next 225 = .ok (.isub, 1) := by decide +kernel
theorem dX12_next_226 : decode cX12_next 226 = .ok (.iconst 4, 1) := by decide +kernel
theorem dX12_next_227 : decode cX12_next 227 = .ok (.if_icmp .le 7, 3) := by decide +kernel
theorem dX12_next_230 : decode cX12_next 230 = .ok (.iconst 4, 1) := by decide +kernel
theorem dX12_next_231 : decode cX12_next 231 = .ok (.goto 4, 3) := by decide +kernel
theorem dX12_next_234 : decode cX12_next 234 = .ok (.iconst 2, 1) := by decide +kernel
theorem dX12_next_235 : decode cX12_next 235 = .ok (.putfield 332, 3) := by decide +kernel
theorem dX12_next_238 : decode cX12_next 238 = .ok (.goto 46, 3) := by decide +kernel
theorem dX12_next_241 : decode cX12_next 241 = .ok (.aload_n 0, 1) := by decide +kernel
theorem dX12_next_242 : decode cX12_next 242 = .ok (.dup, 1) := by decide +kernel
theorem dX12_next_243 : decode cX12_next 243 = .ok (.getfield 323, 3) := by decide +kernel
theorem dX12_next_246 : decode cX12_next 246 = .ok (.iconst 1, 1) := by decide +kernel
theorem dX12_next_247 : decode cX12_next 247 = .ok (.iadd, 1) := by decide +kernel
theorem dX12_next_248 : decode cX12_next 248 = .ok (.putfield 323, 3) := by decide +kernel
theorem dX12_next_251 : decode cX12_next 251 = .ok (.aload_n 0, 1) := by decide +kernel
theorem dX12_next_252 : decode cX12_next 252 = .ok (.iload_n 1, 1) := by decide +kernel
theorem dX12_next_253 : decode cX12_next 253 = .ok (.bipush 59, 2) := by decide +kernel
theorem dX12_next_255 : decode cX12_next 255 = .ok (.if_icmp .eq 21, 3) := by decide +kernel
theorem dX12_next_258 : decode cX12_next 258 = .ok (.iload_n 1, 1) := by decide +kernel
theorem dX12_next_259 : decode cX12_next 259 = .ok (.bipush 60, 2) := by decide +kernel
theorem dX12_next_261 : decode cX12_next 261 = .ok (.if_icmp .eq 15, 3) := by decide +kernel
theorem dX12_next_264 : decode cX12_next 264 = .ok (.iload_n 1, 1) := by decide +kernel
theorem dX12_next_265 : decode cX12_next 265 = .ok (.bipush 61, 2) := by decide +kernel
theorem dX12_next_267 : decode cX12_next 267 = .ok (.if_icmp .eq 9, 3) := by decide +kernel
theorem dX12_next_270 : decode cX12_next 270 = .ok (.iload_n 1, 1) := by decide +kernel
theorem dX12_next_271 : decode cX12_next 271 = .ok (.bipush 62, 2) := by decide +kernel
theorem dX12_next_273 : decode cX12_next 273 = .ok (.if_icmp .ne 7, 3) := by decide +kernel
theorem dX12_next_276 : decode cX12_next 276 = .ok (.iconst 3, 1) := by decide +kernel
theorem dX12_next_277 : decode cX12_next 277 = .ok (.goto 4, 3) := by decide +kernel
theorem dX12_next_280 : decode cX12_next 280 = .ok (.iconst 4, 1) := by decide +kernel
theorem dX12_next_281 : decode cX12_next 281 = .ok (.putfield 332, 3) := by decide +kernel
theorem dX12_next_284 : decode cX12_next 284 = .ok (.return_, 1) := by decide +kernel
theorem dX12_isWord_0 : decode cX12_isWord 0 = .ok (.aload_n 0, 1) := by decide +kernel
theorem dX12_isWord_1 : decode cX12_isWord 1 = .ok (.getfield 332, 3) := by decide +kernel
theorem dX12_isWord_4 : decode cX12_isWord 4 = .ok (.iconst 1, 1) := by decide +kernel
theorem dX12_isWord_5 : decode cX12_isWord 5 = .ok (.if_icmp .ne 23, 3) := by decide +kernel
theorem dX12_isWord_8 : decode cX12_isWord 8 = .ok (.aload_n 0, 1) := by decide +kernel
theorem dX12_isWord_9 : decode cX12_isWord 9 = .ok (.getfield 323, 3) := by decide +kernel
theorem dX12_isWord_12 : decode cX12_isWord 12 = .ok (.aload_n 0, 1) := by decide +kernel
theorem dX12_isWord_13 : decode cX12_isWord 13 = .ok (.getfield 326, 3) := by decide +kernel
theorem dX12_isWord_16 : decode cX12_isWord 16 = .ok (.isub, 1) := by decide +kernel
theorem dX12_isWord_17 : decode cX12_isWord 17 = .ok (.aload_n 1, 1) := by decide +kernel
theorem dX12_isWord_18 : decode cX12_isWord 18 = .ok (.invokevirtual 338, 3) := by decide +kernel
theorem dX12_isWord_21 : decode cX12_isWord 21 = .ok (.if_icmp .ne 7, 3) := by decide +kernel
theorem dX12_isWord_24 : decode cX12_isWord 24 = .ok (.iconst 1, 1) := by decide +kernel
theorem dX12_isWord_25 : decode cX12_isWord 25 = .ok (.goto 4, 3) := by decide +kernel
theorem dX12_isWord_28 : decode cX12_isWord 28 = .ok (.iconst 0, 1) := by decide +kernel
theorem dX12_isWord_29 : decode cX12_isWord 29 = .ok (.istore_n 2, 1) := by decide +kernel
theorem dX12_isWord_30 : decode cX12_isWord 30 = .ok (.iconst 0, 1) := by decide +kernel
theorem dX12_isWord_31 : decode cX12_isWord 31 = .ok (.istore_n 3, 1) := by decide +kernel
theorem dX12_isWord_32 : decode cX12_isWord 32 = .ok (.iload_n 3, 1) := by decide +kernel
theorem dX12_isWord_33 : decode cX12_isWord 33 = .ok (.aload_n 1, 1) := by decide +kernel
theorem dX12_isWord_34 : decode cX12_isWord 34 = .ok (.invokevirtual 338, 3) := by decide +kernel
theorem dX12_isWord_37 : decode cX12_isWord 37 = .ok (.if_icmp .ge 37, 3) := by decide +kernel
theorem dX12_isWord_40 : decode cX12_isWord 40 = .ok (.iload_n 2, 1) := by decide +kernel
theorem dX12_isWord_41 : decode cX12_isWord 41 = .ok (.ifCond .eq 33, 3) := by decide +kernel
theorem dX12_isWord_44 : decode cX12_isWord 44 = .ok (.aload_n 0, 1) := by decide +kernel
theorem dX12_isWord_45 : decode cX12_isWord 45 = .ok (.aload_n 0, 1) := by decide +kernel
theorem dX12_isWord_46 : decode cX12_isWord 46 = .ok (.getfield 326, 3) := by decide +kernel
theorem dX12_isWord_49 : decode cX12_isWord 49 = .ok (.iload_n 3, 1) := by decide +kernel
theorem dX12_isWord_50 : decode cX12_isWord 50 = .ok (.iadd, 1) := by decide +kernel
theorem dX12_isWord_51 : decode cX12_isWord 51 = .ok (.invokevirtual 329, 3) := by decide +kernel
theorem dX12_isWord_54 : decode cX12_isWord 54 = .ok (.aload_n 1, 1) := by decide +kernel
theorem dX12_isWord_55 : decode cX12_isWord 55 = .ok (.iload_n 3, 1) := by decide +kernel
theorem dX12_isWord_56 : decode cX12_isWord 56 = .ok (.invokevirtual 344, 3) := by decide +kernel
theorem dX12_isWord_59 : decode cX12_isWord 59 = .ok (.if_icmp .ne 7, 3) := by decide +kernel
theorem dX12_isWord_62 : decode cX12_isWord 62 = .ok (.iconst 1, 1) := by decide +kernel
theorem dX12_isWord_63 : decode cX12_isWord 63 = .ok (.goto 4, 3) := by decide +kernel
theorem dX12_isWord_66 : decode cX12_isWord 66 = .ok (.iconst 0, 1) := by decide +kernel
theorem dX12_isWord_67 : decode cX12_isWord 67 = .ok (.istore_n 2, 1) := by decide +kernel
theorem dX12_isWord_68 : decode cX12_isWord 68 = .ok (.iinc 3 1, 3) := by decide +kernel
theorem dX12_isWord_71 : decode cX12_isWord 71 = .ok (.goto (-39), 3) := by decide +kernel
theorem dX12_isWord_74 : decode cX12_isWord 74 = .ok (.iload_n 2, 1) := by decide +kernel
theorem dX12_isWord_75 : decode cX12_isWord 75 = .ok (.ireturn, 1) := by decide +kernel
theorem dX12_signHere_0 : decode cX12_signHere 0 = .ok (.aload_n 0, 1) := by decide +kernel
theorem dX12_signHere_1 : decode cX12_signHere 1 = .ok (.getfield 332, 3) := by decide +kernel
theorem dX12_signHere_4 : decode cX12_signHere 4 = .ok (.iconst 3, 1) := by decide +kernel
theorem dX12_signHere_5 : decode cX12_signHere 5 = .ok (.if_icmp .eq 5, 3) := by decide +kernel
theorem dX12_signHere_8 : decode cX12_signHere 8 = .ok (.iconst (-1), 1) := by decide +kernel
theorem dX12_signHere_9 : decode cX12_signHere 9 = .ok (.ireturn, 1) := by decide +kernel
theorem dX12_signHere_10 : decode cX12_signHere 10 = .ok (.aload_n 0, 1) := by decide +kernel
theorem dX12_signHere_11 : decode cX12_signHere 11 = .ok (.aload_n 0, 1) := by decide +kernel
theorem dX12_signHere_12 : decode cX12_signHere 12 = .ok (.getfield 326, 3) := by decide +kernel
theorem dX12_signHere_15 : decode cX12_signHere 15 = .ok (.invokevirtual 329, 3) := by decide +kernel
theorem dX12_signHere_18 : decode cX12_signHere 18 = .ok (.istore_n 1, 1) := by decide +kernel
theorem dX12_signHere_19 : decode cX12_signHere 19 = .ok (.iload_n 1, 1) := by decide +kernel
theorem dX12_signHere_20 : decode cX12_signHere 20 = .ok (.bipush 60, 2) := by decide +kernel
theorem dX12_signHere_22 : decode cX12_signHere 22 = .ok (.if_icmp .ne 7, 3) := by decide +kernel
theorem dX12_signHere_25 : decode cX12_signHere 25 = .ok (.iconst 0, 1) := by decide +kernel
theorem dX12_signHere_26 : decode cX12_signHere 26 = .ok (.goto 24, 3) := by decide +kernel
theorem dX12_signHere_29 : decode cX12_signHere 29 = .ok (.iload_n 1, 1) := by decide +kernel
theorem dX12_signHere_30 : decode cX12_signHere 30 = .ok (.bipush 61, 2) := by decide +kernel
theorem dX12_signHere_32 : decode cX12_signHere 32 = .ok (.if_icmp .ne 7, 3) := by decide +kernel
theorem dX12_signHere_35 : decode cX12_signHere 35 = .ok (.iconst 1, 1) := by decide +kernel
theorem dX12_signHere_36 : decode cX12_signHere 36 = .ok (.goto 14, 3) := by decide +kernel
theorem dX12_signHere_39 : decode cX12_signHere 39 = .ok (.iload_n 1, 1) := by decide +kernel
theorem dX12_signHere_40 : decode cX12_signHere 40 = .ok (.bipush 62, 2) := by decide +kernel
theorem dX12_signHere_42 : decode cX12_signHere 42 = .ok (.if_icmp .ne 7, 3) := by decide +kernel
theorem dX12_signHere_45 : decode cX12_signHere 45 = .ok (.iconst 2, 1) := by decide +kernel
theorem dX12_signHere_46 : decode cX12_signHere 46 = .ok (.goto 4, 3) := by decide +kernel
theorem dX12_signHere_49 : decode cX12_signHere 49 = .ok (.iconst 3, 1) := by decide +kernel
theorem dX12_signHere_50 : decode cX12_signHere 50 = .ok (.ireturn, 1) := by decide +kernel
theorem dX12_wrong_0 : decode cX12_wrong 0 = .ok (.aload_n 0, 1) := by decide +kernel
theorem dX12_wrong_1 : decode cX12_wrong 1 = .ok (.getfield 348, 3) := by decide +kernel
theorem dX12_wrong_4 : decode cX12_wrong 4 = .ok (.ifCond .ne 16, 3) := by decide +kernel
theorem dX12_wrong_7 : decode cX12_wrong 7 = .ok (.aload_n 0, 1) := by decide +kernel
theorem dX12_wrong_8 : decode cX12_wrong 8 = .ok (.iload_n 1, 1) := by decide +kernel
theorem dX12_wrong_9 : decode cX12_wrong 9 = .ok (.putfield 348, 3) := by decide +kernel
theorem dX12_wrong_12 : decode cX12_wrong 12 = .ok (.aload_n 0, 1) := by decide +kernel
theorem dX12_wrong_13 : decode cX12_wrong 13 = .ok (.aload_n 0, 1) := by decide +kernel
theorem dX12_wrong_14 : decode cX12_wrong 14 = .ok (.getfield 326, 3) := by decide +kernel
theorem dX12_wrong_17 : decode cX12_wrong 17 = .ok (.putfield 120, 3) := by decide +kernel
theorem dX12_wrong_20 : decode cX12_wrong 20 = .ok (.iconst 0, 1) := by decide +kernel
theorem dX12_wrong_21 : decode cX12_wrong 21 = .ok (.ireturn, 1) := by decide +kernel
theorem dX12_factWord_0 : decode cX12_factWord 0 = .ok (.iload_n 0, 1) := by decide +kernel
theorem dX12_factWord_1 : decode cX12_factWord 1 = .ok (.tableswitch 111 0 11 #[63, 67, 71, 75, 79, 83, 87, 91, 95, 99, 103, 107], 63) := by decide +kernel
theorem dX12_factWord_64 : decode cX12_factWord 64 = .ok (.ldc_w 351, 3) := by decide +kernel
theorem dX12_factWord_67 : decode cX12_factWord 67 = .ok (.areturn, 1) := by decide +kernel
theorem dX12_factWord_68 : decode cX12_factWord 68 = .ok (.ldc_w 353, 3) := by decide +kernel
theorem dX12_factWord_71 : decode cX12_factWord 71 = .ok (.areturn, 1) := by decide +kernel
theorem dX12_factWord_72 : decode cX12_factWord 72 = .ok (.ldc_w 354, 3) := by decide +kernel
theorem dX12_factWord_75 : decode cX12_factWord 75 = .ok (.areturn, 1) := by decide +kernel
theorem dX12_factWord_76 : decode cX12_factWord 76 = .ok (.ldc_w 356, 3) := by decide +kernel
theorem dX12_factWord_79 : decode cX12_factWord 79 = .ok (.areturn, 1) := by decide +kernel
theorem dX12_factWord_80 : decode cX12_factWord 80 = .ok (.ldc_w 358, 3) := by decide +kernel
theorem dX12_factWord_83 : decode cX12_factWord 83 = .ok (.areturn, 1) := by decide +kernel
theorem dX12_factWord_84 : decode cX12_factWord 84 = .ok (.ldc_w 360, 3) := by decide +kernel
theorem dX12_factWord_87 : decode cX12_factWord 87 = .ok (.areturn, 1) := by decide +kernel
theorem dX12_factWord_88 : decode cX12_factWord 88 = .ok (.ldc_w 362, 3) := by decide +kernel
theorem dX12_factWord_91 : decode cX12_factWord 91 = .ok (.areturn, 1) := by decide +kernel
theorem dX12_factWord_92 : decode cX12_factWord 92 = .ok (.ldc_w 364, 3) := by decide +kernel
theorem dX12_factWord_95 : decode cX12_factWord 95 = .ok (.areturn, 1) := by decide +kernel
theorem dX12_factWord_96 : decode cX12_factWord 96 = .ok (.ldc_w 366, 3) := by decide +kernel
theorem dX12_factWord_99 : decode cX12_factWord 99 = .ok (.areturn, 1) := by decide +kernel
theorem dX12_factWord_100 : decode cX12_factWord 100 = .ok (.ldc_w 368, 3) := by decide +kernel
theorem dX12_factWord_103 : decode cX12_factWord 103 = .ok (.areturn, 1) := by decide +kernel
theorem dX12_factWord_104 : decode cX12_factWord 104 = .ok (.ldc_w 370, 3) := by decide +kernel
theorem dX12_factWord_107 : decode cX12_factWord 107 = .ok (.areturn, 1) := by decide +kernel
theorem dX12_factWord_108 : decode cX12_factWord 108 = .ok (.ldc_w 371, 3) := by decide +kernel
theorem dX12_factWord_111 : decode cX12_factWord 111 = .ok (.areturn, 1) := by decide +kernel
theorem dX12_factWord_112 : decode cX12_factWord 112 = .ok (.ldc_w 373, 3) := by decide +kernel
theorem dX12_factWord_115 : decode cX12_factWord 115 = .ok (.areturn, 1) := by decide +kernel
theorem dX12_factHere_0 : decode cX12_factHere 0 = .ok (.iconst 0, 1) := by decide +kernel
theorem dX12_factHere_1 : decode cX12_factHere 1 = .ok (.istore_n 1, 1) := by decide +kernel
theorem dX12_factHere_2 : decode cX12_factHere 2 = .ok (.iload_n 1, 1) := by decide +kernel
theorem dX12_factHere_3 : decode cX12_factHere 3 = .ok (.bipush 13, 2) := by decide +kernel
theorem dX12_factHere_5 : decode cX12_factHere 5 = .ok (.if_icmp .ge 22, 3) := by decide +kernel
theorem dX12_factHere_8 : decode cX12_factHere 8 = .ok (.aload_n 0, 1) := by decide +kernel
theorem dX12_factHere_9 : decode cX12_factHere 9 = .ok (.iload_n 1, 1) := by decide +kernel
theorem dX12_factHere_10 : decode cX12_factHere 10 = .ok (.invokestatic 375, 3) := by decide +kernel
theorem dX12_factHere_13 : decode cX12_factHere 13 = .ok (.invokevirtual 379, 3) := by decide +kernel
theorem dX12_factHere_16 : decode cX12_factHere 16 = .ok (.ifCond .eq 5, 3) := by decide +kernel
theorem dX12_factHere_19 : decode cX12_factHere 19 = .ok (.iload_n 1, 1) := by decide +kernel
theorem dX12_factHere_20 : decode cX12_factHere 20 = .ok (.ireturn, 1) := by decide +kernel
theorem dX12_factHere_21 : decode cX12_factHere 21 = .ok (.iinc 1 1, 3) := by decide +kernel
theorem dX12_factHere_24 : decode cX12_factHere 24 = .ok (.goto (-22), 3) := by decide +kernel
theorem dX12_factHere_27 : decode cX12_factHere 27 = .ok (.iconst (-1), 1) := by decide +kernel
theorem dX12_factHere_28 : decode cX12_factHere 28 = .ok (.ireturn, 1) := by decide +kernel
theorem dX12_takesCond_0 : decode cX12_takesCond 0 = .ok (.aload_n 0, 1) := by decide +kernel
theorem dX12_takesCond_1 : decode cX12_takesCond 1 = .ok (.getfield 100, 3) := by decide +kernel
theorem dX12_takesCond_4 : decode cX12_takesCond 4 = .ok (.iload_n 1, 1) := by decide +kernel
theorem dX12_takesCond_5 : decode cX12_takesCond 5 = .ok (.iconst 0, 1) := by decide +kernel
theorem dX12_takesCond_6 : decode cX12_takesCond 6 = .ok (.iastore, 1) := by decide +kernel
theorem dX12_takesCond_7 : decode cX12_takesCond 7 = .ok (.iconst 1, 1) := by decide +kernel
theorem dX12_takesCond_8 : decode cX12_takesCond 8 = .ok (.istore_n 2, 1) := by decide +kernel
theorem dX12_takesCond_9 : decode cX12_takesCond 9 = .ok (.iload_n 2, 1) := by decide +kernel
theorem dX12_takesCond_10 : decode cX12_takesCond 10 = .ok (.ifCond .eq 201, 3) := by decide +kernel
theorem dX12_takesCond_13 : decode cX12_takesCond 13 = .ok (.aload_n 0, 1) := by decide +kernel
theorem dX12_takesCond_14 : decode cX12_takesCond 14 = .ok (.ldc_w 383, 3) := by decide +kernel
theorem dX12_takesCond_17 : decode cX12_takesCond 17 = .ok (.invokevirtual 379, 3) := by decide +kernel
theorem dX12_takesCond_20 : decode cX12_takesCond 20 = .ok (.ifCond .ne 17, 3) := by decide +kernel
theorem dX12_takesCond_23 : decode cX12_takesCond 23 = .ok (.aload_n 0, 1) := by decide +kernel
theorem dX12_takesCond_24 : decode cX12_takesCond 24 = .ok (.invokevirtual 385, 3) := by decide +kernel
theorem dX12_takesCond_27 : decode cX12_takesCond 27 = .ok (.iconst (-1), 1) := by decide +kernel
theorem dX12_takesCond_28 : decode cX12_takesCond 28 = .ok (.if_icmp .ne 9, 3) := by decide +kernel
theorem dX12_takesCond_31 : decode cX12_takesCond 31 = .ok (.aload_n 0, 1) := by decide +kernel
theorem dX12_takesCond_32 : decode cX12_takesCond 32 = .ok (.iconst 1, 1) := by decide +kernel
theorem dX12_takesCond_33 : decode cX12_takesCond 33 = .ok (.invokevirtual 388, 3) := by decide +kernel
theorem dX12_takesCond_36 : decode cX12_takesCond 36 = .ok (.ireturn, 1) := by decide +kernel
theorem dX12_takesCond_37 : decode cX12_takesCond 37 = .ok (.aload_n 0, 1) := by decide +kernel
theorem dX12_takesCond_38 : decode cX12_takesCond 38 = .ok (.getfield 100, 3) := by decide +kernel
theorem dX12_takesCond_41 : decode cX12_takesCond 41 = .ok (.iload_n 1, 1) := by decide +kernel
theorem dX12_takesCond_42 : decode cX12_takesCond 42 = .ok (.iaload, 1) := by decide +kernel
theorem dX12_takesCond_43 : decode cX12_takesCond 43 = .ok (.iconst 5, 1) := by decide +kernel
theorem dX12_takesCond_44 : decode cX12_takesCond 44 = .ok (.if_icmp .ne 9, 3) := by decide +kernel
theorem dX12_takesCond_47 : decode cX12_takesCond 47 = .ok (.aload_n 0, 1) := by decide +kernel
theorem dX12_takesCond_48 : decode cX12_takesCond 48 = .ok (.iconst 2, 1) := by decide +kernel
theorem dX12_takesCond_49 : decode cX12_takesCond 49 = .ok (.invokevirtual 388, 3) := by decide +kernel
theorem dX12_takesCond_52 : decode cX12_takesCond 52 = .ok (.ireturn, 1) := by decide +kernel
theorem dX12_takesCond_53 : decode cX12_takesCond 53 = .ok (.iconst 5, 1) := by decide +kernel
theorem dX12_takesCond_54 : decode cX12_takesCond 54 = .ok (.iload_n 1, 1) := by decide +kernel
theorem dX12_takesCond_55 : decode cX12_takesCond 55 = .ok (.imul, 1) := by decide +kernel
theorem dX12_takesCond_56 : decode cX12_takesCond 56 = .ok (.aload_n 0, 1) := by decide +kernel
theorem dX12_takesCond_57 : decode cX12_takesCond 57 = .ok (.getfield 100, 3) := by decide +kernel
theorem dX12_takesCond_60 : decode cX12_takesCond 60 = .ok (.iload_n 1, 1) := by decide +kernel
theorem dX12_takesCond_61 : decode cX12_takesCond 61 = .ok (.iaload, 1) := by decide +kernel
theorem dX12_takesCond_62 : decode cX12_takesCond 62 = .ok (.iadd, 1) := by decide +kernel
theorem dX12_takesCond_63 : decode cX12_takesCond 63 = .ok (.istore_n 3, 1) := by decide +kernel
theorem dX12_takesCond_64 : decode cX12_takesCond 64 = .ok (.aload_n 0, 1) := by decide +kernel
theorem dX12_takesCond_65 : decode cX12_takesCond 65 = .ok (.getfield 103, 3) := by decide +kernel
theorem dX12_takesCond_68 : decode cX12_takesCond 68 = .ok (.iload_n 3, 1) := by decide +kernel
theorem dX12_takesCond_69 : decode cX12_takesCond 69 = .ok (.aload_n 0, 1) := by decide +kernel
theorem dX12_takesCond_70 : decode cX12_takesCond 70 = .ok (.ldc_w 383, 3) := by decide +kernel
theorem dX12_takesCond_73 : decode cX12_takesCond 73 = .ok (.invokevirtual 379, 3) := by decide +kernel
theorem dX12_takesCond_76 : decode cX12_takesCond 76 = .ok (.bastore, 1) := by decide +kernel
theorem dX12_takesCond_77 : decode cX12_takesCond 77 = .ok (.aload_n 0, 1) := by decide +kernel
theorem dX12_takesCond_78 : decode cX12_takesCond 78 = .ok (.getfield 103, 3) := by decide +kernel
theorem dX12_takesCond_81 : decode cX12_takesCond 81 = .ok (.iload_n 3, 1) := by decide +kernel
theorem dX12_takesCond_82 : decode cX12_takesCond 82 = .ok (.baload, 1) := by decide +kernel
theorem dX12_takesCond_83 : decode cX12_takesCond 83 = .ok (.ifCond .eq 7, 3) := by decide +kernel
theorem dX12_takesCond_86 : decode cX12_takesCond 86 = .ok (.aload_n 0, 1) := by decide +kernel
theorem dX12_takesCond_87 : decode cX12_takesCond 87 = .ok (.invokevirtual 391, 3) := by decide +kernel
theorem dX12_takesCond_90 : decode cX12_takesCond 90 = .ok (.aload_n 0, 1) := by decide +kernel
theorem dX12_takesCond_91 : decode cX12_takesCond 91 = .ok (.getfield 107, 3) := by decide +kernel
theorem dX12_takesCond_94 : decode cX12_takesCond 94 = .ok (.iload_n 3, 1) := by decide +kernel
theorem dX12_takesCond_95 : decode cX12_takesCond 95 = .ok (.aload_n 0, 1) := by decide +kernel
theorem dX12_takesCond_96 : decode cX12_takesCond 96 = .ok (.invokevirtual 385, 3) := by decide +kernel
theorem dX12_takesCond_99 : decode cX12_takesCond 99 = .ok (.iastore, 1) := by decide +kernel
theorem dX12_takesCond_100 : decode cX12_takesCond 100 = .ok (.aload_n 0, 1) := by decide +kernel
theorem dX12_takesCond_101 : decode cX12_takesCond 101 = .ok (.getfield 107, 3) := by decide +kernel
theorem dX12_takesCond_104 : decode cX12_takesCond 104 = .ok (.iload_n 3, 1) := by decide +kernel
theorem dX12_takesCond_105 : decode cX12_takesCond 105 = .ok (.iaload, 1) := by decide +kernel
theorem dX12_takesCond_106 : decode cX12_takesCond 106 = .ok (.iconst (-1), 1) := by decide +kernel
theorem dX12_takesCond_107 : decode cX12_takesCond 107 = .ok (.if_icmp .ne 9, 3) := by decide +kernel
theorem dX12_takesCond_110 : decode cX12_takesCond 110 = .ok (.aload_n 0, 1) := by decide +kernel
theorem dX12_takesCond_111 : decode cX12_takesCond 111 = .ok (.iconst 1, 1) := by decide +kernel
theorem dX12_takesCond_112 : decode cX12_takesCond 112 = .ok (.invokevirtual 388, 3) := by decide +kernel
theorem dX12_takesCond_115 : decode cX12_takesCond 115 = .ok (.ireturn, 1) := by decide +kernel
theorem dX12_takesCond_116 : decode cX12_takesCond 116 = .ok (.aload_n 0, 1) := by decide +kernel
theorem dX12_takesCond_117 : decode cX12_takesCond 117 = .ok (.invokevirtual 391, 3) := by decide +kernel
theorem dX12_takesCond_120 : decode cX12_takesCond 120 = .ok (.aload_n 0, 1) := by decide +kernel
theorem dX12_takesCond_121 : decode cX12_takesCond 121 = .ok (.getfield 110, 3) := by decide +kernel
theorem dX12_takesCond_124 : decode cX12_takesCond 124 = .ok (.iload_n 3, 1) := by decide +kernel
theorem dX12_takesCond_125 : decode cX12_takesCond 125 = .ok (.aload_n 0, 1) := by decide +kernel
theorem dX12_takesCond_126 : decode cX12_takesCond 126 = .ok (.invokevirtual 394, 3) := by decide +kernel
theorem dX12_takesCond_129 : decode cX12_takesCond 129 = .ok (.iastore, 1) := by decide +kernel
theorem dX12_takesCond_130 : decode cX12_takesCond 130 = .ok (.aload_n 0, 1) := by decide +kernel
theorem dX12_takesCond_131 : decode cX12_takesCond 131 = .ok (.getfield 110, 3) := by decide +kernel
theorem dX12_takesCond_134 : decode cX12_takesCond 134 = .ok (.iload_n 3, 1) := by decide +kernel
theorem dX12_takesCond_135 : decode cX12_takesCond 135 = .ok (.iaload, 1) := by decide +kernel
theorem dX12_takesCond_136 : decode cX12_takesCond 136 = .ok (.iconst 0, 1) := by decide +kernel
theorem dX12_takesCond_137 : decode cX12_takesCond 137 = .ok (.iconst 2, 1) := by decide +kernel
theorem dX12_takesCond_138 : decode cX12_takesCond 138 = .ok (.invokestatic 238, 3) := by decide +kernel
theorem dX12_takesCond_141 : decode cX12_takesCond 141 = .ok (.ifCond .ne 9, 3) := by decide +kernel
theorem dX12_takesCond_144 : decode cX12_takesCond 144 = .ok (.aload_n 0, 1) := by decide +kernel
theorem dX12_takesCond_145 : decode cX12_takesCond 145 = .ok (.iconst 1, 1) := by decide +kernel
theorem dX12_takesCond_146 : decode cX12_takesCond 146 = .ok (.invokevirtual 388, 3) := by decide +kernel
theorem dX12_takesCond_149 : decode cX12_takesCond 149 = .ok (.ireturn, 1) := by decide +kernel
theorem dX12_takesCond_150 : decode cX12_takesCond 150 = .ok (.aload_n 0, 1) := by decide +kernel
theorem dX12_takesCond_151 : decode cX12_takesCond 151 = .ok (.invokevirtual 391, 3) := by decide +kernel
theorem dX12_takesCond_154 : decode cX12_takesCond 154 = .ok (.aload_n 0, 1) := by decide +kernel
theorem dX12_takesCond_155 : decode cX12_takesCond 155 = .ok (.getfield 332, 3) := by decide +kernel
theorem dX12_takesCond_158 : decode cX12_takesCond 158 = .ok (.iconst 2, 1) := by decide +kernel
theorem dX12_takesCond_159 : decode cX12_takesCond 159 = .ok (.if_icmp .eq 9, 3) := by decide +kernel
theorem dX12_takesCond_162 : decode cX12_takesCond 162 = .ok (.aload_n 0, 1) := by decide +kernel
theorem dX12_takesCond_163 : decode cX12_takesCond 163 = .ok (.iconst 1, 1) := by decide +kernel
theorem dX12_takesCond_164 : decode cX12_takesCond 164 = .ok (.invokevirtual 388, 3) := by decide +kernel
theorem dX12_takesCond_167 : decode cX12_takesCond 167 = .ok (.ireturn, 1) := by decide +kernel
theorem dX12_takesCond_168 : decode cX12_takesCond 168 = .ok (.aload_n 0, 1) := by decide +kernel
theorem dX12_takesCond_169 : decode cX12_takesCond 169 = .ok (.getfield 113, 3) := by decide +kernel
theorem dX12_takesCond_172 : decode cX12_takesCond 172 = .ok (.iload_n 3, 1) := by decide +kernel
theorem dX12_takesCond_173 : decode cX12_takesCond 173 = .ok (.aload_n 0, 1) := by decide +kernel
theorem dX12_takesCond_174 : decode cX12_takesCond 174 = .ok (.getfield 335, 3) := by decide +kernel
theorem dX12_takesCond_177 : decode cX12_takesCond 177 = .ok (.iastore, 1) := by decide +kernel
theorem dX12_takesCond_178 : decode cX12_takesCond 178 = .ok (.aload_n 0, 1) := by decide +kernel
theorem dX12_takesCond_179 : decode cX12_takesCond 179 = .ok (.invokevirtual 391, 3) := by decide +kernel
theorem dX12_takesCond_182 : decode cX12_takesCond 182 = .ok (.aload_n 0, 1) := by decide +kernel
theorem dX12_takesCond_183 : decode cX12_takesCond 183 = .ok (.getfield 100, 3) := by decide +kernel
theorem dX12_takesCond_186 : decode cX12_takesCond 186 = .ok (.iload_n 1, 1) := by decide +kernel
theorem dX12_takesCond_187 : decode cX12_takesCond 187 = .ok (.dup2, 1) := by decide +kernel
theorem dX12_takesCond_188 : decode cX12_takesCond 188 = .ok (.iaload, 1) := by decide +kernel
theorem dX12_takesCond_189 : decode cX12_takesCond 189 = .ok (.iconst 1, 1) := by decide +kernel
theorem dX12_takesCond_190 : decode cX12_takesCond 190 = .ok (.iadd, 1) := by decide +kernel
theorem dX12_takesCond_191 : decode cX12_takesCond 191 = .ok (.iastore, 1) := by decide +kernel
theorem dX12_takesCond_192 : decode cX12_takesCond 192 = .ok (.aload_n 0, 1) := by decide +kernel
theorem dX12_takesCond_193 : decode cX12_takesCond 193 = .ok (.ldc_w 397, 3) := by decide +kernel
theorem dX12_takesCond_196 : decode cX12_takesCond 196 = .ok (.invokevirtual 379, 3) := by decide +kernel
theorem dX12_takesCond_199 : decode cX12_takesCond 199 = .ok (.istore_n 2, 1) := by decide +kernel
theorem dX12_takesCond_200 : decode cX12_takesCond 200 = .ok (.iload_n 2, 1) := by decide +kernel
theorem dX12_takesCond_201 : decode cX12_takesCond 201 = .ok (.ifCond .eq 7, 3) := by decide +kernel
theorem dX12_takesCond_204 : decode cX12_takesCond 204 = .ok (.aload_n 0, 1) := by decide +kernel
theorem dX12_takesCond_205 : decode cX12_takesCond 205 = .ok (.invokevirtual 391, 3) := by decide +kernel
theorem dX12_takesCond_208 : decode cX12_takesCond 208 = .ok (.goto (-199), 3) := by decide +kernel
theorem dX12_takesCond_211 : decode cX12_takesCond 211 = .ok (.iconst 1, 1) := by decide +kernel
theorem dX12_takesCond_212 : decode cX12_takesCond 212 = .ok (.ireturn, 1) := by decide +kernel
theorem dX12_statement_0 : decode cX12_statement 0 = .ok (.aload_n 0, 1) := by decide +kernel
theorem dX12_statement_1 : decode cX12_statement 1 = .ok (.ldc_w 399, 3) := by decide +kernel
theorem dX12_statement_4 : decode cX12_statement 4 = .ok (.invokevirtual 379, 3) := by decide +kernel
theorem dX12_statement_7 : decode cX12_statement 7 = .ok (.ifCond .eq 7, 3) := by decide +kernel
theorem dX12_statement_10 : decode cX12_statement 10 = .ok (.iconst 0, 1) := by decide +kernel
theorem dX12_statement_11 : decode cX12_statement 11 = .ok (.goto 46, 3) := by decide +kernel
theorem dX12_statement_14 : decode cX12_statement 14 = .ok (.aload_n 0, 1) := by decide +kernel
theorem dX12_statement_15 : decode cX12_statement 15 = .ok (.ldc_w 401, 3) := by decide +kernel
theorem dX12_statement_18 : decode cX12_statement 18 = .ok (.invokevirtual 379, 3) := by decide +kernel
theorem dX12_statement_21 : decode cX12_statement 21 = .ok (.ifCond .eq 7, 3) := by decide +kernel
theorem dX12_statement_24 : decode cX12_statement 24 = .ok (.iconst 3, 1) := by decide +kernel
theorem dX12_statement_25 : decode cX12_statement 25 = .ok (.goto 32, 3) := by decide +kernel
theorem dX12_statement_28 : decode cX12_statement 28 = .ok (.aload_n 0, 1) := by decide +kernel
theorem dX12_statement_29 : decode cX12_statement 29 = .ok (.ldc_w 403, 3) := by decide +kernel
theorem dX12_statement_32 : decode cX12_statement 32 = .ok (.invokevirtual 379, 3) := by decide +kernel
theorem dX12_statement_35 : decode cX12_statement 35 = .ok (.ifCond .eq 7, 3) := by decide +kernel
theorem dX12_statement_38 : decode cX12_statement 38 = .ok (.iconst 4, 1) := by decide +kernel
theorem dX12_statement_39 : decode cX12_statement 39 = .ok (.goto 18, 3) := by decide +kernel
theorem dX12_statement_42 : decode cX12_statement 42 = .ok (.aload_n 0, 1) := by decide +kernel
theorem dX12_statement_43 : decode cX12_statement 43 = .ok (.ldc_w 405, 3) := by decide +kernel
theorem dX12_statement_46 : decode cX12_statement 46 = .ok (.invokevirtual 379, 3) := by decide +kernel
theorem dX12_statement_49 : decode cX12_statement 49 = .ok (.ifCond .eq 7, 3) := by decide +kernel
theorem dX12_statement_52 : decode cX12_statement 52 = .ok (.iconst 5, 1) := by decide +kernel
theorem dX12_statement_53 : decode cX12_statement 53 = .ok (.goto 4, 3) := by decide +kernel
theorem dX12_statement_56 : decode cX12_statement 56 = .ok (.iconst (-1), 1) := by decide +kernel
theorem dX12_statement_57 : decode cX12_statement 57 = .ok (.istore_n 1, 1) := by decide +kernel
theorem dX12_statement_58 : decode cX12_statement 58 = .ok (.iload_n 1, 1) := by decide +kernel
theorem dX12_statement_59 : decode cX12_statement 59 = .ok (.iconst (-1), 1) := by decide +kernel
theorem dX12_statement_60 : decode cX12_statement 60 = .ok (.if_icmp .ne 9, 3) := by decide +kernel
theorem dX12_statement_63 : decode cX12_statement 63 = .ok (.aload_n 0, 1) := by decide +kernel
theorem dX12_statement_64 : decode cX12_statement 64 = .ok (.iconst 1, 1) := by decide +kernel
theorem dX12_statement_65 : decode cX12_statement 65 = .ok (.invokevirtual 388, 3) := by decide +kernel
theorem dX12_statement_68 : decode cX12_statement 68 = .ok (.ireturn, 1) := by decide +kernel
theorem dX12_statement_69 : decode cX12_statement 69 = .ok (.aload_n 0, 1) := by decide +kernel
theorem dX12_statement_70 : decode cX12_statement 70 = .ok (.getfield 407, 3) := by decide +kernel
theorem dX12_statement_73 : decode cX12_statement 73 = .ok (.bipush 12, 2) := by decide +kernel
theorem dX12_statement_75 : decode cX12_statement 75 = .ok (.if_icmp .ne 9, 3) := by decide +kernel
theorem dX12_statement_78 : decode cX12_statement 78 = .ok (.aload_n 0, 1) := by decide +kernel
theorem dX12_statement_79 : decode cX12_statement 79 = .ok (.iconst 2, 1) := by decide +kernel
theorem dX12_statement_80 : decode cX12_statement 80 = .ok (.invokevirtual 388, 3) := by decide +kernel
theorem dX12_statement_83 : decode cX12_statement 83 = .ok (.ireturn, 1) := by decide +kernel
theorem dX12_statement_84 : decode cX12_statement 84 = .ok (.sipush 240, 3) := by decide +kernel
theorem dX12_statement_87 : decode cX12_statement 87 = .ok (.aload_n 0, 1) := by decide +kernel
theorem dX12_statement_88 : decode cX12_statement 88 = .ok (.getfield 407, 3) := by decide +kernel
theorem dX12_statement_91 : decode cX12_statement 91 = .ok (.iadd, 1) := by decide +kernel
theorem dX12_statement_92 : decode cX12_statement 92 = .ok (.istore_n 2, 1) := by decide +kernel
theorem dX12_statement_93 : decode cX12_statement 93 = .ok (.aload_n 0, 1) := by decide +kernel
theorem dX12_statement_94 : decode cX12_statement 94 = .ok (.getfield 97, 3) := by decide +kernel
theorem dX12_statement_97 : decode cX12_statement 97 = .ok (.iload_n 2, 1) := by decide +kernel
theorem dX12_statement_98 : decode cX12_statement 98 = .ok (.iconst 0, 1) := by decide +kernel
theorem dX12_statement_99 : decode cX12_statement 99 = .ok (.iastore, 1) := by decide +kernel
theorem dX12_statement_100 : decode cX12_statement 100 = .ok (.aload_n 0, 1) := by decide +kernel
theorem dX12_statement_101 : decode cX12_statement 101 = .ok (.invokevirtual 391, 3) := by decide +kernel
theorem dX12_statement_104 : decode cX12_statement 104 = .ok (.iload_n 1, 1) := by decide +kernel
theorem dX12_statement_105 : decode cX12_statement 105 = .ok (.ifCond .ne 58, 3) := by decide +kernel
theorem dX12_statement_108 : decode cX12_statement 108 = .ok (.aload_n 0, 1) := by decide +kernel
theorem dX12_statement_109 : decode cX12_statement 109 = .ok (.ldc_w 410, 3) := by decide +kernel
theorem dX12_statement_112 : decode cX12_statement 112 = .ok (.invokevirtual 379, 3) := by decide +kernel
theorem dX12_statement_115 : decode cX12_statement 115 = .ok (.ifCond .eq 7, 3) := by decide +kernel
theorem dX12_statement_118 : decode cX12_statement 118 = .ok (.iconst 0, 1) := by decide +kernel
theorem dX12_statement_119 : decode cX12_statement 119 = .ok (.goto 32, 3) := by decide +kernel
theorem dX12_statement_122 : decode cX12_statement 122 = .ok (.aload_n 0, 1) := by decide +kernel
theorem dX12_statement_123 : decode cX12_statement 123 = .ok (.ldc_w 412, 3) := by decide +kernel
theorem dX12_statement_126 : decode cX12_statement 126 = .ok (.invokevirtual 379, 3) := by decide +kernel
theorem dX12_statement_129 : decode cX12_statement 129 = .ok (.ifCond .eq 7, 3) := by decide +kernel
theorem dX12_statement_132 : decode cX12_statement 132 = .ok (.iconst 1, 1) := by decide +kernel
theorem dX12_statement_133 : decode cX12_statement 133 = .ok (.goto 18, 3) := by decide +kernel
theorem dX12_statement_136 : decode cX12_statement 136 = .ok (.aload_n 0, 1) := by decide +kernel
theorem dX12_statement_137 : decode cX12_statement 137 = .ok (.ldc_w 414, 3) := by decide +kernel
theorem dX12_statement_140 : decode cX12_statement 140 = .ok (.invokevirtual 379, 3) := by decide +kernel
theorem dX12_statement_143 : decode cX12_statement 143 = .ok (.ifCond .eq 7, 3) := by decide +kernel
theorem dX12_statement_146 : decode cX12_statement 146 = .ok (.iconst 2, 1) := by decide +kernel
theorem dX12_statement_147 : decode cX12_statement 147 = .ok (.goto 4, 3) := by decide +kernel
theorem dX12_statement_150 : decode cX12_statement 150 = .ok (.iconst (-1), 1) := by decide +kernel
theorem dX12_statement_151 : decode cX12_statement 151 = .ok (.istore_n 1, 1) := by decide +kernel
theorem dX12_statement_152 : decode cX12_statement 152 = .ok (.iload_n 1, 1) := by decide +kernel
theorem dX12_statement_153 : decode cX12_statement 153 = .ok (.iconst (-1), 1) := by decide +kernel
theorem dX12_statement_154 : decode cX12_statement 154 = .ok (.if_icmp .ne 33, 3) := by decide +kernel
theorem dX12_statement_157 : decode cX12_statement 157 = .ok (.aload_n 0, 1) := by decide +kernel
theorem dX12_statement_158 : decode cX12_statement 158 = .ok (.iconst 1, 1) := by decide +kernel
theorem dX12_statement_159 : decode cX12_statement 159 = .ok (.invokevirtual 388, 3) := by decide +kernel
theorem dX12_statement_162 : decode cX12_statement 162 = .ok (.ireturn, 1) := by decide +kernel
theorem dX12_statement_163 : decode cX12_statement 163 = .ok (.aload_n 0, 1) := by decide +kernel
theorem dX12_statement_164 : decode cX12_statement 164 = .ok (.getfield 332, 3) := by decide +kernel
theorem dX12_statement_167 : decode cX12_statement 167 = .ok (.iconst 2, 1) := by decide +kernel
theorem dX12_statement_168 : decode cX12_statement 168 = .ok (.if_icmp .eq 9, 3) := by decide +kernel
theorem dX12_statement_171 : decode cX12_statement 171 = .ok (.aload_n 0, 1) := by decide +kernel
theorem dX12_statement_172 : decode cX12_statement 172 = .ok (.iconst 1, 1) := by decide +kernel
theorem dX12_statement_173 : decode cX12_statement 173 = .ok (.invokevirtual 388, 3) := by decide +kernel
theorem dX12_statement_176 : decode cX12_statement 176 = .ok (.ireturn, 1) := by decide +kernel
theorem dX12_statement_177 : decode cX12_statement 177 = .ok (.aload_n 0, 1) := by decide +kernel
theorem dX12_statement_178 : decode cX12_statement 178 = .ok (.getfield 97, 3) := by decide +kernel
theorem dX12_statement_181 : decode cX12_statement 181 = .ok (.iload_n 2, 1) := by decide +kernel
theorem dX12_statement_182 : decode cX12_statement 182 = .ok (.aload_n 0, 1) := by decide +kernel
theorem dX12_statement_183 : decode cX12_statement 183 = .ok (.getfield 335, 3) := by decide +kernel
theorem dX12_statement_186 : decode cX12_statement 186 = .ok (.iastore, 1) := by decide +kernel
theorem dX12_statement_187 : decode cX12_statement 187 = .ok (.aload_n 0, 1) := by decide +kernel
theorem dX12_statement_188 : decode cX12_statement 188 = .ok (.getfield 94, 3) := by decide +kernel
theorem dX12_statement_191 : decode cX12_statement 191 = .ok (.iload_n 2, 1) := by decide +kernel
theorem dX12_statement_192 : decode cX12_statement 192 = .ok (.iload_n 1, 1) := by decide +kernel
theorem dX12_statement_193 : decode cX12_statement 193 = .ok (.iastore, 1) := by decide +kernel
theorem dX12_statement_194 : decode cX12_statement 194 = .ok (.aload_n 0, 1) := by decide +kernel
theorem dX12_statement_195 : decode cX12_statement 195 = .ok (.invokevirtual 391, 3) := by decide +kernel
theorem dX12_statement_198 : decode cX12_statement 198 = .ok (.aload_n 0, 1) := by decide +kernel
theorem dX12_statement_199 : decode cX12_statement 199 = .ok (.ldc_w 416, 3) := by decide +kernel
theorem dX12_statement_202 : decode cX12_statement 202 = .ok (.invokevirtual 379, 3) := by decide +kernel
theorem dX12_statement_205 : decode cX12_statement 205 = .ok (.ifCond .ne 9, 3) := by decide +kernel
theorem dX12_statement_208 : decode cX12_statement 208 = .ok (.aload_n 0, 1) := by decide +kernel
theorem dX12_statement_209 : decode cX12_statement 209 = .ok (.iconst 1, 1) := by decide +kernel
theorem dX12_statement_210 : decode cX12_statement 210 = .ok (.invokevirtual 388, 3) := by decide +kernel
theorem dX12_statement_213 : decode cX12_statement 213 = .ok (.ireturn, 1) := by decide +kernel
theorem dX12_statement_214 : decode cX12_statement 214 = .ok (.aload_n 0, 1) := by decide +kernel
theorem dX12_statement_215 : decode cX12_statement 215 = .ok (.invokevirtual 391, 3) := by decide +kernel
theorem dX12_statement_218 : decode cX12_statement 218 = .ok (.aload_n 0, 1) := by decide +kernel
theorem dX12_statement_219 : decode cX12_statement 219 = .ok (.iload_n 2, 1) := by decide +kernel
theorem dX12_statement_220 : decode cX12_statement 220 = .ok (.invokevirtual 418, 3) := by decide +kernel
theorem dX12_statement_223 : decode cX12_statement 223 = .ok (.ifCond .ne 5, 3) := by decide +kernel
theorem dX12_statement_226 : decode cX12_statement 226 = .ok (.iconst 0, 1) := by decide +kernel
theorem dX12_statement_227 : decode cX12_statement 227 = .ok (.ireturn, 1) := by decide +kernel
theorem dX12_statement_228 : decode cX12_statement 228 = .ok (.aload_n 0, 1) := by decide +kernel
theorem dX12_statement_229 : decode cX12_statement 229 = .ok (.invokevirtual 394, 3) := by decide +kernel
theorem dX12_statement_232 : decode cX12_statement 232 = .ok (.iconst 3, 1) := by decide +kernel
theorem dX12_statement_233 : decode cX12_statement 233 = .ok (.if_icmp .eq 9, 3) := by decide +kernel
theorem dX12_statement_236 : decode cX12_statement 236 = .ok (.aload_n 0, 1) := by decide +kernel
theorem dX12_statement_237 : decode cX12_statement 237 = .ok (.iconst 1, 1) := by decide +kernel
theorem dX12_statement_238 : decode cX12_statement 238 = .ok (.invokevirtual 388, 3) := by decide +kernel
theorem dX12_statement_241 : decode cX12_statement 241 = .ok (.ireturn, 1) := by decide +kernel
theorem dX12_statement_242 : decode cX12_statement 242 = .ok (.aload_n 0, 1) := by decide +kernel
theorem dX12_statement_243 : decode cX12_statement 243 = .ok (.invokevirtual 391, 3) := by decide +kernel
theorem dX12_statement_246 : decode cX12_statement 246 = .ok (.aload_n 0, 1) := by decide +kernel
theorem dX12_statement_247 : decode cX12_statement 247 = .ok (.dup, 1) := by decide +kernel
theorem dX12_statement_248 : decode cX12_statement 248 = .ok (.getfield 407, 3) := by decide +kernel
theorem dX12_statement_251 : decode cX12_statement 251 = .ok (.iconst 1, 1) := by decide +kernel
theorem dX12_statement_252 : decode cX12_statement 252 = .ok (.iadd, 1) := by decide +kernel
theorem dX12_statement_253 : decode cX12_statement 253 = .ok (.putfield 407, 3) := by decide +kernel
theorem dX12_statement_256 : decode cX12_statement 256 = .ok (.iconst 1, 1) := by decide +kernel
theorem dX12_statement_257 : decode cX12_statement 257 = .ok (.ireturn, 1) := by decide +kernel
theorem dX12_law_0 : decode cX12_law 0 = .ok (.aload_n 0, 1) := by decide +kernel
theorem dX12_law_1 : decode cX12_law 1 = .ok (.iconst 0, 1) := by decide +kernel
theorem dX12_law_2 : decode cX12_law 2 = .ok (.putfield 235, 3) := by decide +kernel
theorem dX12_law_5 : decode cX12_law 5 = .ok (.iload_n 1, 1) := by decide +kernel
theorem dX12_law_6 : decode cX12_law 6 = .ok (.iconst 0, 1) := by decide +kernel
theorem dX12_law_7 : decode cX12_law 7 = .ok (.sipush 3999, 3) := by decide +kernel
theorem dX12_law_10 : decode cX12_law 10 = .ok (.invokestatic 238, 3) := by decide +kernel
theorem dX12_law_13 : decode cX12_law 13 = .ok (.ifCond .eq 12, 3) := by decide +kernel
theorem dX12_law_16 : decode cX12_law 16 = .ok (.aload_n 0, 1) := by decide +kernel
theorem dX12_law_17 : decode cX12_law 17 = .ok (.getfield 421, 3) := by decide +kernel
theorem dX12_law_20 : decode cX12_law 20 = .ok (.bipush 20, 2) := by decide +kernel
theorem dX12_law_22 : decode cX12_law 22 = .ok (.if_icmp .ne 5, 3) := by decide +kernel
theorem dX12_law_25 : decode cX12_law 25 = .ok (.iconst (-1), 1) := by decide +kernel
theorem dX12_law_26 : decode cX12_law 26 = .ok (.ireturn, 1) := by decide +kernel
theorem dX12_law_27 : decode cX12_law 27 = .ok (.aload_n 0, 1) := by decide +kernel
theorem dX12_law_28 : decode cX12_law 28 = .ok (.iconst 0, 1) := by decide +kernel
theorem dX12_law_29 : decode cX12_law 29 = .ok (.putfield 348, 3) := by decide +kernel
theorem dX12_law_32 : decode cX12_law 32 = .ok (.aload_n 0, 1) := by decide +kernel
theorem dX12_law_33 : decode cX12_law 33 = .ok (.iconst (-1), 1) := by decide +kernel
theorem dX12_law_34 : decode cX12_law 34 = .ok (.putfield 120, 3) := by decide +kernel
theorem dX12_law_37 : decode cX12_law 37 = .ok (.aload_n 0, 1) := by decide +kernel
theorem dX12_law_38 : decode cX12_law 38 = .ok (.iconst 0, 1) := by decide +kernel
theorem dX12_law_39 : decode cX12_law 39 = .ok (.putfield 407, 3) := by decide +kernel
theorem dX12_law_42 : decode cX12_law 42 = .ok (.aload_n 0, 1) := by decide +kernel
theorem dX12_law_43 : decode cX12_law 43 = .ok (.iconst 0, 1) := by decide +kernel
theorem dX12_law_44 : decode cX12_law 44 = .ok (.putfield 323, 3) := by decide +kernel
theorem dX12_law_47 : decode cX12_law 47 = .ok (.aload_n 0, 1) := by decide +kernel
theorem dX12_law_48 : decode cX12_law 48 = .ok (.invokevirtual 391, 3) := by decide +kernel
theorem dX12_law_51 : decode cX12_law 51 = .ok (.iconst 1, 1) := by decide +kernel
theorem dX12_law_52 : decode cX12_law 52 = .ok (.istore_n 2, 1) := by decide +kernel
theorem dX12_law_53 : decode cX12_law 53 = .ok (.iload_n 2, 1) := by decide +kernel
theorem dX12_law_54 : decode cX12_law 54 = .ok (.ifCond .eq 18, 3) := by decide +kernel
theorem dX12_law_57 : decode cX12_law 57 = .ok (.aload_n 0, 1) := by decide +kernel
theorem dX12_law_58 : decode cX12_law 58 = .ok (.getfield 332, 3) := by decide +kernel
theorem dX12_law_61 : decode cX12_law 61 = .ok (.ifCond .eq 11, 3) := by decide +kernel
theorem dX12_law_64 : decode cX12_law 64 = .ok (.aload_n 0, 1) := by decide +kernel
theorem dX12_law_65 : decode cX12_law 65 = .ok (.invokevirtual 424, 3) := by decide +kernel
theorem dX12_law_68 : decode cX12_law 68 = .ok (.istore_n 2, 1) := by decide +kernel
theorem dX12_law_69 : decode cX12_law 69 = .ok (.goto (-16), 3) := by decide +kernel
theorem dX12_law_72 : decode cX12_law 72 = .ok (.aload_n 0, 1) := by decide +kernel
theorem dX12_law_73 : decode cX12_law 73 = .ok (.iconst 0, 1) := by decide +kernel
theorem dX12_law_74 : decode cX12_law 74 = .ok (.putfield 320, 3) := by decide +kernel
theorem dX12_law_77 : decode cX12_law 77 = .ok (.aload_n 0, 1) := by decide +kernel
theorem dX12_law_78 : decode cX12_law 78 = .ok (.getfield 348, 3) := by decide +kernel
theorem dX12_law_81 : decode cX12_law 81 = .ok (.ifCond .le 10, 3) := by decide +kernel
theorem dX12_law_84 : decode cX12_law 84 = .ok (.iconst (-1), 1) := by decide +kernel
theorem dX12_law_85 : decode cX12_law 85 = .ok (.aload_n 0, 1) := by decide +kernel
theorem dX12_law_86 : decode cX12_law 86 = .ok (.getfield 348, 3) := by decide +kernel
theorem dX12_law_89 : decode cX12_law 89 = .ok (.isub, 1) := by decide +kernel
theorem dX12_law_90 : decode cX12_law 90 = .ok (.ireturn, 1) := by decide +kernel
theorem dX12_law_91 : decode cX12_law 91 = .ok (.aload_n 0, 1) := by decide +kernel
theorem dX12_law_92 : decode cX12_law 92 = .ok (.getfield 88, 3) := by decide +kernel
theorem dX12_law_95 : decode cX12_law 95 = .ok (.aload_n 0, 1) := by decide +kernel
theorem dX12_law_96 : decode cX12_law 96 = .ok (.getfield 421, 3) := by decide +kernel
theorem dX12_law_99 : decode cX12_law 99 = .ok (.iload_n 1, 1) := by decide +kernel
theorem dX12_law_100 : decode cX12_law 100 = .ok (.iastore, 1) := by decide +kernel
theorem dX12_law_101 : decode cX12_law 101 = .ok (.aload_n 0, 1) := by decide +kernel
theorem dX12_law_102 : decode cX12_law 102 = .ok (.getfield 91, 3) := by decide +kernel
theorem dX12_law_105 : decode cX12_law 105 = .ok (.aload_n 0, 1) := by decide +kernel
theorem dX12_law_106 : decode cX12_law 106 = .ok (.getfield 421, 3) := by decide +kernel
theorem dX12_law_109 : decode cX12_law 109 = .ok (.aload_n 0, 1) := by decide +kernel
theorem dX12_law_110 : decode cX12_law 110 = .ok (.getfield 407, 3) := by decide +kernel
theorem dX12_law_113 : decode cX12_law 113 = .ok (.iastore, 1) := by decide +kernel
theorem dX12_law_114 : decode cX12_law 114 = .ok (.iconst 0, 1) := by decide +kernel
theorem dX12_law_115 : decode cX12_law 115 = .ok (.istore_n 3, 1) := by decide +kernel
theorem dX12_law_116 : decode cX12_law 116 = .ok (.iload_n 3, 1) := by decide +kernel
theorem dX12_law_117 : decode cX12_law 117 = .ok (.bipush 12, 2) := by decide +kernel
theorem dX12_law_119 : decode cX12_law 119 = .ok (.if_icmp .ge 81, 3) := by decide +kernel
theorem dX12_law_122 : decode cX12_law 122 = .ok (.aload_n 0, 1) := by decide +kernel
theorem dX12_law_123 : decode cX12_law 123 = .ok (.getfield 94, 3) := by decide +kernel
theorem dX12_law_126 : decode cX12_law 126 = .ok (.bipush 12, 2) := by decide +kernel
theorem dX12_law_128 : decode cX12_law 128 = .ok (.aload_n 0, 1) := by decide +kernel
theorem dX12_law_129 : decode cX12_law 129 = .ok (.getfield 421, 3) := by decide +kernel
theorem dX12_law_132 : decode cX12_law 132 = .ok (.imul, 1) := by decide +kernel
theorem dX12_law_133 : decode cX12_law 133 = .ok (.iload_n 3, 1) := by decide +kernel
theorem dX12_law_134 : decode cX12_law 134 = .ok (.iadd, 1) := by decide +kernel
theorem dX12_law_135 : decode cX12_law 135 = .ok (.aload_n 0, 1) := by decide +kernel
theorem dX12_law_136 : decode cX12_law 136 = .ok (.getfield 94, 3) := by decide +kernel
theorem dX12_law_139 : decode cX12_law 139 = .ok (.sipush 240, 3) := by decide +kernel
theorem dX12_law_142 : decode cX12_law 142 = .ok (.iload_n 3, 1) := by decide +kernel
theorem dX12_law_143 : decode cX12_law 143 = .ok (.iadd, 1) := by decide +kernel
theorem dX12_law_144 : decode cX12_law 144 = .ok (.iaload, 1) := by decide +kernel
theorem dX12_law_145 : decode cX12_law 145 = .ok (.iastore, 1) := by decide +kernel
theorem dX12_law_146 : decode cX12_law 146 = .ok (.aload_n 0, 1) := by decide +kernel
theorem dX12_law_147 : decode cX12_law 147 = .ok (.getfield 97, 3) := by decide +kernel
theorem dX12_law_150 : decode cX12_law 150 = .ok (.bipush 12, 2) := by decide +kernel
theorem dX12_law_152 : decode cX12_law 152 = .ok (.aload_n 0, 1) := by decide +kernel
theorem dX12_law_153 : decode cX12_law 153 = .ok (.getfield 421, 3) := by decide +kernel
theorem dX12_law_156 : decode cX12_law 156 = .ok (.imul, 1) := by decide +kernel
theorem dX12_law_157 : decode cX12_law 157 = .ok (.iload_n 3, 1) := by decide +kernel
theorem dX12_law_158 : decode cX12_law 158 = .ok (.iadd, 1) := by decide +kernel
theorem dX12_law_159 : decode cX12_law 159 = .ok (.aload_n 0, 1) := by decide +kernel
theorem dX12_law_160 : decode cX12_law 160 = .ok (.getfield 97, 3) := by decide +kernel
theorem dX12_law_163 : decode cX12_law 163 = .ok (.sipush 240, 3) := by decide +kernel
theorem dX12_law_166 : decode cX12_law 166 = .ok (.iload_n 3, 1) := by decide +kernel
theorem dX12_law_167 : decode cX12_law 167 = .ok (.iadd, 1) := by decide +kernel
theorem dX12_law_168 : decode cX12_law 168 = .ok (.iaload, 1) := by decide +kernel
theorem dX12_law_169 : decode cX12_law 169 = .ok (.iastore, 1) := by decide +kernel
theorem dX12_law_170 : decode cX12_law 170 = .ok (.aload_n 0, 1) := by decide +kernel
theorem dX12_law_171 : decode cX12_law 171 = .ok (.getfield 100, 3) := by decide +kernel
theorem dX12_law_174 : decode cX12_law 174 = .ok (.bipush 12, 2) := by decide +kernel
theorem dX12_law_176 : decode cX12_law 176 = .ok (.aload_n 0, 1) := by decide +kernel
theorem dX12_law_177 : decode cX12_law 177 = .ok (.getfield 421, 3) := by decide +kernel
theorem dX12_law_180 : decode cX12_law 180 = .ok (.imul, 1) := by decide +kernel
theorem dX12_law_181 : decode cX12_law 181 = .ok (.iload_n 3, 1) := by decide +kernel
theorem dX12_law_182 : decode cX12_law 182 = .ok (.iadd, 1) := by decide +kernel
theorem dX12_law_183 : decode cX12_law 183 = .ok (.aload_n 0, 1) := by decide +kernel
theorem dX12_law_184 : decode cX12_law 184 = .ok (.getfield 100, 3) := by decide +kernel
theorem dX12_law_187 : decode cX12_law 187 = .ok (.sipush 240, 3) := by decide +kernel
theorem dX12_law_190 : decode cX12_law 190 = .ok (.iload_n 3, 1) := by decide +kernel
theorem dX12_law_191 : decode cX12_law 191 = .ok (.iadd, 1) := by decide +kernel
theorem dX12_law_192 : decode cX12_law 192 = .ok (.iaload, 1) := by decide +kernel
theorem dX12_law_193 : decode cX12_law 193 = .ok (.iastore, 1) := by decide +kernel
theorem dX12_law_194 : decode cX12_law 194 = .ok (.iinc 3 1, 3) := by decide +kernel
theorem dX12_law_197 : decode cX12_law 197 = .ok (.goto (-81), 3) := by decide +kernel
theorem dX12_law_200 : decode cX12_law 200 = .ok (.iconst 0, 1) := by decide +kernel
theorem dX12_law_201 : decode cX12_law 201 = .ok (.istore_n 3, 1) := by decide +kernel
theorem dX12_law_202 : decode cX12_law 202 = .ok (.iload_n 3, 1) := by decide +kernel
theorem dX12_law_203 : decode cX12_law 203 = .ok (.bipush 60, 2) := by decide +kernel
theorem dX12_law_205 : decode cX12_law 205 = .ok (.if_icmp .ge 105, 3) := by decide +kernel
theorem dX12_law_208 : decode cX12_law 208 = .ok (.aload_n 0, 1) := by decide +kernel
theorem dX12_law_209 : decode cX12_law 209 = .ok (.getfield 103, 3) := by decide +kernel
theorem dX12_law_212 : decode cX12_law 212 = .ok (.bipush 60, 2) := by decide +kernel
theorem dX12_law_214 : decode cX12_law 214 = .ok (.aload_n 0, 1) := by decide +kernel
theorem dX12_law_215 : decode cX12_law 215 = .ok (.getfield 421, 3) := by decide +kernel
theorem dX12_law_218 : decode cX12_law 218 = .ok (.imul, 1) := by decide +kernel
theorem dX12_law_219 : decode cX12_law 219 = .ok (.iload_n 3, 1) := by decide +kernel
theorem dX12_law_220 : decode cX12_law 220 = .ok (.iadd, 1) := by decide +kernel
theorem dX12_law_221 : decode cX12_law 221 = .ok (.aload_n 0, 1) := by decide +kernel
theorem dX12_law_222 : decode cX12_law 222 = .ok (.getfield 103, 3) := by decide +kernel
theorem dX12_law_225 : decode cX12_law 225 = .ok (.sipush 1200, 3) := by decide +kernel
theorem dX12_law_228 : decode cX12_law 228 = .ok (.iload_n 3, 1) := by decide +kernel
theorem dX12_law_229 : decode cX12_law 229 = .ok (.iadd, 1) := by decide +kernel
theorem dX12_law_230 : decode cX12_law 230 = .ok (.baload, 1) := by decide +kernel
theorem dX12_law_231 : decode cX12_law 231 = .ok (.bastore, 1) := by decide +kernel
theorem dX12_law_232 : decode cX12_law 232 = .ok (.aload_n 0, 1) := by decide +kernel
theorem dX12_law_233 : decode cX12_law 233 = .ok (.getfield 107, 3) := by decide +kernel
theorem dX12_law_236 : decode cX12_law 236 = .ok (.bipush 60, 2) := by decide +kernel
theorem dX12_law_238 : decode cX12_law 238 = .ok (.aload_n 0, 1) := by decide +kernel
theorem dX12_law_239 : decode cX12_law 239 = .ok (.getfield 421, 3) := by decide +kernel
theorem dX12_law_242 : decode cX12_law 242 = .ok (.imul, 1) := by decide +kernel
theorem dX12_law_243 : decode cX12_law 243 = .ok (.iload_n 3, 1) := by decide +kernel
theorem dX12_law_244 : decode cX12_law 244 = .ok (.iadd, 1) := by decide +kernel
theorem dX12_law_245 : decode cX12_law 245 = .ok (.aload_n 0, 1) := by decide +kernel
theorem dX12_law_246 : decode cX12_law 246 = .ok (.getfield 107, 3) := by decide +kernel
theorem dX12_law_249 : decode cX12_law 249 = .ok (.sipush 1200, 3) := by decide +kernel
theorem dX12_law_252 : decode cX12_law 252 = .ok (.iload_n 3, 1) := by decide +kernel
theorem dX12_law_253 : decode cX12_law 253 = .ok (.iadd, 1) := by decide +kernel
theorem dX12_law_254 : decode cX12_law 254 = .ok (.iaload, 1) := by decide +kernel
theorem dX12_law_255 : decode cX12_law 255 = .ok (.iastore, 1) := by decide +kernel
theorem dX12_law_256 : decode cX12_law 256 = .ok (.aload_n 0, 1) := by decide +kernel
theorem dX12_law_257 : decode cX12_law 257 = .ok (.getfield 110, 3) := by decide +kernel
theorem dX12_law_260 : decode cX12_law 260 = .ok (.bipush 60, 2) := by decide +kernel
theorem dX12_law_262 : decode cX12_law 262 = .ok (.aload_n 0, 1) := by decide +kernel
theorem dX12_law_263 : decode cX12_law 263 = .ok (.getfield 421, 3) := by decide +kernel
theorem dX12_law_266 : decode cX12_law 266 = .ok (.imul, 1) := by decide +kernel
theorem dX12_law_267 : decode cX12_law 267 = .ok (.iload_n 3, 1) := by decide +kernel
theorem dX12_law_268 : decode cX12_law 268 = .ok (.iadd, 1) := by decide +kernel
theorem dX12_law_269 : decode cX12_law 269 = .ok (.aload_n 0, 1) := by decide +kernel
theorem dX12_law_270 : decode cX12_law 270 = .ok (.getfield 110, 3) := by decide +kernel
theorem dX12_law_273 : decode cX12_law 273 = .ok (.sipush 1200, 3) := by decide +kernel
theorem dX12_law_276 : decode cX12_law 276 = .ok (.iload_n 3, 1) := by decide +kernel
theorem dX12_law_277 : decode cX12_law 277 = .ok (.iadd, 1) := by decide +kernel
theorem dX12_law_278 : decode cX12_law 278 = .ok (.iaload, 1) := by decide +kernel
theorem dX12_law_279 : decode cX12_law 279 = .ok (.iastore, 1) := by decide +kernel
theorem dX12_law_280 : decode cX12_law 280 = .ok (.aload_n 0, 1) := by decide +kernel
theorem dX12_law_281 : decode cX12_law 281 = .ok (.getfield 113, 3) := by decide +kernel
theorem dX12_law_284 : decode cX12_law 284 = .ok (.bipush 60, 2) := by decide +kernel
theorem dX12_law_286 : decode cX12_law 286 = .ok (.aload_n 0, 1) := by decide +kernel
theorem dX12_law_287 : decode cX12_law 287 = .ok (.getfield 421, 3) := by decide +kernel
theorem dX12_law_290 : decode cX12_law 290 = .ok (.imul, 1) := by decide +kernel
theorem dX12_law_291 : decode cX12_law 291 = .ok (.iload_n 3, 1) := by decide +kernel
theorem dX12_law_292 : decode cX12_law 292 = .ok (.iadd, 1) := by decide +kernel
theorem dX12_law_293 : decode cX12_law 293 = .ok (.aload_n 0, 1) := by decide +kernel
theorem dX12_law_294 : decode cX12_law 294 = .ok (.getfield 113, 3) := by decide +kernel
theorem dX12_law_297 : decode cX12_law 297 = .ok (.sipush 1200, 3) := by decide +kernel
theorem dX12_law_300 : decode cX12_law 300 = .ok (.iload_n 3, 1) := by decide +kernel
theorem dX12_law_301 : decode cX12_law 301 = .ok (.iadd, 1) := by decide +kernel
theorem dX12_law_302 : decode cX12_law 302 = .ok (.iaload, 1) := by decide +kernel
theorem dX12_law_303 : decode cX12_law 303 = .ok (.iastore, 1) := by decide +kernel
theorem dX12_law_304 : decode cX12_law 304 = .ok (.iinc 3 1, 3) := by decide +kernel
theorem dX12_law_307 : decode cX12_law 307 = .ok (.goto (-105), 3) := by decide +kernel
theorem dX12_law_310 : decode cX12_law 310 = .ok (.aload_n 0, 1) := by decide +kernel
theorem dX12_law_311 : decode cX12_law 311 = .ok (.dup, 1) := by decide +kernel
theorem dX12_law_312 : decode cX12_law 312 = .ok (.getfield 421, 3) := by decide +kernel
theorem dX12_law_315 : decode cX12_law 315 = .ok (.iconst 1, 1) := by decide +kernel
theorem dX12_law_316 : decode cX12_law 316 = .ok (.iadd, 1) := by decide +kernel
theorem dX12_law_317 : decode cX12_law 317 = .ok (.putfield 421, 3) := by decide +kernel
theorem dX12_law_320 : decode cX12_law 320 = .ok (.aload_n 0, 1) := by decide +kernel
theorem dX12_law_321 : decode cX12_law 321 = .ok (.getfield 407, 3) := by decide +kernel
theorem dX12_law_324 : decode cX12_law 324 = .ok (.ireturn, 1) := by decide +kernel
theorem dX12_place_0 : decode cX12_place 0 = .ok (.aload_n 0, 1) := by decide +kernel
theorem dX12_place_1 : decode cX12_place 1 = .ok (.iconst 0, 1) := by decide +kernel
theorem dX12_place_2 : decode cX12_place 2 = .ok (.putfield 235, 3) := by decide +kernel
theorem dX12_place_5 : decode cX12_place 5 = .ok (.aload_n 0, 1) := by decide +kernel
theorem dX12_place_6 : decode cX12_place 6 = .ok (.getfield 120, 3) := by decide +kernel
theorem dX12_place_9 : decode cX12_place 9 = .ok (.ireturn, 1) := by decide +kernel
theorem dX12_asks_0 : decode cX12_asks 0 = .ok (.iconst 0, 1) := by decide +kernel
theorem dX12_asks_1 : decode cX12_asks 1 = .ok (.istore_n 2, 1) := by decide +kernel
theorem dX12_asks_2 : decode cX12_asks 2 = .ok (.iload_n 2, 1) := by decide +kernel
theorem dX12_asks_3 : decode cX12_asks 3 = .ok (.bipush 13, 2) := by decide +kernel
theorem dX12_asks_5 : decode cX12_asks 5 = .ok (.if_icmp .ge 16, 3) := by decide +kernel
theorem dX12_asks_8 : decode cX12_asks 8 = .ok (.aload_n 0, 1) := by decide +kernel
theorem dX12_asks_9 : decode cX12_asks 9 = .ok (.getfield 124, 3) := by decide +kernel
theorem dX12_asks_12 : decode cX12_asks 12 = .ok (.iload_n 2, 1) := by decide +kernel
theorem dX12_asks_13 : decode cX12_asks 13 = .ok (.iconst 0, 1) := by decide +kernel
theorem dX12_asks_14 : decode cX12_asks 14 = .ok (.iastore, 1) := by decide +kernel
theorem dX12_asks_15 : decode cX12_asks 15 = .ok (.iinc 2 1, 3) := by decide +kernel
theorem dX12_asks_18 : decode cX12_asks 18 = .ok (.goto (-16), 3) := by decide +kernel
theorem dX12_asks_21 : decode cX12_asks 21 = .ok (.aload_n 0, 1) := by decide +kernel
theorem dX12_asks_22 : decode cX12_asks 22 = .ok (.getfield 124, 3) := by decide +kernel
theorem dX12_asks_25 : decode cX12_asks 25 = .ok (.iconst 4, 1) := by decide +kernel
theorem dX12_asks_26 : decode cX12_asks 26 = .ok (.aload_n 0, 1) := by decide +kernel
theorem dX12_asks_27 : decode cX12_asks 27 = .ok (.invokevirtual 428, 3) := by decide +kernel
theorem dX12_asks_30 : decode cX12_asks 30 = .ok (.iastore, 1) := by decide +kernel
theorem dX12_asks_31 : decode cX12_asks 31 = .ok (.aload_n 0, 1) := by decide +kernel
theorem dX12_asks_32 : decode cX12_asks 32 = .ok (.getfield 124, 3) := by decide +kernel
theorem dX12_asks_35 : decode cX12_asks 35 = .ok (.iconst 5, 1) := by decide +kernel
theorem dX12_asks_36 : decode cX12_asks 36 = .ok (.aload_n 0, 1) := by decide +kernel
theorem dX12_asks_37 : decode cX12_asks 37 = .ok (.getfield 271, 3) := by decide +kernel
theorem dX12_asks_40 : decode cX12_asks 40 = .ok (.iastore, 1) := by decide +kernel
theorem dX12_asks_41 : decode cX12_asks 41 = .ok (.aload_n 0, 1) := by decide +kernel
theorem dX12_asks_42 : decode cX12_asks 42 = .ok (.getfield 124, 3) := by decide +kernel
theorem dX12_asks_45 : decode cX12_asks 45 = .ok (.bipush 6, 2) := by decide +kernel
theorem dX12_asks_47 : decode cX12_asks 47 = .ok (.aload_n 0, 1) := by decide +kernel
theorem dX12_asks_48 : decode cX12_asks 48 = .ok (.aload_n 0, 1) := by decide +kernel
theorem dX12_asks_49 : decode cX12_asks 49 = .ok (.getfield 271, 3) := by decide +kernel
theorem dX12_asks_52 : decode cX12_asks 52 = .ok (.iconst 0, 1) := by decide +kernel
theorem dX12_asks_53 : decode cX12_asks 53 = .ok (.invokevirtual 277, 3) := by decide +kernel
theorem dX12_asks_56 : decode cX12_asks 56 = .ok (.iastore, 1) := by decide +kernel
theorem dX12_asks_57 : decode cX12_asks 57 = .ok (.aload_n 0, 1) := by decide +kernel
theorem dX12_asks_58 : decode cX12_asks 58 = .ok (.getfield 124, 3) := by decide +kernel
theorem dX12_asks_61 : decode cX12_asks 61 = .ok (.bipush 7, 2) := by decide +kernel
theorem dX12_asks_63 : decode cX12_asks 63 = .ok (.aload_n 0, 1) := by decide +kernel
theorem dX12_asks_64 : decode cX12_asks 64 = .ok (.aload_n 0, 1) := by decide +kernel
theorem dX12_asks_65 : decode cX12_asks 65 = .ok (.getfield 271, 3) := by decide +kernel
theorem dX12_asks_68 : decode cX12_asks 68 = .ok (.iconst 1, 1) := by decide +kernel
theorem dX12_asks_69 : decode cX12_asks 69 = .ok (.invokevirtual 277, 3) := by decide +kernel
theorem dX12_asks_72 : decode cX12_asks 72 = .ok (.iastore, 1) := by decide +kernel
theorem dX12_asks_73 : decode cX12_asks 73 = .ok (.aload_n 0, 1) := by decide +kernel
theorem dX12_asks_74 : decode cX12_asks 74 = .ok (.getfield 124, 3) := by decide +kernel
theorem dX12_asks_77 : decode cX12_asks 77 = .ok (.bipush 8, 2) := by decide +kernel
theorem dX12_asks_79 : decode cX12_asks 79 = .ok (.aload_n 0, 1) := by decide +kernel
theorem dX12_asks_80 : decode cX12_asks 80 = .ok (.aload_n 0, 1) := by decide +kernel
theorem dX12_asks_81 : decode cX12_asks 81 = .ok (.getfield 271, 3) := by decide +kernel
theorem dX12_asks_84 : decode cX12_asks 84 = .ok (.iconst 2, 1) := by decide +kernel
theorem dX12_asks_85 : decode cX12_asks 85 = .ok (.invokevirtual 277, 3) := by decide +kernel
theorem dX12_asks_88 : decode cX12_asks 88 = .ok (.iastore, 1) := by decide +kernel
theorem dX12_asks_89 : decode cX12_asks 89 = .ok (.iload_n 1, 1) := by decide +kernel
theorem dX12_asks_90 : decode cX12_asks 90 = .ok (.iconst (-1), 1) := by decide +kernel
theorem dX12_asks_91 : decode cX12_asks 91 = .ok (.if_icmp .ne 4, 3) := by decide +kernel
theorem dX12_asks_94 : decode cX12_asks 94 = .ok (.return_, 1) := by decide +kernel
theorem dX12_asks_95 : decode cX12_asks 95 = .ok (.aload_n 0, 1) := by decide +kernel
theorem dX12_asks_96 : decode cX12_asks 96 = .ok (.getfield 124, 3) := by decide +kernel
theorem dX12_asks_99 : decode cX12_asks 99 = .ok (.iconst 0, 1) := by decide +kernel
theorem dX12_asks_100 : decode cX12_asks 100 = .ok (.iload_n 1, 1) := by decide +kernel
theorem dX12_asks_101 : decode cX12_asks 101 = .ok (.iastore, 1) := by decide +kernel
theorem dX12_asks_102 : decode cX12_asks 102 = .ok (.aload_n 0, 1) := by decide +kernel
theorem dX12_asks_103 : decode cX12_asks 103 = .ok (.getfield 124, 3) := by decide +kernel
theorem dX12_asks_106 : decode cX12_asks 106 = .ok (.iconst 1, 1) := by decide +kernel
theorem dX12_asks_107 : decode cX12_asks 107 = .ok (.aload_n 0, 1) := by decide +kernel
theorem dX12_asks_108 : decode cX12_asks 108 = .ok (.getfield 7, 3) := by decide +kernel
theorem dX12_asks_111 : decode cX12_asks 111 = .ok (.iload_n 1, 1) := by decide +kernel
theorem dX12_asks_112 : decode cX12_asks 112 = .ok (.iaload, 1) := by decide +kernel
theorem dX12_asks_113 : decode cX12_asks 113 = .ok (.iastore, 1) := by decide +kernel
theorem dX12_asks_114 : decode cX12_asks 114 = .ok (.aload_n 0, 1) := by decide +kernel
theorem dX12_asks_115 : decode cX12_asks 115 = .ok (.getfield 124, 3) := by decide +kernel
theorem dX12_asks_118 : decode cX12_asks 118 = .ok (.bipush 9, 2) := by decide +kernel
theorem dX12_asks_120 : decode cX12_asks 120 = .ok (.aload_n 0, 1) := by decide +kernel
theorem dX12_asks_121 : decode cX12_asks 121 = .ok (.iload_n 1, 1) := by decide +kernel
theorem dX12_asks_122 : decode cX12_asks 122 = .ok (.invokevirtual 295, 3) := by decide +kernel
theorem dX12_asks_125 : decode cX12_asks 125 = .ok (.iastore, 1) := by decide +kernel
theorem dX12_asks_126 : decode cX12_asks 126 = .ok (.aload_n 0, 1) := by decide +kernel
theorem dX12_asks_127 : decode cX12_asks 127 = .ok (.getfield 124, 3) := by decide +kernel
theorem dX12_asks_130 : decode cX12_asks 130 = .ok (.bipush 10, 2) := by decide +kernel
theorem dX12_asks_132 : decode cX12_asks 132 = .ok (.aload_n 0, 1) := by decide +kernel
theorem dX12_asks_133 : decode cX12_asks 133 = .ok (.getfield 13, 3) := by decide +kernel
theorem dX12_asks_136 : decode cX12_asks 136 = .ok (.iload_n 1, 1) := by decide +kernel
theorem dX12_asks_137 : decode cX12_asks 137 = .ok (.iaload, 1) := by decide +kernel
theorem dX12_asks_138 : decode cX12_asks 138 = .ok (.iastore, 1) := by decide +kernel
theorem dX12_asks_139 : decode cX12_asks 139 = .ok (.return_, 1) := by decide +kernel
theorem dX12_asksCut_0 : decode cX12_asksCut 0 = .ok (.aload_n 0, 1) := by decide +kernel
theorem dX12_asksCut_1 : decode cX12_asksCut 1 = .ok (.iload_n 2, 1) := by decide +kernel
theorem dX12_asksCut_2 : decode cX12_asksCut 2 = .ok (.invokevirtual 430, 3) := by decide +kernel
theorem dX12_asksCut_5 : decode cX12_asksCut 5 = .ok (.aload_n 0, 1) := by decide +kernel
theorem dX12_asksCut_6 : decode cX12_asksCut 6 = .ok (.getfield 124, 3) := by decide +kernel
theorem dX12_asksCut_9 : decode cX12_asksCut 9 = .ok (.iconst 2, 1) := by decide +kernel
theorem dX12_asksCut_10 : decode cX12_asksCut 10 = .ok (.iload_n 3, 1) := by decide +kernel
theorem dX12_asksCut_11 : decode cX12_asksCut 11 = .ok (.iastore, 1) := by decide +kernel
theorem dX12_asksCut_12 : decode cX12_asksCut 12 = .ok (.aload_n 0, 1) := by decide +kernel
theorem dX12_asksCut_13 : decode cX12_asksCut 13 = .ok (.getfield 124, 3) := by decide +kernel
theorem dX12_asksCut_16 : decode cX12_asksCut 16 = .ok (.iconst 3, 1) := by decide +kernel
theorem dX12_asksCut_17 : decode cX12_asksCut 17 = .ok (.iload 4, 2) := by decide +kernel
theorem dX12_asksCut_19 : decode cX12_asksCut 19 = .ok (.iastore, 1) := by decide +kernel
theorem dX12_asksCut_20 : decode cX12_asksCut 20 = .ok (.aload_n 0, 1) := by decide +kernel
theorem dX12_asksCut_21 : decode cX12_asksCut 21 = .ok (.getfield 124, 3) := by decide +kernel
theorem dX12_asksCut_24 : decode cX12_asksCut 24 = .ok (.bipush 11, 2) := by decide +kernel
theorem dX12_asksCut_26 : decode cX12_asksCut 26 = .ok (.iload_n 1, 1) := by decide +kernel
theorem dX12_asksCut_27 : decode cX12_asksCut 27 = .ok (.iastore, 1) := by decide +kernel
theorem dX12_asksCut_28 : decode cX12_asksCut 28 = .ok (.return_, 1) := by decide +kernel
theorem dX12_holds_0 : decode cX12_holds 0 = .ok (.iconst 5, 1) := by decide +kernel
theorem dX12_holds_1 : decode cX12_holds 1 = .ok (.iload_n 1, 1) := by decide +kernel
theorem dX12_holds_2 : decode cX12_holds 2 = .ok (.imul, 1) := by decide +kernel
theorem dX12_holds_3 : decode cX12_holds 3 = .ok (.istore_n 2, 1) := by decide +kernel
theorem dX12_holds_4 : decode cX12_holds 4 = .ok (.iload_n 2, 1) := by decide +kernel
theorem dX12_holds_5 : decode cX12_holds 5 = .ok (.iconst 5, 1) := by decide +kernel
theorem dX12_holds_6 : decode cX12_holds 6 = .ok (.iload_n 1, 1) := by decide +kernel
theorem dX12_holds_7 : decode cX12_holds 7 = .ok (.imul, 1) := by decide +kernel
theorem dX12_holds_8 : decode cX12_holds 8 = .ok (.aload_n 0, 1) := by decide +kernel
theorem dX12_holds_9 : decode cX12_holds 9 = .ok (.getfield 100, 3) := by decide +kernel
theorem dX12_holds_12 : decode cX12_holds 12 = .ok (.iload_n 1, 1) := by decide +kernel
theorem dX12_holds_13 : decode cX12_holds 13 = .ok (.iaload, 1) := by decide +kernel
theorem dX12_holds_14 : decode cX12_holds 14 = .ok (.iadd, 1) := by decide +kernel
theorem dX12_holds_15 : decode cX12_holds 15 = .ok (.if_icmp .ge 106, 3) := by decide +kernel
theorem dX12_holds_18 : decode cX12_holds 18 = .ok (.aload_n 0, 1) := by decide +kernel
theorem dX12_holds_19 : decode cX12_holds 19 = .ok (.getfield 124, 3) := by decide +kernel
theorem dX12_holds_22 : decode cX12_holds 22 = .ok (.aload_n 0, 1) := by decide +kernel
theorem dX12_holds_23 : decode cX12_holds 23 = .ok (.getfield 107, 3) := by decide +kernel
theorem dX12_holds_26 : decode cX12_holds 26 = .ok (.iload_n 2, 1) := by decide +kernel
theorem dX12_holds_27 : decode cX12_holds 27 = .ok (.iaload, 1) := by decide +kernel
theorem dX12_holds_28 : decode cX12_holds 28 = .ok (.iaload, 1) := by decide +kernel
theorem dX12_holds_29 : decode cX12_holds 29 = .ok (.istore_n 3, 1) := by decide +kernel
theorem dX12_holds_30 : decode cX12_holds 30 = .ok (.aload_n 0, 1) := by decide +kernel
theorem dX12_holds_31 : decode cX12_holds 31 = .ok (.getfield 110, 3) := by decide +kernel
theorem dX12_holds_34 : decode cX12_holds 34 = .ok (.iload_n 2, 1) := by decide +kernel
theorem dX12_holds_35 : decode cX12_holds 35 = .ok (.iaload, 1) := by decide +kernel
theorem dX12_holds_36 : decode cX12_holds 36 = .ok (.ifCond .ne 21, 3) := by decide +kernel
theorem dX12_holds_39 : decode cX12_holds 39 = .ok (.iload_n 3, 1) := by decide +kernel
theorem dX12_holds_40 : decode cX12_holds 40 = .ok (.aload_n 0, 1) := by decide +kernel
theorem dX12_holds_41 : decode cX12_holds 41 = .ok (.getfield 113, 3) := by decide +kernel
theorem dX12_holds_44 : decode cX12_holds 44 = .ok (.iload_n 2, 1) := by decide +kernel
theorem dX12_holds_45 : decode cX12_holds 45 = .ok (.iaload, 1) := by decide +kernel
theorem dX12_holds_46 : decode cX12_holds 46 = .ok (.if_icmp .ge 7, 3) := by decide +kernel
theorem dX12_holds_49 : decode cX12_holds 49 = .ok (.iconst 1, 1) := by decide +kernel
theorem dX12_holds_50 : decode cX12_holds 50 = .ok (.goto 50, 3) := by decide +kernel
theorem dX12_holds_53 : decode cX12_holds 53 = .ok (.iconst 0, 1) := by decide +kernel
theorem dX12_holds_54 : decode cX12_holds 54 = .ok (.goto 46, 3) := by decide +kernel
theorem dX12_holds_57 : decode cX12_holds 57 = .ok (.aload_n 0, 1) := by decide +kernel
theorem dX12_holds_58 : decode cX12_holds 58 = .ok (.getfield 110, 3) := by decide +kernel
theorem dX12_holds_61 : decode cX12_holds 61 = .ok (.iload_n 2, 1) := by decide +kernel
theorem dX12_holds_62 : decode cX12_holds 62 = .ok (.iaload, 1) := by decide +kernel
theorem dX12_holds_63 : decode cX12_holds 63 = .ok (.iconst 1, 1) := by decide +kernel
theorem dX12_holds_64 : decode cX12_holds 64 = .ok (.if_icmp .ne 21, 3) := by decide +kernel
theorem dX12_holds_67 : decode cX12_holds 67 = .ok (.iload_n 3, 1) := by decide +kernel
theorem dX12_holds_68 : decode cX12_holds 68 = .ok (.aload_n 0, 1) := by decide +kernel
theorem dX12_holds_69 : decode cX12_holds 69 = .ok (.getfield 113, 3) := by decide +kernel
theorem dX12_holds_72 : decode cX12_holds 72 = .ok (.iload_n 2, 1) := by decide +kernel
theorem dX12_holds_73 : decode cX12_holds 73 = .ok (.iaload, 1) := by decide +kernel
theorem dX12_holds_74 : decode cX12_holds 74 = .ok (.if_icmp .ne 7, 3) := by decide +kernel
theorem dX12_holds_77 : decode cX12_holds 77 = .ok (.iconst 1, 1) := by decide +kernel
theorem dX12_holds_78 : decode cX12_holds 78 = .ok (.goto 22, 3) := by decide +kernel
theorem dX12_holds_81 : decode cX12_holds 81 = .ok (.iconst 0, 1) := by decide +kernel
theorem dX12_holds_82 : decode cX12_holds 82 = .ok (.goto 18, 3) := by decide +kernel
theorem dX12_holds_85 : decode cX12_holds 85 = .ok (.iload_n 3, 1) := by decide +kernel
theorem dX12_holds_86 : decode cX12_holds 86 = .ok (.aload_n 0, 1) := by decide +kernel
theorem dX12_holds_87 : decode cX12_holds 87 = .ok (.getfield 113, 3) := by decide +kernel
theorem dX12_holds_90 : decode cX12_holds 90 = .ok (.iload_n 2, 1) := by decide +kernel
theorem dX12_holds_91 : decode cX12_holds 91 = .ok (.iaload, 1) := by decide +kernel
theorem dX12_holds_92 : decode cX12_holds 92 = .ok (.if_icmp .le 7, 3) := by decide +kernel
theorem dX12_holds_95 : decode cX12_holds 95 = .ok (.iconst 1, 1) := by decide +kernel
theorem dX12_holds_96 : decode cX12_holds 96 = .ok (.goto 4, 3) := by decide +kernel
theorem dX12_holds_99 : decode cX12_holds 99 = .ok (.iconst 0, 1) := by decide +kernel
theorem dX12_holds_100 : decode cX12_holds 100 = .ok (.istore 4, 2) := by decide +kernel
theorem dX12_holds_102 : decode cX12_holds 102 = .ok (.iload 4, 2) := by decide +kernel
theorem dX12_holds_104 : decode cX12_holds 104 = .ok (.aload_n 0, 1) := by decide +kernel
theorem dX12_holds_105 : decode cX12_holds 105 = .ok (.getfield 103, 3) := by decide +kernel
theorem dX12_holds_108 : decode cX12_holds 108 = .ok (.iload_n 2, 1) := by decide +kernel
theorem dX12_holds_109 : decode cX12_holds 109 = .ok (.baload, 1) := by decide +kernel
theorem dX12_holds_110 : decode cX12_holds 110 = .ok (.if_icmp .ne 5, 3) := by decide +kernel
theorem dX12_holds_113 : decode cX12_holds 113 = .ok (.iconst 0, 1) := by decide +kernel
theorem dX12_holds_114 : decode cX12_holds 114 = .ok (.ireturn, 1) := by decide +kernel
theorem dX12_holds_115 : decode cX12_holds 115 = .ok (.iinc 2 1, 3) := by decide +kernel
theorem dX12_holds_118 : decode cX12_holds 118 = .ok (.goto (-114), 3) := by decide +kernel
theorem dX12_holds_121 : decode cX12_holds 121 = .ok (.iconst 1, 1) := by decide +kernel
theorem dX12_holds_122 : decode cX12_holds 122 = .ok (.ireturn, 1) := by decide +kernel
theorem dX12_inForce_0 : decode cX12_inForce 0 = .ok (.iconst (-1), 1) := by decide +kernel
theorem dX12_inForce_1 : decode cX12_inForce 1 = .ok (.istore_n 1, 1) := by decide +kernel
theorem dX12_inForce_2 : decode cX12_inForce 2 = .ok (.iconst 0, 1) := by decide +kernel
theorem dX12_inForce_3 : decode cX12_inForce 3 = .ok (.istore_n 2, 1) := by decide +kernel
theorem dX12_inForce_4 : decode cX12_inForce 4 = .ok (.iload_n 2, 1) := by decide +kernel
theorem dX12_inForce_5 : decode cX12_inForce 5 = .ok (.aload_n 0, 1) := by decide +kernel
theorem dX12_inForce_6 : decode cX12_inForce 6 = .ok (.getfield 421, 3) := by decide +kernel
theorem dX12_inForce_9 : decode cX12_inForce 9 = .ok (.if_icmp .ge 44, 3) := by decide +kernel
theorem dX12_inForce_12 : decode cX12_inForce 12 = .ok (.aload_n 0, 1) := by decide +kernel
theorem dX12_inForce_13 : decode cX12_inForce 13 = .ok (.getfield 88, 3) := by decide +kernel
theorem dX12_inForce_16 : decode cX12_inForce 16 = .ok (.iload_n 2, 1) := by decide +kernel
theorem dX12_inForce_17 : decode cX12_inForce 17 = .ok (.iaload, 1) := by decide +kernel
theorem dX12_inForce_18 : decode cX12_inForce 18 = .ok (.aload_n 0, 1) := by decide +kernel
theorem dX12_inForce_19 : decode cX12_inForce 19 = .ok (.getfield 271, 3) := by decide +kernel
theorem dX12_inForce_22 : decode cX12_inForce 22 = .ok (.if_icmp .gt 25, 3) := by decide +kernel
theorem dX12_inForce_25 : decode cX12_inForce 25 = .ok (.iload_n 1, 1) := by decide +kernel
theorem dX12_inForce_26 : decode cX12_inForce 26 = .ok (.iconst (-1), 1) := by decide +kernel
theorem dX12_inForce_27 : decode cX12_inForce 27 = .ok (.if_icmp .eq 18, 3) := by decide +kernel
theorem dX12_inForce_30 : decode cX12_inForce 30 = .ok (.aload_n 0, 1) := by decide +kernel
theorem dX12_inForce_31 : decode cX12_inForce 31 = .ok (.getfield 88, 3) := by decide +kernel
theorem dX12_inForce_34 : decode cX12_inForce 34 = .ok (.iload_n 2, 1) := by decide +kernel
theorem dX12_inForce_35 : decode cX12_inForce 35 = .ok (.iaload, 1) := by decide +kernel
theorem dX12_inForce_36 : decode cX12_inForce 36 = .ok (.aload_n 0, 1) := by decide +kernel
theorem dX12_inForce_37 : decode cX12_inForce 37 = .ok (.getfield 88, 3) := by decide +kernel
theorem dX12_inForce_40 : decode cX12_inForce 40 = .ok (.iload_n 1, 1) := by decide +kernel
theorem dX12_inForce_41 : decode cX12_inForce 41 = .ok (.iaload, 1) := by decide +kernel
theorem dX12_inForce_42 : decode cX12_inForce 42 = .ok (.if_icmp .lt 5, 3) := by decide +kernel
theorem dX12_inForce_45 : decode cX12_inForce 45 = .ok (.iload_n 2, 1) := by decide +kernel
theorem dX12_inForce_46 : decode cX12_inForce 46 = .ok (.istore_n 1, 1) := by decide +kernel
theorem dX12_inForce_47 : decode cX12_inForce 47 = .ok (.iinc 2 1, 3) := by decide +kernel
theorem dX12_inForce_50 : decode cX12_inForce 50 = .ok (.goto (-46), 3) := by decide +kernel
theorem dX12_inForce_53 : decode cX12_inForce 53 = .ok (.iload_n 1, 1) := by decide +kernel
theorem dX12_inForce_54 : decode cX12_inForce 54 = .ok (.ireturn, 1) := by decide +kernel
theorem dX12_barring_0 : decode cX12_barring 0 = .ok (.aload_n 0, 1) := by decide +kernel
theorem dX12_barring_1 : decode cX12_barring 1 = .ok (.invokevirtual 434, 3) := by decide +kernel
theorem dX12_barring_4 : decode cX12_barring 4 = .ok (.istore_n 2, 1) := by decide +kernel
theorem dX12_barring_5 : decode cX12_barring 5 = .ok (.iconst 0, 1) := by decide +kernel
theorem dX12_barring_6 : decode cX12_barring 6 = .ok (.istore_n 3, 1) := by decide +kernel
theorem dX12_barring_7 : decode cX12_barring 7 = .ok (.iload_n 2, 1) := by decide +kernel
theorem dX12_barring_8 : decode cX12_barring 8 = .ok (.iconst (-1), 1) := by decide +kernel
theorem dX12_barring_9 : decode cX12_barring 9 = .ok (.if_icmp .eq 49, 3) := by decide +kernel
theorem dX12_barring_12 : decode cX12_barring 12 = .ok (.iload_n 3, 1) := by decide +kernel
theorem dX12_barring_13 : decode cX12_barring 13 = .ok (.aload_n 0, 1) := by decide +kernel
theorem dX12_barring_14 : decode cX12_barring 14 = .ok (.getfield 91, 3) := by decide +kernel
theorem dX12_barring_17 : decode cX12_barring 17 = .ok (.iload_n 2, 1) := by decide +kernel
theorem dX12_barring_18 : decode cX12_barring 18 = .ok (.iaload, 1) := by decide +kernel
theorem dX12_barring_19 : decode cX12_barring 19 = .ok (.if_icmp .ge 39, 3) := by decide +kernel
theorem dX12_barring_22 : decode cX12_barring 22 = .ok (.aload_n 0, 1) := by decide +kernel
theorem dX12_barring_23 : decode cX12_barring 23 = .ok (.getfield 94, 3) := by decide +kernel
theorem dX12_barring_26 : decode cX12_barring 26 = .ok (.bipush 12, 2) := by decide +kernel
theorem dX12_barring_28 : decode cX12_barring 28 = .ok (.iload_n 2, 1) := by decide +kernel
theorem dX12_barring_29 : decode cX12_barring 29 = .ok (.imul, 1) := by decide +kernel
theorem dX12_barring_30 : decode cX12_barring 30 = .ok (.iload_n 3, 1) := by decide +kernel
theorem dX12_barring_31 : decode cX12_barring 31 = .ok (.iadd, 1) := by decide +kernel
theorem dX12_barring_32 : decode cX12_barring 32 = .ok (.iaload, 1) := by decide +kernel
theorem dX12_barring_33 : decode cX12_barring 33 = .ok (.iload_n 1, 1) := by decide +kernel
theorem dX12_barring_34 : decode cX12_barring 34 = .ok (.if_icmp .ne 18, 3) := by decide +kernel
theorem dX12_barring_37 : decode cX12_barring 37 = .ok (.aload_n 0, 1) := by decide +kernel
theorem dX12_barring_38 : decode cX12_barring 38 = .ok (.bipush 12, 2) := by decide +kernel
theorem dX12_barring_40 : decode cX12_barring 40 = .ok (.iload_n 2, 1) := by decide +kernel
theorem dX12_barring_41 : decode cX12_barring 41 = .ok (.imul, 1) := by decide +kernel
theorem dX12_barring_42 : decode cX12_barring 42 = .ok (.iload_n 3, 1) := by decide +kernel
theorem dX12_barring_43 : decode cX12_barring 43 = .ok (.iadd, 1) := by decide +kernel
theorem dX12_barring_44 : decode cX12_barring 44 = .ok (.invokevirtual 437, 3) := by decide +kernel
theorem dX12_barring_47 : decode cX12_barring 47 = .ok (.ifCond .eq 5, 3) := by decide +kernel
theorem dX12_barring_50 : decode cX12_barring 50 = .ok (.iload_n 3, 1) := by decide +kernel
theorem dX12_barring_51 : decode cX12_barring 51 = .ok (.ireturn, 1) := by decide +kernel
theorem dX12_barring_52 : decode cX12_barring 52 = .ok (.iinc 3 1, 3) := by decide +kernel
theorem dX12_barring_55 : decode cX12_barring 55 = .ok (.goto (-48), 3) := by decide +kernel
theorem dX12_barring_58 : decode cX12_barring 58 = .ok (.iconst (-1), 1) := by decide +kernel
theorem dX12_barring_59 : decode cX12_barring 59 = .ok (.ireturn, 1) := by decide +kernel
theorem dX12_lastOf_0 : decode cX12_lastOf 0 = .ok (.iload_n 1, 1) := by decide +kernel
theorem dX12_lastOf_1 : decode cX12_lastOf 1 = .ok (.iconst 3, 1) := by decide +kernel
theorem dX12_lastOf_2 : decode cX12_lastOf 2 = .ok (.if_icmp .ne 7, 3) := by decide +kernel
theorem dX12_lastOf_5 : decode cX12_lastOf 5 = .ok (.iconst 2, 1) := by decide +kernel
theorem dX12_lastOf_6 : decode cX12_lastOf 6 = .ok (.goto 14, 3) := by decide +kernel
theorem dX12_lastOf_9 : decode cX12_lastOf 9 = .ok (.iload_n 1, 1) := by decide +kernel
theorem dX12_lastOf_10 : decode cX12_lastOf 10 = .ok (.iconst 4, 1) := by decide +kernel
theorem dX12_lastOf_11 : decode cX12_lastOf 11 = .ok (.if_icmp .ne 8, 3) := by decide +kernel
theorem dX12_lastOf_14 : decode cX12_lastOf 14 = .ok (.bipush 50, 2) := by decide +kernel
theorem dX12_lastOf_16 : decode cX12_lastOf 16 = .ok (.goto 4, 3) := by decide +kernel
theorem dX12_lastOf_19 : decode cX12_lastOf 19 = .ok (.iconst 5, 1) := by decide +kernel
theorem dX12_lastOf_20 : decode cX12_lastOf 20 = .ok (.istore_n 2, 1) := by decide +kernel
theorem dX12_lastOf_21 : decode cX12_lastOf 21 = .ok (.aload_n 0, 1) := by decide +kernel
theorem dX12_lastOf_22 : decode cX12_lastOf 22 = .ok (.invokevirtual 434, 3) := by decide +kernel
theorem dX12_lastOf_25 : decode cX12_lastOf 25 = .ok (.istore_n 3, 1) := by decide +kernel
theorem dX12_lastOf_26 : decode cX12_lastOf 26 = .ok (.iconst 0, 1) := by decide +kernel
theorem dX12_lastOf_27 : decode cX12_lastOf 27 = .ok (.istore 4, 2) := by decide +kernel
theorem dX12_lastOf_29 : decode cX12_lastOf 29 = .ok (.iload_n 3, 1) := by decide +kernel
theorem dX12_lastOf_30 : decode cX12_lastOf 30 = .ok (.iconst (-1), 1) := by decide +kernel
theorem dX12_lastOf_31 : decode cX12_lastOf 31 = .ok (.if_icmp .eq 63, 3) := by decide +kernel
theorem dX12_lastOf_34 : decode cX12_lastOf 34 = .ok (.iload 4, 2) := by decide +kernel
theorem dX12_lastOf_36 : decode cX12_lastOf 36 = .ok (.aload_n 0, 1) := by decide +kernel
theorem dX12_lastOf_37 : decode cX12_lastOf 37 = .ok (.getfield 91, 3) := by decide +kernel
theorem dX12_lastOf_40 : decode cX12_lastOf 40 = .ok (.iload_n 3, 1) := by decide +kernel
theorem dX12_lastOf_41 : decode cX12_lastOf 41 = .ok (.iaload, 1) := by decide +kernel
theorem dX12_lastOf_42 : decode cX12_lastOf 42 = .ok (.if_icmp .ge 52, 3) := by decide +kernel
theorem dX12_lastOf_45 : decode cX12_lastOf 45 = .ok (.aload_n 0, 1) := by decide +kernel
theorem dX12_lastOf_46 : decode cX12_lastOf 46 = .ok (.getfield 94, 3) := by decide +kernel
theorem dX12_lastOf_49 : decode cX12_lastOf 49 = .ok (.bipush 12, 2) := by decide +kernel
theorem dX12_lastOf_51 : decode cX12_lastOf 51 = .ok (.iload_n 3, 1) := by decide +kernel
theorem dX12_lastOf_52 : decode cX12_lastOf 52 = .ok (.imul, 1) := by decide +kernel
theorem dX12_lastOf_53 : decode cX12_lastOf 53 = .ok (.iload 4, 2) := by decide +kernel
theorem dX12_lastOf_55 : decode cX12_lastOf 55 = .ok (.iadd, 1) := by decide +kernel
theorem dX12_lastOf_56 : decode cX12_lastOf 56 = .ok (.iaload, 1) := by decide +kernel
theorem dX12_lastOf_57 : decode cX12_lastOf 57 = .ok (.iload_n 1, 1) := by decide +kernel
theorem dX12_lastOf_58 : decode cX12_lastOf 58 = .ok (.if_icmp .ne 30, 3) := by decide +kernel
theorem dX12_lastOf_61 : decode cX12_lastOf 61 = .ok (.aload_n 0, 1) := by decide +kernel
theorem dX12_lastOf_62 : decode cX12_lastOf 62 = .ok (.bipush 12, 2) := by decide +kernel
theorem dX12_lastOf_64 : decode cX12_lastOf 64 = .ok (.iload_n 3, 1) := by decide +kernel
theorem dX12_lastOf_65 : decode cX12_lastOf 65 = .ok (.imul, 1) := by decide +kernel
theorem dX12_lastOf_66 : decode cX12_lastOf 66 = .ok (.iload 4, 2) := by decide +kernel
theorem dX12_lastOf_68 : decode cX12_lastOf 68 = .ok (.iadd, 1) := by decide +kernel
theorem dX12_lastOf_69 : decode cX12_lastOf 69 = .ok (.invokevirtual 437, 3) := by decide +kernel
theorem dX12_lastOf_72 : decode cX12_lastOf 72 = .ok (.ifCond .eq 16, 3) := by decide +kernel
theorem dX12_lastOf_75 : decode cX12_lastOf 75 = .ok (.aload_n 0, 1) := by decide +kernel
theorem dX12_lastOf_76 : decode cX12_lastOf 76 = .ok (.getfield 97, 3) := by decide +kernel
theorem dX12_lastOf_79 : decode cX12_lastOf 79 = .ok (.bipush 12, 2) := by decide +kernel
theorem dX12_lastOf_81 : decode cX12_lastOf 81 = .ok (.iload_n 3, 1) := by decide +kernel
theorem dX12_lastOf_82 : decode cX12_lastOf 82 = .ok (.imul, 1) := by decide +kernel
theorem dX12_lastOf_83 : decode cX12_lastOf 83 = .ok (.iload 4, 2) := by decide +kernel
theorem dX12_lastOf_85 : decode cX12_lastOf 85 = .ok (.iadd, 1) := by decide +kernel
theorem dX12_lastOf_86 : decode cX12_lastOf 86 = .ok (.iaload, 1) := by decide +kernel
theorem dX12_lastOf_87 : decode cX12_lastOf 87 = .ok (.istore_n 2, 1) := by decide +kernel
theorem dX12_lastOf_88 : decode cX12_lastOf 88 = .ok (.iinc 4 1, 3) := by decide +kernel
theorem dX12_lastOf_91 : decode cX12_lastOf 91 = .ok (.goto (-62), 3) := by decide +kernel
theorem dX12_lastOf_94 : decode cX12_lastOf 94 = .ok (.iload_n 2, 1) := by decide +kernel
theorem dX12_lastOf_95 : decode cX12_lastOf 95 = .ok (.ireturn, 1) := by decide +kernel
theorem dX12_why_0 : decode cX12_why 0 = .ok (.aload_n 0, 1) := by decide +kernel
theorem dX12_why_1 : decode cX12_why 1 = .ok (.iconst 0, 1) := by decide +kernel
theorem dX12_why_2 : decode cX12_why 2 = .ok (.putfield 235, 3) := by decide +kernel
theorem dX12_why_5 : decode cX12_why 5 = .ok (.aload_n 0, 1) := by decide +kernel
theorem dX12_why_6 : decode cX12_why 6 = .ok (.iload_n 1, 1) := by decide +kernel
theorem dX12_why_7 : decode cX12_why 7 = .ok (.invokevirtual 440, 3) := by decide +kernel
theorem dX12_why_10 : decode cX12_why 10 = .ok (.ifCond .eq 19, 3) := by decide +kernel
theorem dX12_why_13 : decode cX12_why 13 = .ok (.iload_n 2, 1) := by decide +kernel
theorem dX12_why_14 : decode cX12_why 14 = .ok (.invokestatic 253, 3) := by decide +kernel
theorem dX12_why_17 : decode cX12_why 17 = .ok (.ifCond .eq 12, 3) := by decide +kernel
theorem dX12_why_20 : decode cX12_why 20 = .ok (.iload_n 3, 1) := by decide +kernel
theorem dX12_why_21 : decode cX12_why 21 = .ok (.iload 4, 2) := by decide +kernel
theorem dX12_why_23 : decode cX12_why 23 = .ok (.invokestatic 257, 3) := by decide +kernel
theorem dX12_why_26 : decode cX12_why 26 = .ok (.ifCond .ne 6, 3) := by decide +kernel
theorem dX12_why_29 : decode cX12_why 29 = .ok (.bipush (-2), 2) := by decide +kernel
theorem dX12_why_31 : decode cX12_why 31 = .ok (.ireturn, 1) := by decide +kernel
theorem dX12_why_32 : decode cX12_why 32 = .ok (.aload_n 0, 1) := by decide +kernel
theorem dX12_why_33 : decode cX12_why 33 = .ok (.iload_n 1, 1) := by decide +kernel
theorem dX12_why_34 : decode cX12_why 34 = .ok (.iload_n 2, 1) := by decide +kernel
theorem dX12_why_35 : decode cX12_why 35 = .ok (.iload_n 3, 1) := by decide +kernel
theorem dX12_why_36 : decode cX12_why 36 = .ok (.iload 4, 2) := by decide +kernel
theorem dX12_why_38 : decode cX12_why 38 = .ok (.invokevirtual 443, 3) := by decide +kernel
theorem dX12_why_41 : decode cX12_why 41 = .ok (.aload_n 0, 1) := by decide +kernel
theorem dX12_why_42 : decode cX12_why 42 = .ok (.iconst 0, 1) := by decide +kernel
theorem dX12_why_43 : decode cX12_why 43 = .ok (.invokevirtual 447, 3) := by decide +kernel
theorem dX12_why_46 : decode cX12_why 46 = .ok (.ireturn, 1) := by decide +kernel
theorem dX12_barringWay_0 : decode cX12_barringWay 0 = .ok (.aload_n 0, 1) := by decide +kernel
theorem dX12_barringWay_1 : decode cX12_barringWay 1 = .ok (.aload_n 0, 1) := by decide +kernel
theorem dX12_barringWay_2 : decode cX12_barringWay 2 = .ok (.getfield 130, 3) := by decide +kernel
theorem dX12_barringWay_5 : decode cX12_barringWay 5 = .ok (.iload_n 1, 1) := by decide +kernel
theorem dX12_barringWay_6 : decode cX12_barringWay 6 = .ok (.iaload, 1) := by decide +kernel
theorem dX12_barringWay_7 : decode cX12_barringWay 7 = .ok (.invokevirtual 430, 3) := by decide +kernel
theorem dX12_barringWay_10 : decode cX12_barringWay 10 = .ok (.aload_n 0, 1) := by decide +kernel
theorem dX12_barringWay_11 : decode cX12_barringWay 11 = .ok (.getfield 124, 3) := by decide +kernel
theorem dX12_barringWay_14 : decode cX12_barringWay 14 = .ok (.bipush 12, 2) := by decide +kernel
theorem dX12_barringWay_16 : decode cX12_barringWay 16 = .ok (.aload_n 0, 1) := by decide +kernel
theorem dX12_barringWay_17 : decode cX12_barringWay 17 = .ok (.getfield 127, 3) := by decide +kernel
theorem dX12_barringWay_20 : decode cX12_barringWay 20 = .ok (.iload_n 1, 1) := by decide +kernel
theorem dX12_barringWay_21 : decode cX12_barringWay 21 = .ok (.iaload, 1) := by decide +kernel
theorem dX12_barringWay_22 : decode cX12_barringWay 22 = .ok (.iastore, 1) := by decide +kernel
theorem dX12_barringWay_23 : decode cX12_barringWay 23 = .ok (.aload_n 0, 1) := by decide +kernel
theorem dX12_barringWay_24 : decode cX12_barringWay 24 = .ok (.iconst 1, 1) := by decide +kernel
theorem dX12_barringWay_25 : decode cX12_barringWay 25 = .ok (.invokevirtual 447, 3) := by decide +kernel
theorem dX12_barringWay_28 : decode cX12_barringWay 28 = .ok (.ireturn, 1) := by decide +kernel
theorem dX12_whyWay_0 : decode cX12_whyWay 0 = .ok (.aload_n 0, 1) := by decide +kernel
theorem dX12_whyWay_1 : decode cX12_whyWay 1 = .ok (.iconst 0, 1) := by decide +kernel
theorem dX12_whyWay_2 : decode cX12_whyWay 2 = .ok (.putfield 235, 3) := by decide +kernel
theorem dX12_whyWay_5 : decode cX12_whyWay 5 = .ok (.aload_n 0, 1) := by decide +kernel
theorem dX12_whyWay_6 : decode cX12_whyWay 6 = .ok (.iload_n 1, 1) := by decide +kernel
theorem dX12_whyWay_7 : decode cX12_whyWay 7 = .ok (.invokevirtual 450, 3) := by decide +kernel
theorem dX12_whyWay_10 : decode cX12_whyWay 10 = .ok (.ifCond .eq 11, 3) := by decide +kernel
theorem dX12_whyWay_13 : decode cX12_whyWay 13 = .ok (.aload_n 0, 1) := by decide +kernel
theorem dX12_whyWay_14 : decode cX12_whyWay 14 = .ok (.iload_n 1, 1) := by decide +kernel
theorem dX12_whyWay_15 : decode cX12_whyWay 15 = .ok (.invokevirtual 453, 3) := by decide +kernel
theorem dX12_whyWay_18 : decode cX12_whyWay 18 = .ok (.goto 5, 3) := by decide +kernel
theorem dX12_whyWay_21 : decode cX12_whyWay 21 = .ok (.bipush (-2), 2) := by decide +kernel
theorem dX12_whyWay_23 : decode cX12_whyWay 23 = .ok (.ireturn, 1) := by decide +kernel
theorem dX12_dueOf_0 : decode cX12_dueOf 0 = .ok (.aload_n 0, 1) := by decide +kernel
theorem dX12_dueOf_1 : decode cX12_dueOf 1 = .ok (.iconst (-1), 1) := by decide +kernel
theorem dX12_dueOf_2 : decode cX12_dueOf 2 = .ok (.invokevirtual 430, 3) := by decide +kernel
theorem dX12_dueOf_5 : decode cX12_dueOf 5 = .ok (.aload_n 0, 1) := by decide +kernel
theorem dX12_dueOf_6 : decode cX12_dueOf 6 = .ok (.getfield 124, 3) := by decide +kernel
theorem dX12_dueOf_9 : decode cX12_dueOf 9 = .ok (.bipush 11, 2) := by decide +kernel
theorem dX12_dueOf_11 : decode cX12_dueOf 11 = .ok (.iload_n 1, 1) := by decide +kernel
theorem dX12_dueOf_12 : decode cX12_dueOf 12 = .ok (.iastore, 1) := by decide +kernel
theorem dX12_dueOf_13 : decode cX12_dueOf 13 = .ok (.aload_n 0, 1) := by decide +kernel
theorem dX12_dueOf_14 : decode cX12_dueOf 14 = .ok (.iconst 3, 1) := by decide +kernel
theorem dX12_dueOf_15 : decode cX12_dueOf 15 = .ok (.iload_n 2, 1) := by decide +kernel
theorem dX12_dueOf_16 : decode cX12_dueOf 16 = .ok (.iadd, 1) := by decide +kernel
theorem dX12_dueOf_17 : decode cX12_dueOf 17 = .ok (.invokevirtual 456, 3) := by decide +kernel
theorem dX12_dueOf_20 : decode cX12_dueOf 20 = .ok (.ireturn, 1) := by decide +kernel
theorem dX12_due_0 : decode cX12_due 0 = .ok (.aload_n 0, 1) := by decide +kernel
theorem dX12_due_1 : decode cX12_due 1 = .ok (.iconst 0, 1) := by decide +kernel
theorem dX12_due_2 : decode cX12_due 2 = .ok (.putfield 235, 3) := by decide +kernel
theorem dX12_due_5 : decode cX12_due 5 = .ok (.aload_n 0, 1) := by decide +kernel
theorem dX12_due_6 : decode cX12_due 6 = .ok (.iload_n 1, 1) := by decide +kernel
theorem dX12_due_7 : decode cX12_due 7 = .ok (.invokevirtual 440, 3) := by decide +kernel
theorem dX12_due_10 : decode cX12_due 10 = .ok (.ifCond .eq 21, 3) := by decide +kernel
theorem dX12_due_13 : decode cX12_due 13 = .ok (.iload_n 2, 1) := by decide +kernel
theorem dX12_due_14 : decode cX12_due 14 = .ok (.iconst 0, 1) := by decide +kernel
theorem dX12_due_15 : decode cX12_due 15 = .ok (.iconst 2, 1) := by decide +kernel
theorem dX12_due_16 : decode cX12_due 16 = .ok (.invokestatic 238, 3) := by decide +kernel
theorem dX12_due_19 : decode cX12_due 19 = .ok (.ifCond .eq 12, 3) := by decide +kernel
theorem dX12_due_22 : decode cX12_due 22 = .ok (.aload_n 0, 1) := by decide +kernel
theorem dX12_due_23 : decode cX12_due 23 = .ok (.iload_n 1, 1) := by decide +kernel
theorem dX12_due_24 : decode cX12_due 24 = .ok (.iload_n 2, 1) := by decide +kernel
theorem dX12_due_25 : decode cX12_due 25 = .ok (.invokevirtual 459, 3) := by decide +kernel
theorem dX12_due_28 : decode cX12_due 28 = .ok (.goto 4, 3) := by decide +kernel
theorem dX12_due_31 : decode cX12_due 31 = .ok (.iconst (-1), 1) := by decide +kernel
theorem dX12_due_32 : decode cX12_due 32 = .ok (.ireturn, 1) := by decide +kernel
theorem dX12_isWay_0 : decode cX12_isWay 0 = .ok (.iload_n 1, 1) := by decide +kernel
theorem dX12_isWay_1 : decode cX12_isWay 1 = .ok (.iconst 0, 1) := by decide +kernel
theorem dX12_isWay_2 : decode cX12_isWay 2 = .ok (.aload_n 0, 1) := by decide +kernel
theorem dX12_isWay_3 : decode cX12_isWay 3 = .ok (.getfield 462, 3) := by decide +kernel
theorem dX12_isWay_6 : decode cX12_isWay 6 = .ok (.iconst 1, 1) := by decide +kernel
theorem dX12_isWay_7 : decode cX12_isWay 7 = .ok (.isub, 1) := by decide +kernel
theorem dX12_isWay_8 : decode cX12_isWay 8 = .ok (.invokestatic 238, 3) := by decide +kernel
theorem dX12_isWay_11 : decode cX12_isWay 11 = .ok (.ireturn, 1) := by decide +kernel
theorem dX12_way_0 : decode cX12_way 0 = .ok (.aload_n 0, 1) := by decide +kernel
theorem dX12_way_1 : decode cX12_way 1 = .ok (.iconst 0, 1) := by decide +kernel
theorem dX12_way_2 : decode cX12_way 2 = .ok (.putfield 235, 3) := by decide +kernel
theorem dX12_way_5 : decode cX12_way 5 = .ok (.iload_n 2, 1) := by decide +kernel
theorem dX12_way_6 : decode cX12_way 6 = .ok (.invokestatic 253, 3) := by decide +kernel
theorem dX12_way_9 : decode cX12_way 9 = .ok (.ifCond .eq 36, 3) := by decide +kernel
theorem dX12_way_12 : decode cX12_way 12 = .ok (.iload_n 3, 1) := by decide +kernel
theorem dX12_way_13 : decode cX12_way 13 = .ok (.invokestatic 253, 3) := by decide +kernel
theorem dX12_way_16 : decode cX12_way 16 = .ok (.ifCond .eq 29, 3) := by decide +kernel
theorem dX12_way_19 : decode cX12_way 19 = .ok (.iload_n 2, 1) := by decide +kernel
theorem dX12_way_20 : decode cX12_way 20 = .ok (.iload_n 3, 1) := by decide +kernel
theorem dX12_way_21 : decode cX12_way 21 = .ok (.invokestatic 465, 3) := by decide +kernel
theorem dX12_way_24 : decode cX12_way 24 = .ok (.ifCond .eq 21, 3) := by decide +kernel
theorem dX12_way_27 : decode cX12_way 27 = .ok (.iload_n 1, 1) := by decide +kernel
theorem dX12_way_28 : decode cX12_way 28 = .ok (.iconst 0, 1) := by decide +kernel
theorem dX12_way_29 : decode cX12_way 29 = .ok (.iconst 4, 1) := by decide +kernel
theorem dX12_way_30 : decode cX12_way 30 = .ok (.invokestatic 238, 3) := by decide +kernel
theorem dX12_way_33 : decode cX12_way 33 = .ok (.ifCond .eq 12, 3) := by decide +kernel
theorem dX12_way_36 : decode cX12_way 36 = .ok (.aload_n 0, 1) := by decide +kernel
theorem dX12_way_37 : decode cX12_way 37 = .ok (.getfield 462, 3) := by decide +kernel
theorem dX12_way_40 : decode cX12_way 40 = .ok (.bipush 40, 2) := by decide +kernel
theorem dX12_way_42 : decode cX12_way 42 = .ok (.if_icmp .ne 5, 3) := by decide +kernel
theorem dX12_way_45 : decode cX12_way 45 = .ok (.iconst (-1), 1) := by decide +kernel
theorem dX12_way_46 : decode cX12_way 46 = .ok (.ireturn, 1) := by decide +kernel
theorem dX12_way_47 : decode cX12_way 47 = .ok (.aload_n 0, 1) := by decide +kernel
theorem dX12_way_48 : decode cX12_way 48 = .ok (.getfield 127, 3) := by decide +kernel
theorem dX12_way_51 : decode cX12_way 51 = .ok (.aload_n 0, 1) := by decide +kernel
theorem dX12_way_52 : decode cX12_way 52 = .ok (.getfield 462, 3) := by decide +kernel
theorem dX12_way_55 : decode cX12_way 55 = .ok (.iload_n 1, 1) := by decide +kernel
theorem dX12_way_56 : decode cX12_way 56 = .ok (.iastore, 1) := by decide +kernel
theorem dX12_way_57 : decode cX12_way 57 = .ok (.aload_n 0, 1) := by decide +kernel
theorem dX12_way_58 : decode cX12_way 58 = .ok (.getfield 130, 3) := by decide +kernel
theorem dX12_way_61 : decode cX12_way 61 = .ok (.aload_n 0, 1) := by decide +kernel
theorem dX12_way_62 : decode cX12_way 62 = .ok (.getfield 462, 3) := by decide +kernel
theorem dX12_way_65 : decode cX12_way 65 = .ok (.iload_n 2, 1) := by decide +kernel
theorem dX12_way_66 : decode cX12_way 66 = .ok (.iastore, 1) := by decide +kernel
theorem dX12_way_67 : decode cX12_way 67 = .ok (.aload_n 0, 1) := by decide +kernel
theorem dX12_way_68 : decode cX12_way 68 = .ok (.getfield 133, 3) := by decide +kernel
theorem dX12_way_71 : decode cX12_way 71 = .ok (.aload_n 0, 1) := by decide +kernel
theorem dX12_way_72 : decode cX12_way 72 = .ok (.getfield 462, 3) := by decide +kernel
theorem dX12_way_75 : decode cX12_way 75 = .ok (.iload_n 3, 1) := by decide +kernel
theorem dX12_way_76 : decode cX12_way 76 = .ok (.iastore, 1) := by decide +kernel
theorem dX12_way_77 : decode cX12_way 77 = .ok (.aload_n 0, 1) := by decide +kernel
theorem dX12_way_78 : decode cX12_way 78 = .ok (.getfield 139, 3) := by decide +kernel
theorem dX12_way_81 : decode cX12_way 81 = .ok (.aload_n 0, 1) := by decide +kernel
theorem dX12_way_82 : decode cX12_way 82 = .ok (.getfield 462, 3) := by decide +kernel
theorem dX12_way_85 : decode cX12_way 85 = .ok (.iconst (-1), 1) := by decide +kernel
theorem dX12_way_86 : decode cX12_way 86 = .ok (.iastore, 1) := by decide +kernel
theorem dX12_way_87 : decode cX12_way 87 = .ok (.aload_n 0, 1) := by decide +kernel
theorem dX12_way_88 : decode cX12_way 88 = .ok (.dup, 1) := by decide +kernel
theorem dX12_way_89 : decode cX12_way 89 = .ok (.getfield 462, 3) := by decide +kernel
theorem dX12_way_92 : decode cX12_way 92 = .ok (.iconst 1, 1) := by decide +kernel
theorem dX12_way_93 : decode cX12_way 93 = .ok (.iadd, 1) := by decide +kernel
theorem dX12_way_94 : decode cX12_way 94 = .ok (.putfield 462, 3) := by decide +kernel
theorem dX12_way_97 : decode cX12_way 97 = .ok (.aload_n 0, 1) := by decide +kernel
theorem dX12_way_98 : decode cX12_way 98 = .ok (.getfield 462, 3) := by decide +kernel
theorem dX12_way_101 : decode cX12_way 101 = .ok (.iconst 1, 1) := by decide +kernel
theorem dX12_way_102 : decode cX12_way 102 = .ok (.isub, 1) := by decide +kernel
theorem dX12_way_103 : decode cX12_way 103 = .ok (.ireturn, 1) := by decide +kernel
theorem dX12_iron_0 : decode cX12_iron 0 = .ok (.aload_n 0, 1) := by decide +kernel
theorem dX12_iron_1 : decode cX12_iron 1 = .ok (.iconst 0, 1) := by decide +kernel
theorem dX12_iron_2 : decode cX12_iron 2 = .ok (.putfield 235, 3) := by decide +kernel
theorem dX12_iron_5 : decode cX12_iron 5 = .ok (.iload_n 1, 1) := by decide +kernel
theorem dX12_iron_6 : decode cX12_iron 6 = .ok (.iconst 0, 1) := by decide +kernel
theorem dX12_iron_7 : decode cX12_iron 7 = .ok (.sipush 500, 3) := by decide +kernel
theorem dX12_iron_10 : decode cX12_iron 10 = .ok (.invokestatic 238, 3) := by decide +kernel
theorem dX12_iron_13 : decode cX12_iron 13 = .ok (.ifCond .eq 15, 3) := by decide +kernel
theorem dX12_iron_16 : decode cX12_iron 16 = .ok (.aload_n 0, 1) := by decide +kernel
theorem dX12_iron_17 : decode cX12_iron 17 = .ok (.getfield 468, 3) := by decide +kernel
theorem dX12_iron_20 : decode cX12_iron 20 = .ok (.iload_n 1, 1) := by decide +kernel
theorem dX12_iron_21 : decode cX12_iron 21 = .ok (.iadd, 1) := by decide +kernel
theorem dX12_iron_22 : decode cX12_iron 22 = .ok (.sipush 5000, 3) := by decide +kernel
theorem dX12_iron_25 : decode cX12_iron 25 = .ok (.if_icmp .le 5, 3) := by decide +kernel
theorem dX12_iron_28 : decode cX12_iron 28 = .ok (.iconst (-1), 1) := by decide +kernel
theorem dX12_iron_29 : decode cX12_iron 29 = .ok (.ireturn, 1) := by decide +kernel
theorem dX12_iron_30 : decode cX12_iron 30 = .ok (.aload_n 0, 1) := by decide +kernel
theorem dX12_iron_31 : decode cX12_iron 31 = .ok (.dup, 1) := by decide +kernel
theorem dX12_iron_32 : decode cX12_iron 32 = .ok (.getfield 468, 3) := by decide +kernel
theorem dX12_iron_35 : decode cX12_iron 35 = .ok (.iload_n 1, 1) := by decide +kernel
theorem dX12_iron_36 : decode cX12_iron 36 = .ok (.iadd, 1) := by decide +kernel
theorem dX12_iron_37 : decode cX12_iron 37 = .ok (.putfield 468, 3) := by decide +kernel
theorem dX12_iron_40 : decode cX12_iron 40 = .ok (.aload_n 0, 1) := by decide +kernel
theorem dX12_iron_41 : decode cX12_iron 41 = .ok (.getfield 468, 3) := by decide +kernel
theorem dX12_iron_44 : decode cX12_iron 44 = .ok (.ireturn, 1) := by decide +kernel
theorem dX12_lay_0 : decode cX12_lay 0 = .ok (.aload_n 0, 1) := by decide +kernel
theorem dX12_lay_1 : decode cX12_lay 1 = .ok (.iconst 0, 1) := by decide +kernel
theorem dX12_lay_2 : decode cX12_lay 2 = .ok (.putfield 235, 3) := by decide +kernel
theorem dX12_lay_5 : decode cX12_lay 5 = .ok (.aload_n 0, 1) := by decide +kernel
theorem dX12_lay_6 : decode cX12_lay 6 = .ok (.iload_n 1, 1) := by decide +kernel
theorem dX12_lay_7 : decode cX12_lay 7 = .ok (.invokevirtual 450, 3) := by decide +kernel
theorem dX12_lay_10 : decode cX12_lay 10 = .ok (.ifCond .eq 36, 3) := by decide +kernel
theorem dX12_lay_13 : decode cX12_lay 13 = .ok (.aload_n 0, 1) := by decide +kernel
theorem dX12_lay_14 : decode cX12_lay 14 = .ok (.getfield 127, 3) := by decide +kernel
theorem dX12_lay_17 : decode cX12_lay 17 = .ok (.iload_n 1, 1) := by decide +kernel
theorem dX12_lay_18 : decode cX12_lay 18 = .ok (.iaload, 1) := by decide +kernel
theorem dX12_lay_19 : decode cX12_lay 19 = .ok (.iconst 1, 1) := by decide +kernel
theorem dX12_lay_20 : decode cX12_lay 20 = .ok (.if_icmp .ne 26, 3) := by decide +kernel
theorem dX12_lay_23 : decode cX12_lay 23 = .ok (.aload_n 0, 1) := by decide +kernel
theorem dX12_lay_24 : decode cX12_lay 24 = .ok (.getfield 136, 3) := by decide +kernel
theorem dX12_lay_27 : decode cX12_lay 27 = .ok (.iload_n 1, 1) := by decide +kernel
theorem dX12_lay_28 : decode cX12_lay 28 = .ok (.baload, 1) := by decide +kernel
theorem dX12_lay_29 : decode cX12_lay 29 = .ok (.iload_n 2, 1) := by decide +kernel
theorem dX12_lay_30 : decode cX12_lay 30 = .ok (.if_icmp .eq 16, 3) := by decide +kernel
theorem dX12_lay_33 : decode cX12_lay 33 = .ok (.iload_n 2, 1) := by decide +kernel
theorem dX12_lay_34 : decode cX12_lay 34 = .ok (.ifCond .eq 14, 3) := by decide +kernel
theorem dX12_lay_37 : decode cX12_lay 37 = .ok (.aload_n 0, 1) := by decide +kernel
theorem dX12_lay_38 : decode cX12_lay 38 = .ok (.getfield 468, 3) := by decide +kernel
theorem dX12_lay_41 : decode cX12_lay 41 = .ok (.bipush 10, 2) := by decide +kernel
theorem dX12_lay_43 : decode cX12_lay 43 = .ok (.if_icmp .ge 5, 3) := by decide +kernel
theorem dX12_lay_46 : decode cX12_lay 46 = .ok (.iconst 0, 1) := by decide +kernel
theorem dX12_lay_47 : decode cX12_lay 47 = .ok (.ireturn, 1) := by decide +kernel
theorem dX12_lay_48 : decode cX12_lay 48 = .ok (.aload_n 0, 1) := by decide +kernel
theorem dX12_lay_49 : decode cX12_lay 49 = .ok (.getfield 136, 3) := by decide +kernel
theorem dX12_lay_52 : decode cX12_lay 52 = .ok (.iload_n 1, 1) := by decide +kernel
theorem dX12_lay_53 : decode cX12_lay 53 = .ok (.iload_n 2, 1) := by decide +kernel
theorem dX12_lay_54 : decode cX12_lay 54 = .ok (.bastore, 1) := by decide +kernel
theorem dX12_lay_55 : decode cX12_lay 55 = .ok (.aload_n 0, 1) := by decide +kernel
theorem dX12_lay_56 : decode cX12_lay 56 = .ok (.dup, 1) := by decide +kernel
theorem dX12_lay_57 : decode cX12_lay 57 = .ok (.getfield 468, 3) := by decide +kernel
theorem dX12_lay_60 : decode cX12_lay 60 = .ok (.iload_n 2, 1) := by decide +kernel
theorem dX12_lay_61 : decode cX12_lay 61 = .ok (.ifCond .eq 8, 3) := by decide +kernel
theorem dX12_lay_64 : decode cX12_lay 64 = .ok (.bipush (-10), 2) := by decide +kernel
theorem dX12_lay_66 : decode cX12_lay 66 = .ok (.goto 5, 3) := by decide +kernel
theorem dX12_lay_69 : decode cX12_lay 69 = .ok (.bipush 10, 2) := by decide +kernel
theorem dX12_lay_71 : decode cX12_lay 71 = .ok (.iadd, 1) := by decide +kernel
theorem dX12_lay_72 : decode cX12_lay 72 = .ok (.putfield 468, 3) := by decide +kernel
theorem dX12_lay_75 : decode cX12_lay 75 = .ok (.iconst 1, 1) := by decide +kernel
theorem dX12_lay_76 : decode cX12_lay 76 = .ok (.ireturn, 1) := by decide +kernel
theorem dX12_dam_0 : decode cX12_dam 0 = .ok (.aload_n 0, 1) := by decide +kernel
theorem dX12_dam_1 : decode cX12_dam 1 = .ok (.iconst 0, 1) := by decide +kernel
theorem dX12_dam_2 : decode cX12_dam 2 = .ok (.putfield 235, 3) := by decide +kernel
theorem dX12_dam_5 : decode cX12_dam 5 = .ok (.aload_n 0, 1) := by decide +kernel
theorem dX12_dam_6 : decode cX12_dam 6 = .ok (.iload_n 1, 1) := by decide +kernel
theorem dX12_dam_7 : decode cX12_dam 7 = .ok (.invokevirtual 450, 3) := by decide +kernel
theorem dX12_dam_10 : decode cX12_dam 10 = .ok (.ifCond .eq 26, 3) := by decide +kernel
theorem dX12_dam_13 : decode cX12_dam 13 = .ok (.aload_n 0, 1) := by decide +kernel
theorem dX12_dam_14 : decode cX12_dam 14 = .ok (.getfield 127, 3) := by decide +kernel
theorem dX12_dam_17 : decode cX12_dam 17 = .ok (.iload_n 1, 1) := by decide +kernel
theorem dX12_dam_18 : decode cX12_dam 18 = .ok (.iaload, 1) := by decide +kernel
theorem dX12_dam_19 : decode cX12_dam 19 = .ok (.iconst 4, 1) := by decide +kernel
theorem dX12_dam_20 : decode cX12_dam 20 = .ok (.if_icmp .ne 16, 3) := by decide +kernel
theorem dX12_dam_23 : decode cX12_dam 23 = .ok (.aload_n 0, 1) := by decide +kernel
theorem dX12_dam_24 : decode cX12_dam 24 = .ok (.getfield 139, 3) := by decide +kernel
theorem dX12_dam_27 : decode cX12_dam 27 = .ok (.iload_n 1, 1) := by decide +kernel
theorem dX12_dam_28 : decode cX12_dam 28 = .ok (.iaload, 1) := by decide +kernel
theorem dX12_dam_29 : decode cX12_dam 29 = .ok (.aload_n 0, 1) := by decide +kernel
theorem dX12_dam_30 : decode cX12_dam 30 = .ok (.getfield 271, 3) := by decide +kernel
theorem dX12_dam_33 : decode cX12_dam 33 = .ok (.if_icmp .ne 5, 3) := by decide +kernel
theorem dX12_dam_36 : decode cX12_dam 36 = .ok (.iconst 0, 1) := by decide +kernel
theorem dX12_dam_37 : decode cX12_dam 37 = .ok (.ireturn, 1) := by decide +kernel
theorem dX12_dam_38 : decode cX12_dam 38 = .ok (.aload_n 0, 1) := by decide +kernel
theorem dX12_dam_39 : decode cX12_dam 39 = .ok (.getfield 139, 3) := by decide +kernel
theorem dX12_dam_42 : decode cX12_dam 42 = .ok (.iload_n 1, 1) := by decide +kernel
theorem dX12_dam_43 : decode cX12_dam 43 = .ok (.aload_n 0, 1) := by decide +kernel
theorem dX12_dam_44 : decode cX12_dam 44 = .ok (.getfield 271, 3) := by decide +kernel
theorem dX12_dam_47 : decode cX12_dam 47 = .ok (.iastore, 1) := by decide +kernel
theorem dX12_dam_48 : decode cX12_dam 48 = .ok (.iconst 1, 1) := by decide +kernel
theorem dX12_dam_49 : decode cX12_dam 49 = .ok (.ireturn, 1) := by decide +kernel
theorem dX12_bears_0 : decode cX12_bears 0 = .ok (.aload_n 0, 1) := by decide +kernel
theorem dX12_bears_1 : decode cX12_bears 1 = .ok (.getfield 7, 3) := by decide +kernel
theorem dX12_bears_4 : decode cX12_bears 4 = .ok (.aload_n 0, 1) := by decide +kernel
theorem dX12_bears_5 : decode cX12_bears 5 = .ok (.getfield 133, 3) := by decide +kernel
theorem dX12_bears_8 : decode cX12_bears 8 = .ok (.iload_n 1, 1) := by decide +kernel
theorem dX12_bears_9 : decode cX12_bears 9 = .ok (.iaload, 1) := by decide +kernel
theorem dX12_bears_10 : decode cX12_bears 10 = .ok (.iaload, 1) := by decide +kernel
theorem dX12_bears_11 : decode cX12_bears 11 = .ok (.aload_n 0, 1) := by decide +kernel
theorem dX12_bears_12 : decode cX12_bears 12 = .ok (.getfield 7, 3) := by decide +kernel
theorem dX12_bears_15 : decode cX12_bears 15 = .ok (.aload_n 0, 1) := by decide +kernel
theorem dX12_bears_16 : decode cX12_bears 16 = .ok (.getfield 130, 3) := by decide +kernel
theorem dX12_bears_19 : decode cX12_bears 19 = .ok (.iload_n 1, 1) := by decide +kernel
theorem dX12_bears_20 : decode cX12_bears 20 = .ok (.iaload, 1) := by decide +kernel
theorem dX12_bears_21 : decode cX12_bears 21 = .ok (.iaload, 1) := by decide +kernel
theorem dX12_bears_22 : decode cX12_bears 22 = .ok (.isub, 1) := by decide +kernel
theorem dX12_bears_23 : decode cX12_bears 23 = .ok (.istore_n 2, 1) := by decide +kernel
theorem dX12_bears_24 : decode cX12_bears 24 = .ok (.aload_n 0, 1) := by decide +kernel
theorem dX12_bears_25 : decode cX12_bears 25 = .ok (.aload_n 0, 1) := by decide +kernel
theorem dX12_bears_26 : decode cX12_bears 26 = .ok (.getfield 271, 3) := by decide +kernel
theorem dX12_bears_29 : decode cX12_bears 29 = .ok (.iconst 0, 1) := by decide +kernel
theorem dX12_bears_30 : decode cX12_bears 30 = .ok (.invokevirtual 277, 3) := by decide +kernel
theorem dX12_bears_33 : decode cX12_bears 33 = .ok (.istore_n 3, 1) := by decide +kernel
theorem dX12_bears_34 : decode cX12_bears 34 = .ok (.aload_n 0, 1) := by decide +kernel
theorem dX12_bears_35 : decode cX12_bears 35 = .ok (.aload_n 0, 1) := by decide +kernel
theorem dX12_bears_36 : decode cX12_bears 36 = .ok (.getfield 271, 3) := by decide +kernel
theorem dX12_bears_39 : decode cX12_bears 39 = .ok (.iconst 1, 1) := by decide +kernel
theorem dX12_bears_40 : decode cX12_bears 40 = .ok (.invokevirtual 277, 3) := by decide +kernel
theorem dX12_bears_43 : decode cX12_bears 43 = .ok (.istore 4, 2) := by decide +kernel
theorem dX12_bears_45 : decode cX12_bears 45 = .ok (.aload_n 0, 1) := by decide +kernel
theorem dX12_bears_46 : decode cX12_bears 46 = .ok (.getfield 127, 3) := by decide +kernel
theorem dX12_bears_49 : decode cX12_bears 49 = .ok (.iload_n 1, 1) := by decide +kernel
theorem dX12_bears_50 : decode cX12_bears 50 = .ok (.iaload, 1) := by decide +kernel
theorem dX12_bears_51 : decode cX12_bears 51 = .ok (.tableswitch 107 0 3 #[29, 65, 81, 95], 29) := by decide +kernel
theorem dX12_bears_80 : decode cX12_bears 80 = .ok (.bipush 30, 2) := by decide +kernel
theorem dX12_bears_82 : decode cX12_bears 82 = .ok (.iload_n 2, 1) := by decide +kernel
theorem dX12_bears_83 : decode cX12_bears 83 = .ok (.ifCond .le 9, 3) := by decide +kernel
theorem dX12_bears_86 : decode cX12_bears 86 = .ok (.iconst 3, 1) := by decide +kernel
theorem dX12_bears_87 : decode cX12_bears 87 = .ok (.iload_n 2, 1) := by decide +kernel
theorem dX12_bears_88 : decode cX12_bears 88 = .ok (.imul, 1) := by decide +kernel
theorem dX12_bears_89 : decode cX12_bears 89 = .ok (.goto 4, 3) := by decide +kernel
theorem dX12_bears_92 : decode cX12_bears 92 = .ok (.iconst 0, 1) := by decide +kernel
theorem dX12_bears_93 : decode cX12_bears 93 = .ok (.isub, 1) := by decide +kernel
theorem dX12_bears_94 : decode cX12_bears 94 = .ok (.iload_n 3, 1) := by decide +kernel
theorem dX12_bears_95 : decode cX12_bears 95 = .ok (.isub, 1) := by decide +kernel
theorem dX12_bears_96 : decode cX12_bears 96 = .ok (.istore 5, 2) := by decide +kernel
theorem dX12_bears_98 : decode cX12_bears 98 = .ok (.iload_n 3, 1) := by decide +kernel
theorem dX12_bears_99 : decode cX12_bears 99 = .ok (.bipush 6, 2) := by decide +kernel
theorem dX12_bears_101 : decode cX12_bears 101 = .ok (.if_icmp .gt 8, 3) := by decide +kernel
theorem dX12_bears_104 : decode cX12_bears 104 = .ok (.iload 5, 2) := by decide +kernel
theorem dX12_bears_106 : decode cX12_bears 106 = .ok (.ifCond .ge 7, 3) := by decide +kernel
theorem dX12_bears_109 : decode cX12_bears 109 = .ok (.iconst 0, 1) := by decide +kernel
theorem dX12_bears_110 : decode cX12_bears 110 = .ok (.goto 5, 3) := by decide +kernel
theorem dX12_bears_113 : decode cX12_bears 113 = .ok (.iload 5, 2) := by decide +kernel
theorem dX12_bears_115 : decode cX12_bears 115 = .ok (.ireturn, 1) := by decide +kernel
theorem dX12_bears_116 : decode cX12_bears 116 = .ok (.aload_n 0, 1) := by decide +kernel
theorem dX12_bears_117 : decode cX12_bears 117 = .ok (.getfield 136, 3) := by decide +kernel
theorem dX12_bears_120 : decode cX12_bears 120 = .ok (.iload_n 1, 1) := by decide +kernel
theorem dX12_bears_121 : decode cX12_bears 121 = .ok (.baload, 1) := by decide +kernel
theorem dX12_bears_122 : decode cX12_bears 122 = .ok (.ifCond .eq 8, 3) := by decide +kernel
theorem dX12_bears_125 : decode cX12_bears 125 = .ok (.bipush 60, 2) := by decide +kernel
theorem dX12_bears_127 : decode cX12_bears 127 = .ok (.goto 4, 3) := by decide +kernel
theorem dX12_bears_130 : decode cX12_bears 130 = .ok (.iconst 0, 1) := by decide +kernel
theorem dX12_bears_131 : decode cX12_bears 131 = .ok (.ireturn, 1) := by decide +kernel
theorem dX12_bears_132 : decode cX12_bears 132 = .ok (.iload_n 2, 1) := by decide +kernel
theorem dX12_bears_133 : decode cX12_bears 133 = .ok (.ifCond .ge 11, 3) := by decide +kernel
theorem dX12_bears_136 : decode cX12_bears 136 = .ok (.bipush 8, 2) := by decide +kernel
theorem dX12_bears_138 : decode cX12_bears 138 = .ok (.iload 4, 2) := by decide +kernel
theorem dX12_bears_140 : decode cX12_bears 140 = .ok (.imul, 1) := by decide +kernel
theorem dX12_bears_141 : decode cX12_bears 141 = .ok (.goto 4, 3) := by decide +kernel
theorem dX12_bears_144 : decode cX12_bears 144 = .ok (.iconst 0, 1) := by decide +kernel
theorem dX12_bears_145 : decode cX12_bears 145 = .ok (.ireturn, 1) := by decide +kernel
theorem dX12_bears_146 : decode cX12_bears 146 = .ok (.iload_n 3, 1) := by decide +kernel
theorem dX12_bears_147 : decode cX12_bears 147 = .ok (.iconst 3, 1) := by decide +kernel
theorem dX12_bears_148 : decode cX12_bears 148 = .ok (.if_icmp .lt 8, 3) := by decide +kernel
theorem dX12_bears_151 : decode cX12_bears 151 = .ok (.bipush 40, 2) := by decide +kernel
theorem dX12_bears_153 : decode cX12_bears 153 = .ok (.goto 4, 3) := by decide +kernel
theorem dX12_bears_156 : decode cX12_bears 156 = .ok (.iconst 0, 1) := by decide +kernel
theorem dX12_bears_157 : decode cX12_bears 157 = .ok (.ireturn, 1) := by decide +kernel
theorem dX12_bears_158 : decode cX12_bears 158 = .ok (.iload_n 2, 1) := by decide +kernel
theorem dX12_bears_159 : decode cX12_bears 159 = .ok (.ifCond .lt 7, 3) := by decide +kernel
theorem dX12_bears_162 : decode cX12_bears 162 = .ok (.iconst 0, 1) := by decide +kernel
theorem dX12_bears_163 : decode cX12_bears 163 = .ok (.goto 40, 3) := by decide +kernel
theorem dX12_bears_166 : decode cX12_bears 166 = .ok (.aload_n 0, 1) := by decide +kernel
theorem dX12_bears_167 : decode cX12_bears 167 = .ok (.invokevirtual 428, 3) := by decide +kernel
theorem dX12_bears_170 : decode cX12_bears 170 = .ok (.iconst 1, 1) := by decide +kernel
theorem dX12_bears_171 : decode cX12_bears 171 = .ok (.if_icmp .ne 8, 3) := by decide +kernel
theorem dX12_bears_174 : decode cX12_bears 174 = .ok (.bipush 12, 2) := by decide +kernel
theorem dX12_bears_176 : decode cX12_bears 176 = .ok (.goto 4, 3) := by decide +kernel
theorem dX12_bears_179 : decode cX12_bears 179 = .ok (.iconst 3, 1) := by decide +kernel
theorem dX12_bears_180 : decode cX12_bears 180 = .ok (.iload 4, 2) := by decide +kernel
theorem dX12_bears_182 : decode cX12_bears 182 = .ok (.imul, 1) := by decide +kernel
theorem dX12_bears_183 : decode cX12_bears 183 = .ok (.aload_n 0, 1) := by decide +kernel
theorem dX12_bears_184 : decode cX12_bears 184 = .ok (.getfield 139, 3) := by decide +kernel
theorem dX12_bears_187 : decode cX12_bears 187 = .ok (.iload_n 1, 1) := by decide +kernel
theorem dX12_bears_188 : decode cX12_bears 188 = .ok (.iaload, 1) := by decide +kernel
theorem dX12_bears_189 : decode cX12_bears 189 = .ok (.aload_n 0, 1) := by decide +kernel
theorem dX12_bears_190 : decode cX12_bears 190 = .ok (.getfield 271, 3) := by decide +kernel
theorem dX12_bears_193 : decode cX12_bears 193 = .ok (.if_icmp .ne 8, 3) := by decide +kernel
theorem dX12_bears_196 : decode cX12_bears 196 = .ok (.bipush 40, 2) := by decide +kernel
theorem dX12_bears_198 : decode cX12_bears 198 = .ok (.goto 4, 3) := by decide +kernel
theorem dX12_bears_201 : decode cX12_bears 201 = .ok (.iconst 0, 1) := by decide +kernel
theorem dX12_bears_202 : decode cX12_bears 202 = .ok (.iadd, 1) := by decide +kernel
theorem dX12_bears_203 : decode cX12_bears 203 = .ok (.ireturn, 1) := by decide +kernel
theorem dX12_carryOf_0 : decode cX12_carryOf 0 = .ok (.aload_n 0, 1) := by decide +kernel
theorem dX12_carryOf_1 : decode cX12_carryOf 1 = .ok (.iload_n 1, 1) := by decide +kernel
theorem dX12_carryOf_2 : decode cX12_carryOf 2 = .ok (.invokevirtual 453, 3) := by decide +kernel
theorem dX12_carryOf_5 : decode cX12_carryOf 5 = .ok (.iconst (-1), 1) := by decide +kernel
theorem dX12_carryOf_6 : decode cX12_carryOf 6 = .ok (.if_icmp .ne 11, 3) := by decide +kernel
theorem dX12_carryOf_9 : decode cX12_carryOf 9 = .ok (.aload_n 0, 1) := by decide +kernel
theorem dX12_carryOf_10 : decode cX12_carryOf 10 = .ok (.iload_n 1, 1) := by decide +kernel
theorem dX12_carryOf_11 : decode cX12_carryOf 11 = .ok (.invokevirtual 471, 3) := by decide +kernel
theorem dX12_carryOf_14 : decode cX12_carryOf 14 = .ok (.goto 4, 3) := by decide +kernel
theorem dX12_carryOf_17 : decode cX12_carryOf 17 = .ok (.iconst 0, 1) := by decide +kernel
theorem dX12_carryOf_18 : decode cX12_carryOf 18 = .ok (.ireturn, 1) := by decide +kernel
theorem dX12_carry_0 : decode cX12_carry 0 = .ok (.aload_n 0, 1) := by decide +kernel
theorem dX12_carry_1 : decode cX12_carry 1 = .ok (.iconst 0, 1) := by decide +kernel
theorem dX12_carry_2 : decode cX12_carry 2 = .ok (.putfield 235, 3) := by decide +kernel
theorem dX12_carry_5 : decode cX12_carry 5 = .ok (.aload_n 0, 1) := by decide +kernel
theorem dX12_carry_6 : decode cX12_carry 6 = .ok (.iload_n 1, 1) := by decide +kernel
theorem dX12_carry_7 : decode cX12_carry 7 = .ok (.invokevirtual 450, 3) := by decide +kernel
theorem dX12_carry_10 : decode cX12_carry 10 = .ok (.ifCond .eq 11, 3) := by decide +kernel
theorem dX12_carry_13 : decode cX12_carry 13 = .ok (.aload_n 0, 1) := by decide +kernel
theorem dX12_carry_14 : decode cX12_carry 14 = .ok (.iload_n 1, 1) := by decide +kernel
theorem dX12_carry_15 : decode cX12_carry 15 = .ok (.invokevirtual 474, 3) := by decide +kernel
theorem dX12_carry_18 : decode cX12_carry 18 = .ok (.goto 4, 3) := by decide +kernel
theorem dX12_carry_21 : decode cX12_carry 21 = .ok (.iconst (-1), 1) := by decide +kernel
theorem dX12_carry_22 : decode cX12_carry 22 = .ok (.ireturn, 1) := by decide +kernel
theorem dX12_carries_0 : decode cX12_carries 0 = .ok (.aload_n 0, 1) := by decide +kernel
theorem dX12_carries_1 : decode cX12_carries 1 = .ok (.iload_n 1, 1) := by decide +kernel
theorem dX12_carries_2 : decode cX12_carries 2 = .ok (.invokevirtual 474, 3) := by decide +kernel
theorem dX12_carries_5 : decode cX12_carries 5 = .ok (.istore_n 2, 1) := by decide +kernel
theorem dX12_carries_6 : decode cX12_carries 6 = .ok (.iconst 0, 1) := by decide +kernel
theorem dX12_carries_7 : decode cX12_carries 7 = .ok (.istore_n 3, 1) := by decide +kernel
theorem dX12_carries_8 : decode cX12_carries 8 = .ok (.aload_n 0, 1) := by decide +kernel
theorem dX12_carries_9 : decode cX12_carries 9 = .ok (.getfield 127, 3) := by decide +kernel
theorem dX12_carries_12 : decode cX12_carries 12 = .ok (.iload_n 1, 1) := by decide +kernel
theorem dX12_carries_13 : decode cX12_carries 13 = .ok (.iaload, 1) := by decide +kernel
theorem dX12_carries_14 : decode cX12_carries 14 = .ok (.iconst 4, 1) := by decide +kernel
theorem dX12_carries_15 : decode cX12_carries 15 = .ok (.if_icmp .ne 21, 3) := by decide +kernel
theorem dX12_carries_18 : decode cX12_carries 18 = .ok (.aload_n 0, 1) := by decide +kernel
theorem dX12_carries_19 : decode cX12_carries 19 = .ok (.aload_n 0, 1) := by decide +kernel
theorem dX12_carries_20 : decode cX12_carries 20 = .ok (.getfield 271, 3) := by decide +kernel
theorem dX12_carries_23 : decode cX12_carries 23 = .ok (.iconst 1, 1) := by decide +kernel
theorem dX12_carries_24 : decode cX12_carries 24 = .ok (.invokevirtual 277, 3) := by decide +kernel
theorem dX12_carries_27 : decode cX12_carries 27 = .ok (.bipush 9, 2) := by decide +kernel
theorem dX12_carries_29 : decode cX12_carries 29 = .ok (.if_icmp .ne 7, 3) := by decide +kernel
theorem dX12_carries_32 : decode cX12_carries 32 = .ok (.iconst 1, 1) := by decide +kernel
theorem dX12_carries_33 : decode cX12_carries 33 = .ok (.goto 4, 3) := by decide +kernel
theorem dX12_carries_36 : decode cX12_carries 36 = .ok (.iconst 0, 1) := by decide +kernel
theorem dX12_carries_37 : decode cX12_carries 37 = .ok (.istore 4, 2) := by decide +kernel
theorem dX12_carries_39 : decode cX12_carries 39 = .ok (.iconst 0, 1) := by decide +kernel
theorem dX12_carries_40 : decode cX12_carries 40 = .ok (.istore 5, 2) := by decide +kernel
theorem dX12_carries_42 : decode cX12_carries 42 = .ok (.iload 5, 2) := by decide +kernel
theorem dX12_carries_44 : decode cX12_carries 44 = .ok (.aload_n 0, 1) := by decide +kernel
theorem dX12_carries_45 : decode cX12_carries 45 = .ok (.getfield 265, 3) := by decide +kernel
theorem dX12_carries_48 : decode cX12_carries 48 = .ok (.if_icmp .ge 145, 3) := by decide +kernel
theorem dX12_carries_51 : decode cX12_carries 51 = .ok (.aload_n 0, 1) := by decide +kernel
theorem dX12_carries_52 : decode cX12_carries 52 = .ok (.getfield 67, 3) := by decide +kernel
theorem dX12_carries_55 : decode cX12_carries 55 = .ok (.iload 5, 2) := by decide +kernel
theorem dX12_carries_57 : decode cX12_carries 57 = .ok (.iaload, 1) := by decide +kernel
theorem dX12_carries_58 : decode cX12_carries 58 = .ok (.ifCond .ne 129, 3) := by decide +kernel
theorem dX12_carries_61 : decode cX12_carries 61 = .ok (.aload_n 0, 1) := by decide +kernel
theorem dX12_carries_62 : decode cX12_carries 62 = .ok (.getfield 46, 3) := by decide +kernel
theorem dX12_carries_65 : decode cX12_carries 65 = .ok (.iload 5, 2) := by decide +kernel
theorem dX12_carries_67 : decode cX12_carries 67 = .ok (.iaload, 1) := by decide +kernel
theorem dX12_carries_68 : decode cX12_carries 68 = .ok (.aload_n 0, 1) := by decide +kernel
theorem dX12_carries_69 : decode cX12_carries 69 = .ok (.getfield 130, 3) := by decide +kernel
theorem dX12_carries_72 : decode cX12_carries 72 = .ok (.iload_n 1, 1) := by decide +kernel
theorem dX12_carries_73 : decode cX12_carries 73 = .ok (.iaload, 1) := by decide +kernel
theorem dX12_carries_74 : decode cX12_carries 74 = .ok (.if_icmp .ne 113, 3) := by decide +kernel
theorem dX12_carries_77 : decode cX12_carries 77 = .ok (.aload_n 0, 1) := by decide +kernel
theorem dX12_carries_78 : decode cX12_carries 78 = .ok (.getfield 70, 3) := by decide +kernel
theorem dX12_carries_81 : decode cX12_carries 81 = .ok (.iload 5, 2) := by decide +kernel
theorem dX12_carries_83 : decode cX12_carries 83 = .ok (.iaload, 1) := by decide +kernel
theorem dX12_carries_84 : decode cX12_carries 84 = .ok (.aload_n 0, 1) := by decide +kernel
theorem dX12_carries_85 : decode cX12_carries 85 = .ok (.getfield 271, 3) := by decide +kernel
theorem dX12_carries_88 : decode cX12_carries 88 = .ok (.if_icmp .ge 99, 3) := by decide +kernel
theorem dX12_carries_91 : decode cX12_carries 91 = .ok (.aload_n 0, 1) := by decide +kernel
theorem dX12_carries_92 : decode cX12_carries 92 = .ok (.iload 5, 2) := by decide +kernel
theorem dX12_carries_94 : decode cX12_carries 94 = .ok (.invokevirtual 317, 3) := by decide +kernel
theorem dX12_carries_97 : decode cX12_carries 97 = .ok (.iload_n 2, 1) := by decide +kernel
theorem dX12_carries_98 : decode cX12_carries 98 = .ok (.if_icmp .le 6, 3) := by decide +kernel
theorem dX12_carries_101 : decode cX12_carries 101 = .ok (.goto 86, 3) := by decide +kernel
theorem dX12_carries_104 : decode cX12_carries 104 = .ok (.iload_n 2, 1) := by decide +kernel
theorem dX12_carries_105 : decode cX12_carries 105 = .ok (.aload_n 0, 1) := by decide +kernel
theorem dX12_carries_106 : decode cX12_carries 106 = .ok (.iload 5, 2) := by decide +kernel
theorem dX12_carries_108 : decode cX12_carries 108 = .ok (.invokevirtual 317, 3) := by decide +kernel
theorem dX12_carries_111 : decode cX12_carries 111 = .ok (.isub, 1) := by decide +kernel
theorem dX12_carries_112 : decode cX12_carries 112 = .ok (.istore_n 2, 1) := by decide +kernel
theorem dX12_carries_113 : decode cX12_carries 113 = .ok (.iinc 3 1, 3) := by decide +kernel
theorem dX12_carries_116 : decode cX12_carries 116 = .ok (.aload_n 0, 1) := by decide +kernel
theorem dX12_carries_117 : decode cX12_carries 117 = .ok (.getfield 46, 3) := by decide +kernel
theorem dX12_carries_120 : decode cX12_carries 120 = .ok (.iload 5, 2) := by decide +kernel
theorem dX12_carries_122 : decode cX12_carries 122 = .ok (.aload_n 0, 1) := by decide +kernel
theorem dX12_carries_123 : decode cX12_carries 123 = .ok (.getfield 133, 3) := by decide +kernel
theorem dX12_carries_126 : decode cX12_carries 126 = .ok (.iload_n 1, 1) := by decide +kernel
theorem dX12_carries_127 : decode cX12_carries 127 = .ok (.iaload, 1) := by decide +kernel
theorem dX12_carries_128 : decode cX12_carries 128 = .ok (.iastore, 1) := by decide +kernel
theorem dX12_carries_129 : decode cX12_carries 129 = .ok (.aload_n 0, 1) := by decide +kernel
theorem dX12_carries_130 : decode cX12_carries 130 = .ok (.getfield 70, 3) := by decide +kernel
theorem dX12_carries_133 : decode cX12_carries 133 = .ok (.iload 5, 2) := by decide +kernel
theorem dX12_carries_135 : decode cX12_carries 135 = .ok (.aload_n 0, 1) := by decide +kernel
theorem dX12_carries_136 : decode cX12_carries 136 = .ok (.getfield 271, 3) := by decide +kernel
theorem dX12_carries_139 : decode cX12_carries 139 = .ok (.iastore, 1) := by decide +kernel
theorem dX12_carries_140 : decode cX12_carries 140 = .ok (.iload 4, 2) := by decide +kernel
theorem dX12_carries_142 : decode cX12_carries 142 = .ok (.ifCond .eq 25, 3) := by decide +kernel
theorem dX12_carries_145 : decode cX12_carries 145 = .ok (.aload_n 0, 1) := by decide +kernel
theorem dX12_carries_146 : decode cX12_carries 146 = .ok (.getfield 55, 3) := by decide +kernel
theorem dX12_carries_149 : decode cX12_carries 149 = .ok (.iload 5, 2) := by decide +kernel
theorem dX12_carries_151 : decode cX12_carries 151 = .ok (.iaload, 1) := by decide +kernel
theorem dX12_carries_152 : decode cX12_carries 152 = .ok (.bipush 30, 2) := by decide +kernel
theorem dX12_carries_154 : decode cX12_carries 154 = .ok (.if_icmp .le 13, 3) := by decide +kernel
theorem dX12_carries_157 : decode cX12_carries 157 = .ok (.aload_n 0, 1) := by decide +kernel
theorem dX12_carries_158 : decode cX12_carries 158 = .ok (.iload 5, 2) := by decide +kernel
theorem dX12_carries_160 : decode cX12_carries 160 = .ok (.iconst 4, 1) := by decide +kernel
theorem dX12_carries_161 : decode cX12_carries 161 = .ok (.invokevirtual 298, 3) := by decide +kernel
theorem dX12_carries_164 : decode cX12_carries 164 = .ok (.goto 23, 3) := by decide +kernel
theorem dX12_carries_167 : decode cX12_carries 167 = .ok (.aload_n 0, 1) := by decide +kernel
theorem dX12_carries_168 : decode cX12_carries 168 = .ok (.getfield 133, 3) := by decide +kernel
theorem dX12_carries_171 : decode cX12_carries 171 = .ok (.iload_n 1, 1) := by decide +kernel
theorem dX12_carries_172 : decode cX12_carries 172 = .ok (.iaload, 1) := by decide +kernel
theorem dX12_carries_173 : decode cX12_carries 173 = .ok (.aload_n 0, 1) := by decide +kernel
theorem dX12_carries_174 : decode cX12_carries 174 = .ok (.getfield 268, 3) := by decide +kernel
theorem dX12_carries_177 : decode cX12_carries 177 = .ok (.if_icmp .ne 10, 3) := by decide +kernel
theorem dX12_carries_180 : decode cX12_carries 180 = .ok (.aload_n 0, 1) := by decide +kernel
theorem dX12_carries_181 : decode cX12_carries 181 = .ok (.iload 5, 2) := by decide +kernel
theorem dX12_carries_183 : decode cX12_carries 183 = .ok (.iconst 1, 1) := by decide +kernel
theorem dX12_carries_184 : decode cX12_carries 184 = .ok (.invokevirtual 298, 3) := by decide +kernel
theorem dX12_carries_187 : decode cX12_carries 187 = .ok (.iinc 5 1, 3) := by decide +kernel
theorem dX12_carries_190 : decode cX12_carries 190 = .ok (.goto (-148), 3) := by decide +kernel
theorem dX12_carries_193 : decode cX12_carries 193 = .ok (.iload_n 3, 1) := by decide +kernel
theorem dX12_carries_194 : decode cX12_carries 194 = .ok (.ireturn, 1) := by decide +kernel
theorem dX12_day_0 : decode cX12_day 0 = .ok (.aload_n 0, 1) := by decide +kernel
theorem dX12_day_1 : decode cX12_day 1 = .ok (.iconst 0, 1) := by decide +kernel
theorem dX12_day_2 : decode cX12_day 2 = .ok (.putfield 235, 3) := by decide +kernel
theorem dX12_day_5 : decode cX12_day 5 = .ok (.aload_n 0, 1) := by decide +kernel
theorem dX12_day_6 : decode cX12_day 6 = .ok (.getfield 271, 3) := by decide +kernel
theorem dX12_day_9 : decode cX12_day 9 = .ok (.sipush 3999, 3) := by decide +kernel
theorem dX12_day_12 : decode cX12_day 12 = .ok (.if_icmp .ne 5, 3) := by decide +kernel
theorem dX12_day_15 : decode cX12_day 15 = .ok (.iconst (-1), 1) := by decide +kernel
theorem dX12_day_16 : decode cX12_day 16 = .ok (.ireturn, 1) := by decide +kernel
theorem dX12_day_17 : decode cX12_day 17 = .ok (.iconst 0, 1) := by decide +kernel
theorem dX12_day_18 : decode cX12_day 18 = .ok (.istore_n 1, 1) := by decide +kernel
theorem dX12_day_19 : decode cX12_day 19 = .ok (.iconst 0, 1) := by decide +kernel
theorem dX12_day_20 : decode cX12_day 20 = .ok (.istore_n 2, 1) := by decide +kernel
theorem dX12_day_21 : decode cX12_day 21 = .ok (.iload_n 2, 1) := by decide +kernel
theorem dX12_day_22 : decode cX12_day 22 = .ok (.aload_n 0, 1) := by decide +kernel
theorem dX12_day_23 : decode cX12_day 23 = .ok (.getfield 462, 3) := by decide +kernel
theorem dX12_day_26 : decode cX12_day 26 = .ok (.if_icmp .ge 17, 3) := by decide +kernel
theorem dX12_day_29 : decode cX12_day 29 = .ok (.iload_n 1, 1) := by decide +kernel
theorem dX12_day_30 : decode cX12_day 30 = .ok (.aload_n 0, 1) := by decide +kernel
theorem dX12_day_31 : decode cX12_day 31 = .ok (.iload_n 2, 1) := by decide +kernel
theorem dX12_day_32 : decode cX12_day 32 = .ok (.invokevirtual 477, 3) := by decide +kernel
theorem dX12_day_35 : decode cX12_day 35 = .ok (.iadd, 1) := by decide +kernel
theorem dX12_day_36 : decode cX12_day 36 = .ok (.istore_n 1, 1) := by decide +kernel
theorem dX12_day_37 : decode cX12_day 37 = .ok (.iinc 2 1, 3) := by decide +kernel
theorem dX12_day_40 : decode cX12_day 40 = .ok (.goto (-19), 3) := by decide +kernel
theorem dX12_day_43 : decode cX12_day 43 = .ok (.iconst 0, 1) := by decide +kernel
theorem dX12_day_44 : decode cX12_day 44 = .ok (.istore_n 2, 1) := by decide +kernel
theorem dX12_day_45 : decode cX12_day 45 = .ok (.iload_n 2, 1) := by decide +kernel
theorem dX12_day_46 : decode cX12_day 46 = .ok (.aload_n 0, 1) := by decide +kernel
theorem dX12_day_47 : decode cX12_day 47 = .ok (.getfield 265, 3) := by decide +kernel
theorem dX12_day_50 : decode cX12_day 50 = .ok (.if_icmp .ge 37, 3) := by decide +kernel
theorem dX12_day_53 : decode cX12_day 53 = .ok (.aload_n 0, 1) := by decide +kernel
theorem dX12_day_54 : decode cX12_day 54 = .ok (.getfield 67, 3) := by decide +kernel
theorem dX12_day_57 : decode cX12_day 57 = .ok (.iload_n 2, 1) := by decide +kernel
theorem dX12_day_58 : decode cX12_day 58 = .ok (.iaload, 1) := by decide +kernel
theorem dX12_day_59 : decode cX12_day 59 = .ok (.ifCond .ne 22, 3) := by decide +kernel
theorem dX12_day_62 : decode cX12_day 62 = .ok (.aload_n 0, 1) := by decide +kernel
theorem dX12_day_63 : decode cX12_day 63 = .ok (.getfield 46, 3) := by decide +kernel
theorem dX12_day_66 : decode cX12_day 66 = .ok (.iload_n 2, 1) := by decide +kernel
theorem dX12_day_67 : decode cX12_day 67 = .ok (.iaload, 1) := by decide +kernel
theorem dX12_day_68 : decode cX12_day 68 = .ok (.aload_n 0, 1) := by decide +kernel
theorem dX12_day_69 : decode cX12_day 69 = .ok (.getfield 268, 3) := by decide +kernel
theorem dX12_day_72 : decode cX12_day 72 = .ok (.if_icmp .ne 9, 3) := by decide +kernel
theorem dX12_day_75 : decode cX12_day 75 = .ok (.aload_n 0, 1) := by decide +kernel
theorem dX12_day_76 : decode cX12_day 76 = .ok (.iload_n 2, 1) := by decide +kernel
theorem dX12_day_77 : decode cX12_day 77 = .ok (.iconst 1, 1) := by decide +kernel
theorem dX12_day_78 : decode cX12_day 78 = .ok (.invokevirtual 298, 3) := by decide +kernel
theorem dX12_day_81 : decode cX12_day 81 = .ok (.iinc 2 1, 3) := by decide +kernel
theorem dX12_day_84 : decode cX12_day 84 = .ok (.goto (-39), 3) := by decide +kernel
theorem dX12_day_87 : decode cX12_day 87 = .ok (.aload_n 0, 1) := by decide +kernel
theorem dX12_day_88 : decode cX12_day 88 = .ok (.getfield 271, 3) := by decide +kernel
theorem dX12_day_91 : decode cX12_day 91 = .ok (.bipush 25, 2) := by decide +kernel
theorem dX12_day_93 : decode cX12_day 93 = .ok (.irem, 1) := by decide +kernel
theorem dX12_day_94 : decode cX12_day 94 = .ok (.bipush 24, 2) := by decide +kernel
theorem dX12_day_96 : decode cX12_day 96 = .ok (.if_icmp .ne 7, 3) := by decide +kernel
theorem dX12_day_99 : decode cX12_day 99 = .ok (.aload_n 0, 1) := by decide +kernel
theorem dX12_day_100 : decode cX12_day 100 = .ok (.invokevirtual 480, 3) := by decide +kernel
theorem dX12_day_103 : decode cX12_day 103 = .ok (.aload_n 0, 1) := by decide +kernel
theorem dX12_day_104 : decode cX12_day 104 = .ok (.getfield 271, 3) := by decide +kernel
theorem dX12_day_107 : decode cX12_day 107 = .ok (.bipush 100, 2) := by decide +kernel
theorem dX12_day_109 : decode cX12_day 109 = .ok (.irem, 1) := by decide +kernel
theorem dX12_day_110 : decode cX12_day 110 = .ok (.bipush 99, 2) := by decide +kernel
theorem dX12_day_112 : decode cX12_day 112 = .ok (.if_icmp .ne 7, 3) := by decide +kernel
theorem dX12_day_115 : decode cX12_day 115 = .ok (.aload_n 0, 1) := by decide +kernel
theorem dX12_day_116 : decode cX12_day 116 = .ok (.invokevirtual 483, 3) := by decide +kernel
theorem dX12_day_119 : decode cX12_day 119 = .ok (.aload_n 0, 1) := by decide +kernel
theorem dX12_day_120 : decode cX12_day 120 = .ok (.dup, 1) := by decide +kernel
theorem dX12_day_121 : decode cX12_day 121 = .ok (.getfield 271, 3) := by decide +kernel
theorem dX12_day_124 : decode cX12_day 124 = .ok (.iconst 1, 1) := by decide +kernel
theorem dX12_day_125 : decode cX12_day 125 = .ok (.iadd, 1) := by decide +kernel
theorem dX12_day_126 : decode cX12_day 126 = .ok (.putfield 271, 3) := by decide +kernel
theorem dX12_day_129 : decode cX12_day 129 = .ok (.iload_n 1, 1) := by decide +kernel
theorem dX12_day_130 : decode cX12_day 130 = .ok (.ireturn, 1) := by decide +kernel
theorem dX12_yearEnds_0 : decode cX12_yearEnds 0 = .ok (.iconst 0, 1) := by decide +kernel
theorem dX12_yearEnds_1 : decode cX12_yearEnds 1 = .ok (.istore_n 1, 1) := by decide +kernel
theorem dX12_yearEnds_2 : decode cX12_yearEnds 2 = .ok (.iload_n 1, 1) := by decide +kernel
theorem dX12_yearEnds_3 : decode cX12_yearEnds 3 = .ok (.bipush 64, 2) := by decide +kernel
theorem dX12_yearEnds_5 : decode cX12_yearEnds 5 = .ok (.if_icmp .ge 135, 3) := by decide +kernel
theorem dX12_yearEnds_8 : decode cX12_yearEnds 8 = .ok (.iconst 0, 1) := by decide +kernel
theorem dX12_yearEnds_9 : decode cX12_yearEnds 9 = .ok (.istore_n 2, 1) := by decide +kernel
theorem dX12_yearEnds_10 : decode cX12_yearEnds 10 = .ok (.iload_n 2, 1) := by decide +kernel
theorem dX12_yearEnds_11 : decode cX12_yearEnds 11 = .ok (.iconst 4, 1) := by decide +kernel
theorem dX12_yearEnds_12 : decode cX12_yearEnds 12 = .ok (.if_icmp .ge 112, 3) := by decide +kernel
theorem dX12_yearEnds_15 : decode cX12_yearEnds 15 = .ok (.iconst 2, 1) := by decide +kernel
theorem dX12_yearEnds_16 : decode cX12_yearEnds 16 = .ok (.istore_n 3, 1) := by decide +kernel
theorem dX12_yearEnds_17 : decode cX12_yearEnds 17 = .ok (.iload_n 3, 1) := by decide +kernel
theorem dX12_yearEnds_18 : decode cX12_yearEnds 18 = .ok (.ifCond .lt 100, 3) := by decide +kernel
theorem dX12_yearEnds_21 : decode cX12_yearEnds 21 = .ok (.iload_n 1, 1) := by decide +kernel
theorem dX12_yearEnds_22 : decode cX12_yearEnds 22 = .ok (.iload_n 2, 1) := by decide +kernel
theorem dX12_yearEnds_23 : decode cX12_yearEnds 23 = .ok (.iload_n 3, 1) := by decide +kernel
theorem dX12_yearEnds_24 : decode cX12_yearEnds 24 = .ok (.invokestatic 261, 3) := by decide +kernel
theorem dX12_yearEnds_27 : decode cX12_yearEnds 27 = .ok (.istore 4, 2) := by decide +kernel
theorem dX12_yearEnds_29 : decode cX12_yearEnds 29 = .ok (.aload_n 0, 1) := by decide +kernel
theorem dX12_yearEnds_30 : decode cX12_yearEnds 30 = .ok (.getfield 16, 3) := by decide +kernel
theorem dX12_yearEnds_33 : decode cX12_yearEnds 33 = .ok (.iload 4, 2) := by decide +kernel
theorem dX12_yearEnds_35 : decode cX12_yearEnds 35 = .ok (.iaload, 1) := by decide +kernel
theorem dX12_yearEnds_36 : decode cX12_yearEnds 36 = .ok (.aload_n 0, 1) := by decide +kernel
theorem dX12_yearEnds_37 : decode cX12_yearEnds 37 = .ok (.getfield 19, 3) := by decide +kernel
theorem dX12_yearEnds_40 : decode cX12_yearEnds 40 = .ok (.iload_n 2, 1) := by decide +kernel
theorem dX12_yearEnds_41 : decode cX12_yearEnds 41 = .ok (.iaload, 1) := by decide +kernel
theorem dX12_yearEnds_42 : decode cX12_yearEnds 42 = .ok (.imul, 1) := by decide +kernel
theorem dX12_yearEnds_43 : decode cX12_yearEnds 43 = .ok (.bipush 100, 2) := by decide +kernel
theorem dX12_yearEnds_45 : decode cX12_yearEnds 45 = .ok (.idiv, 1) := by decide +kernel
theorem dX12_yearEnds_46 : decode cX12_yearEnds 46 = .ok (.istore 5, 2) := by decide +kernel
theorem dX12_yearEnds_48 : decode cX12_yearEnds 48 = .ok (.iload 5, 2) := by decide +kernel
theorem dX12_yearEnds_50 : decode cX12_yearEnds 50 = .ok (.sipush 200, 3) := by decide +kernel
theorem dX12_yearEnds_53 : decode cX12_yearEnds 53 = .ok (.aload_n 0, 1) := by decide +kernel
theorem dX12_yearEnds_54 : decode cX12_yearEnds 54 = .ok (.getfield 16, 3) := by decide +kernel
theorem dX12_yearEnds_57 : decode cX12_yearEnds 57 = .ok (.iload 4, 2) := by decide +kernel
theorem dX12_yearEnds_59 : decode cX12_yearEnds 59 = .ok (.iconst 1, 1) := by decide +kernel
theorem dX12_yearEnds_60 : decode cX12_yearEnds 60 = .ok (.iadd, 1) := by decide +kernel
theorem dX12_yearEnds_61 : decode cX12_yearEnds 61 = .ok (.iaload, 1) := by decide +kernel
theorem dX12_yearEnds_62 : decode cX12_yearEnds 62 = .ok (.isub, 1) := by decide +kernel
theorem dX12_yearEnds_63 : decode cX12_yearEnds 63 = .ok (.if_icmp .le 19, 3) := by decide +kernel
theorem dX12_yearEnds_66 : decode cX12_yearEnds 66 = .ok (.sipush 200, 3) := by decide +kernel
theorem dX12_yearEnds_69 : decode cX12_yearEnds 69 = .ok (.aload_n 0, 1) := by decide +kernel
theorem dX12_yearEnds_70 : decode cX12_yearEnds 70 = .ok (.getfield 16, 3) := by decide +kernel
theorem dX12_yearEnds_73 : decode cX12_yearEnds 73 = .ok (.iload 4, 2) := by decide +kernel
theorem dX12_yearEnds_75 : decode cX12_yearEnds 75 = .ok (.iconst 1, 1) := by decide +kernel
theorem dX12_yearEnds_76 : decode cX12_yearEnds 76 = .ok (.iadd, 1) := by decide +kernel
theorem dX12_yearEnds_77 : decode cX12_yearEnds 77 = .ok (.iaload, 1) := by decide +kernel
theorem dX12_yearEnds_78 : decode cX12_yearEnds 78 = .ok (.isub, 1) := by decide +kernel
theorem dX12_yearEnds_79 : decode cX12_yearEnds 79 = .ok (.goto 5, 3) := by decide +kernel
theorem dX12_yearEnds_82 : decode cX12_yearEnds 82 = .ok (.iload 5, 2) := by decide +kernel
theorem dX12_yearEnds_84 : decode cX12_yearEnds 84 = .ok (.istore 5, 2) := by decide +kernel
theorem dX12_yearEnds_86 : decode cX12_yearEnds 86 = .ok (.aload_n 0, 1) := by decide +kernel
theorem dX12_yearEnds_87 : decode cX12_yearEnds 87 = .ok (.getfield 16, 3) := by decide +kernel
theorem dX12_yearEnds_90 : decode cX12_yearEnds 90 = .ok (.iload 4, 2) := by decide +kernel
theorem dX12_yearEnds_92 : decode cX12_yearEnds 92 = .ok (.dup2, 1) := by decide +kernel
theorem dX12_yearEnds_93 : decode cX12_yearEnds 93 = .ok (.iaload, 1) := by decide +kernel
theorem dX12_yearEnds_94 : decode cX12_yearEnds 94 = .ok (.iload 5, 2) := by decide +kernel
theorem dX12_yearEnds_96 : decode cX12_yearEnds 96 = .ok (.isub, 1) := by decide +kernel
theorem dX12_yearEnds_97 : decode cX12_yearEnds 97 = .ok (.iastore, 1) := by decide +kernel
theorem dX12_yearEnds_98 : decode cX12_yearEnds 98 = .ok (.aload_n 0, 1) := by decide +kernel
theorem dX12_yearEnds_99 : decode cX12_yearEnds 99 = .ok (.getfield 16, 3) := by decide +kernel
theorem dX12_yearEnds_102 : decode cX12_yearEnds 102 = .ok (.iload 4, 2) := by decide +kernel
theorem dX12_yearEnds_104 : decode cX12_yearEnds 104 = .ok (.iconst 1, 1) := by decide +kernel
theorem dX12_yearEnds_105 : decode cX12_yearEnds 105 = .ok (.iadd, 1) := by decide +kernel
theorem dX12_yearEnds_106 : decode cX12_yearEnds 106 = .ok (.dup2, 1) := by decide +kernel
theorem dX12_yearEnds_107 : decode cX12_yearEnds 107 = .ok (.iaload, 1) := by decide +kernel
theorem dX12_yearEnds_108 : decode cX12_yearEnds 108 = .ok (.iload 5, 2) := by decide +kernel
theorem dX12_yearEnds_110 : decode cX12_yearEnds 110 = .ok (.iadd, 1) := by decide +kernel
theorem dX12_yearEnds_111 : decode cX12_yearEnds 111 = .ok (.iastore, 1) := by decide +kernel
theorem dX12_yearEnds_112 : decode cX12_yearEnds 112 = .ok (.iinc 3 (-1), 3) := by decide +kernel
theorem dX12_yearEnds_115 : decode cX12_yearEnds 115 = .ok (.goto (-98), 3) := by decide +kernel
theorem dX12_yearEnds_118 : decode cX12_yearEnds 118 = .ok (.iinc 2 1, 3) := by decide +kernel
theorem dX12_yearEnds_121 : decode cX12_yearEnds 121 = .ok (.goto (-111), 3) := by decide +kernel
theorem dX12_yearEnds_124 : decode cX12_yearEnds 124 = .ok (.aload_n 0, 1) := by decide +kernel
theorem dX12_yearEnds_125 : decode cX12_yearEnds 125 = .ok (.getfield 13, 3) := by decide +kernel
theorem dX12_yearEnds_128 : decode cX12_yearEnds 128 = .ok (.iload_n 1, 1) := by decide +kernel
theorem dX12_yearEnds_129 : decode cX12_yearEnds 129 = .ok (.dup2, 1) := by decide +kernel
theorem dX12_yearEnds_130 : decode cX12_yearEnds 130 = .ok (.iaload, 1) := by decide +kernel
theorem dX12_yearEnds_131 : decode cX12_yearEnds 131 = .ok (.iconst 2, 1) := by decide +kernel
theorem dX12_yearEnds_132 : decode cX12_yearEnds 132 = .ok (.idiv, 1) := by decide +kernel
theorem dX12_yearEnds_133 : decode cX12_yearEnds 133 = .ok (.iastore, 1) := by decide +kernel
theorem dX12_yearEnds_134 : decode cX12_yearEnds 134 = .ok (.iinc 1 1, 3) := by decide +kernel
theorem dX12_yearEnds_137 : decode cX12_yearEnds 137 = .ok (.goto (-135), 3) := by decide +kernel
theorem dX12_yearEnds_140 : decode cX12_yearEnds 140 = .ok (.return_, 1) := by decide +kernel
theorem dX12_isCrew_0 : decode cX12_isCrew 0 = .ok (.iload_n 1, 1) := by decide +kernel
theorem dX12_isCrew_1 : decode cX12_isCrew 1 = .ok (.iconst 0, 1) := by decide +kernel
theorem dX12_isCrew_2 : decode cX12_isCrew 2 = .ok (.aload_n 0, 1) := by decide +kernel
theorem dX12_isCrew_3 : decode cX12_isCrew 3 = .ok (.getfield 486, 3) := by decide +kernel
theorem dX12_isCrew_6 : decode cX12_isCrew 6 = .ok (.iconst 1, 1) := by decide +kernel
theorem dX12_isCrew_7 : decode cX12_isCrew 7 = .ok (.isub, 1) := by decide +kernel
theorem dX12_isCrew_8 : decode cX12_isCrew 8 = .ok (.invokestatic 238, 3) := by decide +kernel
theorem dX12_isCrew_11 : decode cX12_isCrew 11 = .ok (.ireturn, 1) := by decide +kernel
theorem dX12_crew_0 : decode cX12_crew 0 = .ok (.aload_n 0, 1) := by decide +kernel
theorem dX12_crew_1 : decode cX12_crew 1 = .ok (.iconst 0, 1) := by decide +kernel
theorem dX12_crew_2 : decode cX12_crew 2 = .ok (.putfield 235, 3) := by decide +kernel
theorem dX12_crew_5 : decode cX12_crew 5 = .ok (.iload_n 1, 1) := by decide +kernel
theorem dX12_crew_6 : decode cX12_crew 6 = .ok (.iconst 0, 1) := by decide +kernel
theorem dX12_crew_7 : decode cX12_crew 7 = .ok (.bipush 9, 2) := by decide +kernel
theorem dX12_crew_9 : decode cX12_crew 9 = .ok (.invokestatic 238, 3) := by decide +kernel
theorem dX12_crew_12 : decode cX12_crew 12 = .ok (.ifCond .eq 12, 3) := by decide +kernel
theorem dX12_crew_15 : decode cX12_crew 15 = .ok (.aload_n 0, 1) := by decide +kernel
theorem dX12_crew_16 : decode cX12_crew 16 = .ok (.getfield 486, 3) := by decide +kernel
theorem dX12_crew_19 : decode cX12_crew 19 = .ok (.bipush 20, 2) := by decide +kernel
theorem dX12_crew_21 : decode cX12_crew 21 = .ok (.if_icmp .ne 5, 3) := by decide +kernel
theorem dX12_crew_24 : decode cX12_crew 24 = .ok (.iconst (-1), 1) := by decide +kernel
theorem dX12_crew_25 : decode cX12_crew 25 = .ok (.ireturn, 1) := by decide +kernel
theorem dX12_crew_26 : decode cX12_crew 26 = .ok (.aload_n 0, 1) := by decide +kernel
theorem dX12_crew_27 : decode cX12_crew 27 = .ok (.getfield 142, 3) := by decide +kernel
theorem dX12_crew_30 : decode cX12_crew 30 = .ok (.aload_n 0, 1) := by decide +kernel
theorem dX12_crew_31 : decode cX12_crew 31 = .ok (.getfield 486, 3) := by decide +kernel
theorem dX12_crew_34 : decode cX12_crew 34 = .ok (.iload_n 1, 1) := by decide +kernel
theorem dX12_crew_35 : decode cX12_crew 35 = .ok (.iastore, 1) := by decide +kernel
theorem dX12_crew_36 : decode cX12_crew 36 = .ok (.aload_n 0, 1) := by decide +kernel
theorem dX12_crew_37 : decode cX12_crew 37 = .ok (.dup, 1) := by decide +kernel
theorem dX12_crew_38 : decode cX12_crew 38 = .ok (.getfield 486, 3) := by decide +kernel
theorem dX12_crew_41 : decode cX12_crew 41 = .ok (.iconst 1, 1) := by decide +kernel
theorem dX12_crew_42 : decode cX12_crew 42 = .ok (.iadd, 1) := by decide +kernel
theorem dX12_crew_43 : decode cX12_crew 43 = .ok (.putfield 486, 3) := by decide +kernel
theorem dX12_crew_46 : decode cX12_crew 46 = .ok (.aload_n 0, 1) := by decide +kernel
theorem dX12_crew_47 : decode cX12_crew 47 = .ok (.getfield 486, 3) := by decide +kernel
theorem dX12_crew_50 : decode cX12_crew 50 = .ok (.iconst 1, 1) := by decide +kernel
theorem dX12_crew_51 : decode cX12_crew 51 = .ok (.isub, 1) := by decide +kernel
theorem dX12_crew_52 : decode cX12_crew 52 = .ok (.ireturn, 1) := by decide +kernel
theorem dX12_shop_0 : decode cX12_shop 0 = .ok (.aload_n 0, 1) := by decide +kernel
theorem dX12_shop_1 : decode cX12_shop 1 = .ok (.iconst 0, 1) := by decide +kernel
theorem dX12_shop_2 : decode cX12_shop 2 = .ok (.putfield 235, 3) := by decide +kernel
theorem dX12_shop_5 : decode cX12_shop 5 = .ok (.aload_n 0, 1) := by decide +kernel
theorem dX12_shop_6 : decode cX12_shop 6 = .ok (.iload_n 1, 1) := by decide +kernel
theorem dX12_shop_7 : decode cX12_shop 7 = .ok (.invokevirtual 440, 3) := by decide +kernel
theorem dX12_shop_10 : decode cX12_shop 10 = .ok (.ifCond .eq 23, 3) := by decide +kernel
theorem dX12_shop_13 : decode cX12_shop 13 = .ok (.aload_n 0, 1) := by decide +kernel
theorem dX12_shop_14 : decode cX12_shop 14 = .ok (.getfield 154, 3) := by decide +kernel
theorem dX12_shop_17 : decode cX12_shop 17 = .ok (.iload_n 1, 1) := by decide +kernel
theorem dX12_shop_18 : decode cX12_shop 18 = .ok (.baload, 1) := by decide +kernel
theorem dX12_shop_19 : decode cX12_shop 19 = .ok (.ifCond .ne 14, 3) := by decide +kernel
theorem dX12_shop_22 : decode cX12_shop 22 = .ok (.iload_n 2, 1) := by decide +kernel
theorem dX12_shop_23 : decode cX12_shop 23 = .ok (.iconst 1, 1) := by decide +kernel
theorem dX12_shop_24 : decode cX12_shop 24 = .ok (.sipush 999, 3) := by decide +kernel
theorem dX12_shop_27 : decode cX12_shop 27 = .ok (.invokestatic 238, 3) := by decide +kernel
theorem dX12_shop_30 : decode cX12_shop 30 = .ok (.ifCond .ne 5, 3) := by decide +kernel
theorem dX12_shop_33 : decode cX12_shop 33 = .ok (.iconst (-1), 1) := by decide +kernel
theorem dX12_shop_34 : decode cX12_shop 34 = .ok (.ireturn, 1) := by decide +kernel
theorem dX12_shop_35 : decode cX12_shop 35 = .ok (.aload_n 0, 1) := by decide +kernel
theorem dX12_shop_36 : decode cX12_shop 36 = .ok (.getfield 148, 3) := by decide +kernel
theorem dX12_shop_39 : decode cX12_shop 39 = .ok (.iload_n 1, 1) := by decide +kernel
