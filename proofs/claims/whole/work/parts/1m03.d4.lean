theorem dX12_shop_40 : decode cX12_shop 40 = .ok (.iaload, 1) := by decide +kernel
theorem dX12_shop_41 : decode cX12_shop 41 = .ok (.iload_n 2, 1) := by decide +kernel
theorem dX12_shop_42 : decode cX12_shop 42 = .ok (.iadd, 1) := by decide +kernel
theorem dX12_shop_43 : decode cX12_shop 43 = .ok (.aload_n 0, 1) := by decide +kernel
theorem dX12_shop_44 : decode cX12_shop 44 = .ok (.iload_n 1, 1) := by decide +kernel
theorem dX12_shop_45 : decode cX12_shop 45 = .ok (.iconst 1, 1) := by decide +kernel
theorem dX12_shop_46 : decode cX12_shop 46 = .ok (.invokevirtual 459, 3) := by decide +kernel
theorem dX12_shop_49 : decode cX12_shop 49 = .ok (.if_icmp .le 6, 3) := by decide +kernel
theorem dX12_shop_52 : decode cX12_shop 52 = .ok (.bipush (-2), 2) := by decide +kernel
theorem dX12_shop_54 : decode cX12_shop 54 = .ok (.ireturn, 1) := by decide +kernel
theorem dX12_shop_55 : decode cX12_shop 55 = .ok (.aload_n 0, 1) := by decide +kernel
theorem dX12_shop_56 : decode cX12_shop 56 = .ok (.getfield 148, 3) := by decide +kernel
theorem dX12_shop_59 : decode cX12_shop 59 = .ok (.iload_n 1, 1) := by decide +kernel
theorem dX12_shop_60 : decode cX12_shop 60 = .ok (.dup2, 1) := by decide +kernel
theorem dX12_shop_61 : decode cX12_shop 61 = .ok (.iaload, 1) := by decide +kernel
theorem dX12_shop_62 : decode cX12_shop 62 = .ok (.iload_n 2, 1) := by decide +kernel
theorem dX12_shop_63 : decode cX12_shop 63 = .ok (.iadd, 1) := by decide +kernel
theorem dX12_shop_64 : decode cX12_shop 64 = .ok (.iastore, 1) := by decide +kernel
theorem dX12_shop_65 : decode cX12_shop 65 = .ok (.aload_n 0, 1) := by decide +kernel
theorem dX12_shop_66 : decode cX12_shop 66 = .ok (.getfield 148, 3) := by decide +kernel
theorem dX12_shop_69 : decode cX12_shop 69 = .ok (.iload_n 1, 1) := by decide +kernel
theorem dX12_shop_70 : decode cX12_shop 70 = .ok (.iaload, 1) := by decide +kernel
theorem dX12_shop_71 : decode cX12_shop 71 = .ok (.ireturn, 1) := by decide +kernel
theorem dX12_monthEnds_0 : decode cX12_monthEnds 0 = .ok (.iconst 0, 1) := by decide +kernel
theorem dX12_monthEnds_1 : decode cX12_monthEnds 1 = .ok (.istore_n 1, 1) := by decide +kernel
theorem dX12_monthEnds_2 : decode cX12_monthEnds 2 = .ok (.iload_n 1, 1) := by decide +kernel
theorem dX12_monthEnds_3 : decode cX12_monthEnds 3 = .ok (.aload_n 0, 1) := by decide +kernel
theorem dX12_monthEnds_4 : decode cX12_monthEnds 4 = .ok (.getfield 486, 3) := by decide +kernel
theorem dX12_monthEnds_7 : decode cX12_monthEnds 7 = .ok (.if_icmp .ge 101, 3) := by decide +kernel
theorem dX12_monthEnds_10 : decode cX12_monthEnds 10 = .ok (.aload_n 0, 1) := by decide +kernel
theorem dX12_monthEnds_11 : decode cX12_monthEnds 11 = .ok (.getfield 154, 3) := by decide +kernel
theorem dX12_monthEnds_14 : decode cX12_monthEnds 14 = .ok (.iload_n 1, 1) := by decide +kernel
theorem dX12_monthEnds_15 : decode cX12_monthEnds 15 = .ok (.baload, 1) := by decide +kernel
theorem dX12_monthEnds_16 : decode cX12_monthEnds 16 = .ok (.ifCond .eq 6, 3) := by decide +kernel
theorem dX12_monthEnds_19 : decode cX12_monthEnds 19 = .ok (.goto 83, 3) := by decide +kernel
theorem dX12_monthEnds_22 : decode cX12_monthEnds 22 = .ok (.aload_n 0, 1) := by decide +kernel
theorem dX12_monthEnds_23 : decode cX12_monthEnds 23 = .ok (.getfield 148, 3) := by decide +kernel
theorem dX12_monthEnds_26 : decode cX12_monthEnds 26 = .ok (.iload_n 1, 1) := by decide +kernel
theorem dX12_monthEnds_27 : decode cX12_monthEnds 27 = .ok (.dup2, 1) := by decide +kernel
theorem dX12_monthEnds_28 : decode cX12_monthEnds 28 = .ok (.iaload, 1) := by decide +kernel
theorem dX12_monthEnds_29 : decode cX12_monthEnds 29 = .ok (.aload_n 0, 1) := by decide +kernel
theorem dX12_monthEnds_30 : decode cX12_monthEnds 30 = .ok (.iload_n 1, 1) := by decide +kernel
theorem dX12_monthEnds_31 : decode cX12_monthEnds 31 = .ok (.iconst 2, 1) := by decide +kernel
theorem dX12_monthEnds_32 : decode cX12_monthEnds 32 = .ok (.invokevirtual 459, 3) := by decide +kernel
theorem dX12_monthEnds_35 : decode cX12_monthEnds 35 = .ok (.iadd, 1) := by decide +kernel
theorem dX12_monthEnds_36 : decode cX12_monthEnds 36 = .ok (.iastore, 1) := by decide +kernel
theorem dX12_monthEnds_37 : decode cX12_monthEnds 37 = .ok (.aload_n 0, 1) := by decide +kernel
theorem dX12_monthEnds_38 : decode cX12_monthEnds 38 = .ok (.getfield 145, 3) := by decide +kernel
theorem dX12_monthEnds_41 : decode cX12_monthEnds 41 = .ok (.iload_n 1, 1) := by decide +kernel
theorem dX12_monthEnds_42 : decode cX12_monthEnds 42 = .ok (.iaload, 1) := by decide +kernel
theorem dX12_monthEnds_43 : decode cX12_monthEnds 43 = .ok (.aload_n 0, 1) := by decide +kernel
theorem dX12_monthEnds_44 : decode cX12_monthEnds 44 = .ok (.getfield 148, 3) := by decide +kernel
theorem dX12_monthEnds_47 : decode cX12_monthEnds 47 = .ok (.iload_n 1, 1) := by decide +kernel
theorem dX12_monthEnds_48 : decode cX12_monthEnds 48 = .ok (.iaload, 1) := by decide +kernel
theorem dX12_monthEnds_49 : decode cX12_monthEnds 49 = .ok (.if_icmp .ge 12, 3) := by decide +kernel
theorem dX12_monthEnds_52 : decode cX12_monthEnds 52 = .ok (.aload_n 0, 1) := by decide +kernel
theorem dX12_monthEnds_53 : decode cX12_monthEnds 53 = .ok (.getfield 145, 3) := by decide +kernel
theorem dX12_monthEnds_56 : decode cX12_monthEnds 56 = .ok (.iload_n 1, 1) := by decide +kernel
theorem dX12_monthEnds_57 : decode cX12_monthEnds 57 = .ok (.iaload, 1) := by decide +kernel
theorem dX12_monthEnds_58 : decode cX12_monthEnds 58 = .ok (.goto 9, 3) := by decide +kernel
theorem dX12_monthEnds_61 : decode cX12_monthEnds 61 = .ok (.aload_n 0, 1) := by decide +kernel
theorem dX12_monthEnds_62 : decode cX12_monthEnds 62 = .ok (.getfield 148, 3) := by decide +kernel
theorem dX12_monthEnds_65 : decode cX12_monthEnds 65 = .ok (.iload_n 1, 1) := by decide +kernel
theorem dX12_monthEnds_66 : decode cX12_monthEnds 66 = .ok (.iaload, 1) := by decide +kernel
theorem dX12_monthEnds_67 : decode cX12_monthEnds 67 = .ok (.istore_n 2, 1) := by decide +kernel
theorem dX12_monthEnds_68 : decode cX12_monthEnds 68 = .ok (.aload_n 0, 1) := by decide +kernel
theorem dX12_monthEnds_69 : decode cX12_monthEnds 69 = .ok (.getfield 148, 3) := by decide +kernel
theorem dX12_monthEnds_72 : decode cX12_monthEnds 72 = .ok (.iload_n 1, 1) := by decide +kernel
theorem dX12_monthEnds_73 : decode cX12_monthEnds 73 = .ok (.dup2, 1) := by decide +kernel
theorem dX12_monthEnds_74 : decode cX12_monthEnds 74 = .ok (.iaload, 1) := by decide +kernel
theorem dX12_monthEnds_75 : decode cX12_monthEnds 75 = .ok (.iload_n 2, 1) := by decide +kernel
theorem dX12_monthEnds_76 : decode cX12_monthEnds 76 = .ok (.isub, 1) := by decide +kernel
theorem dX12_monthEnds_77 : decode cX12_monthEnds 77 = .ok (.iastore, 1) := by decide +kernel
theorem dX12_monthEnds_78 : decode cX12_monthEnds 78 = .ok (.aload_n 0, 1) := by decide +kernel
theorem dX12_monthEnds_79 : decode cX12_monthEnds 79 = .ok (.getfield 151, 3) := by decide +kernel
theorem dX12_monthEnds_82 : decode cX12_monthEnds 82 = .ok (.iload_n 1, 1) := by decide +kernel
theorem dX12_monthEnds_83 : decode cX12_monthEnds 83 = .ok (.dup2, 1) := by decide +kernel
theorem dX12_monthEnds_84 : decode cX12_monthEnds 84 = .ok (.iaload, 1) := by decide +kernel
theorem dX12_monthEnds_85 : decode cX12_monthEnds 85 = .ok (.aload_n 0, 1) := by decide +kernel
theorem dX12_monthEnds_86 : decode cX12_monthEnds 86 = .ok (.getfield 145, 3) := by decide +kernel
theorem dX12_monthEnds_89 : decode cX12_monthEnds 89 = .ok (.iload_n 1, 1) := by decide +kernel
theorem dX12_monthEnds_90 : decode cX12_monthEnds 90 = .ok (.iaload, 1) := by decide +kernel
theorem dX12_monthEnds_91 : decode cX12_monthEnds 91 = .ok (.iload_n 2, 1) := by decide +kernel
theorem dX12_monthEnds_92 : decode cX12_monthEnds 92 = .ok (.isub, 1) := by decide +kernel
theorem dX12_monthEnds_93 : decode cX12_monthEnds 93 = .ok (.iadd, 1) := by decide +kernel
theorem dX12_monthEnds_94 : decode cX12_monthEnds 94 = .ok (.iastore, 1) := by decide +kernel
theorem dX12_monthEnds_95 : decode cX12_monthEnds 95 = .ok (.aload_n 0, 1) := by decide +kernel
theorem dX12_monthEnds_96 : decode cX12_monthEnds 96 = .ok (.getfield 145, 3) := by decide +kernel
theorem dX12_monthEnds_99 : decode cX12_monthEnds 99 = .ok (.iload_n 1, 1) := by decide +kernel
theorem dX12_monthEnds_100 : decode cX12_monthEnds 100 = .ok (.iconst 0, 1) := by decide +kernel
theorem dX12_monthEnds_101 : decode cX12_monthEnds 101 = .ok (.iastore, 1) := by decide +kernel
theorem dX12_monthEnds_102 : decode cX12_monthEnds 102 = .ok (.iinc 1 1, 3) := by decide +kernel
theorem dX12_monthEnds_105 : decode cX12_monthEnds 105 = .ok (.goto (-103), 3) := by decide +kernel
theorem dX12_monthEnds_108 : decode cX12_monthEnds 108 = .ok (.return_, 1) := by decide +kernel
theorem dX12_leave_0 : decode cX12_leave 0 = .ok (.aload_n 0, 1) := by decide +kernel
theorem dX12_leave_1 : decode cX12_leave 1 = .ok (.iconst 0, 1) := by decide +kernel
theorem dX12_leave_2 : decode cX12_leave 2 = .ok (.putfield 235, 3) := by decide +kernel
theorem dX12_leave_5 : decode cX12_leave 5 = .ok (.aload_n 0, 1) := by decide +kernel
theorem dX12_leave_6 : decode cX12_leave 6 = .ok (.iload_n 1, 1) := by decide +kernel
theorem dX12_leave_7 : decode cX12_leave 7 = .ok (.invokevirtual 440, 3) := by decide +kernel
theorem dX12_leave_10 : decode cX12_leave 10 = .ok (.ifCond .eq 12, 3) := by decide +kernel
theorem dX12_leave_13 : decode cX12_leave 13 = .ok (.aload_n 0, 1) := by decide +kernel
theorem dX12_leave_14 : decode cX12_leave 14 = .ok (.getfield 154, 3) := by decide +kernel
theorem dX12_leave_17 : decode cX12_leave 17 = .ok (.iload_n 1, 1) := by decide +kernel
theorem dX12_leave_18 : decode cX12_leave 18 = .ok (.baload, 1) := by decide +kernel
theorem dX12_leave_19 : decode cX12_leave 19 = .ok (.ifCond .eq 7, 3) := by decide +kernel
theorem dX12_leave_22 : decode cX12_leave 22 = .ok (.ldc_w 489, 3) := by decide +kernel
theorem dX12_leave_25 : decode cX12_leave 25 = .ok (.ireturn, 1) := by decide +kernel
theorem dX12_leave_26 : decode cX12_leave 26 = .ok (.aload_n 0, 1) := by decide +kernel
theorem dX12_leave_27 : decode cX12_leave 27 = .ok (.getfield 145, 3) := by decide +kernel
theorem dX12_leave_30 : decode cX12_leave 30 = .ok (.iload_n 1, 1) := by decide +kernel
theorem dX12_leave_31 : decode cX12_leave 31 = .ok (.iaload, 1) := by decide +kernel
theorem dX12_leave_32 : decode cX12_leave 32 = .ok (.aload_n 0, 1) := by decide +kernel
theorem dX12_leave_33 : decode cX12_leave 33 = .ok (.getfield 148, 3) := by decide +kernel
theorem dX12_leave_36 : decode cX12_leave 36 = .ok (.iload_n 1, 1) := by decide +kernel
theorem dX12_leave_37 : decode cX12_leave 37 = .ok (.iaload, 1) := by decide +kernel
theorem dX12_leave_38 : decode cX12_leave 38 = .ok (.isub, 1) := by decide +kernel
theorem dX12_leave_39 : decode cX12_leave 39 = .ok (.istore_n 2, 1) := by decide +kernel
theorem dX12_leave_40 : decode cX12_leave 40 = .ok (.aload_n 0, 1) := by decide +kernel
theorem dX12_leave_41 : decode cX12_leave 41 = .ok (.getfield 154, 3) := by decide +kernel
theorem dX12_leave_44 : decode cX12_leave 44 = .ok (.iload_n 1, 1) := by decide +kernel
theorem dX12_leave_45 : decode cX12_leave 45 = .ok (.iconst 1, 1) := by decide +kernel
theorem dX12_leave_46 : decode cX12_leave 46 = .ok (.bastore, 1) := by decide +kernel
theorem dX12_leave_47 : decode cX12_leave 47 = .ok (.aload_n 0, 1) := by decide +kernel
theorem dX12_leave_48 : decode cX12_leave 48 = .ok (.getfield 145, 3) := by decide +kernel
theorem dX12_leave_51 : decode cX12_leave 51 = .ok (.iload_n 1, 1) := by decide +kernel
theorem dX12_leave_52 : decode cX12_leave 52 = .ok (.iconst 0, 1) := by decide +kernel
theorem dX12_leave_53 : decode cX12_leave 53 = .ok (.iastore, 1) := by decide +kernel
theorem dX12_leave_54 : decode cX12_leave 54 = .ok (.aload_n 0, 1) := by decide +kernel
theorem dX12_leave_55 : decode cX12_leave 55 = .ok (.getfield 148, 3) := by decide +kernel
theorem dX12_leave_58 : decode cX12_leave 58 = .ok (.iload_n 1, 1) := by decide +kernel
theorem dX12_leave_59 : decode cX12_leave 59 = .ok (.iload_n 2, 1) := by decide +kernel
theorem dX12_leave_60 : decode cX12_leave 60 = .ok (.ifCond .ge 8, 3) := by decide +kernel
theorem dX12_leave_63 : decode cX12_leave 63 = .ok (.iload_n 2, 1) := by decide +kernel
theorem dX12_leave_64 : decode cX12_leave 64 = .ok (.ineg, 1) := by decide +kernel
theorem dX12_leave_65 : decode cX12_leave 65 = .ok (.goto 4, 3) := by decide +kernel
theorem dX12_leave_68 : decode cX12_leave 68 = .ok (.iconst 0, 1) := by decide +kernel
theorem dX12_leave_69 : decode cX12_leave 69 = .ok (.iastore, 1) := by decide +kernel
theorem dX12_leave_70 : decode cX12_leave 70 = .ok (.aload_n 0, 1) := by decide +kernel
theorem dX12_leave_71 : decode cX12_leave 71 = .ok (.getfield 151, 3) := by decide +kernel
theorem dX12_leave_74 : decode cX12_leave 74 = .ok (.iload_n 1, 1) := by decide +kernel
theorem dX12_leave_75 : decode cX12_leave 75 = .ok (.dup2, 1) := by decide +kernel
theorem dX12_leave_76 : decode cX12_leave 76 = .ok (.iaload, 1) := by decide +kernel
theorem dX12_leave_77 : decode cX12_leave 77 = .ok (.iload_n 2, 1) := by decide +kernel
theorem dX12_leave_78 : decode cX12_leave 78 = .ok (.ifCond .le 7, 3) := by decide +kernel
theorem dX12_leave_81 : decode cX12_leave 81 = .ok (.iload_n 2, 1) := by decide +kernel
theorem dX12_leave_82 : decode cX12_leave 82 = .ok (.goto 4, 3) := by decide +kernel
theorem dX12_leave_85 : decode cX12_leave 85 = .ok (.iconst 0, 1) := by decide +kernel
theorem dX12_leave_86 : decode cX12_leave 86 = .ok (.iadd, 1) := by decide +kernel
theorem dX12_leave_87 : decode cX12_leave 87 = .ok (.iastore, 1) := by decide +kernel
theorem dX12_leave_88 : decode cX12_leave 88 = .ok (.iload_n 2, 1) := by decide +kernel
theorem dX12_leave_89 : decode cX12_leave 89 = .ok (.ireturn, 1) := by decide +kernel
theorem dX12_lease_0 : decode cX12_lease 0 = .ok (.aload_n 0, 1) := by decide +kernel
theorem dX12_lease_1 : decode cX12_lease 1 = .ok (.iconst 0, 1) := by decide +kernel
theorem dX12_lease_2 : decode cX12_lease 2 = .ok (.putfield 235, 3) := by decide +kernel
theorem dX12_lease_5 : decode cX12_lease 5 = .ok (.iload_n 1, 1) := by decide +kernel
theorem dX12_lease_6 : decode cX12_lease 6 = .ok (.iconst 0, 1) := by decide +kernel
theorem dX12_lease_7 : decode cX12_lease 7 = .ok (.iconst 1, 1) := by decide +kernel
theorem dX12_lease_8 : decode cX12_lease 8 = .ok (.invokestatic 238, 3) := by decide +kernel
theorem dX12_lease_11 : decode cX12_lease 11 = .ok (.ifCond .ne 5, 3) := by decide +kernel
theorem dX12_lease_14 : decode cX12_lease 14 = .ok (.iconst 0, 1) := by decide +kernel
theorem dX12_lease_15 : decode cX12_lease 15 = .ok (.ireturn, 1) := by decide +kernel
theorem dX12_lease_16 : decode cX12_lease 16 = .ok (.aload_n 0, 1) := by decide +kernel
theorem dX12_lease_17 : decode cX12_lease 17 = .ok (.iload_n 1, 1) := by decide +kernel
theorem dX12_lease_18 : decode cX12_lease 18 = .ok (.putfield 490, 3) := by decide +kernel
theorem dX12_lease_21 : decode cX12_lease 21 = .ok (.iconst 1, 1) := by decide +kernel
theorem dX12_lease_22 : decode cX12_lease 22 = .ok (.ireturn, 1) := by decide +kernel
theorem dX12_scaleOf_0 : decode cX12_scaleOf 0 = .ok (.iload_n 2, 1) := by decide +kernel
theorem dX12_scaleOf_1 : decode cX12_scaleOf 1 = .ok (.iconst 1, 1) := by decide +kernel
theorem dX12_scaleOf_2 : decode cX12_scaleOf 2 = .ok (.if_icmp .ne 12, 3) := by decide +kernel
theorem dX12_scaleOf_5 : decode cX12_scaleOf 5 = .ok (.aload_n 0, 1) := by decide +kernel
theorem dX12_scaleOf_6 : decode cX12_scaleOf 6 = .ok (.getfield 55, 3) := by decide +kernel
theorem dX12_scaleOf_9 : decode cX12_scaleOf 9 = .ok (.iload_n 1, 1) := by decide +kernel
theorem dX12_scaleOf_10 : decode cX12_scaleOf 10 = .ok (.iaload, 1) := by decide +kernel
theorem dX12_scaleOf_11 : decode cX12_scaleOf 11 = .ok (.goto 25, 3) := by decide +kernel
theorem dX12_scaleOf_14 : decode cX12_scaleOf 14 = .ok (.aload_n 0, 1) := by decide +kernel
theorem dX12_scaleOf_15 : decode cX12_scaleOf 15 = .ok (.getfield 55, 3) := by decide +kernel
theorem dX12_scaleOf_18 : decode cX12_scaleOf 18 = .ok (.iload_n 1, 1) := by decide +kernel
theorem dX12_scaleOf_19 : decode cX12_scaleOf 19 = .ok (.iaload, 1) := by decide +kernel
theorem dX12_scaleOf_20 : decode cX12_scaleOf 20 = .ok (.iconst 4, 1) := by decide +kernel
theorem dX12_scaleOf_21 : decode cX12_scaleOf 21 = .ok (.if_icmp .le 14, 3) := by decide +kernel
theorem dX12_scaleOf_24 : decode cX12_scaleOf 24 = .ok (.aload_n 0, 1) := by decide +kernel
theorem dX12_scaleOf_25 : decode cX12_scaleOf 25 = .ok (.getfield 55, 3) := by decide +kernel
theorem dX12_scaleOf_28 : decode cX12_scaleOf 28 = .ok (.iload_n 1, 1) := by decide +kernel
theorem dX12_scaleOf_29 : decode cX12_scaleOf 29 = .ok (.iaload, 1) := by decide +kernel
theorem dX12_scaleOf_30 : decode cX12_scaleOf 30 = .ok (.iconst 4, 1) := by decide +kernel
theorem dX12_scaleOf_31 : decode cX12_scaleOf 31 = .ok (.isub, 1) := by decide +kernel
theorem dX12_scaleOf_32 : decode cX12_scaleOf 32 = .ok (.goto 4, 3) := by decide +kernel
theorem dX12_scaleOf_35 : decode cX12_scaleOf 35 = .ok (.iconst 0, 1) := by decide +kernel
theorem dX12_scaleOf_36 : decode cX12_scaleOf 36 = .ok (.istore_n 3, 1) := by decide +kernel
theorem dX12_scaleOf_37 : decode cX12_scaleOf 37 = .ok (.iload_n 3, 1) := by decide +kernel
theorem dX12_scaleOf_38 : decode cX12_scaleOf 38 = .ok (.iload_n 3, 1) := by decide +kernel
theorem dX12_scaleOf_39 : decode cX12_scaleOf 39 = .ok (.imul, 1) := by decide +kernel
theorem dX12_scaleOf_40 : decode cX12_scaleOf 40 = .ok (.aload_n 0, 1) := by decide +kernel
theorem dX12_scaleOf_41 : decode cX12_scaleOf 41 = .ok (.getfield 52, 3) := by decide +kernel
theorem dX12_scaleOf_44 : decode cX12_scaleOf 44 = .ok (.iload_n 1, 1) := by decide +kernel
theorem dX12_scaleOf_45 : decode cX12_scaleOf 45 = .ok (.iaload, 1) := by decide +kernel
theorem dX12_scaleOf_46 : decode cX12_scaleOf 46 = .ok (.imul, 1) := by decide +kernel
theorem dX12_scaleOf_47 : decode cX12_scaleOf 47 = .ok (.iload_n 2, 1) := by decide +kernel
theorem dX12_scaleOf_48 : decode cX12_scaleOf 48 = .ok (.iconst 1, 1) := by decide +kernel
theorem dX12_scaleOf_49 : decode cX12_scaleOf 49 = .ok (.if_icmp .ne 8, 3) := by decide +kernel
theorem dX12_scaleOf_52 : decode cX12_scaleOf 52 = .ok (.bipush 24, 2) := by decide +kernel
theorem dX12_scaleOf_54 : decode cX12_scaleOf 54 = .ok (.goto 5, 3) := by decide +kernel
theorem dX12_scaleOf_57 : decode cX12_scaleOf 57 = .ok (.bipush 16, 2) := by decide +kernel
theorem dX12_scaleOf_59 : decode cX12_scaleOf 59 = .ok (.idiv, 1) := by decide +kernel
theorem dX12_scaleOf_60 : decode cX12_scaleOf 60 = .ok (.ireturn, 1) := by decide +kernel
theorem dX12_scale_0 : decode cX12_scale 0 = .ok (.aload_n 0, 1) := by decide +kernel
theorem dX12_scale_1 : decode cX12_scale 1 = .ok (.iconst 0, 1) := by decide +kernel
theorem dX12_scale_2 : decode cX12_scale 2 = .ok (.putfield 235, 3) := by decide +kernel
theorem dX12_scale_5 : decode cX12_scale 5 = .ok (.aload_n 0, 1) := by decide +kernel
theorem dX12_scale_6 : decode cX12_scale 6 = .ok (.iload_n 1, 1) := by decide +kernel
theorem dX12_scale_7 : decode cX12_scale 7 = .ok (.invokevirtual 306, 3) := by decide +kernel
theorem dX12_scale_10 : decode cX12_scale 10 = .ok (.ifCond .eq 21, 3) := by decide +kernel
theorem dX12_scale_13 : decode cX12_scale 13 = .ok (.iload_n 2, 1) := by decide +kernel
theorem dX12_scale_14 : decode cX12_scale 14 = .ok (.iconst 0, 1) := by decide +kernel
theorem dX12_scale_15 : decode cX12_scale 15 = .ok (.iconst 1, 1) := by decide +kernel
theorem dX12_scale_16 : decode cX12_scale 16 = .ok (.invokestatic 238, 3) := by decide +kernel
theorem dX12_scale_19 : decode cX12_scale 19 = .ok (.ifCond .eq 12, 3) := by decide +kernel
theorem dX12_scale_22 : decode cX12_scale 22 = .ok (.aload_n 0, 1) := by decide +kernel
theorem dX12_scale_23 : decode cX12_scale 23 = .ok (.iload_n 1, 1) := by decide +kernel
theorem dX12_scale_24 : decode cX12_scale 24 = .ok (.iload_n 2, 1) := by decide +kernel
theorem dX12_scale_25 : decode cX12_scale 25 = .ok (.invokevirtual 493, 3) := by decide +kernel
theorem dX12_scale_28 : decode cX12_scale 28 = .ok (.goto 4, 3) := by decide +kernel
theorem dX12_scale_31 : decode cX12_scale 31 = .ok (.iconst (-1), 1) := by decide +kernel
theorem dX12_scale_32 : decode cX12_scale 32 = .ok (.ireturn, 1) := by decide +kernel
theorem dX12_fall_0 : decode cX12_fall 0 = .ok (.aload_n 0, 1) := by decide +kernel
theorem dX12_fall_1 : decode cX12_fall 1 = .ok (.iconst 0, 1) := by decide +kernel
theorem dX12_fall_2 : decode cX12_fall 2 = .ok (.putfield 235, 3) := by decide +kernel
theorem dX12_fall_5 : decode cX12_fall 5 = .ok (.aload_n 0, 1) := by decide +kernel
theorem dX12_fall_6 : decode cX12_fall 6 = .ok (.iload_n 1, 1) := by decide +kernel
theorem dX12_fall_7 : decode cX12_fall 7 = .ok (.invokevirtual 440, 3) := by decide +kernel
theorem dX12_fall_10 : decode cX12_fall 10 = .ok (.ifCond .eq 28, 3) := by decide +kernel
theorem dX12_fall_13 : decode cX12_fall 13 = .ok (.aload_n 0, 1) := by decide +kernel
theorem dX12_fall_14 : decode cX12_fall 14 = .ok (.getfield 154, 3) := by decide +kernel
theorem dX12_fall_17 : decode cX12_fall 17 = .ok (.iload_n 1, 1) := by decide +kernel
theorem dX12_fall_18 : decode cX12_fall 18 = .ok (.baload, 1) := by decide +kernel
theorem dX12_fall_19 : decode cX12_fall 19 = .ok (.ifCond .ne 19, 3) := by decide +kernel
theorem dX12_fall_22 : decode cX12_fall 22 = .ok (.iload_n 2, 1) := by decide +kernel
theorem dX12_fall_23 : decode cX12_fall 23 = .ok (.invokestatic 253, 3) := by decide +kernel
theorem dX12_fall_26 : decode cX12_fall 26 = .ok (.ifCond .eq 12, 3) := by decide +kernel
theorem dX12_fall_29 : decode cX12_fall 29 = .ok (.iload_n 3, 1) := by decide +kernel
theorem dX12_fall_30 : decode cX12_fall 30 = .ok (.iload 4, 2) := by decide +kernel
theorem dX12_fall_32 : decode cX12_fall 32 = .ok (.invokestatic 257, 3) := by decide +kernel
theorem dX12_fall_35 : decode cX12_fall 35 = .ok (.ifCond .ne 5, 3) := by decide +kernel
theorem dX12_fall_38 : decode cX12_fall 38 = .ok (.iconst (-1), 1) := by decide +kernel
theorem dX12_fall_39 : decode cX12_fall 39 = .ok (.ireturn, 1) := by decide +kernel
theorem dX12_fall_40 : decode cX12_fall 40 = .ok (.aload_n 0, 1) := by decide +kernel
theorem dX12_fall_41 : decode cX12_fall 41 = .ok (.getfield 16, 3) := by decide +kernel
theorem dX12_fall_44 : decode cX12_fall 44 = .ok (.iload_n 2, 1) := by decide +kernel
theorem dX12_fall_45 : decode cX12_fall 45 = .ok (.iload_n 3, 1) := by decide +kernel
theorem dX12_fall_46 : decode cX12_fall 46 = .ok (.iload 4, 2) := by decide +kernel
theorem dX12_fall_48 : decode cX12_fall 48 = .ok (.invokestatic 261, 3) := by decide +kernel
theorem dX12_fall_51 : decode cX12_fall 51 = .ok (.iaload, 1) := by decide +kernel
theorem dX12_fall_52 : decode cX12_fall 52 = .ok (.ifCond .ne 6, 3) := by decide +kernel
theorem dX12_fall_55 : decode cX12_fall 55 = .ok (.bipush (-2), 2) := by decide +kernel
theorem dX12_fall_57 : decode cX12_fall 57 = .ok (.ireturn, 1) := by decide +kernel
theorem dX12_fall_58 : decode cX12_fall 58 = .ok (.aload_n 0, 1) := by decide +kernel
theorem dX12_fall_59 : decode cX12_fall 59 = .ok (.iload_n 1, 1) := by decide +kernel
theorem dX12_fall_60 : decode cX12_fall 60 = .ok (.iload_n 2, 1) := by decide +kernel
theorem dX12_fall_61 : decode cX12_fall 61 = .ok (.iload_n 3, 1) := by decide +kernel
theorem dX12_fall_62 : decode cX12_fall 62 = .ok (.iload 4, 2) := by decide +kernel
theorem dX12_fall_64 : decode cX12_fall 64 = .ok (.invokevirtual 443, 3) := by decide +kernel
theorem dX12_fall_67 : decode cX12_fall 67 = .ok (.aload_n 0, 1) := by decide +kernel
theorem dX12_fall_68 : decode cX12_fall 68 = .ok (.iconst 0, 1) := by decide +kernel
theorem dX12_fall_69 : decode cX12_fall 69 = .ok (.invokevirtual 447, 3) := by decide +kernel
theorem dX12_fall_72 : decode cX12_fall 72 = .ok (.iconst (-1), 1) := by decide +kernel
theorem dX12_fall_73 : decode cX12_fall 73 = .ok (.if_icmp .eq 6, 3) := by decide +kernel
theorem dX12_fall_76 : decode cX12_fall 76 = .ok (.bipush (-3), 2) := by decide +kernel
theorem dX12_fall_78 : decode cX12_fall 78 = .ok (.ireturn, 1) := by decide +kernel
theorem dX12_fall_79 : decode cX12_fall 79 = .ok (.aload_n 0, 1) := by decide +kernel
theorem dX12_fall_80 : decode cX12_fall 80 = .ok (.iconst 3, 1) := by decide +kernel
theorem dX12_fall_81 : decode cX12_fall 81 = .ok (.invokevirtual 456, 3) := by decide +kernel
theorem dX12_fall_84 : decode cX12_fall 84 = .ok (.istore 6, 2) := by decide +kernel
theorem dX12_fall_86 : decode cX12_fall 86 = .ok (.iload 5, 2) := by decide +kernel
theorem dX12_fall_88 : decode cX12_fall 88 = .ok (.ifCond .ne 14, 3) := by decide +kernel
theorem dX12_fall_91 : decode cX12_fall 91 = .ok (.aload_n 0, 1) := by decide +kernel
theorem dX12_fall_92 : decode cX12_fall 92 = .ok (.iload_n 3, 1) := by decide +kernel
theorem dX12_fall_93 : decode cX12_fall 93 = .ok (.iload 4, 2) := by decide +kernel
theorem dX12_fall_95 : decode cX12_fall 95 = .ok (.invokevirtual 289, 3) := by decide +kernel
theorem dX12_fall_98 : decode cX12_fall 98 = .ok (.pop, 1) := by decide +kernel
theorem dX12_fall_99 : decode cX12_fall 99 = .ok (.goto 18, 3) := by decide +kernel
theorem dX12_fall_102 : decode cX12_fall 102 = .ok (.aload_n 0, 1) := by decide +kernel
theorem dX12_fall_103 : decode cX12_fall 103 = .ok (.iload_n 3, 1) := by decide +kernel
theorem dX12_fall_104 : decode cX12_fall 104 = .ok (.iload 4, 2) := by decide +kernel
theorem dX12_fall_106 : decode cX12_fall 106 = .ok (.iload 5, 2) := by decide +kernel
theorem dX12_fall_108 : decode cX12_fall 108 = .ok (.invokevirtual 292, 3) := by decide +kernel
theorem dX12_fall_111 : decode cX12_fall 111 = .ok (.ifCond .ne 6, 3) := by decide +kernel
theorem dX12_fall_114 : decode cX12_fall 114 = .ok (.bipush (-4), 2) := by decide +kernel
theorem dX12_fall_116 : decode cX12_fall 116 = .ok (.ireturn, 1) := by decide +kernel
theorem dX12_fall_117 : decode cX12_fall 117 = .ok (.aload_n 0, 1) := by decide +kernel
theorem dX12_fall_118 : decode cX12_fall 118 = .ok (.getfield 265, 3) := by decide +kernel
theorem dX12_fall_121 : decode cX12_fall 121 = .ok (.aload_n 0, 1) := by decide +kernel
theorem dX12_fall_122 : decode cX12_fall 122 = .ok (.getfield 286, 3) := by decide +kernel
theorem dX12_fall_125 : decode cX12_fall 125 = .ok (.iadd, 1) := by decide +kernel
theorem dX12_fall_126 : decode cX12_fall 126 = .ok (.sipush 300, 3) := by decide +kernel
theorem dX12_fall_129 : decode cX12_fall 129 = .ok (.if_icmp .le 6, 3) := by decide +kernel
theorem dX12_fall_132 : decode cX12_fall 132 = .ok (.bipush (-5), 2) := by decide +kernel
theorem dX12_fall_134 : decode cX12_fall 134 = .ok (.ireturn, 1) := by decide +kernel
theorem dX12_fall_135 : decode cX12_fall 135 = .ok (.aload_n 0, 1) := by decide +kernel
theorem dX12_fall_136 : decode cX12_fall 136 = .ok (.getfield 16, 3) := by decide +kernel
theorem dX12_fall_139 : decode cX12_fall 139 = .ok (.iload_n 2, 1) := by decide +kernel
theorem dX12_fall_140 : decode cX12_fall 140 = .ok (.iload_n 3, 1) := by decide +kernel
theorem dX12_fall_141 : decode cX12_fall 141 = .ok (.iload 4, 2) := by decide +kernel
theorem dX12_fall_143 : decode cX12_fall 143 = .ok (.invokestatic 261, 3) := by decide +kernel
theorem dX12_fall_146 : decode cX12_fall 146 = .ok (.dup2, 1) := by decide +kernel
theorem dX12_fall_147 : decode cX12_fall 147 = .ok (.iaload, 1) := by decide +kernel
theorem dX12_fall_148 : decode cX12_fall 148 = .ok (.iconst 1, 1) := by decide +kernel
theorem dX12_fall_149 : decode cX12_fall 149 = .ok (.isub, 1) := by decide +kernel
theorem dX12_fall_150 : decode cX12_fall 150 = .ok (.iastore, 1) := by decide +kernel
theorem dX12_fall_151 : decode cX12_fall 151 = .ok (.aload_n 0, 1) := by decide +kernel
theorem dX12_fall_152 : decode cX12_fall 152 = .ok (.getfield 13, 3) := by decide +kernel
theorem dX12_fall_155 : decode cX12_fall 155 = .ok (.iload_n 2, 1) := by decide +kernel
theorem dX12_fall_156 : decode cX12_fall 156 = .ok (.dup2, 1) := by decide +kernel
theorem dX12_fall_157 : decode cX12_fall 157 = .ok (.iaload, 1) := by decide +kernel
theorem dX12_fall_158 : decode cX12_fall 158 = .ok (.iconst 3, 1) := by decide +kernel
theorem dX12_fall_159 : decode cX12_fall 159 = .ok (.iadd, 1) := by decide +kernel
theorem dX12_fall_160 : decode cX12_fall 160 = .ok (.iastore, 1) := by decide +kernel
theorem dX12_fall_161 : decode cX12_fall 161 = .ok (.iconst 0, 1) := by decide +kernel
theorem dX12_fall_162 : decode cX12_fall 162 = .ok (.istore 7, 2) := by decide +kernel
theorem dX12_fall_164 : decode cX12_fall 164 = .ok (.iconst 0, 1) := by decide +kernel
theorem dX12_fall_165 : decode cX12_fall 165 = .ok (.istore 8, 2) := by decide +kernel
theorem dX12_fall_167 : decode cX12_fall 167 = .ok (.iconst 0, 1) := by decide +kernel
theorem dX12_fall_168 : decode cX12_fall 168 = .ok (.istore 9, 2) := by decide +kernel
theorem dX12_fall_170 : decode cX12_fall 170 = .ok (.iload 9, 2) := by decide +kernel
theorem dX12_fall_172 : decode cX12_fall 172 = .ok (.aload_n 0, 1) := by decide +kernel
theorem dX12_fall_173 : decode cX12_fall 173 = .ok (.getfield 286, 3) := by decide +kernel
theorem dX12_fall_176 : decode cX12_fall 176 = .ok (.if_icmp .ge 68, 3) := by decide +kernel
theorem dX12_fall_179 : decode cX12_fall 179 = .ok (.iload 7, 2) := by decide +kernel
theorem dX12_fall_181 : decode cX12_fall 181 = .ok (.aload_n 0, 1) := by decide +kernel
theorem dX12_fall_182 : decode cX12_fall 182 = .ok (.getfield 40, 3) := by decide +kernel
theorem dX12_fall_185 : decode cX12_fall 185 = .ok (.iload 9, 2) := by decide +kernel
theorem dX12_fall_187 : decode cX12_fall 187 = .ok (.iaload, 1) := by decide +kernel
theorem dX12_fall_188 : decode cX12_fall 188 = .ok (.iadd, 1) := by decide +kernel
theorem dX12_fall_189 : decode cX12_fall 189 = .ok (.istore 7, 2) := by decide +kernel
theorem dX12_fall_191 : decode cX12_fall 191 = .ok (.aload_n 0, 1) := by decide +kernel
theorem dX12_fall_192 : decode cX12_fall 192 = .ok (.iload_n 2, 1) := by decide +kernel
theorem dX12_fall_193 : decode cX12_fall 193 = .ok (.iload_n 3, 1) := by decide +kernel
theorem dX12_fall_194 : decode cX12_fall 194 = .ok (.aload_n 0, 1) := by decide +kernel
theorem dX12_fall_195 : decode cX12_fall 195 = .ok (.getfield 40, 3) := by decide +kernel
theorem dX12_fall_198 : decode cX12_fall 198 = .ok (.iload 9, 2) := by decide +kernel
theorem dX12_fall_200 : decode cX12_fall 200 = .ok (.iaload, 1) := by decide +kernel
theorem dX12_fall_201 : decode cX12_fall 201 = .ok (.aload_n 0, 1) := by decide +kernel
theorem dX12_fall_202 : decode cX12_fall 202 = .ok (.iload_n 3, 1) := by decide +kernel
theorem dX12_fall_203 : decode cX12_fall 203 = .ok (.iload 4, 2) := by decide +kernel
theorem dX12_fall_205 : decode cX12_fall 205 = .ok (.iload 7, 2) := by decide +kernel
theorem dX12_fall_207 : decode cX12_fall 207 = .ok (.invokevirtual 283, 3) := by decide +kernel
theorem dX12_fall_210 : decode cX12_fall 210 = .ok (.aload_n 0, 1) := by decide +kernel
theorem dX12_fall_211 : decode cX12_fall 211 = .ok (.getfield 142, 3) := by decide +kernel
theorem dX12_fall_214 : decode cX12_fall 214 = .ok (.iload_n 1, 1) := by decide +kernel
theorem dX12_fall_215 : decode cX12_fall 215 = .ok (.iaload, 1) := by decide +kernel
theorem dX12_fall_216 : decode cX12_fall 216 = .ok (.invokevirtual 496, 3) := by decide +kernel
theorem dX12_fall_219 : decode cX12_fall 219 = .ok (.iload 8, 2) := by decide +kernel
theorem dX12_fall_221 : decode cX12_fall 221 = .ok (.aload_n 0, 1) := by decide +kernel
theorem dX12_fall_222 : decode cX12_fall 222 = .ok (.aload_n 0, 1) := by decide +kernel
theorem dX12_fall_223 : decode cX12_fall 223 = .ok (.getfield 265, 3) := by decide +kernel
theorem dX12_fall_226 : decode cX12_fall 226 = .ok (.iconst 1, 1) := by decide +kernel
theorem dX12_fall_227 : decode cX12_fall 227 = .ok (.isub, 1) := by decide +kernel
theorem dX12_fall_228 : decode cX12_fall 228 = .ok (.aload_n 0, 1) := by decide +kernel
theorem dX12_fall_229 : decode cX12_fall 229 = .ok (.getfield 490, 3) := by decide +kernel
theorem dX12_fall_232 : decode cX12_fall 232 = .ok (.invokevirtual 493, 3) := by decide +kernel
theorem dX12_fall_235 : decode cX12_fall 235 = .ok (.iadd, 1) := by decide +kernel
theorem dX12_fall_236 : decode cX12_fall 236 = .ok (.istore 8, 2) := by decide +kernel
theorem dX12_fall_238 : decode cX12_fall 238 = .ok (.iinc 9 1, 3) := by decide +kernel
theorem dX12_fall_241 : decode cX12_fall 241 = .ok (.goto (-71), 3) := by decide +kernel
theorem dX12_fall_244 : decode cX12_fall 244 = .ok (.aload_n 0, 1) := by decide +kernel
theorem dX12_fall_245 : decode cX12_fall 245 = .ok (.getfield 145, 3) := by decide +kernel
theorem dX12_fall_248 : decode cX12_fall 248 = .ok (.iload_n 1, 1) := by decide +kernel
theorem dX12_fall_249 : decode cX12_fall 249 = .ok (.dup2, 1) := by decide +kernel
theorem dX12_fall_250 : decode cX12_fall 250 = .ok (.iaload, 1) := by decide +kernel
theorem dX12_fall_251 : decode cX12_fall 251 = .ok (.iload 6, 2) := by decide +kernel
theorem dX12_fall_253 : decode cX12_fall 253 = .ok (.iload 8, 2) := by decide +kernel
theorem dX12_fall_255 : decode cX12_fall 255 = .ok (.imul, 1) := by decide +kernel
theorem dX12_fall_256 : decode cX12_fall 256 = .ok (.iadd, 1) := by decide +kernel
theorem dX12_fall_257 : decode cX12_fall 257 = .ok (.iastore, 1) := by decide +kernel
theorem dX12_fall_258 : decode cX12_fall 258 = .ok (.aload_n 0, 1) := by decide +kernel
theorem dX12_fall_259 : decode cX12_fall 259 = .ok (.getfield 286, 3) := by decide +kernel
theorem dX12_fall_262 : decode cX12_fall 262 = .ok (.ireturn, 1) := by decide +kernel
theorem dX12_found_0 : decode cX12_found 0 = .ok (.aload_n 0, 1) := by decide +kernel
theorem dX12_found_1 : decode cX12_found 1 = .ok (.iconst 0, 1) := by decide +kernel
theorem dX12_found_2 : decode cX12_found 2 = .ok (.putfield 235, 3) := by decide +kernel
theorem dX12_found_5 : decode cX12_found 5 = .ok (.iload_n 1, 1) := by decide +kernel
theorem dX12_found_6 : decode cX12_found 6 = .ok (.iconst 0, 1) := by decide +kernel
theorem dX12_found_7 : decode cX12_found 7 = .ok (.iconst 4, 1) := by decide +kernel
theorem dX12_found_8 : decode cX12_found 8 = .ok (.invokestatic 238, 3) := by decide +kernel
theorem dX12_found_11 : decode cX12_found 11 = .ok (.ifCond .eq 31, 3) := by decide +kernel
theorem dX12_found_14 : decode cX12_found 14 = .ok (.aload_n 0, 1) := by decide +kernel
theorem dX12_found_15 : decode cX12_found 15 = .ok (.iload_n 2, 1) := by decide +kernel
theorem dX12_found_16 : decode cX12_found 16 = .ok (.invokevirtual 306, 3) := by decide +kernel
theorem dX12_found_19 : decode cX12_found 19 = .ok (.ifCond .eq 23, 3) := by decide +kernel
theorem dX12_found_22 : decode cX12_found 22 = .ok (.iload_n 3, 1) := by decide +kernel
theorem dX12_found_23 : decode cX12_found 23 = .ok (.iconst 0, 1) := by decide +kernel
theorem dX12_found_24 : decode cX12_found 24 = .ok (.sipush 999, 3) := by decide +kernel
theorem dX12_found_27 : decode cX12_found 27 = .ok (.invokestatic 238, 3) := by decide +kernel
theorem dX12_found_30 : decode cX12_found 30 = .ok (.ifCond .eq 12, 3) := by decide +kernel
theorem dX12_found_33 : decode cX12_found 33 = .ok (.aload_n 0, 1) := by decide +kernel
theorem dX12_found_34 : decode cX12_found 34 = .ok (.getfield 500, 3) := by decide +kernel
theorem dX12_found_37 : decode cX12_found 37 = .ok (.bipush 60, 2) := by decide +kernel
theorem dX12_found_39 : decode cX12_found 39 = .ok (.if_icmp .ne 5, 3) := by decide +kernel
theorem dX12_found_42 : decode cX12_found 42 = .ok (.iconst 0, 1) := by decide +kernel
theorem dX12_found_43 : decode cX12_found 43 = .ok (.ireturn, 1) := by decide +kernel
theorem dX12_found_44 : decode cX12_found 44 = .ok (.aload_n 0, 1) := by decide +kernel
theorem dX12_found_45 : decode cX12_found 45 = .ok (.getfield 157, 3) := by decide +kernel
theorem dX12_found_48 : decode cX12_found 48 = .ok (.aload_n 0, 1) := by decide +kernel
theorem dX12_found_49 : decode cX12_found 49 = .ok (.getfield 500, 3) := by decide +kernel
theorem dX12_found_52 : decode cX12_found 52 = .ok (.iload_n 1, 1) := by decide +kernel
theorem dX12_found_53 : decode cX12_found 53 = .ok (.iastore, 1) := by decide +kernel
theorem dX12_found_54 : decode cX12_found 54 = .ok (.aload_n 0, 1) := by decide +kernel
theorem dX12_found_55 : decode cX12_found 55 = .ok (.getfield 160, 3) := by decide +kernel
theorem dX12_found_58 : decode cX12_found 58 = .ok (.aload_n 0, 1) := by decide +kernel
theorem dX12_found_59 : decode cX12_found 59 = .ok (.getfield 500, 3) := by decide +kernel
theorem dX12_found_62 : decode cX12_found 62 = .ok (.iload_n 2, 1) := by decide +kernel
theorem dX12_found_63 : decode cX12_found 63 = .ok (.iastore, 1) := by decide +kernel
theorem dX12_found_64 : decode cX12_found 64 = .ok (.aload_n 0, 1) := by decide +kernel
theorem dX12_found_65 : decode cX12_found 65 = .ok (.getfield 163, 3) := by decide +kernel
theorem dX12_found_68 : decode cX12_found 68 = .ok (.aload_n 0, 1) := by decide +kernel
theorem dX12_found_69 : decode cX12_found 69 = .ok (.getfield 500, 3) := by decide +kernel
theorem dX12_found_72 : decode cX12_found 72 = .ok (.iload_n 3, 1) := by decide +kernel
theorem dX12_found_73 : decode cX12_found 73 = .ok (.iastore, 1) := by decide +kernel
theorem dX12_found_74 : decode cX12_found 74 = .ok (.aload_n 0, 1) := by decide +kernel
theorem dX12_found_75 : decode cX12_found 75 = .ok (.dup, 1) := by decide +kernel
theorem dX12_found_76 : decode cX12_found 76 = .ok (.getfield 500, 3) := by decide +kernel
theorem dX12_found_79 : decode cX12_found 79 = .ok (.iconst 1, 1) := by decide +kernel
theorem dX12_found_80 : decode cX12_found 80 = .ok (.iadd, 1) := by decide +kernel
theorem dX12_found_81 : decode cX12_found 81 = .ok (.putfield 500, 3) := by decide +kernel
theorem dX12_found_84 : decode cX12_found 84 = .ok (.iconst 1, 1) := by decide +kernel
theorem dX12_found_85 : decode cX12_found 85 = .ok (.ireturn, 1) := by decide +kernel
theorem dX12_hand_0 : decode cX12_hand 0 = .ok (.iconst 0, 1) := by decide +kernel
theorem dX12_hand_1 : decode cX12_hand 1 = .ok (.istore_n 3, 1) := by decide +kernel
theorem dX12_hand_2 : decode cX12_hand 2 = .ok (.iconst 0, 1) := by decide +kernel
theorem dX12_hand_3 : decode cX12_hand 3 = .ok (.istore 4, 2) := by decide +kernel
theorem dX12_hand_5 : decode cX12_hand 5 = .ok (.iconst 0, 1) := by decide +kernel
theorem dX12_hand_6 : decode cX12_hand 6 = .ok (.istore 5, 2) := by decide +kernel
theorem dX12_hand_8 : decode cX12_hand 8 = .ok (.iconst 0, 1) := by decide +kernel
theorem dX12_hand_9 : decode cX12_hand 9 = .ok (.istore 6, 2) := by decide +kernel
theorem dX12_hand_11 : decode cX12_hand 11 = .ok (.iconst 0, 1) := by decide +kernel
theorem dX12_hand_12 : decode cX12_hand 12 = .ok (.istore 7, 2) := by decide +kernel
theorem dX12_hand_14 : decode cX12_hand 14 = .ok (.iload 7, 2) := by decide +kernel
theorem dX12_hand_16 : decode cX12_hand 16 = .ok (.aload_n 0, 1) := by decide +kernel
theorem dX12_hand_17 : decode cX12_hand 17 = .ok (.getfield 500, 3) := by decide +kernel
theorem dX12_hand_20 : decode cX12_hand 20 = .ok (.if_icmp .ge 98, 3) := by decide +kernel
theorem dX12_hand_23 : decode cX12_hand 23 = .ok (.aload_n 0, 1) := by decide +kernel
theorem dX12_hand_24 : decode cX12_hand 24 = .ok (.getfield 157, 3) := by decide +kernel
theorem dX12_hand_27 : decode cX12_hand 27 = .ok (.iload 7, 2) := by decide +kernel
theorem dX12_hand_29 : decode cX12_hand 29 = .ok (.iaload, 1) := by decide +kernel
theorem dX12_hand_30 : decode cX12_hand 30 = .ok (.iload_n 1, 1) := by decide +kernel
theorem dX12_hand_31 : decode cX12_hand 31 = .ok (.if_icmp .eq 6, 3) := by decide +kernel
theorem dX12_hand_34 : decode cX12_hand 34 = .ok (.goto 78, 3) := by decide +kernel
theorem dX12_hand_37 : decode cX12_hand 37 = .ok (.aload_n 0, 1) := by decide +kernel
theorem dX12_hand_38 : decode cX12_hand 38 = .ok (.getfield 163, 3) := by decide +kernel
theorem dX12_hand_41 : decode cX12_hand 41 = .ok (.iload 7, 2) := by decide +kernel
theorem dX12_hand_43 : decode cX12_hand 43 = .ok (.iaload, 1) := by decide +kernel
theorem dX12_hand_44 : decode cX12_hand 44 = .ok (.aload_n 0, 1) := by decide +kernel
theorem dX12_hand_45 : decode cX12_hand 45 = .ok (.aload_n 0, 1) := by decide +kernel
theorem dX12_hand_46 : decode cX12_hand 46 = .ok (.getfield 160, 3) := by decide +kernel
theorem dX12_hand_49 : decode cX12_hand 49 = .ok (.iload 7, 2) := by decide +kernel
theorem dX12_hand_51 : decode cX12_hand 51 = .ok (.iaload, 1) := by decide +kernel
theorem dX12_hand_52 : decode cX12_hand 52 = .ok (.aload_n 0, 1) := by decide +kernel
theorem dX12_hand_53 : decode cX12_hand 53 = .ok (.getfield 490, 3) := by decide +kernel
theorem dX12_hand_56 : decode cX12_hand 56 = .ok (.invokevirtual 493, 3) := by decide +kernel
theorem dX12_hand_59 : decode cX12_hand 59 = .ok (.isub, 1) := by decide +kernel
theorem dX12_hand_60 : decode cX12_hand 60 = .ok (.istore 8, 2) := by decide +kernel
theorem dX12_hand_62 : decode cX12_hand 62 = .ok (.iload_n 3, 1) := by decide +kernel
theorem dX12_hand_63 : decode cX12_hand 63 = .ok (.ifCond .eq 10, 3) := by decide +kernel
theorem dX12_hand_66 : decode cX12_hand 66 = .ok (.iload 8, 2) := by decide +kernel
theorem dX12_hand_68 : decode cX12_hand 68 = .ok (.iload 5, 2) := by decide +kernel
theorem dX12_hand_70 : decode cX12_hand 70 = .ok (.if_icmp .ge 8, 3) := by decide +kernel
theorem dX12_hand_73 : decode cX12_hand 73 = .ok (.iload 8, 2) := by decide +kernel
theorem dX12_hand_75 : decode cX12_hand 75 = .ok (.goto 5, 3) := by decide +kernel
theorem dX12_hand_78 : decode cX12_hand 78 = .ok (.iload 5, 2) := by decide +kernel
theorem dX12_hand_80 : decode cX12_hand 80 = .ok (.istore 5, 2) := by decide +kernel
theorem dX12_hand_82 : decode cX12_hand 82 = .ok (.iload_n 3, 1) := by decide +kernel
theorem dX12_hand_83 : decode cX12_hand 83 = .ok (.ifCond .eq 10, 3) := by decide +kernel
theorem dX12_hand_86 : decode cX12_hand 86 = .ok (.iload 8, 2) := by decide +kernel
theorem dX12_hand_88 : decode cX12_hand 88 = .ok (.iload 6, 2) := by decide +kernel
theorem dX12_hand_90 : decode cX12_hand 90 = .ok (.if_icmp .le 8, 3) := by decide +kernel
theorem dX12_hand_93 : decode cX12_hand 93 = .ok (.iload 8, 2) := by decide +kernel
theorem dX12_hand_95 : decode cX12_hand 95 = .ok (.goto 5, 3) := by decide +kernel
theorem dX12_hand_98 : decode cX12_hand 98 = .ok (.iload 6, 2) := by decide +kernel
theorem dX12_hand_100 : decode cX12_hand 100 = .ok (.istore 6, 2) := by decide +kernel
theorem dX12_hand_102 : decode cX12_hand 102 = .ok (.iload 4, 2) := by decide +kernel
theorem dX12_hand_104 : decode cX12_hand 104 = .ok (.iload 8, 2) := by decide +kernel
theorem dX12_hand_106 : decode cX12_hand 106 = .ok (.iadd, 1) := by decide +kernel
theorem dX12_hand_107 : decode cX12_hand 107 = .ok (.istore 4, 2) := by decide +kernel
theorem dX12_hand_109 : decode cX12_hand 109 = .ok (.iinc 3 1, 3) := by decide +kernel
theorem dX12_hand_112 : decode cX12_hand 112 = .ok (.iinc 7 1, 3) := by decide +kernel
theorem dX12_hand_115 : decode cX12_hand 115 = .ok (.goto (-101), 3) := by decide +kernel
theorem dX12_hand_118 : decode cX12_hand 118 = .ok (.iload_n 3, 1) := by decide +kernel
theorem dX12_hand_119 : decode cX12_hand 119 = .ok (.ifCond .le 16, 3) := by decide +kernel
theorem dX12_hand_122 : decode cX12_hand 122 = .ok (.iload_n 2, 1) := by decide +kernel
theorem dX12_hand_123 : decode cX12_hand 123 = .ok (.iconst 0, 1) := by decide +kernel
theorem dX12_hand_124 : decode cX12_hand 124 = .ok (.iconst 1, 1) := by decide +kernel
theorem dX12_hand_125 : decode cX12_hand 125 = .ok (.invokestatic 238, 3) := by decide +kernel
theorem dX12_hand_128 : decode cX12_hand 128 = .ok (.ifCond .eq 7, 3) := by decide +kernel
theorem dX12_hand_131 : decode cX12_hand 131 = .ok (.iconst 1, 1) := by decide +kernel
theorem dX12_hand_132 : decode cX12_hand 132 = .ok (.goto 4, 3) := by decide +kernel
theorem dX12_hand_135 : decode cX12_hand 135 = .ok (.iconst 0, 1) := by decide +kernel
theorem dX12_hand_136 : decode cX12_hand 136 = .ok (.istore 7, 2) := by decide +kernel
theorem dX12_hand_138 : decode cX12_hand 138 = .ok (.aload_n 0, 1) := by decide +kernel
theorem dX12_hand_139 : decode cX12_hand 139 = .ok (.iload 7, 2) := by decide +kernel
theorem dX12_hand_141 : decode cX12_hand 141 = .ok (.ifCond .eq 7, 3) := by decide +kernel
theorem dX12_hand_144 : decode cX12_hand 144 = .ok (.iconst 0, 1) := by decide +kernel
theorem dX12_hand_145 : decode cX12_hand 145 = .ok (.goto 4, 3) := by decide +kernel
theorem dX12_hand_148 : decode cX12_hand 148 = .ok (.iconst 1, 1) := by decide +kernel
theorem dX12_hand_149 : decode cX12_hand 149 = .ok (.putfield 235, 3) := by decide +kernel
theorem dX12_hand_152 : decode cX12_hand 152 = .ok (.iload 7, 2) := by decide +kernel
theorem dX12_hand_154 : decode cX12_hand 154 = .ok (.ifCond .ne 7, 3) := by decide +kernel
theorem dX12_hand_157 : decode cX12_hand 157 = .ok (.iconst 0, 1) := by decide +kernel
theorem dX12_hand_158 : decode cX12_hand 158 = .ok (.goto 21, 3) := by decide +kernel
theorem dX12_hand_161 : decode cX12_hand 161 = .ok (.iload_n 2, 1) := by decide +kernel
theorem dX12_hand_162 : decode cX12_hand 162 = .ok (.ifCond .ne 12, 3) := by decide +kernel
theorem dX12_hand_165 : decode cX12_hand 165 = .ok (.iload 4, 2) := by decide +kernel
theorem dX12_hand_167 : decode cX12_hand 167 = .ok (.iload_n 3, 1) := by decide +kernel
theorem dX12_hand_168 : decode cX12_hand 168 = .ok (.invokestatic 503, 3) := by decide +kernel
theorem dX12_hand_171 : decode cX12_hand 171 = .ok (.goto 8, 3) := by decide +kernel
theorem dX12_hand_174 : decode cX12_hand 174 = .ok (.iload 6, 2) := by decide +kernel
theorem dX12_hand_176 : decode cX12_hand 176 = .ok (.iload 5, 2) := by decide +kernel
theorem dX12_hand_178 : decode cX12_hand 178 = .ok (.isub, 1) := by decide +kernel
theorem dX12_hand_179 : decode cX12_hand 179 = .ok (.ireturn, 1) := by decide +kernel
theorem dX12_order_0 : decode cX12_order 0 = .ok (.aload_n 0, 1) := by decide +kernel
theorem dX12_order_1 : decode cX12_order 1 = .ok (.iconst 0, 1) := by decide +kernel
theorem dX12_order_2 : decode cX12_order 2 = .ok (.putfield 235, 3) := by decide +kernel
theorem dX12_order_5 : decode cX12_order 5 = .ok (.iload_n 1, 1) := by decide +kernel
theorem dX12_order_6 : decode cX12_order 6 = .ok (.iconst 1, 1) := by decide +kernel
theorem dX12_order_7 : decode cX12_order 7 = .ok (.bipush 12, 2) := by decide +kernel
theorem dX12_order_9 : decode cX12_order 9 = .ok (.invokestatic 238, 3) := by decide +kernel
theorem dX12_order_12 : decode cX12_order 12 = .ok (.ifCond .eq 58, 3) := by decide +kernel
theorem dX12_order_15 : decode cX12_order 15 = .ok (.iload_n 2, 1) := by decide +kernel
theorem dX12_order_16 : decode cX12_order 16 = .ok (.iconst 2, 1) := by decide +kernel
theorem dX12_order_17 : decode cX12_order 17 = .ok (.bipush 6, 2) := by decide +kernel
theorem dX12_order_19 : decode cX12_order 19 = .ok (.invokestatic 238, 3) := by decide +kernel
theorem dX12_order_22 : decode cX12_order 22 = .ok (.ifCond .eq 48, 3) := by decide +kernel
theorem dX12_order_25 : decode cX12_order 25 = .ok (.iload_n 3, 1) := by decide +kernel
theorem dX12_order_26 : decode cX12_order 26 = .ok (.iconst 1, 1) := by decide +kernel
theorem dX12_order_27 : decode cX12_order 27 = .ok (.bipush 99, 2) := by decide +kernel
theorem dX12_order_29 : decode cX12_order 29 = .ok (.invokestatic 238, 3) := by decide +kernel
theorem dX12_order_32 : decode cX12_order 32 = .ok (.ifCond .eq 38, 3) := by decide +kernel
theorem dX12_order_35 : decode cX12_order 35 = .ok (.iload 4, 2) := by decide +kernel
theorem dX12_order_37 : decode cX12_order 37 = .ok (.iconst 1, 1) := by decide +kernel
theorem dX12_order_38 : decode cX12_order 38 = .ok (.bipush 99, 2) := by decide +kernel
theorem dX12_order_40 : decode cX12_order 40 = .ok (.invokestatic 238, 3) := by decide +kernel
theorem dX12_order_43 : decode cX12_order 43 = .ok (.ifCond .eq 27, 3) := by decide +kernel
theorem dX12_order_46 : decode cX12_order 46 = .ok (.iload 5, 2) := by decide +kernel
theorem dX12_order_48 : decode cX12_order 48 = .ok (.aload_n 0, 1) := by decide +kernel
theorem dX12_order_49 : decode cX12_order 49 = .ok (.getfield 271, 3) := by decide +kernel
theorem dX12_order_52 : decode cX12_order 52 = .ok (.sipush 3999, 3) := by decide +kernel
theorem dX12_order_55 : decode cX12_order 55 = .ok (.invokestatic 238, 3) := by decide +kernel
theorem dX12_order_58 : decode cX12_order 58 = .ok (.ifCond .eq 12, 3) := by decide +kernel
theorem dX12_order_61 : decode cX12_order 61 = .ok (.aload_n 0, 1) := by decide +kernel
theorem dX12_order_62 : decode cX12_order 62 = .ok (.getfield 508, 3) := by decide +kernel
theorem dX12_order_65 : decode cX12_order 65 = .ok (.bipush 30, 2) := by decide +kernel
theorem dX12_order_67 : decode cX12_order 67 = .ok (.if_icmp .ne 5, 3) := by decide +kernel
theorem dX12_order_70 : decode cX12_order 70 = .ok (.iconst (-1), 1) := by decide +kernel
theorem dX12_order_71 : decode cX12_order 71 = .ok (.ireturn, 1) := by decide +kernel
theorem dX12_order_72 : decode cX12_order 72 = .ok (.aload_n 0, 1) := by decide +kernel
theorem dX12_order_73 : decode cX12_order 73 = .ok (.getfield 166, 3) := by decide +kernel
theorem dX12_order_76 : decode cX12_order 76 = .ok (.aload_n 0, 1) := by decide +kernel
theorem dX12_order_77 : decode cX12_order 77 = .ok (.getfield 508, 3) := by decide +kernel
theorem dX12_order_80 : decode cX12_order 80 = .ok (.iload_n 1, 1) := by decide +kernel
theorem dX12_order_81 : decode cX12_order 81 = .ok (.iastore, 1) := by decide +kernel
theorem dX12_order_82 : decode cX12_order 82 = .ok (.aload_n 0, 1) := by decide +kernel
theorem dX12_order_83 : decode cX12_order 83 = .ok (.getfield 169, 3) := by decide +kernel
theorem dX12_order_86 : decode cX12_order 86 = .ok (.aload_n 0, 1) := by decide +kernel
theorem dX12_order_87 : decode cX12_order 87 = .ok (.getfield 508, 3) := by decide +kernel
theorem dX12_order_90 : decode cX12_order 90 = .ok (.iload_n 2, 1) := by decide +kernel
theorem dX12_order_91 : decode cX12_order 91 = .ok (.iastore, 1) := by decide +kernel
theorem dX12_order_92 : decode cX12_order 92 = .ok (.aload_n 0, 1) := by decide +kernel
theorem dX12_order_93 : decode cX12_order 93 = .ok (.getfield 172, 3) := by decide +kernel
theorem dX12_order_96 : decode cX12_order 96 = .ok (.aload_n 0, 1) := by decide +kernel
theorem dX12_order_97 : decode cX12_order 97 = .ok (.getfield 508, 3) := by decide +kernel
theorem dX12_order_100 : decode cX12_order 100 = .ok (.iload_n 3, 1) := by decide +kernel
theorem dX12_order_101 : decode cX12_order 101 = .ok (.iastore, 1) := by decide +kernel
theorem dX12_order_102 : decode cX12_order 102 = .ok (.aload_n 0, 1) := by decide +kernel
theorem dX12_order_103 : decode cX12_order 103 = .ok (.getfield 175, 3) := by decide +kernel
theorem dX12_order_106 : decode cX12_order 106 = .ok (.aload_n 0, 1) := by decide +kernel
theorem dX12_order_107 : decode cX12_order 107 = .ok (.getfield 508, 3) := by decide +kernel
theorem dX12_order_110 : decode cX12_order 110 = .ok (.iload 4, 2) := by decide +kernel
theorem dX12_order_112 : decode cX12_order 112 = .ok (.iastore, 1) := by decide +kernel
theorem dX12_order_113 : decode cX12_order 113 = .ok (.aload_n 0, 1) := by decide +kernel
theorem dX12_order_114 : decode cX12_order 114 = .ok (.getfield 178, 3) := by decide +kernel
theorem dX12_order_117 : decode cX12_order 117 = .ok (.aload_n 0, 1) := by decide +kernel
theorem dX12_order_118 : decode cX12_order 118 = .ok (.getfield 508, 3) := by decide +kernel
theorem dX12_order_121 : decode cX12_order 121 = .ok (.iload 5, 2) := by decide +kernel
theorem dX12_order_123 : decode cX12_order 123 = .ok (.iastore, 1) := by decide +kernel
theorem dX12_order_124 : decode cX12_order 124 = .ok (.aload_n 0, 1) := by decide +kernel
theorem dX12_order_125 : decode cX12_order 125 = .ok (.getfield 181, 3) := by decide +kernel
theorem dX12_order_128 : decode cX12_order 128 = .ok (.aload_n 0, 1) := by decide +kernel
theorem dX12_order_129 : decode cX12_order 129 = .ok (.getfield 508, 3) := by decide +kernel
theorem dX12_order_132 : decode cX12_order 132 = .ok (.iconst (-1), 1) := by decide +kernel
theorem dX12_order_133 : decode cX12_order 133 = .ok (.iastore, 1) := by decide +kernel
theorem dX12_order_134 : decode cX12_order 134 = .ok (.aload_n 0, 1) := by decide +kernel
theorem dX12_order_135 : decode cX12_order 135 = .ok (.dup, 1) := by decide +kernel
theorem dX12_order_136 : decode cX12_order 136 = .ok (.getfield 508, 3) := by decide +kernel
theorem dX12_order_139 : decode cX12_order 139 = .ok (.iconst 1, 1) := by decide +kernel
theorem dX12_order_140 : decode cX12_order 140 = .ok (.iadd, 1) := by decide +kernel
theorem dX12_order_141 : decode cX12_order 141 = .ok (.putfield 508, 3) := by decide +kernel
theorem dX12_order_144 : decode cX12_order 144 = .ok (.aload_n 0, 1) := by decide +kernel
theorem dX12_order_145 : decode cX12_order 145 = .ok (.getfield 508, 3) := by decide +kernel
theorem dX12_order_148 : decode cX12_order 148 = .ok (.iconst 1, 1) := by decide +kernel
theorem dX12_order_149 : decode cX12_order 149 = .ok (.isub, 1) := by decide +kernel
theorem dX12_order_150 : decode cX12_order 150 = .ok (.ireturn, 1) := by decide +kernel
theorem dX12_canBe_0 : decode cX12_canBe 0 = .ok (.aload_n 0, 1) := by decide +kernel
theorem dX12_canBe_1 : decode cX12_canBe 1 = .ok (.getfield 64, 3) := by decide +kernel
theorem dX12_canBe_4 : decode cX12_canBe 4 = .ok (.iload_n 2, 1) := by decide +kernel
theorem dX12_canBe_5 : decode cX12_canBe 5 = .ok (.iaload, 1) := by decide +kernel
theorem dX12_canBe_6 : decode cX12_canBe 6 = .ok (.istore 4, 2) := by decide +kernel
theorem dX12_canBe_8 : decode cX12_canBe 8 = .ok (.aload_n 0, 1) := by decide +kernel
theorem dX12_canBe_9 : decode cX12_canBe 9 = .ok (.getfield 172, 3) := by decide +kernel
theorem dX12_canBe_12 : decode cX12_canBe 12 = .ok (.iload_n 1, 1) := by decide +kernel
theorem dX12_canBe_13 : decode cX12_canBe 13 = .ok (.iaload, 1) := by decide +kernel
theorem dX12_canBe_14 : decode cX12_canBe 14 = .ok (.ifCond .le 77, 3) := by decide +kernel
theorem dX12_canBe_17 : decode cX12_canBe 17 = .ok (.aload_n 0, 1) := by decide +kernel
theorem dX12_canBe_18 : decode cX12_canBe 18 = .ok (.getfield 178, 3) := by decide +kernel
theorem dX12_canBe_21 : decode cX12_canBe 21 = .ok (.iload_n 1, 1) := by decide +kernel
theorem dX12_canBe_22 : decode cX12_canBe 22 = .ok (.iaload, 1) := by decide +kernel
theorem dX12_canBe_23 : decode cX12_canBe 23 = .ok (.aload_n 0, 1) := by decide +kernel
theorem dX12_canBe_24 : decode cX12_canBe 24 = .ok (.getfield 271, 3) := by decide +kernel
theorem dX12_canBe_27 : decode cX12_canBe 27 = .ok (.if_icmp .lt 64, 3) := by decide +kernel
theorem dX12_canBe_30 : decode cX12_canBe 30 = .ok (.aload_n 0, 1) := by decide +kernel
theorem dX12_canBe_31 : decode cX12_canBe 31 = .ok (.getfield 52, 3) := by decide +kernel
theorem dX12_canBe_34 : decode cX12_canBe 34 = .ok (.iload_n 2, 1) := by decide +kernel
theorem dX12_canBe_35 : decode cX12_canBe 35 = .ok (.iaload, 1) := by decide +kernel
theorem dX12_canBe_36 : decode cX12_canBe 36 = .ok (.aload_n 0, 1) := by decide +kernel
theorem dX12_canBe_37 : decode cX12_canBe 37 = .ok (.getfield 169, 3) := by decide +kernel
theorem dX12_canBe_40 : decode cX12_canBe 40 = .ok (.iload_n 1, 1) := by decide +kernel
theorem dX12_canBe_41 : decode cX12_canBe 41 = .ok (.iaload, 1) := by decide +kernel
theorem dX12_canBe_42 : decode cX12_canBe 42 = .ok (.if_icmp .lt 49, 3) := by decide +kernel
theorem dX12_canBe_45 : decode cX12_canBe 45 = .ok (.iload_n 3, 1) := by decide +kernel
theorem dX12_canBe_46 : decode cX12_canBe 46 = .ok (.aload_n 0, 1) := by decide +kernel
theorem dX12_canBe_47 : decode cX12_canBe 47 = .ok (.getfield 166, 3) := by decide +kernel
theorem dX12_canBe_50 : decode cX12_canBe 50 = .ok (.iload_n 1, 1) := by decide +kernel
theorem dX12_canBe_51 : decode cX12_canBe 51 = .ok (.iaload, 1) := by decide +kernel
theorem dX12_canBe_52 : decode cX12_canBe 52 = .ok (.iadd, 1) := by decide +kernel
theorem dX12_canBe_53 : decode cX12_canBe 53 = .ok (.aload_n 0, 1) := by decide +kernel
theorem dX12_canBe_54 : decode cX12_canBe 54 = .ok (.getfield 55, 3) := by decide +kernel
theorem dX12_canBe_57 : decode cX12_canBe 57 = .ok (.iload_n 2, 1) := by decide +kernel
theorem dX12_canBe_58 : decode cX12_canBe 58 = .ok (.iaload, 1) := by decide +kernel
theorem dX12_canBe_59 : decode cX12_canBe 59 = .ok (.if_icmp .gt 32, 3) := by decide +kernel
theorem dX12_canBe_62 : decode cX12_canBe 62 = .ok (.iload 4, 2) := by decide +kernel
theorem dX12_canBe_64 : decode cX12_canBe 64 = .ok (.iconst (-1), 1) := by decide +kernel
theorem dX12_canBe_65 : decode cX12_canBe 65 = .ok (.if_icmp .eq 22, 3) := by decide +kernel
theorem dX12_canBe_68 : decode cX12_canBe 68 = .ok (.iload 4, 2) := by decide +kernel
theorem dX12_canBe_70 : decode cX12_canBe 70 = .ok (.iload_n 3, 1) := by decide +kernel
theorem dX12_canBe_71 : decode cX12_canBe 71 = .ok (.if_icmp .lt 16, 3) := by decide +kernel
theorem dX12_canBe_74 : decode cX12_canBe 74 = .ok (.iload 4, 2) := by decide +kernel
theorem dX12_canBe_76 : decode cX12_canBe 76 = .ok (.iload_n 3, 1) := by decide +kernel
theorem dX12_canBe_77 : decode cX12_canBe 77 = .ok (.aload_n 0, 1) := by decide +kernel
theorem dX12_canBe_78 : decode cX12_canBe 78 = .ok (.getfield 166, 3) := by decide +kernel
theorem dX12_canBe_81 : decode cX12_canBe 81 = .ok (.iload_n 1, 1) := by decide +kernel
theorem dX12_canBe_82 : decode cX12_canBe 82 = .ok (.iaload, 1) := by decide +kernel
theorem dX12_canBe_83 : decode cX12_canBe 83 = .ok (.iadd, 1) := by decide +kernel
theorem dX12_canBe_84 : decode cX12_canBe 84 = .ok (.if_icmp .lt 7, 3) := by decide +kernel
theorem dX12_canBe_87 : decode cX12_canBe 87 = .ok (.iconst 1, 1) := by decide +kernel
theorem dX12_canBe_88 : decode cX12_canBe 88 = .ok (.goto 4, 3) := by decide +kernel
theorem dX12_canBe_91 : decode cX12_canBe 91 = .ok (.iconst 0, 1) := by decide +kernel
theorem dX12_canBe_92 : decode cX12_canBe 92 = .ok (.ireturn, 1) := by decide +kernel
theorem dX12_lays__0 : decode cX12_lays_ 0 = .ok (.aload_n 0, 1) := by decide +kernel
theorem dX12_lays__1 : decode cX12_lays_ 1 = .ok (.getfield 55, 3) := by decide +kernel
theorem dX12_lays__4 : decode cX12_lays_ 4 = .ok (.iload_n 1, 1) := by decide +kernel
theorem dX12_lays__5 : decode cX12_lays_ 5 = .ok (.iaload, 1) := by decide +kernel
theorem dX12_lays__6 : decode cX12_lays_ 6 = .ok (.istore_n 2, 1) := by decide +kernel
theorem dX12_lays__7 : decode cX12_lays_ 7 = .ok (.aload_n 0, 1) := by decide +kernel
theorem dX12_lays__8 : decode cX12_lays_ 8 = .ok (.getfield 184, 3) := by decide +kernel
theorem dX12_lays__11 : decode cX12_lays_ 11 = .ok (.iload_n 2, 1) := by decide +kernel
theorem dX12_lays__12 : decode cX12_lays_ 12 = .ok (.iconst 0, 1) := by decide +kernel
theorem dX12_lays__13 : decode cX12_lays_ 13 = .ok (.iastore, 1) := by decide +kernel
theorem dX12_lays__14 : decode cX12_lays_ 14 = .ok (.iload_n 2, 1) := by decide +kernel
theorem dX12_lays__15 : decode cX12_lays_ 15 = .ok (.iconst 1, 1) := by decide +kernel
theorem dX12_lays__16 : decode cX12_lays_ 16 = .ok (.isub, 1) := by decide +kernel
theorem dX12_lays__17 : decode cX12_lays_ 17 = .ok (.istore_n 3, 1) := by decide +kernel
theorem dX12_lays__18 : decode cX12_lays_ 18 = .ok (.iload_n 3, 1) := by decide +kernel
theorem dX12_lays__19 : decode cX12_lays_ 19 = .ok (.ifCond .lt 88, 3) := by decide +kernel
theorem dX12_lays__22 : decode cX12_lays_ 22 = .ok (.aload_n 0, 1) := by decide +kernel
theorem dX12_lays__23 : decode cX12_lays_ 23 = .ok (.getfield 184, 3) := by decide +kernel
theorem dX12_lays__26 : decode cX12_lays_ 26 = .ok (.iload_n 3, 1) := by decide +kernel
theorem dX12_lays__27 : decode cX12_lays_ 27 = .ok (.aload_n 0, 1) := by decide +kernel
theorem dX12_lays__28 : decode cX12_lays_ 28 = .ok (.getfield 184, 3) := by decide +kernel
theorem dX12_lays__31 : decode cX12_lays_ 31 = .ok (.iload_n 3, 1) := by decide +kernel
theorem dX12_lays__32 : decode cX12_lays_ 32 = .ok (.iconst 1, 1) := by decide +kernel
theorem dX12_lays__33 : decode cX12_lays_ 33 = .ok (.iadd, 1) := by decide +kernel
theorem dX12_lays__34 : decode cX12_lays_ 34 = .ok (.iaload, 1) := by decide +kernel
theorem dX12_lays__35 : decode cX12_lays_ 35 = .ok (.iastore, 1) := by decide +kernel
theorem dX12_lays__36 : decode cX12_lays_ 36 = .ok (.iconst 0, 1) := by decide +kernel
theorem dX12_lays__37 : decode cX12_lays_ 37 = .ok (.istore 4, 2) := by decide +kernel
theorem dX12_lays__39 : decode cX12_lays_ 39 = .ok (.iload 4, 2) := by decide +kernel
theorem dX12_lays__41 : decode cX12_lays_ 41 = .ok (.aload_n 0, 1) := by decide +kernel
theorem dX12_lays__42 : decode cX12_lays_ 42 = .ok (.getfield 508, 3) := by decide +kernel
theorem dX12_lays__45 : decode cX12_lays_ 45 = .ok (.if_icmp .ge 56, 3) := by decide +kernel
theorem dX12_lays__48 : decode cX12_lays_ 48 = .ok (.aload_n 0, 1) := by decide +kernel
theorem dX12_lays__49 : decode cX12_lays_ 49 = .ok (.iload 4, 2) := by decide +kernel
theorem dX12_lays__51 : decode cX12_lays_ 51 = .ok (.iload_n 1, 1) := by decide +kernel
theorem dX12_lays__52 : decode cX12_lays_ 52 = .ok (.iload_n 3, 1) := by decide +kernel
theorem dX12_lays__53 : decode cX12_lays_ 53 = .ok (.invokevirtual 511, 3) := by decide +kernel
theorem dX12_lays__56 : decode cX12_lays_ 56 = .ok (.ifCond .eq 39, 3) := by decide +kernel
theorem dX12_lays__59 : decode cX12_lays_ 59 = .ok (.aload_n 0, 1) := by decide +kernel
theorem dX12_lays__60 : decode cX12_lays_ 60 = .ok (.getfield 184, 3) := by decide +kernel
theorem dX12_lays__63 : decode cX12_lays_ 63 = .ok (.iload_n 3, 1) := by decide +kernel
theorem dX12_lays__64 : decode cX12_lays_ 64 = .ok (.aload_n 0, 1) := by decide +kernel
theorem dX12_lays__65 : decode cX12_lays_ 65 = .ok (.getfield 184, 3) := by decide +kernel
theorem dX12_lays__68 : decode cX12_lays_ 68 = .ok (.iload_n 3, 1) := by decide +kernel
theorem dX12_lays__69 : decode cX12_lays_ 69 = .ok (.iaload, 1) := by decide +kernel
theorem dX12_lays__70 : decode cX12_lays_ 70 = .ok (.aload_n 0, 1) := by decide +kernel
theorem dX12_lays__71 : decode cX12_lays_ 71 = .ok (.getfield 175, 3) := by decide +kernel
theorem dX12_lays__74 : decode cX12_lays_ 74 = .ok (.iload 4, 2) := by decide +kernel
theorem dX12_lays__76 : decode cX12_lays_ 76 = .ok (.iaload, 1) := by decide +kernel
theorem dX12_lays__77 : decode cX12_lays_ 77 = .ok (.aload_n 0, 1) := by decide +kernel
theorem dX12_lays__78 : decode cX12_lays_ 78 = .ok (.getfield 184, 3) := by decide +kernel
theorem dX12_lays__81 : decode cX12_lays_ 81 = .ok (.aload_n 0, 1) := by decide +kernel
theorem dX12_lays__82 : decode cX12_lays_ 82 = .ok (.iload 4, 2) := by decide +kernel
theorem dX12_lays__84 : decode cX12_lays_ 84 = .ok (.iload_n 3, 1) := by decide +kernel
theorem dX12_lays__85 : decode cX12_lays_ 85 = .ok (.iload_n 2, 1) := by decide +kernel
theorem dX12_lays__86 : decode cX12_lays_ 86 = .ok (.invokevirtual 514, 3) := by decide +kernel
theorem dX12_lays__89 : decode cX12_lays_ 89 = .ok (.iaload, 1) := by decide +kernel
theorem dX12_lays__90 : decode cX12_lays_ 90 = .ok (.iadd, 1) := by decide +kernel
theorem dX12_lays__91 : decode cX12_lays_ 91 = .ok (.invokestatic 517, 3) := by decide +kernel
theorem dX12_lays__94 : decode cX12_lays_ 94 = .ok (.iastore, 1) := by decide +kernel
theorem dX12_lays__95 : decode cX12_lays_ 95 = .ok (.iinc 4 1, 3) := by decide +kernel
theorem dX12_lays__98 : decode cX12_lays_ 98 = .ok (.goto (-59), 3) := by decide +kernel
theorem dX12_lays__101 : decode cX12_lays_ 101 = .ok (.iinc 3 (-1), 3) := by decide +kernel
theorem dX12_lays__104 : decode cX12_lays_ 104 = .ok (.goto (-86), 3) := by decide +kernel
theorem dX12_lays__107 : decode cX12_lays_ 107 = .ok (.iconst 0, 1) := by decide +kernel
theorem dX12_lays__108 : decode cX12_lays_ 108 = .ok (.istore_n 3, 1) := by decide +kernel
theorem dX12_lays__109 : decode cX12_lays_ 109 = .ok (.iload_n 3, 1) := by decide +kernel
theorem dX12_lays__110 : decode cX12_lays_ 110 = .ok (.iload_n 2, 1) := by decide +kernel
theorem dX12_lays__111 : decode cX12_lays_ 111 = .ok (.if_icmp .ge 17, 3) := by decide +kernel
theorem dX12_lays__114 : decode cX12_lays_ 114 = .ok (.aload_n 0, 1) := by decide +kernel
theorem dX12_lays__115 : decode cX12_lays_ 115 = .ok (.getfield 187, 3) := by decide +kernel
theorem dX12_lays__118 : decode cX12_lays_ 118 = .ok (.iload_n 3, 1) := by decide +kernel
theorem dX12_lays__119 : decode cX12_lays_ 119 = .ok (.bipush (-2), 2) := by decide +kernel
theorem dX12_lays__121 : decode cX12_lays_ 121 = .ok (.iastore, 1) := by decide +kernel
theorem dX12_lays__122 : decode cX12_lays_ 122 = .ok (.iinc 3 1, 3) := by decide +kernel
theorem dX12_lays__125 : decode cX12_lays_ 125 = .ok (.goto (-16), 3) := by decide +kernel
theorem dX12_lays__128 : decode cX12_lays_ 128 = .ok (.iconst 0, 1) := by decide +kernel
theorem dX12_lays__129 : decode cX12_lays_ 129 = .ok (.istore_n 3, 1) := by decide +kernel
theorem dX12_lays__130 : decode cX12_lays_ 130 = .ok (.iload_n 3, 1) := by decide +kernel
theorem dX12_lays__131 : decode cX12_lays_ 131 = .ok (.iload_n 2, 1) := by decide +kernel
theorem dX12_lays__132 : decode cX12_lays_ 132 = .ok (.if_icmp .ge 111, 3) := by decide +kernel
theorem dX12_lays__135 : decode cX12_lays_ 135 = .ok (.iconst 0, 1) := by decide +kernel
theorem dX12_lays__136 : decode cX12_lays_ 136 = .ok (.istore 4, 2) := by decide +kernel
theorem dX12_lays__138 : decode cX12_lays_ 138 = .ok (.iload 4, 2) := by decide +kernel
theorem dX12_lays__140 : decode cX12_lays_ 140 = .ok (.aload_n 0, 1) := by decide +kernel
theorem dX12_lays__141 : decode cX12_lays_ 141 = .ok (.getfield 508, 3) := by decide +kernel
theorem dX12_lays__144 : decode cX12_lays_ 144 = .ok (.if_icmp .ge 50, 3) := by decide +kernel
theorem dX12_lays__147 : decode cX12_lays_ 147 = .ok (.aload_n 0, 1) := by decide +kernel
theorem dX12_lays__148 : decode cX12_lays_ 148 = .ok (.iload 4, 2) := by decide +kernel
theorem dX12_lays__150 : decode cX12_lays_ 150 = .ok (.iload_n 1, 1) := by decide +kernel
theorem dX12_lays__151 : decode cX12_lays_ 151 = .ok (.iload_n 3, 1) := by decide +kernel
theorem dX12_lays__152 : decode cX12_lays_ 152 = .ok (.invokevirtual 511, 3) := by decide +kernel
theorem dX12_lays__155 : decode cX12_lays_ 155 = .ok (.ifCond .eq 33, 3) := by decide +kernel
theorem dX12_lays__158 : decode cX12_lays_ 158 = .ok (.aload_n 0, 1) := by decide +kernel
theorem dX12_lays__159 : decode cX12_lays_ 159 = .ok (.getfield 175, 3) := by decide +kernel
theorem dX12_lays__162 : decode cX12_lays_ 162 = .ok (.iload 4, 2) := by decide +kernel
theorem dX12_lays__164 : decode cX12_lays_ 164 = .ok (.iaload, 1) := by decide +kernel
theorem dX12_lays__165 : decode cX12_lays_ 165 = .ok (.aload_n 0, 1) := by decide +kernel
theorem dX12_lays__166 : decode cX12_lays_ 166 = .ok (.getfield 184, 3) := by decide +kernel
theorem dX12_lays__169 : decode cX12_lays_ 169 = .ok (.aload_n 0, 1) := by decide +kernel
theorem dX12_lays__170 : decode cX12_lays_ 170 = .ok (.iload 4, 2) := by decide +kernel
theorem dX12_lays__172 : decode cX12_lays_ 172 = .ok (.iload_n 3, 1) := by decide +kernel
theorem dX12_lays__173 : decode cX12_lays_ 173 = .ok (.iload_n 2, 1) := by decide +kernel
theorem dX12_lays__174 : decode cX12_lays_ 174 = .ok (.invokevirtual 514, 3) := by decide +kernel
theorem dX12_lays__177 : decode cX12_lays_ 177 = .ok (.iaload, 1) := by decide +kernel
theorem dX12_lays__178 : decode cX12_lays_ 178 = .ok (.iadd, 1) := by decide +kernel
theorem dX12_lays__179 : decode cX12_lays_ 179 = .ok (.aload_n 0, 1) := by decide +kernel
theorem dX12_lays__180 : decode cX12_lays_ 180 = .ok (.getfield 184, 3) := by decide +kernel
theorem dX12_lays__183 : decode cX12_lays_ 183 = .ok (.iload_n 3, 1) := by decide +kernel
theorem dX12_lays__184 : decode cX12_lays_ 184 = .ok (.iaload, 1) := by decide +kernel
theorem dX12_lays__185 : decode cX12_lays_ 185 = .ok (.if_icmp .eq 9, 3) := by decide +kernel
theorem dX12_lays__188 : decode cX12_lays_ 188 = .ok (.iinc 4 1, 3) := by decide +kernel
theorem dX12_lays__191 : decode cX12_lays_ 191 = .ok (.goto (-53), 3) := by decide +kernel
theorem dX12_lays__194 : decode cX12_lays_ 194 = .ok (.aload_n 0, 1) := by decide +kernel
theorem dX12_lays__195 : decode cX12_lays_ 195 = .ok (.getfield 187, 3) := by decide +kernel
theorem dX12_lays__198 : decode cX12_lays_ 198 = .ok (.iload_n 3, 1) := by decide +kernel
theorem dX12_lays__199 : decode cX12_lays_ 199 = .ok (.iload 4, 2) := by decide +kernel
theorem dX12_lays__201 : decode cX12_lays_ 201 = .ok (.aload_n 0, 1) := by decide +kernel
theorem dX12_lays__202 : decode cX12_lays_ 202 = .ok (.getfield 508, 3) := by decide +kernel
theorem dX12_lays__205 : decode cX12_lays_ 205 = .ok (.if_icmp .ne 8, 3) := by decide +kernel
theorem dX12_lays__208 : decode cX12_lays_ 208 = .ok (.bipush (-2), 2) := by decide +kernel
theorem dX12_lays__210 : decode cX12_lays_ 210 = .ok (.goto 5, 3) := by decide +kernel
theorem dX12_lays__213 : decode cX12_lays_ 213 = .ok (.iload 4, 2) := by decide +kernel
theorem dX12_lays__215 : decode cX12_lays_ 215 = .ok (.iastore, 1) := by decide +kernel
theorem dX12_lays__216 : decode cX12_lays_ 216 = .ok (.iload 4, 2) := by decide +kernel
theorem dX12_lays__218 : decode cX12_lays_ 218 = .ok (.aload_n 0, 1) := by decide +kernel
theorem dX12_lays__219 : decode cX12_lays_ 219 = .ok (.getfield 508, 3) := by decide +kernel
theorem dX12_lays__222 : decode cX12_lays_ 222 = .ok (.if_icmp .ne 9, 3) := by decide +kernel
theorem dX12_lays__225 : decode cX12_lays_ 225 = .ok (.iload_n 3, 1) := by decide +kernel
theorem dX12_lays__226 : decode cX12_lays_ 226 = .ok (.iconst 1, 1) := by decide +kernel
theorem dX12_lays__227 : decode cX12_lays_ 227 = .ok (.iadd, 1) := by decide +kernel
theorem dX12_lays__228 : decode cX12_lays_ 228 = .ok (.goto 11, 3) := by decide +kernel
theorem dX12_lays__231 : decode cX12_lays_ 231 = .ok (.aload_n 0, 1) := by decide +kernel
theorem dX12_lays__232 : decode cX12_lays_ 232 = .ok (.iload 4, 2) := by decide +kernel
theorem dX12_lays__234 : decode cX12_lays_ 234 = .ok (.iload_n 3, 1) := by decide +kernel
theorem dX12_lays__235 : decode cX12_lays_ 235 = .ok (.iload_n 2, 1) := by decide +kernel
theorem dX12_lays__236 : decode cX12_lays_ 236 = .ok (.invokevirtual 514, 3) := by decide +kernel
theorem dX12_lays__239 : decode cX12_lays_ 239 = .ok (.istore_n 3, 1) := by decide +kernel
theorem dX12_lays__240 : decode cX12_lays_ 240 = .ok (.goto (-110), 3) := by decide +kernel
theorem dX12_lays__243 : decode cX12_lays_ 243 = .ok (.aload_n 0, 1) := by decide +kernel
theorem dX12_lays__244 : decode cX12_lays_ 244 = .ok (.getfield 184, 3) := by decide +kernel
theorem dX12_lays__247 : decode cX12_lays_ 247 = .ok (.iconst 0, 1) := by decide +kernel
theorem dX12_lays__248 : decode cX12_lays_ 248 = .ok (.iaload, 1) := by decide +kernel
theorem dX12_lays__249 : decode cX12_lays_ 249 = .ok (.ireturn, 1) := by decide +kernel
theorem dX12_afterBoard_0 : decode cX12_afterBoard 0 = .ok (.iload_n 2, 1) := by decide +kernel
theorem dX12_afterBoard_1 : decode cX12_afterBoard 1 = .ok (.aload_n 0, 1) := by decide +kernel
theorem dX12_afterBoard_2 : decode cX12_afterBoard 2 = .ok (.getfield 166, 3) := by decide +kernel
theorem dX12_afterBoard_5 : decode cX12_afterBoard 5 = .ok (.iload_n 1, 1) := by decide +kernel
theorem dX12_afterBoard_6 : decode cX12_afterBoard 6 = .ok (.iaload, 1) := by decide +kernel
theorem dX12_afterBoard_7 : decode cX12_afterBoard 7 = .ok (.iadd, 1) := by decide +kernel
theorem dX12_afterBoard_8 : decode cX12_afterBoard 8 = .ok (.iconst 1, 1) := by decide +kernel
theorem dX12_afterBoard_9 : decode cX12_afterBoard 9 = .ok (.iadd, 1) := by decide +kernel
theorem dX12_afterBoard_10 : decode cX12_afterBoard 10 = .ok (.iload_n 3, 1) := by decide +kernel
theorem dX12_afterBoard_11 : decode cX12_afterBoard 11 = .ok (.if_icmp .ge 16, 3) := by decide +kernel
theorem dX12_afterBoard_14 : decode cX12_afterBoard 14 = .ok (.iload_n 2, 1) := by decide +kernel
theorem dX12_afterBoard_15 : decode cX12_afterBoard 15 = .ok (.aload_n 0, 1) := by decide +kernel
theorem dX12_afterBoard_16 : decode cX12_afterBoard 16 = .ok (.getfield 166, 3) := by decide +kernel
theorem dX12_afterBoard_19 : decode cX12_afterBoard 19 = .ok (.iload_n 1, 1) := by decide +kernel
theorem dX12_afterBoard_20 : decode cX12_afterBoard 20 = .ok (.iaload, 1) := by decide +kernel
theorem dX12_afterBoard_21 : decode cX12_afterBoard 21 = .ok (.iadd, 1) := by decide +kernel
theorem dX12_afterBoard_22 : decode cX12_afterBoard 22 = .ok (.iconst 1, 1) := by decide +kernel
theorem dX12_afterBoard_23 : decode cX12_afterBoard 23 = .ok (.iadd, 1) := by decide +kernel
theorem dX12_afterBoard_24 : decode cX12_afterBoard 24 = .ok (.goto 4, 3) := by decide +kernel
theorem dX12_afterBoard_27 : decode cX12_afterBoard 27 = .ok (.iload_n 3, 1) := by decide +kernel
theorem dX12_afterBoard_28 : decode cX12_afterBoard 28 = .ok (.ireturn, 1) := by decide +kernel
theorem dX12_isInPond_0 : decode cX12_isInPond 0 = .ok (.aload_n 0, 1) := by decide +kernel
theorem dX12_isInPond_1 : decode cX12_isInPond 1 = .ok (.iload_n 1, 1) := by decide +kernel
theorem dX12_isInPond_2 : decode cX12_isInPond 2 = .ok (.invokevirtual 306, 3) := by decide +kernel
theorem dX12_isInPond_5 : decode cX12_isInPond 5 = .ok (.ifCond .eq 17, 3) := by decide +kernel
theorem dX12_isInPond_8 : decode cX12_isInPond 8 = .ok (.aload_n 0, 1) := by decide +kernel
theorem dX12_isInPond_9 : decode cX12_isInPond 9 = .ok (.getfield 67, 3) := by decide +kernel
theorem dX12_isInPond_12 : decode cX12_isInPond 12 = .ok (.iload_n 1, 1) := by decide +kernel
theorem dX12_isInPond_13 : decode cX12_isInPond 13 = .ok (.iaload, 1) := by decide +kernel
theorem dX12_isInPond_14 : decode cX12_isInPond 14 = .ok (.iconst 1, 1) := by decide +kernel
theorem dX12_isInPond_15 : decode cX12_isInPond 15 = .ok (.if_icmp .ne 7, 3) := by decide +kernel
theorem dX12_isInPond_18 : decode cX12_isInPond 18 = .ok (.iconst 1, 1) := by decide +kernel
theorem dX12_isInPond_19 : decode cX12_isInPond 19 = .ok (.goto 4, 3) := by decide +kernel
theorem dX12_isInPond_22 : decode cX12_isInPond 22 = .ok (.iconst 0, 1) := by decide +kernel
theorem dX12_isInPond_23 : decode cX12_isInPond 23 = .ok (.ireturn, 1) := by decide +kernel
theorem dX12_best_0 : decode cX12_best 0 = .ok (.aload_n 0, 1) := by decide +kernel
theorem dX12_best_1 : decode cX12_best 1 = .ok (.iconst 0, 1) := by decide +kernel
theorem dX12_best_2 : decode cX12_best 2 = .ok (.putfield 235, 3) := by decide +kernel
theorem dX12_best_5 : decode cX12_best 5 = .ok (.aload_n 0, 1) := by decide +kernel
theorem dX12_best_6 : decode cX12_best 6 = .ok (.iload_n 1, 1) := by decide +kernel
theorem dX12_best_7 : decode cX12_best 7 = .ok (.invokevirtual 520, 3) := by decide +kernel
theorem dX12_best_10 : decode cX12_best 10 = .ok (.ifCond .eq 11, 3) := by decide +kernel
theorem dX12_best_13 : decode cX12_best 13 = .ok (.aload_n 0, 1) := by decide +kernel
theorem dX12_best_14 : decode cX12_best 14 = .ok (.iload_n 1, 1) := by decide +kernel
theorem dX12_best_15 : decode cX12_best 15 = .ok (.invokevirtual 523, 3) := by decide +kernel
theorem dX12_best_18 : decode cX12_best 18 = .ok (.goto 4, 3) := by decide +kernel
theorem dX12_best_21 : decode cX12_best 21 = .ok (.iconst (-1), 1) := by decide +kernel
theorem dX12_best_22 : decode cX12_best 22 = .ok (.ireturn, 1) := by decide +kernel
theorem dX12_board_0 : decode cX12_board 0 = .ok (.aload_n 0, 1) := by decide +kernel
theorem dX12_board_1 : decode cX12_board 1 = .ok (.iconst 0, 1) := by decide +kernel
theorem dX12_board_2 : decode cX12_board 2 = .ok (.putfield 235, 3) := by decide +kernel
theorem dX12_board_5 : decode cX12_board 5 = .ok (.aload_n 0, 1) := by decide +kernel
theorem dX12_board_6 : decode cX12_board 6 = .ok (.iload_n 1, 1) := by decide +kernel
theorem dX12_board_7 : decode cX12_board 7 = .ok (.invokevirtual 520, 3) := by decide +kernel
theorem dX12_board_10 : decode cX12_board 10 = .ok (.ifCond .eq 19, 3) := by decide +kernel
theorem dX12_board_13 : decode cX12_board 13 = .ok (.iload_n 2, 1) := by decide +kernel
theorem dX12_board_14 : decode cX12_board 14 = .ok (.iconst 0, 1) := by decide +kernel
theorem dX12_board_15 : decode cX12_board 15 = .ok (.aload_n 0, 1) := by decide +kernel
theorem dX12_board_16 : decode cX12_board 16 = .ok (.getfield 55, 3) := by decide +kernel
theorem dX12_board_19 : decode cX12_board 19 = .ok (.iload_n 1, 1) := by decide +kernel
theorem dX12_board_20 : decode cX12_board 20 = .ok (.iaload, 1) := by decide +kernel
theorem dX12_board_21 : decode cX12_board 21 = .ok (.iconst 1, 1) := by decide +kernel
theorem dX12_board_22 : decode cX12_board 22 = .ok (.isub, 1) := by decide +kernel
theorem dX12_board_23 : decode cX12_board 23 = .ok (.invokestatic 238, 3) := by decide +kernel
theorem dX12_board_26 : decode cX12_board 26 = .ok (.ifCond .ne 5, 3) := by decide +kernel
theorem dX12_board_29 : decode cX12_board 29 = .ok (.iconst (-1), 1) := by decide +kernel
theorem dX12_board_30 : decode cX12_board 30 = .ok (.ireturn, 1) := by decide +kernel
theorem dX12_board_31 : decode cX12_board 31 = .ok (.aload_n 0, 1) := by decide +kernel
theorem dX12_board_32 : decode cX12_board 32 = .ok (.iload_n 1, 1) := by decide +kernel
theorem dX12_board_33 : decode cX12_board 33 = .ok (.invokevirtual 523, 3) := by decide +kernel
theorem dX12_board_36 : decode cX12_board 36 = .ok (.pop, 1) := by decide +kernel
theorem dX12_board_37 : decode cX12_board 37 = .ok (.aload_n 0, 1) := by decide +kernel
theorem dX12_board_38 : decode cX12_board 38 = .ok (.getfield 187, 3) := by decide +kernel
theorem dX12_board_41 : decode cX12_board 41 = .ok (.iload_n 2, 1) := by decide +kernel
theorem dX12_board_42 : decode cX12_board 42 = .ok (.iaload, 1) := by decide +kernel
theorem dX12_board_43 : decode cX12_board 43 = .ok (.ireturn, 1) := by decide +kernel
theorem dX12_saw_0 : decode cX12_saw 0 = .ok (.aload_n 0, 1) := by decide +kernel
theorem dX12_saw_1 : decode cX12_saw 1 = .ok (.iconst 0, 1) := by decide +kernel
theorem dX12_saw_2 : decode cX12_saw 2 = .ok (.putfield 235, 3) := by decide +kernel
theorem dX12_saw_5 : decode cX12_saw 5 = .ok (.aload_n 0, 1) := by decide +kernel
theorem dX12_saw_6 : decode cX12_saw 6 = .ok (.iload_n 1, 1) := by decide +kernel
theorem dX12_saw_7 : decode cX12_saw 7 = .ok (.invokevirtual 520, 3) := by decide +kernel
theorem dX12_saw_10 : decode cX12_saw 10 = .ok (.ifCond .ne 5, 3) := by decide +kernel
theorem dX12_saw_13 : decode cX12_saw 13 = .ok (.iconst (-1), 1) := by decide +kernel
theorem dX12_saw_14 : decode cX12_saw 14 = .ok (.ireturn, 1) := by decide +kernel
theorem dX12_saw_15 : decode cX12_saw 15 = .ok (.aload_n 0, 1) := by decide +kernel
theorem dX12_saw_16 : decode cX12_saw 16 = .ok (.iload_n 1, 1) := by decide +kernel
theorem dX12_saw_17 : decode cX12_saw 17 = .ok (.invokevirtual 523, 3) := by decide +kernel
theorem dX12_saw_20 : decode cX12_saw 20 = .ok (.pop, 1) := by decide +kernel
theorem dX12_saw_21 : decode cX12_saw 21 = .ok (.iconst 0, 1) := by decide +kernel
theorem dX12_saw_22 : decode cX12_saw 22 = .ok (.istore_n 2, 1) := by decide +kernel
theorem dX12_saw_23 : decode cX12_saw 23 = .ok (.iconst 0, 1) := by decide +kernel
theorem dX12_saw_24 : decode cX12_saw 24 = .ok (.istore_n 3, 1) := by decide +kernel
theorem dX12_saw_25 : decode cX12_saw 25 = .ok (.iload_n 3, 1) := by decide +kernel
theorem dX12_saw_26 : decode cX12_saw 26 = .ok (.aload_n 0, 1) := by decide +kernel
theorem dX12_saw_27 : decode cX12_saw 27 = .ok (.getfield 55, 3) := by decide +kernel
theorem dX12_saw_30 : decode cX12_saw 30 = .ok (.iload_n 1, 1) := by decide +kernel
theorem dX12_saw_31 : decode cX12_saw 31 = .ok (.iaload, 1) := by decide +kernel
theorem dX12_saw_32 : decode cX12_saw 32 = .ok (.if_icmp .ge 83, 3) := by decide +kernel
theorem dX12_saw_35 : decode cX12_saw 35 = .ok (.aload_n 0, 1) := by decide +kernel
theorem dX12_saw_36 : decode cX12_saw 36 = .ok (.getfield 187, 3) := by decide +kernel
theorem dX12_saw_39 : decode cX12_saw 39 = .ok (.iload_n 3, 1) := by decide +kernel
theorem dX12_saw_40 : decode cX12_saw 40 = .ok (.iaload, 1) := by decide +kernel
theorem dX12_saw_41 : decode cX12_saw 41 = .ok (.istore 4, 2) := by decide +kernel
theorem dX12_saw_43 : decode cX12_saw 43 = .ok (.iload 4, 2) := by decide +kernel
theorem dX12_saw_45 : decode cX12_saw 45 = .ok (.ifCond .ge 6, 3) := by decide +kernel
theorem dX12_saw_48 : decode cX12_saw 48 = .ok (.goto 61, 3) := by decide +kernel
theorem dX12_saw_51 : decode cX12_saw 51 = .ok (.iinc 2 1, 3) := by decide +kernel
theorem dX12_saw_54 : decode cX12_saw 54 = .ok (.aload_n 0, 1) := by decide +kernel
theorem dX12_saw_55 : decode cX12_saw 55 = .ok (.getfield 172, 3) := by decide +kernel
theorem dX12_saw_58 : decode cX12_saw 58 = .ok (.iload 4, 2) := by decide +kernel
theorem dX12_saw_60 : decode cX12_saw 60 = .ok (.iaload, 1) := by decide +kernel
theorem dX12_saw_61 : decode cX12_saw 61 = .ok (.ifCond .ne 16, 3) := by decide +kernel
theorem dX12_saw_64 : decode cX12_saw 64 = .ok (.aload_n 0, 1) := by decide +kernel
theorem dX12_saw_65 : decode cX12_saw 65 = .ok (.dup, 1) := by decide +kernel
theorem dX12_saw_66 : decode cX12_saw 66 = .ok (.getfield 525, 3) := by decide +kernel
theorem dX12_saw_69 : decode cX12_saw 69 = .ok (.iconst 1, 1) := by decide +kernel
theorem dX12_saw_70 : decode cX12_saw 70 = .ok (.iadd, 1) := by decide +kernel
theorem dX12_saw_71 : decode cX12_saw 71 = .ok (.putfield 525, 3) := by decide +kernel
theorem dX12_saw_74 : decode cX12_saw 74 = .ok (.goto 35, 3) := by decide +kernel
theorem dX12_saw_77 : decode cX12_saw 77 = .ok (.aload_n 0, 1) := by decide +kernel
theorem dX12_saw_78 : decode cX12_saw 78 = .ok (.getfield 172, 3) := by decide +kernel
theorem dX12_saw_81 : decode cX12_saw 81 = .ok (.iload 4, 2) := by decide +kernel
theorem dX12_saw_83 : decode cX12_saw 83 = .ok (.dup2, 1) := by decide +kernel
theorem dX12_saw_84 : decode cX12_saw 84 = .ok (.iaload, 1) := by decide +kernel
theorem dX12_saw_85 : decode cX12_saw 85 = .ok (.iconst 1, 1) := by decide +kernel
theorem dX12_saw_86 : decode cX12_saw 86 = .ok (.isub, 1) := by decide +kernel
theorem dX12_saw_87 : decode cX12_saw 87 = .ok (.iastore, 1) := by decide +kernel
theorem dX12_saw_88 : decode cX12_saw 88 = .ok (.aload_n 0, 1) := by decide +kernel
theorem dX12_saw_89 : decode cX12_saw 89 = .ok (.getfield 172, 3) := by decide +kernel
theorem dX12_saw_92 : decode cX12_saw 92 = .ok (.iload 4, 2) := by decide +kernel
theorem dX12_saw_94 : decode cX12_saw 94 = .ok (.iaload, 1) := by decide +kernel
theorem dX12_saw_95 : decode cX12_saw 95 = .ok (.ifCond .ne 14, 3) := by decide +kernel
theorem dX12_saw_98 : decode cX12_saw 98 = .ok (.aload_n 0, 1) := by decide +kernel
theorem dX12_saw_99 : decode cX12_saw 99 = .ok (.getfield 181, 3) := by decide +kernel
theorem dX12_saw_102 : decode cX12_saw 102 = .ok (.iload 4, 2) := by decide +kernel
theorem dX12_saw_104 : decode cX12_saw 104 = .ok (.aload_n 0, 1) := by decide +kernel
theorem dX12_saw_105 : decode cX12_saw 105 = .ok (.getfield 271, 3) := by decide +kernel
theorem dX12_saw_108 : decode cX12_saw 108 = .ok (.iastore, 1) := by decide +kernel
theorem dX12_saw_109 : decode cX12_saw 109 = .ok (.iinc 3 1, 3) := by decide +kernel
theorem dX12_saw_112 : decode cX12_saw 112 = .ok (.goto (-87), 3) := by decide +kernel
theorem dX12_saw_115 : decode cX12_saw 115 = .ok (.aload_n 0, 1) := by decide +kernel
theorem dX12_saw_116 : decode cX12_saw 116 = .ok (.iload_n 1, 1) := by decide +kernel
theorem dX12_saw_117 : decode cX12_saw 117 = .ok (.iconst 2, 1) := by decide +kernel
theorem dX12_saw_118 : decode cX12_saw 118 = .ok (.invokevirtual 298, 3) := by decide +kernel
theorem dX12_saw_121 : decode cX12_saw 121 = .ok (.iload_n 2, 1) := by decide +kernel
theorem dX12_saw_122 : decode cX12_saw 122 = .ok (.ireturn, 1) := by decide +kernel
theorem dX12_orderOf_0 : decode cX12_orderOf 0 = .ok (.iload_n 1, 1) := by decide +kernel
theorem dX12_orderOf_1 : decode cX12_orderOf 1 = .ok (.iconst 0, 1) := by decide +kernel
theorem dX12_orderOf_2 : decode cX12_orderOf 2 = .ok (.aload_n 0, 1) := by decide +kernel
theorem dX12_orderOf_3 : decode cX12_orderOf 3 = .ok (.getfield 508, 3) := by decide +kernel
theorem dX12_orderOf_6 : decode cX12_orderOf 6 = .ok (.iconst 1, 1) := by decide +kernel
theorem dX12_orderOf_7 : decode cX12_orderOf 7 = .ok (.isub, 1) := by decide +kernel
theorem dX12_orderOf_8 : decode cX12_orderOf 8 = .ok (.invokestatic 238, 3) := by decide +kernel
theorem dX12_orderOf_11 : decode cX12_orderOf 11 = .ok (.ifCond .eq 31, 3) := by decide +kernel
theorem dX12_orderOf_14 : decode cX12_orderOf 14 = .ok (.iload_n 2, 1) := by decide +kernel
theorem dX12_orderOf_15 : decode cX12_orderOf 15 = .ok (.iconst 0, 1) := by decide +kernel
theorem dX12_orderOf_16 : decode cX12_orderOf 16 = .ok (.iconst 2, 1) := by decide +kernel
theorem dX12_orderOf_17 : decode cX12_orderOf 17 = .ok (.invokestatic 238, 3) := by decide +kernel
theorem dX12_orderOf_20 : decode cX12_orderOf 20 = .ok (.ifCond .eq 22, 3) := by decide +kernel
theorem dX12_orderOf_23 : decode cX12_orderOf 23 = .ok (.iload_n 2, 1) := by decide +kernel
theorem dX12_orderOf_24 : decode cX12_orderOf 24 = .ok (.iconst 2, 1) := by decide +kernel
theorem dX12_orderOf_25 : decode cX12_orderOf 25 = .ok (.if_icmp .lt 13, 3) := by decide +kernel
theorem dX12_orderOf_28 : decode cX12_orderOf 28 = .ok (.aload_n 0, 1) := by decide +kernel
theorem dX12_orderOf_29 : decode cX12_orderOf 29 = .ok (.getfield 181, 3) := by decide +kernel
theorem dX12_orderOf_32 : decode cX12_orderOf 32 = .ok (.iload_n 1, 1) := by decide +kernel
theorem dX12_orderOf_33 : decode cX12_orderOf 33 = .ok (.iaload, 1) := by decide +kernel
theorem dX12_orderOf_34 : decode cX12_orderOf 34 = .ok (.iconst (-1), 1) := by decide +kernel
theorem dX12_orderOf_35 : decode cX12_orderOf 35 = .ok (.if_icmp .eq 7, 3) := by decide +kernel
theorem dX12_orderOf_38 : decode cX12_orderOf 38 = .ok (.iconst 1, 1) := by decide +kernel
theorem dX12_orderOf_39 : decode cX12_orderOf 39 = .ok (.goto 4, 3) := by decide +kernel
theorem dX12_orderOf_42 : decode cX12_orderOf 42 = .ok (.iconst 0, 1) := by decide +kernel
theorem dX12_orderOf_43 : decode cX12_orderOf 43 = .ok (.istore_n 3, 1) := by decide +kernel
theorem dX12_orderOf_44 : decode cX12_orderOf 44 = .ok (.aload_n 0, 1) := by decide +kernel
theorem dX12_orderOf_45 : decode cX12_orderOf 45 = .ok (.iload_n 3, 1) := by decide +kernel
theorem dX12_orderOf_46 : decode cX12_orderOf 46 = .ok (.ifCond .eq 7, 3) := by decide +kernel
theorem dX12_orderOf_49 : decode cX12_orderOf 49 = .ok (.iconst 0, 1) := by decide +kernel
theorem dX12_orderOf_50 : decode cX12_orderOf 50 = .ok (.goto 4, 3) := by decide +kernel
theorem dX12_orderOf_53 : decode cX12_orderOf 53 = .ok (.iconst 1, 1) := by decide +kernel
theorem dX12_orderOf_54 : decode cX12_orderOf 54 = .ok (.putfield 235, 3) := by decide +kernel
theorem dX12_orderOf_57 : decode cX12_orderOf 57 = .ok (.iload_n 3, 1) := by decide +kernel
theorem dX12_orderOf_58 : decode cX12_orderOf 58 = .ok (.ifCond .ne 7, 3) := by decide +kernel
theorem dX12_orderOf_61 : decode cX12_orderOf 61 = .ok (.iconst 0, 1) := by decide +kernel
theorem dX12_orderOf_62 : decode cX12_orderOf 62 = .ok (.goto 43, 3) := by decide +kernel
theorem dX12_orderOf_65 : decode cX12_orderOf 65 = .ok (.iload_n 2, 1) := by decide +kernel
theorem dX12_orderOf_66 : decode cX12_orderOf 66 = .ok (.ifCond .ne 12, 3) := by decide +kernel
theorem dX12_orderOf_69 : decode cX12_orderOf 69 = .ok (.aload_n 0, 1) := by decide +kernel
theorem dX12_orderOf_70 : decode cX12_orderOf 70 = .ok (.getfield 172, 3) := by decide +kernel
theorem dX12_orderOf_73 : decode cX12_orderOf 73 = .ok (.iload_n 1, 1) := by decide +kernel
theorem dX12_orderOf_74 : decode cX12_orderOf 74 = .ok (.iaload, 1) := by decide +kernel
theorem dX12_orderOf_75 : decode cX12_orderOf 75 = .ok (.goto 30, 3) := by decide +kernel
theorem dX12_orderOf_78 : decode cX12_orderOf 78 = .ok (.iload_n 2, 1) := by decide +kernel
theorem dX12_orderOf_79 : decode cX12_orderOf 79 = .ok (.iconst 1, 1) := by decide +kernel
theorem dX12_orderOf_80 : decode cX12_orderOf 80 = .ok (.if_icmp .ne 12, 3) := by decide +kernel
theorem dX12_orderOf_83 : decode cX12_orderOf 83 = .ok (.aload_n 0, 1) := by decide +kernel
theorem dX12_orderOf_84 : decode cX12_orderOf 84 = .ok (.getfield 181, 3) := by decide +kernel
theorem dX12_orderOf_87 : decode cX12_orderOf 87 = .ok (.iload_n 1, 1) := by decide +kernel
theorem dX12_orderOf_88 : decode cX12_orderOf 88 = .ok (.iaload, 1) := by decide +kernel
theorem dX12_orderOf_89 : decode cX12_orderOf 89 = .ok (.goto 16, 3) := by decide +kernel
theorem dX12_orderOf_92 : decode cX12_orderOf 92 = .ok (.aload_n 0, 1) := by decide +kernel
theorem dX12_orderOf_93 : decode cX12_orderOf 93 = .ok (.getfield 178, 3) := by decide +kernel
theorem dX12_orderOf_96 : decode cX12_orderOf 96 = .ok (.iload_n 1, 1) := by decide +kernel
theorem dX12_orderOf_97 : decode cX12_orderOf 97 = .ok (.iaload, 1) := by decide +kernel
theorem dX12_orderOf_98 : decode cX12_orderOf 98 = .ok (.aload_n 0, 1) := by decide +kernel
theorem dX12_orderOf_99 : decode cX12_orderOf 99 = .ok (.getfield 181, 3) := by decide +kernel
theorem dX12_orderOf_102 : decode cX12_orderOf 102 = .ok (.iload_n 1, 1) := by decide +kernel
theorem dX12_orderOf_103 : decode cX12_orderOf 103 = .ok (.iaload, 1) := by decide +kernel
theorem dX12_orderOf_104 : decode cX12_orderOf 104 = .ok (.isub, 1) := by decide +kernel
theorem dX12_orderOf_105 : decode cX12_orderOf 105 = .ok (.ireturn, 1) := by decide +kernel
theorem dX12_fuel_0 : decode cX12_fuel 0 = .ok (.iload_n 2, 1) := by decide +kernel
theorem dX12_fuel_1 : decode cX12_fuel 1 = .ok (.invokestatic 242, 3) := by decide +kernel
theorem dX12_fuel_4 : decode cX12_fuel 4 = .ok (.iload_n 1, 1) := by decide +kernel
theorem dX12_fuel_5 : decode cX12_fuel 5 = .ok (.invokestatic 242, 3) := by decide +kernel
theorem dX12_fuel_8 : decode cX12_fuel 8 = .ok (.isub, 1) := by decide +kernel
theorem dX12_fuel_9 : decode cX12_fuel 9 = .ok (.istore 4, 2) := by decide +kernel
theorem dX12_fuel_11 : decode cX12_fuel 11 = .ok (.iload_n 2, 1) := by decide +kernel
theorem dX12_fuel_12 : decode cX12_fuel 12 = .ok (.invokestatic 250, 3) := by decide +kernel
theorem dX12_fuel_15 : decode cX12_fuel 15 = .ok (.iload_n 1, 1) := by decide +kernel
theorem dX12_fuel_16 : decode cX12_fuel 16 = .ok (.invokestatic 250, 3) := by decide +kernel
theorem dX12_fuel_19 : decode cX12_fuel 19 = .ok (.isub, 1) := by decide +kernel
theorem dX12_fuel_20 : decode cX12_fuel 20 = .ok (.istore 5, 2) := by decide +kernel
theorem dX12_fuel_22 : decode cX12_fuel 22 = .ok (.iload_n 3, 1) := by decide +kernel
theorem dX12_fuel_23 : decode cX12_fuel 23 = .ok (.ifCond .ne 8, 3) := by decide +kernel
theorem dX12_fuel_26 : decode cX12_fuel 26 = .ok (.iload 4, 2) := by decide +kernel
theorem dX12_fuel_28 : decode cX12_fuel 28 = .ok (.goto 27, 3) := by decide +kernel
theorem dX12_fuel_31 : decode cX12_fuel 31 = .ok (.iload_n 3, 1) := by decide +kernel
theorem dX12_fuel_32 : decode cX12_fuel 32 = .ok (.iconst 1, 1) := by decide +kernel
theorem dX12_fuel_33 : decode cX12_fuel 33 = .ok (.if_icmp .ne 9, 3) := by decide +kernel
theorem dX12_fuel_36 : decode cX12_fuel 36 = .ok (.iload 4, 2) := by decide +kernel
theorem dX12_fuel_38 : decode cX12_fuel 38 = .ok (.ineg, 1) := by decide +kernel
theorem dX12_fuel_39 : decode cX12_fuel 39 = .ok (.goto 16, 3) := by decide +kernel
theorem dX12_fuel_42 : decode cX12_fuel 42 = .ok (.iload_n 3, 1) := by decide +kernel
theorem dX12_fuel_43 : decode cX12_fuel 43 = .ok (.iconst 2, 1) := by decide +kernel
theorem dX12_fuel_44 : decode cX12_fuel 44 = .ok (.if_icmp .ne 8, 3) := by decide +kernel
theorem dX12_fuel_47 : decode cX12_fuel 47 = .ok (.iload 5, 2) := by decide +kernel
theorem dX12_fuel_49 : decode cX12_fuel 49 = .ok (.goto 6, 3) := by decide +kernel
theorem dX12_fuel_52 : decode cX12_fuel 52 = .ok (.iload 5, 2) := by decide +kernel
theorem dX12_fuel_54 : decode cX12_fuel 54 = .ok (.ineg, 1) := by decide +kernel
theorem dX12_fuel_55 : decode cX12_fuel 55 = .ok (.istore 6, 2) := by decide +kernel
theorem dX12_fuel_57 : decode cX12_fuel 57 = .ok (.aload_n 0, 1) := by decide +kernel
theorem dX12_fuel_58 : decode cX12_fuel 58 = .ok (.getfield 13, 3) := by decide +kernel
theorem dX12_fuel_61 : decode cX12_fuel 61 = .ok (.iload_n 2, 1) := by decide +kernel
theorem dX12_fuel_62 : decode cX12_fuel 62 = .ok (.iaload, 1) := by decide +kernel
theorem dX12_fuel_63 : decode cX12_fuel 63 = .ok (.aload_n 0, 1) := by decide +kernel
theorem dX12_fuel_64 : decode cX12_fuel 64 = .ok (.iload_n 2, 1) := by decide +kernel
theorem dX12_fuel_65 : decode cX12_fuel 65 = .ok (.invokevirtual 528, 3) := by decide +kernel
theorem dX12_fuel_68 : decode cX12_fuel 68 = .ok (.bipush 10, 2) := by decide +kernel
theorem dX12_fuel_70 : decode cX12_fuel 70 = .ok (.idiv, 1) := by decide +kernel
theorem dX12_fuel_71 : decode cX12_fuel 71 = .ok (.iadd, 1) := by decide +kernel
theorem dX12_fuel_72 : decode cX12_fuel 72 = .ok (.iconst 5, 1) := by decide +kernel
theorem dX12_fuel_73 : decode cX12_fuel 73 = .ok (.aload_n 0, 1) := by decide +kernel
theorem dX12_fuel_74 : decode cX12_fuel 74 = .ok (.aload_n 0, 1) := by decide +kernel
theorem dX12_fuel_75 : decode cX12_fuel 75 = .ok (.getfield 271, 3) := by decide +kernel
theorem dX12_fuel_78 : decode cX12_fuel 78 = .ok (.iconst 2, 1) := by decide +kernel
theorem dX12_fuel_79 : decode cX12_fuel 79 = .ok (.invokevirtual 277, 3) := by decide +kernel
theorem dX12_fuel_82 : decode cX12_fuel 82 = .ok (.imul, 1) := by decide +kernel
theorem dX12_fuel_83 : decode cX12_fuel 83 = .ok (.iadd, 1) := by decide +kernel
theorem dX12_fuel_84 : decode cX12_fuel 84 = .ok (.bipush 8, 2) := by decide +kernel
theorem dX12_fuel_86 : decode cX12_fuel 86 = .ok (.iload 6, 2) := by decide +kernel
theorem dX12_fuel_88 : decode cX12_fuel 88 = .ok (.imul, 1) := by decide +kernel
theorem dX12_fuel_89 : decode cX12_fuel 89 = .ok (.iadd, 1) := by decide +kernel
theorem dX12_fuel_90 : decode cX12_fuel 90 = .ok (.aload_n 0, 1) := by decide +kernel
theorem dX12_fuel_91 : decode cX12_fuel 91 = .ok (.getfield 7, 3) := by decide +kernel
theorem dX12_fuel_94 : decode cX12_fuel 94 = .ok (.iload_n 2, 1) := by decide +kernel
theorem dX12_fuel_95 : decode cX12_fuel 95 = .ok (.iaload, 1) := by decide +kernel
theorem dX12_fuel_96 : decode cX12_fuel 96 = .ok (.aload_n 0, 1) := by decide +kernel
theorem dX12_fuel_97 : decode cX12_fuel 97 = .ok (.getfield 7, 3) := by decide +kernel
theorem dX12_fuel_100 : decode cX12_fuel 100 = .ok (.iload_n 1, 1) := by decide +kernel
theorem dX12_fuel_101 : decode cX12_fuel 101 = .ok (.iaload, 1) := by decide +kernel
theorem dX12_fuel_102 : decode cX12_fuel 102 = .ok (.if_icmp .le 7, 3) := by decide +kernel
theorem dX12_fuel_105 : decode cX12_fuel 105 = .ok (.iconst 4, 1) := by decide +kernel
theorem dX12_fuel_106 : decode cX12_fuel 106 = .ok (.goto 4, 3) := by decide +kernel
theorem dX12_fuel_109 : decode cX12_fuel 109 = .ok (.iconst 0, 1) := by decide +kernel
theorem dX12_fuel_110 : decode cX12_fuel 110 = .ok (.iadd, 1) := by decide +kernel
theorem dX12_fuel_111 : decode cX12_fuel 111 = .ok (.ireturn, 1) := by decide +kernel
theorem dX12_fires_0 : decode cX12_fires 0 = .ok (.iconst 0, 1) := by decide +kernel
theorem dX12_fires_1 : decode cX12_fires 1 = .ok (.istore 4, 2) := by decide +kernel
theorem dX12_fires_3 : decode cX12_fires 3 = .ok (.iload 4, 2) := by decide +kernel
theorem dX12_fires_5 : decode cX12_fires 5 = .ok (.bipush 64, 2) := by decide +kernel
theorem dX12_fires_7 : decode cX12_fires 7 = .ok (.if_icmp .ge 17, 3) := by decide +kernel
theorem dX12_fires_10 : decode cX12_fires 10 = .ok (.aload_n 0, 1) := by decide +kernel
theorem dX12_fires_11 : decode cX12_fires 11 = .ok (.getfield 190, 3) := by decide +kernel
theorem dX12_fires_14 : decode cX12_fires 14 = .ok (.iload 4, 2) := by decide +kernel
theorem dX12_fires_16 : decode cX12_fires 16 = .ok (.iconst (-1), 1) := by decide +kernel
theorem dX12_fires_17 : decode cX12_fires 17 = .ok (.iastore, 1) := by decide +kernel
theorem dX12_fires_18 : decode cX12_fires 18 = .ok (.iinc 4 1, 3) := by decide +kernel
theorem dX12_fires_21 : decode cX12_fires 21 = .ok (.goto (-18), 3) := by decide +kernel
theorem dX12_fires_24 : decode cX12_fires 24 = .ok (.aload_n 0, 1) := by decide +kernel
theorem dX12_fires_25 : decode cX12_fires 25 = .ok (.getfield 190, 3) := by decide +kernel
theorem dX12_fires_28 : decode cX12_fires 28 = .ok (.iload_n 1, 1) := by decide +kernel
theorem dX12_fires_29 : decode cX12_fires 29 = .ok (.iconst 0, 1) := by decide +kernel
theorem dX12_fires_30 : decode cX12_fires 30 = .ok (.iastore, 1) := by decide +kernel
theorem dX12_fires_31 : decode cX12_fires 31 = .ok (.iconst 1, 1) := by decide +kernel
theorem dX12_fires_32 : decode cX12_fires 32 = .ok (.istore 4, 2) := by decide +kernel
theorem dX12_fires_34 : decode cX12_fires 34 = .ok (.iload 4, 2) := by decide +kernel
theorem dX12_fires_36 : decode cX12_fires 36 = .ok (.iload_n 3, 1) := by decide +kernel
theorem dX12_fires_37 : decode cX12_fires 37 = .ok (.if_icmp .gt 131, 3) := by decide +kernel
theorem dX12_fires_40 : decode cX12_fires 40 = .ok (.iconst 0, 1) := by decide +kernel
theorem dX12_fires_41 : decode cX12_fires 41 = .ok (.istore 5, 2) := by decide +kernel
theorem dX12_fires_43 : decode cX12_fires 43 = .ok (.iload 5, 2) := by decide +kernel
theorem dX12_fires_45 : decode cX12_fires 45 = .ok (.bipush 64, 2) := by decide +kernel
theorem dX12_fires_47 : decode cX12_fires 47 = .ok (.if_icmp .ge 115, 3) := by decide +kernel
theorem dX12_fires_50 : decode cX12_fires 50 = .ok (.aload_n 0, 1) := by decide +kernel
theorem dX12_fires_51 : decode cX12_fires 51 = .ok (.getfield 190, 3) := by decide +kernel
theorem dX12_fires_54 : decode cX12_fires 54 = .ok (.iload 5, 2) := by decide +kernel
theorem dX12_fires_56 : decode cX12_fires 56 = .ok (.iaload, 1) := by decide +kernel
theorem dX12_fires_57 : decode cX12_fires 57 = .ok (.iconst (-1), 1) := by decide +kernel
theorem dX12_fires_58 : decode cX12_fires 58 = .ok (.if_icmp .eq 98, 3) := by decide +kernel
theorem dX12_fires_61 : decode cX12_fires 61 = .ok (.aload_n 0, 1) := by decide +kernel
theorem dX12_fires_62 : decode cX12_fires 62 = .ok (.getfield 190, 3) := by decide +kernel
theorem dX12_fires_65 : decode cX12_fires 65 = .ok (.iload 5, 2) := by decide +kernel
theorem dX12_fires_67 : decode cX12_fires 67 = .ok (.iaload, 1) := by decide +kernel
theorem dX12_fires_68 : decode cX12_fires 68 = .ok (.iload 4, 2) := by decide +kernel
theorem dX12_fires_70 : decode cX12_fires 70 = .ok (.if_icmp .lt 6, 3) := by decide +kernel
theorem dX12_fires_73 : decode cX12_fires 73 = .ok (.goto 83, 3) := by decide +kernel
theorem dX12_fires_76 : decode cX12_fires 76 = .ok (.iconst 0, 1) := by decide +kernel
theorem dX12_fires_77 : decode cX12_fires 77 = .ok (.istore 6, 2) := by decide +kernel
theorem dX12_fires_79 : decode cX12_fires 79 = .ok (.iload 6, 2) := by decide +kernel
theorem dX12_fires_81 : decode cX12_fires 81 = .ok (.bipush 64, 2) := by decide +kernel
theorem dX12_fires_83 : decode cX12_fires 83 = .ok (.if_icmp .ge 73, 3) := by decide +kernel
theorem dX12_fires_86 : decode cX12_fires 86 = .ok (.aload_n 0, 1) := by decide +kernel
theorem dX12_fires_87 : decode cX12_fires 87 = .ok (.getfield 190, 3) := by decide +kernel
theorem dX12_fires_90 : decode cX12_fires 90 = .ok (.iload 6, 2) := by decide +kernel
theorem dX12_fires_92 : decode cX12_fires 92 = .ok (.iaload, 1) := by decide +kernel
theorem dX12_fires_93 : decode cX12_fires 93 = .ok (.iconst (-1), 1) := by decide +kernel
theorem dX12_fires_94 : decode cX12_fires 94 = .ok (.if_icmp .ne 56, 3) := by decide +kernel
theorem dX12_fires_97 : decode cX12_fires 97 = .ok (.iload 5, 2) := by decide +kernel
theorem dX12_fires_99 : decode cX12_fires 99 = .ok (.iload 6, 2) := by decide +kernel
theorem dX12_fires_101 : decode cX12_fires 101 = .ok (.invokestatic 465, 3) := by decide +kernel
theorem dX12_fires_104 : decode cX12_fires 104 = .ok (.ifCond .eq 46, 3) := by decide +kernel
theorem dX12_fires_107 : decode cX12_fires 107 = .ok (.aload_n 0, 1) := by decide +kernel
theorem dX12_fires_108 : decode cX12_fires 108 = .ok (.getfield 13, 3) := by decide +kernel
theorem dX12_fires_111 : decode cX12_fires 111 = .ok (.iload 6, 2) := by decide +kernel
theorem dX12_fires_113 : decode cX12_fires 113 = .ok (.iaload, 1) := by decide +kernel
theorem dX12_fires_114 : decode cX12_fires 114 = .ok (.aload_n 0, 1) := by decide +kernel
theorem dX12_fires_115 : decode cX12_fires 115 = .ok (.iload 6, 2) := by decide +kernel
theorem dX12_fires_117 : decode cX12_fires 117 = .ok (.invokevirtual 528, 3) := by decide +kernel
theorem dX12_fires_120 : decode cX12_fires 120 = .ok (.iadd, 1) := by decide +kernel
theorem dX12_fires_121 : decode cX12_fires 121 = .ok (.ifCond .eq 29, 3) := by decide +kernel
theorem dX12_fires_124 : decode cX12_fires 124 = .ok (.aload_n 0, 1) := by decide +kernel
theorem dX12_fires_125 : decode cX12_fires 125 = .ok (.iload 5, 2) := by decide +kernel
theorem dX12_fires_127 : decode cX12_fires 127 = .ok (.iload 6, 2) := by decide +kernel
theorem dX12_fires_129 : decode cX12_fires 129 = .ok (.iload_n 2, 1) := by decide +kernel
theorem dX12_fires_130 : decode cX12_fires 130 = .ok (.invokevirtual 531, 3) := by decide +kernel
theorem dX12_fires_133 : decode cX12_fires 133 = .ok (.bipush 20, 2) := by decide +kernel
theorem dX12_fires_135 : decode cX12_fires 135 = .ok (.if_icmp .ge 6, 3) := by decide +kernel
theorem dX12_fires_138 : decode cX12_fires 138 = .ok (.goto 12, 3) := by decide +kernel
theorem dX12_fires_141 : decode cX12_fires 141 = .ok (.aload_n 0, 1) := by decide +kernel
theorem dX12_fires_142 : decode cX12_fires 142 = .ok (.getfield 190, 3) := by decide +kernel
theorem dX12_fires_145 : decode cX12_fires 145 = .ok (.iload 6, 2) := by decide +kernel
theorem dX12_fires_147 : decode cX12_fires 147 = .ok (.iload 4, 2) := by decide +kernel
theorem dX12_fires_149 : decode cX12_fires 149 = .ok (.iastore, 1) := by decide +kernel
theorem dX12_fires_150 : decode cX12_fires 150 = .ok (.iinc 6 1, 3) := by decide +kernel
theorem dX12_fires_153 : decode cX12_fires 153 = .ok (.goto (-74), 3) := by decide +kernel
theorem dX12_fires_156 : decode cX12_fires 156 = .ok (.iinc 5 1, 3) := by decide +kernel
theorem dX12_fires_159 : decode cX12_fires 159 = .ok (.goto (-116), 3) := by decide +kernel
theorem dX12_fires_162 : decode cX12_fires 162 = .ok (.iinc 4 1, 3) := by decide +kernel
theorem dX12_fires_165 : decode cX12_fires 165 = .ok (.goto (-131), 3) := by decide +kernel
theorem dX12_fires_168 : decode cX12_fires 168 = .ok (.iconst 0, 1) := by decide +kernel
theorem dX12_fires_169 : decode cX12_fires 169 = .ok (.istore 4, 2) := by decide +kernel
theorem dX12_fires_171 : decode cX12_fires 171 = .ok (.iconst 0, 1) := by decide +kernel
theorem dX12_fires_172 : decode cX12_fires 172 = .ok (.istore 5, 2) := by decide +kernel
theorem dX12_fires_174 : decode cX12_fires 174 = .ok (.iload 5, 2) := by decide +kernel
theorem dX12_fires_176 : decode cX12_fires 176 = .ok (.bipush 64, 2) := by decide +kernel
theorem dX12_fires_178 : decode cX12_fires 178 = .ok (.if_icmp .ge 135, 3) := by decide +kernel
theorem dX12_fires_181 : decode cX12_fires 181 = .ok (.aload_n 0, 1) := by decide +kernel
theorem dX12_fires_182 : decode cX12_fires 182 = .ok (.getfield 190, 3) := by decide +kernel
theorem dX12_fires_185 : decode cX12_fires 185 = .ok (.iload 5, 2) := by decide +kernel
theorem dX12_fires_187 : decode cX12_fires 187 = .ok (.iaload, 1) := by decide +kernel
theorem dX12_fires_188 : decode cX12_fires 188 = .ok (.iconst (-1), 1) := by decide +kernel
theorem dX12_fires_189 : decode cX12_fires 189 = .ok (.if_icmp .ne 6, 3) := by decide +kernel
theorem dX12_fires_192 : decode cX12_fires 192 = .ok (.goto 115, 3) := by decide +kernel
theorem dX12_fires_195 : decode cX12_fires 195 = .ok (.iinc 4 1, 3) := by decide +kernel
theorem dX12_fires_198 : decode cX12_fires 198 = .ok (.aload_n 0, 1) := by decide +kernel
theorem dX12_fires_199 : decode cX12_fires 199 = .ok (.getfield 13, 3) := by decide +kernel
theorem dX12_fires_202 : decode cX12_fires 202 = .ok (.iload 5, 2) := by decide +kernel
theorem dX12_fires_204 : decode cX12_fires 204 = .ok (.iconst 0, 1) := by decide +kernel
theorem dX12_fires_205 : decode cX12_fires 205 = .ok (.iastore, 1) := by decide +kernel
theorem dX12_fires_206 : decode cX12_fires 206 = .ok (.bipush 16, 2) := by decide +kernel
theorem dX12_fires_208 : decode cX12_fires 208 = .ok (.iload 5, 2) := by decide +kernel
theorem dX12_fires_210 : decode cX12_fires 210 = .ok (.imul, 1) := by decide +kernel
theorem dX12_fires_211 : decode cX12_fires 211 = .ok (.istore 6, 2) := by decide +kernel
theorem dX12_fires_213 : decode cX12_fires 213 = .ok (.iload 6, 2) := by decide +kernel
theorem dX12_fires_215 : decode cX12_fires 215 = .ok (.bipush 16, 2) := by decide +kernel
theorem dX12_fires_217 : decode cX12_fires 217 = .ok (.iload 5, 2) := by decide +kernel
theorem dX12_fires_219 : decode cX12_fires 219 = .ok (.imul, 1) := by decide +kernel
theorem dX12_fires_220 : decode cX12_fires 220 = .ok (.bipush 16, 2) := by decide +kernel
theorem dX12_fires_222 : decode cX12_fires 222 = .ok (.iadd, 1) := by decide +kernel
theorem dX12_fires_223 : decode cX12_fires 223 = .ok (.if_icmp .ge 37, 3) := by decide +kernel
theorem dX12_fires_226 : decode cX12_fires 226 = .ok (.aload_n 0, 1) := by decide +kernel
theorem dX12_fires_227 : decode cX12_fires 227 = .ok (.getfield 16, 3) := by decide +kernel
theorem dX12_fires_230 : decode cX12_fires 230 = .ok (.iload 6, 2) := by decide +kernel
theorem dX12_fires_232 : decode cX12_fires 232 = .ok (.iload 6, 2) := by decide +kernel
theorem dX12_fires_234 : decode cX12_fires 234 = .ok (.iconst 4, 1) := by decide +kernel
theorem dX12_fires_235 : decode cX12_fires 235 = .ok (.irem, 1) := by decide +kernel
theorem dX12_fires_236 : decode cX12_fires 236 = .ok (.iconst 2, 1) := by decide +kernel
theorem dX12_fires_237 : decode cX12_fires 237 = .ok (.if_icmp .ge 7, 3) := by decide +kernel
theorem dX12_fires_240 : decode cX12_fires 240 = .ok (.iconst 0, 1) := by decide +kernel
theorem dX12_fires_241 : decode cX12_fires 241 = .ok (.goto 12, 3) := by decide +kernel
theorem dX12_fires_244 : decode cX12_fires 244 = .ok (.aload_n 0, 1) := by decide +kernel
theorem dX12_fires_245 : decode cX12_fires 245 = .ok (.getfield 16, 3) := by decide +kernel
theorem dX12_fires_248 : decode cX12_fires 248 = .ok (.iload 6, 2) := by decide +kernel
theorem dX12_fires_250 : decode cX12_fires 250 = .ok (.iaload, 1) := by decide +kernel
theorem dX12_fires_251 : decode cX12_fires 251 = .ok (.iconst 2, 1) := by decide +kernel
theorem dX12_fires_252 : decode cX12_fires 252 = .ok (.idiv, 1) := by decide +kernel
theorem dX12_fires_253 : decode cX12_fires 253 = .ok (.iastore, 1) := by decide +kernel
theorem dX12_fires_254 : decode cX12_fires 254 = .ok (.iinc 6 1, 3) := by decide +kernel
theorem dX12_fires_257 : decode cX12_fires 257 = .ok (.goto (-44), 3) := by decide +kernel
theorem dX12_fires_260 : decode cX12_fires 260 = .ok (.iconst 0, 1) := by decide +kernel
theorem dX12_fires_261 : decode cX12_fires 261 = .ok (.istore 6, 2) := by decide +kernel
theorem dX12_fires_263 : decode cX12_fires 263 = .ok (.iload 6, 2) := by decide +kernel
theorem dX12_fires_265 : decode cX12_fires 265 = .ok (.aload_n 0, 1) := by decide +kernel
theorem dX12_fires_266 : decode cX12_fires 266 = .ok (.getfield 265, 3) := by decide +kernel
theorem dX12_fires_269 : decode cX12_fires 269 = .ok (.if_icmp .ge 38, 3) := by decide +kernel
theorem dX12_fires_272 : decode cX12_fires 272 = .ok (.aload_n 0, 1) := by decide +kernel
theorem dX12_fires_273 : decode cX12_fires 273 = .ok (.getfield 67, 3) := by decide +kernel
theorem dX12_fires_276 : decode cX12_fires 276 = .ok (.iload 6, 2) := by decide +kernel
theorem dX12_fires_278 : decode cX12_fires 278 = .ok (.iaload, 1) := by decide +kernel
theorem dX12_fires_279 : decode cX12_fires 279 = .ok (.ifCond .ne 22, 3) := by decide +kernel
theorem dX12_fires_282 : decode cX12_fires 282 = .ok (.aload_n 0, 1) := by decide +kernel
theorem dX12_fires_283 : decode cX12_fires 283 = .ok (.getfield 46, 3) := by decide +kernel
theorem dX12_fires_286 : decode cX12_fires 286 = .ok (.iload 6, 2) := by decide +kernel
theorem dX12_fires_288 : decode cX12_fires 288 = .ok (.iaload, 1) := by decide +kernel
theorem dX12_fires_289 : decode cX12_fires 289 = .ok (.iload 5, 2) := by decide +kernel
theorem dX12_fires_291 : decode cX12_fires 291 = .ok (.if_icmp .ne 10, 3) := by decide +kernel
theorem dX12_fires_294 : decode cX12_fires 294 = .ok (.aload_n 0, 1) := by decide +kernel
theorem dX12_fires_295 : decode cX12_fires 295 = .ok (.iload 6, 2) := by decide +kernel
theorem dX12_fires_297 : decode cX12_fires 297 = .ok (.iconst 3, 1) := by decide +kernel
theorem dX12_fires_298 : decode cX12_fires 298 = .ok (.invokevirtual 298, 3) := by decide +kernel
theorem dX12_fires_301 : decode cX12_fires 301 = .ok (.iinc 6 1, 3) := by decide +kernel
theorem dX12_fires_304 : decode cX12_fires 304 = .ok (.goto (-41), 3) := by decide +kernel
theorem dX12_fires_307 : decode cX12_fires 307 = .ok (.iinc 5 1, 3) := by decide +kernel
theorem dX12_fires_310 : decode cX12_fires 310 = .ok (.goto (-136), 3) := by decide +kernel
theorem dX12_fires_313 : decode cX12_fires 313 = .ok (.iload 4, 2) := by decide +kernel
theorem dX12_fires_315 : decode cX12_fires 315 = .ok (.ireturn, 1) := by decide +kernel
theorem dX12_fire_0 : decode cX12_fire 0 = .ok (.aload_n 0, 1) := by decide +kernel
theorem dX12_fire_1 : decode cX12_fire 1 = .ok (.iconst 0, 1) := by decide +kernel
theorem dX12_fire_2 : decode cX12_fire 2 = .ok (.putfield 235, 3) := by decide +kernel
theorem dX12_fire_5 : decode cX12_fire 5 = .ok (.iload_n 1, 1) := by decide +kernel
theorem dX12_fire_6 : decode cX12_fire 6 = .ok (.invokestatic 253, 3) := by decide +kernel
theorem dX12_fire_9 : decode cX12_fire 9 = .ok (.ifCond .eq 32, 3) := by decide +kernel
theorem dX12_fire_12 : decode cX12_fire 12 = .ok (.iload_n 2, 1) := by decide +kernel
theorem dX12_fire_13 : decode cX12_fire 13 = .ok (.iconst 0, 1) := by decide +kernel
theorem dX12_fire_14 : decode cX12_fire 14 = .ok (.iconst 3, 1) := by decide +kernel
theorem dX12_fire_15 : decode cX12_fire 15 = .ok (.invokestatic 238, 3) := by decide +kernel
theorem dX12_fire_18 : decode cX12_fire 18 = .ok (.ifCond .eq 23, 3) := by decide +kernel
theorem dX12_fire_21 : decode cX12_fire 21 = .ok (.iload_n 3, 1) := by decide +kernel
theorem dX12_fire_22 : decode cX12_fire 22 = .ok (.iconst 1, 1) := by decide +kernel
theorem dX12_fire_23 : decode cX12_fire 23 = .ok (.bipush 20, 2) := by decide +kernel
theorem dX12_fire_25 : decode cX12_fire 25 = .ok (.invokestatic 238, 3) := by decide +kernel
theorem dX12_fire_28 : decode cX12_fire 28 = .ok (.ifCond .eq 13, 3) := by decide +kernel
theorem dX12_fire_31 : decode cX12_fire 31 = .ok (.aload_n 0, 1) := by decide +kernel
theorem dX12_fire_32 : decode cX12_fire 32 = .ok (.iload_n 1, 1) := by decide +kernel
theorem dX12_fire_33 : decode cX12_fire 33 = .ok (.iload_n 2, 1) := by decide +kernel
theorem dX12_fire_34 : decode cX12_fire 34 = .ok (.iload_n 3, 1) := by decide +kernel
theorem dX12_fire_35 : decode cX12_fire 35 = .ok (.invokevirtual 534, 3) := by decide +kernel
theorem dX12_fire_38 : decode cX12_fire 38 = .ok (.goto 4, 3) := by decide +kernel
theorem dX12_fire_41 : decode cX12_fire 41 = .ok (.iconst (-1), 1) := by decide +kernel
theorem dX12_fire_42 : decode cX12_fire 42 = .ok (.ireturn, 1) := by decide +kernel
theorem dX12_burn_0 : decode cX12_burn 0 = .ok (.aload_n 0, 1) := by decide +kernel
theorem dX12_burn_1 : decode cX12_burn 1 = .ok (.iconst 0, 1) := by decide +kernel
theorem dX12_burn_2 : decode cX12_burn 2 = .ok (.putfield 235, 3) := by decide +kernel
theorem dX12_burn_5 : decode cX12_burn 5 = .ok (.iload_n 1, 1) := by decide +kernel
theorem dX12_burn_6 : decode cX12_burn 6 = .ok (.invokestatic 253, 3) := by decide +kernel
theorem dX12_burn_9 : decode cX12_burn 9 = .ok (.ifCond .ne 5, 3) := by decide +kernel
theorem dX12_burn_12 : decode cX12_burn 12 = .ok (.iconst (-1), 1) := by decide +kernel
theorem dX12_burn_13 : decode cX12_burn 13 = .ok (.ireturn, 1) := by decide +kernel
theorem dX12_burn_14 : decode cX12_burn 14 = .ok (.aload_n 0, 1) := by decide +kernel
theorem dX12_burn_15 : decode cX12_burn 15 = .ok (.iload_n 1, 1) := by decide +kernel
theorem dX12_burn_16 : decode cX12_burn 16 = .ok (.invokevirtual 430, 3) := by decide +kernel
theorem dX12_burn_19 : decode cX12_burn 19 = .ok (.aload_n 0, 1) := by decide +kernel
theorem dX12_burn_20 : decode cX12_burn 20 = .ok (.iconst 2, 1) := by decide +kernel
theorem dX12_burn_21 : decode cX12_burn 21 = .ok (.invokevirtual 447, 3) := by decide +kernel
theorem dX12_burn_24 : decode cX12_burn 24 = .ok (.iconst (-1), 1) := by decide +kernel
theorem dX12_burn_25 : decode cX12_burn 25 = .ok (.if_icmp .eq 6, 3) := by decide +kernel
theorem dX12_burn_28 : decode cX12_burn 28 = .ok (.bipush (-2), 2) := by decide +kernel
theorem dX12_burn_30 : decode cX12_burn 30 = .ok (.ireturn, 1) := by decide +kernel
theorem dX12_burn_31 : decode cX12_burn 31 = .ok (.aload_n 0, 1) := by decide +kernel
theorem dX12_burn_32 : decode cX12_burn 32 = .ok (.getfield 13, 3) := by decide +kernel
theorem dX12_burn_35 : decode cX12_burn 35 = .ok (.iload_n 1, 1) := by decide +kernel
theorem dX12_burn_36 : decode cX12_burn 36 = .ok (.iconst 0, 1) := by decide +kernel
theorem dX12_burn_37 : decode cX12_burn 37 = .ok (.iastore, 1) := by decide +kernel
theorem dX12_burn_38 : decode cX12_burn 38 = .ok (.aload_n 0, 1) := by decide +kernel
theorem dX12_burn_39 : decode cX12_burn 39 = .ok (.aload_n 0, 1) := by decide +kernel
theorem dX12_burn_40 : decode cX12_burn 40 = .ok (.getfield 271, 3) := by decide +kernel
theorem dX12_burn_43 : decode cX12_burn 43 = .ok (.iconst 2, 1) := by decide +kernel
theorem dX12_burn_44 : decode cX12_burn 44 = .ok (.invokevirtual 277, 3) := by decide +kernel
theorem dX12_burn_47 : decode cX12_burn 47 = .ok (.bipush 7, 2) := by decide +kernel
theorem dX12_burn_49 : decode cX12_burn 49 = .ok (.if_icmp .lt 13, 3) := by decide +kernel
theorem dX12_burn_52 : decode cX12_burn 52 = .ok (.aload_n 0, 1) := by decide +kernel
theorem dX12_burn_53 : decode cX12_burn 53 = .ok (.iload_n 1, 1) := by decide +kernel
theorem dX12_burn_54 : decode cX12_burn 54 = .ok (.iconst 0, 1) := by decide +kernel
theorem dX12_burn_55 : decode cX12_burn 55 = .ok (.iconst 3, 1) := by decide +kernel
theorem dX12_burn_56 : decode cX12_burn 56 = .ok (.invokevirtual 534, 3) := by decide +kernel
theorem dX12_burn_59 : decode cX12_burn 59 = .ok (.goto 4, 3) := by decide +kernel
theorem dX12_burn_62 : decode cX12_burn 62 = .ok (.iconst 0, 1) := by decide +kernel
theorem dX12_burn_63 : decode cX12_burn 63 = .ok (.ireturn, 1) := by decide +kernel
theorem dX12_spur_0 : decode cX12_spur 0 = .ok (.aload_n 0, 1) := by decide +kernel
theorem dX12_spur_1 : decode cX12_spur 1 = .ok (.iconst 0, 1) := by decide +kernel
theorem dX12_spur_2 : decode cX12_spur 2 = .ok (.putfield 235, 3) := by decide +kernel
theorem dX12_spur_5 : decode cX12_spur 5 = .ok (.iload_n 1, 1) := by decide +kernel
theorem dX12_spur_6 : decode cX12_spur 6 = .ok (.iconst 1, 1) := by decide +kernel
theorem dX12_spur_7 : decode cX12_spur 7 = .ok (.if_icmp .lt 33, 3) := by decide +kernel
theorem dX12_spur_10 : decode cX12_spur 10 = .ok (.iload_n 2, 1) := by decide +kernel
theorem dX12_spur_11 : decode cX12_spur 11 = .ok (.iconst 1, 1) := by decide +kernel
theorem dX12_spur_12 : decode cX12_spur 12 = .ok (.bipush 50, 2) := by decide +kernel
theorem dX12_spur_14 : decode cX12_spur 14 = .ok (.invokestatic 238, 3) := by decide +kernel
theorem dX12_spur_17 : decode cX12_spur 17 = .ok (.ifCond .eq 23, 3) := by decide +kernel
theorem dX12_spur_20 : decode cX12_spur 20 = .ok (.iload_n 3, 1) := by decide +kernel
theorem dX12_spur_21 : decode cX12_spur 21 = .ok (.iconst 0, 1) := by decide +kernel
theorem dX12_spur_22 : decode cX12_spur 22 = .ok (.sipush 999, 3) := by decide +kernel
theorem dX12_spur_25 : decode cX12_spur 25 = .ok (.invokestatic 238, 3) := by decide +kernel
theorem dX12_spur_28 : decode cX12_spur 28 = .ok (.ifCond .eq 12, 3) := by decide +kernel
theorem dX12_spur_31 : decode cX12_spur 31 = .ok (.aload_n 0, 1) := by decide +kernel
theorem dX12_spur_32 : decode cX12_spur 32 = .ok (.getfield 537, 3) := by decide +kernel
theorem dX12_spur_35 : decode cX12_spur 35 = .ok (.bipush 9, 2) := by decide +kernel
theorem dX12_spur_37 : decode cX12_spur 37 = .ok (.if_icmp .ne 5, 3) := by decide +kernel
theorem dX12_spur_40 : decode cX12_spur 40 = .ok (.iconst (-1), 1) := by decide +kernel
theorem dX12_spur_41 : decode cX12_spur 41 = .ok (.ireturn, 1) := by decide +kernel
theorem dX12_spur_42 : decode cX12_spur 42 = .ok (.aload_n 0, 1) := by decide +kernel
theorem dX12_spur_43 : decode cX12_spur 43 = .ok (.getfield 193, 3) := by decide +kernel
theorem dX12_spur_46 : decode cX12_spur 46 = .ok (.aload_n 0, 1) := by decide +kernel
theorem dX12_spur_47 : decode cX12_spur 47 = .ok (.getfield 537, 3) := by decide +kernel
theorem dX12_spur_50 : decode cX12_spur 50 = .ok (.iload_n 1, 1) := by decide +kernel
theorem dX12_spur_51 : decode cX12_spur 51 = .ok (.iastore, 1) := by decide +kernel
theorem dX12_spur_52 : decode cX12_spur 52 = .ok (.aload_n 0, 1) := by decide +kernel
theorem dX12_spur_53 : decode cX12_spur 53 = .ok (.getfield 196, 3) := by decide +kernel
theorem dX12_spur_56 : decode cX12_spur 56 = .ok (.aload_n 0, 1) := by decide +kernel
theorem dX12_spur_57 : decode cX12_spur 57 = .ok (.getfield 537, 3) := by decide +kernel
theorem dX12_spur_60 : decode cX12_spur 60 = .ok (.iload_n 2, 1) := by decide +kernel
theorem dX12_spur_61 : decode cX12_spur 61 = .ok (.iastore, 1) := by decide +kernel
theorem dX12_spur_62 : decode cX12_spur 62 = .ok (.aload_n 0, 1) := by decide +kernel
theorem dX12_spur_63 : decode cX12_spur 63 = .ok (.getfield 199, 3) := by decide +kernel
theorem dX12_spur_66 : decode cX12_spur 66 = .ok (.aload_n 0, 1) := by decide +kernel
theorem dX12_spur_67 : decode cX12_spur 67 = .ok (.getfield 537, 3) := by decide +kernel
theorem dX12_spur_70 : decode cX12_spur 70 = .ok (.iload_n 3, 1) := by decide +kernel
theorem dX12_spur_71 : decode cX12_spur 71 = .ok (.iastore, 1) := by decide +kernel
theorem dX12_spur_72 : decode cX12_spur 72 = .ok (.aload_n 0, 1) := by decide +kernel
theorem dX12_spur_73 : decode cX12_spur 73 = .ok (.dup, 1) := by decide +kernel
theorem dX12_spur_74 : decode cX12_spur 74 = .ok (.getfield 537, 3) := by decide +kernel
theorem dX12_spur_77 : decode cX12_spur 77 = .ok (.iconst 1, 1) := by decide +kernel
theorem dX12_spur_78 : decode cX12_spur 78 = .ok (.iadd, 1) := by decide +kernel
theorem dX12_spur_79 : decode cX12_spur 79 = .ok (.putfield 537, 3) := by decide +kernel
theorem dX12_spur_82 : decode cX12_spur 82 = .ok (.aload_n 0, 1) := by decide +kernel
theorem dX12_spur_83 : decode cX12_spur 83 = .ok (.getfield 537, 3) := by decide +kernel
theorem dX12_spur_86 : decode cX12_spur 86 = .ok (.iconst 1, 1) := by decide +kernel
theorem dX12_spur_87 : decode cX12_spur 87 = .ok (.isub, 1) := by decide +kernel
theorem dX12_spur_88 : decode cX12_spur 88 = .ok (.ireturn, 1) := by decide +kernel
theorem dX12_asked_0 : decode cX12_asked 0 = .ok (.aload_n 0, 1) := by decide +kernel
theorem dX12_asked_1 : decode cX12_asked 1 = .ok (.iconst 0, 1) := by decide +kernel
theorem dX12_asked_2 : decode cX12_asked 2 = .ok (.putfield 235, 3) := by decide +kernel
theorem dX12_asked_5 : decode cX12_asked 5 = .ok (.iload_n 1, 1) := by decide +kernel
theorem dX12_asked_6 : decode cX12_asked 6 = .ok (.iconst 0, 1) := by decide +kernel
theorem dX12_asked_7 : decode cX12_asked 7 = .ok (.iconst 3, 1) := by decide +kernel
theorem dX12_asked_8 : decode cX12_asked 8 = .ok (.invokestatic 238, 3) := by decide +kernel
theorem dX12_asked_11 : decode cX12_asked 11 = .ok (.ifCond .eq 7, 3) := by decide +kernel
theorem dX12_asked_14 : decode cX12_asked 14 = .ok (.iload_n 2, 1) := by decide +kernel
theorem dX12_asked_15 : decode cX12_asked 15 = .ok (.ifCond .ge 5, 3) := by decide +kernel
theorem dX12_asked_18 : decode cX12_asked 18 = .ok (.iconst 0, 1) := by decide +kernel
theorem dX12_asked_19 : decode cX12_asked 19 = .ok (.ireturn, 1) := by decide +kernel
theorem dX12_asked_20 : decode cX12_asked 20 = .ok (.aload_n 0, 1) := by decide +kernel
theorem dX12_asked_21 : decode cX12_asked 21 = .ok (.getfield 202, 3) := by decide +kernel
theorem dX12_asked_24 : decode cX12_asked 24 = .ok (.iload_n 1, 1) := by decide +kernel
theorem dX12_asked_25 : decode cX12_asked 25 = .ok (.iload_n 2, 1) := by decide +kernel
theorem dX12_asked_26 : decode cX12_asked 26 = .ok (.iastore, 1) := by decide +kernel
theorem dX12_asked_27 : decode cX12_asked 27 = .ok (.iconst 1, 1) := by decide +kernel
theorem dX12_asked_28 : decode cX12_asked 28 = .ok (.ireturn, 1) := by decide +kernel
theorem dX12_ironOf_0 : decode cX12_ironOf 0 = .ok (.iconst 0, 1) := by decide +kernel
theorem dX12_ironOf_1 : decode cX12_ironOf 1 = .ok (.istore_n 2, 1) := by decide +kernel
theorem dX12_ironOf_2 : decode cX12_ironOf 2 = .ok (.iconst 0, 1) := by decide +kernel
theorem dX12_ironOf_3 : decode cX12_ironOf 3 = .ok (.istore_n 3, 1) := by decide +kernel
theorem dX12_ironOf_4 : decode cX12_ironOf 4 = .ok (.iload_n 3, 1) := by decide +kernel
theorem dX12_ironOf_5 : decode cX12_ironOf 5 = .ok (.aload_n 0, 1) := by decide +kernel
theorem dX12_ironOf_6 : decode cX12_ironOf 6 = .ok (.getfield 537, 3) := by decide +kernel
theorem dX12_ironOf_9 : decode cX12_ironOf 9 = .ok (.if_icmp .ge 31, 3) := by decide +kernel
theorem dX12_ironOf_12 : decode cX12_ironOf 12 = .ok (.iload_n 2, 1) := by decide +kernel
theorem dX12_ironOf_13 : decode cX12_ironOf 13 = .ok (.iload_n 1, 1) := by decide +kernel
theorem dX12_ironOf_14 : decode cX12_ironOf 14 = .ok (.iload_n 3, 1) := by decide +kernel
theorem dX12_ironOf_15 : decode cX12_ironOf 15 = .ok (.ishr, 1) := by decide +kernel
theorem dX12_ironOf_16 : decode cX12_ironOf 16 = .ok (.iconst 1, 1) := by decide +kernel
theorem dX12_ironOf_17 : decode cX12_ironOf 17 = .ok (.iand, 1) := by decide +kernel
theorem dX12_ironOf_18 : decode cX12_ironOf 18 = .ok (.iconst 1, 1) := by decide +kernel
theorem dX12_ironOf_19 : decode cX12_ironOf 19 = .ok (.if_icmp .ne 12, 3) := by decide +kernel
theorem dX12_ironOf_22 : decode cX12_ironOf 22 = .ok (.aload_n 0, 1) := by decide +kernel
theorem dX12_ironOf_23 : decode cX12_ironOf 23 = .ok (.getfield 196, 3) := by decide +kernel
theorem dX12_ironOf_26 : decode cX12_ironOf 26 = .ok (.iload_n 3, 1) := by decide +kernel
theorem dX12_ironOf_27 : decode cX12_ironOf 27 = .ok (.iaload, 1) := by decide +kernel
theorem dX12_ironOf_28 : decode cX12_ironOf 28 = .ok (.goto 4, 3) := by decide +kernel
theorem dX12_ironOf_31 : decode cX12_ironOf 31 = .ok (.iconst 0, 1) := by decide +kernel
theorem dX12_ironOf_32 : decode cX12_ironOf 32 = .ok (.iadd, 1) := by decide +kernel
theorem dX12_ironOf_33 : decode cX12_ironOf 33 = .ok (.istore_n 2, 1) := by decide +kernel
theorem dX12_ironOf_34 : decode cX12_ironOf 34 = .ok (.iinc 3 1, 3) := by decide +kernel
theorem dX12_ironOf_37 : decode cX12_ironOf 37 = .ok (.goto (-33), 3) := by decide +kernel
theorem dX12_ironOf_40 : decode cX12_ironOf 40 = .ok (.iload_n 2, 1) := by decide +kernel
theorem dX12_ironOf_41 : decode cX12_ironOf 41 = .ok (.ireturn, 1) := by decide +kernel
theorem dX12_layCost_0 : decode cX12_layCost 0 = .ok (.iconst 0, 1) := by decide +kernel
theorem dX12_layCost_1 : decode cX12_layCost 1 = .ok (.istore_n 2, 1) := by decide +kernel
theorem dX12_layCost_2 : decode cX12_layCost 2 = .ok (.iconst 0, 1) := by decide +kernel
theorem dX12_layCost_3 : decode cX12_layCost 3 = .ok (.istore_n 3, 1) := by decide +kernel
theorem dX12_layCost_4 : decode cX12_layCost 4 = .ok (.iload_n 3, 1) := by decide +kernel
theorem dX12_layCost_5 : decode cX12_layCost 5 = .ok (.aload_n 0, 1) := by decide +kernel
theorem dX12_layCost_6 : decode cX12_layCost 6 = .ok (.getfield 537, 3) := by decide +kernel
theorem dX12_layCost_9 : decode cX12_layCost 9 = .ok (.if_icmp .ge 31, 3) := by decide +kernel
theorem dX12_layCost_12 : decode cX12_layCost 12 = .ok (.iload_n 2, 1) := by decide +kernel
theorem dX12_layCost_13 : decode cX12_layCost 13 = .ok (.iload_n 1, 1) := by decide +kernel
theorem dX12_layCost_14 : decode cX12_layCost 14 = .ok (.iload_n 3, 1) := by decide +kernel
theorem dX12_layCost_15 : decode cX12_layCost 15 = .ok (.ishr, 1) := by decide +kernel
theorem dX12_layCost_16 : decode cX12_layCost 16 = .ok (.iconst 1, 1) := by decide +kernel
theorem dX12_layCost_17 : decode cX12_layCost 17 = .ok (.iand, 1) := by decide +kernel
theorem dX12_layCost_18 : decode cX12_layCost 18 = .ok (.iconst 1, 1) := by decide +kernel
theorem dX12_layCost_19 : decode cX12_layCost 19 = .ok (.if_icmp .ne 12, 3) := by decide +kernel
theorem dX12_layCost_22 : decode cX12_layCost 22 = .ok (.aload_n 0, 1) := by decide +kernel
theorem dX12_layCost_23 : decode cX12_layCost 23 = .ok (.getfield 199, 3) := by decide +kernel
theorem dX12_layCost_26 : decode cX12_layCost 26 = .ok (.iload_n 3, 1) := by decide +kernel
theorem dX12_layCost_27 : decode cX12_layCost 27 = .ok (.iaload, 1) := by decide +kernel
theorem dX12_layCost_28 : decode cX12_layCost 28 = .ok (.goto 4, 3) := by decide +kernel
theorem dX12_layCost_31 : decode cX12_layCost 31 = .ok (.iconst 0, 1) := by decide +kernel
theorem dX12_layCost_32 : decode cX12_layCost 32 = .ok (.iadd, 1) := by decide +kernel
theorem dX12_layCost_33 : decode cX12_layCost 33 = .ok (.istore_n 2, 1) := by decide +kernel
theorem dX12_layCost_34 : decode cX12_layCost 34 = .ok (.iinc 3 1, 3) := by decide +kernel
theorem dX12_layCost_37 : decode cX12_layCost 37 = .ok (.goto (-33), 3) := by decide +kernel
theorem dX12_layCost_40 : decode cX12_layCost 40 = .ok (.iload_n 2, 1) := by decide +kernel
theorem dX12_layCost_41 : decode cX12_layCost 41 = .ok (.ireturn, 1) := by decide +kernel
theorem dX12_cellsOf_0 : decode cX12_cellsOf 0 = .ok (.iconst 0, 1) := by decide +kernel
theorem dX12_cellsOf_1 : decode cX12_cellsOf 1 = .ok (.istore_n 2, 1) := by decide +kernel
theorem dX12_cellsOf_2 : decode cX12_cellsOf 2 = .ok (.iconst 0, 1) := by decide +kernel
theorem dX12_cellsOf_3 : decode cX12_cellsOf 3 = .ok (.istore_n 3, 1) := by decide +kernel
theorem dX12_cellsOf_4 : decode cX12_cellsOf 4 = .ok (.iload_n 3, 1) := by decide +kernel
theorem dX12_cellsOf_5 : decode cX12_cellsOf 5 = .ok (.aload_n 0, 1) := by decide +kernel
theorem dX12_cellsOf_6 : decode cX12_cellsOf 6 = .ok (.getfield 537, 3) := by decide +kernel
theorem dX12_cellsOf_9 : decode cX12_cellsOf 9 = .ok (.if_icmp .ge 31, 3) := by decide +kernel
theorem dX12_cellsOf_12 : decode cX12_cellsOf 12 = .ok (.iload_n 2, 1) := by decide +kernel
theorem dX12_cellsOf_13 : decode cX12_cellsOf 13 = .ok (.iload_n 1, 1) := by decide +kernel
theorem dX12_cellsOf_14 : decode cX12_cellsOf 14 = .ok (.iload_n 3, 1) := by decide +kernel
theorem dX12_cellsOf_15 : decode cX12_cellsOf 15 = .ok (.ishr, 1) := by decide +kernel
theorem dX12_cellsOf_16 : decode cX12_cellsOf 16 = .ok (.iconst 1, 1) := by decide +kernel
theorem dX12_cellsOf_17 : decode cX12_cellsOf 17 = .ok (.iand, 1) := by decide +kernel
theorem dX12_cellsOf_18 : decode cX12_cellsOf 18 = .ok (.iconst 1, 1) := by decide +kernel
theorem dX12_cellsOf_19 : decode cX12_cellsOf 19 = .ok (.if_icmp .ne 12, 3) := by decide +kernel
theorem dX12_cellsOf_22 : decode cX12_cellsOf 22 = .ok (.aload_n 0, 1) := by decide +kernel
theorem dX12_cellsOf_23 : decode cX12_cellsOf 23 = .ok (.getfield 193, 3) := by decide +kernel
theorem dX12_cellsOf_26 : decode cX12_cellsOf 26 = .ok (.iload_n 3, 1) := by decide +kernel
theorem dX12_cellsOf_27 : decode cX12_cellsOf 27 = .ok (.iaload, 1) := by decide +kernel
theorem dX12_cellsOf_28 : decode cX12_cellsOf 28 = .ok (.goto 4, 3) := by decide +kernel
theorem dX12_cellsOf_31 : decode cX12_cellsOf 31 = .ok (.iconst 0, 1) := by decide +kernel
theorem dX12_cellsOf_32 : decode cX12_cellsOf 32 = .ok (.ior, 1) := by decide +kernel
theorem dX12_cellsOf_33 : decode cX12_cellsOf 33 = .ok (.istore_n 2, 1) := by decide +kernel
theorem dX12_cellsOf_34 : decode cX12_cellsOf 34 = .ok (.iinc 3 1, 3) := by decide +kernel
theorem dX12_cellsOf_37 : decode cX12_cellsOf 37 = .ok (.goto (-33), 3) := by decide +kernel
theorem dX12_cellsOf_40 : decode cX12_cellsOf 40 = .ok (.iload_n 2, 1) := by decide +kernel
theorem dX12_cellsOf_41 : decode cX12_cellsOf 41 = .ok (.ireturn, 1) := by decide +kernel
theorem dX12_costs_0 : decode cX12_costs 0 = .ok (.aload_n 0, 1) := by decide +kernel
theorem dX12_costs_1 : decode cX12_costs 1 = .ok (.iload_n 3, 1) := by decide +kernel
theorem dX12_costs_2 : decode cX12_costs 2 = .ok (.invokevirtual 540, 3) := by decide +kernel
theorem dX12_costs_5 : decode cX12_costs 5 = .ok (.aload_n 0, 1) := by decide +kernel
theorem dX12_costs_6 : decode cX12_costs 6 = .ok (.getfield 468, 3) := by decide +kernel
theorem dX12_costs_9 : decode cX12_costs 9 = .ok (.if_icmp .le 9, 3) := by decide +kernel
theorem dX12_costs_12 : decode cX12_costs 12 = .ok (.ldc_w 543, 3) := by decide +kernel
theorem dX12_costs_15 : decode cX12_costs 15 = .ok (.goto 33, 3) := by decide +kernel
theorem dX12_costs_18 : decode cX12_costs 18 = .ok (.aload_n 0, 1) := by decide +kernel
theorem dX12_costs_19 : decode cX12_costs 19 = .ok (.iload_n 3, 1) := by decide +kernel
theorem dX12_costs_20 : decode cX12_costs 20 = .ok (.iload_n 2, 1) := by decide +kernel
theorem dX12_costs_21 : decode cX12_costs 21 = .ok (.iconst (-1), 1) := by decide +kernel
theorem dX12_costs_22 : decode cX12_costs 22 = .ok (.ixor, 1) := by decide +kernel
theorem dX12_costs_23 : decode cX12_costs 23 = .ok (.iand, 1) := by decide +kernel
theorem dX12_costs_24 : decode cX12_costs 24 = .ok (.invokevirtual 544, 3) := by decide +kernel
theorem dX12_costs_27 : decode cX12_costs 27 = .ok (.iload 4, 2) := by decide +kernel
theorem dX12_costs_29 : decode cX12_costs 29 = .ok (.aload_n 0, 1) := by decide +kernel
theorem dX12_costs_30 : decode cX12_costs 30 = .ok (.getfield 202, 3) := by decide +kernel
theorem dX12_costs_33 : decode cX12_costs 33 = .ok (.iload_n 1, 1) := by decide +kernel
theorem dX12_costs_34 : decode cX12_costs 34 = .ok (.iaload, 1) := by decide +kernel
theorem dX12_costs_35 : decode cX12_costs 35 = .ok (.aload_n 0, 1) := by decide +kernel
theorem dX12_costs_36 : decode cX12_costs 36 = .ok (.iload_n 3, 1) := by decide +kernel
theorem dX12_costs_37 : decode cX12_costs 37 = .ok (.invokevirtual 547, 3) := by decide +kernel
theorem dX12_costs_40 : decode cX12_costs 40 = .ok (.iconst (-1), 1) := by decide +kernel
theorem dX12_costs_41 : decode cX12_costs 41 = .ok (.ixor, 1) := by decide +kernel
theorem dX12_costs_42 : decode cX12_costs 42 = .ok (.iand, 1) := by decide +kernel
theorem dX12_costs_43 : decode cX12_costs 43 = .ok (.invokestatic 550, 3) := by decide +kernel
theorem dX12_costs_46 : decode cX12_costs 46 = .ok (.imul, 1) := by decide +kernel
theorem dX12_costs_47 : decode cX12_costs 47 = .ok (.iadd, 1) := by decide +kernel
theorem dX12_costs_48 : decode cX12_costs 48 = .ok (.ireturn, 1) := by decide +kernel
theorem dX12_plansRails_0 : decode cX12_plansRails 0 = .ok (.iconst 1, 1) := by decide +kernel
theorem dX12_plansRails_1 : decode cX12_plansRails 1 = .ok (.aload_n 0, 1) := by decide +kernel
theorem dX12_plansRails_2 : decode cX12_plansRails 2 = .ok (.getfield 537, 3) := by decide +kernel
theorem dX12_plansRails_5 : decode cX12_plansRails 5 = .ok (.ishl, 1) := by decide +kernel
theorem dX12_plansRails_6 : decode cX12_plansRails 6 = .ok (.istore_n 2, 1) := by decide +kernel
theorem dX12_plansRails_7 : decode cX12_plansRails 7 = .ok (.iconst 0, 1) := by decide +kernel
theorem dX12_plansRails_8 : decode cX12_plansRails 8 = .ok (.istore_n 3, 1) := by decide +kernel
theorem dX12_plansRails_9 : decode cX12_plansRails 9 = .ok (.iload_n 3, 1) := by decide +kernel
theorem dX12_plansRails_10 : decode cX12_plansRails 10 = .ok (.iload_n 2, 1) := by decide +kernel
theorem dX12_plansRails_11 : decode cX12_plansRails 11 = .ok (.if_icmp .ge 31, 3) := by decide +kernel
theorem dX12_plansRails_14 : decode cX12_plansRails 14 = .ok (.aload_n 0, 1) := by decide +kernel
theorem dX12_plansRails_15 : decode cX12_plansRails 15 = .ok (.getfield 205, 3) := by decide +kernel
theorem dX12_plansRails_18 : decode cX12_plansRails 18 = .ok (.sipush 2048, 3) := by decide +kernel
theorem dX12_plansRails_21 : decode cX12_plansRails 21 = .ok (.iload_n 3, 1) := by decide +kernel
theorem dX12_plansRails_22 : decode cX12_plansRails 22 = .ok (.iadd, 1) := by decide +kernel
theorem dX12_plansRails_23 : decode cX12_plansRails 23 = .ok (.iconst 0, 1) := by decide +kernel
theorem dX12_plansRails_24 : decode cX12_plansRails 24 = .ok (.iastore, 1) := by decide +kernel
theorem dX12_plansRails_25 : decode cX12_plansRails 25 = .ok (.aload_n 0, 1) := by decide +kernel
theorem dX12_plansRails_26 : decode cX12_plansRails 26 = .ok (.getfield 211, 3) := by decide +kernel
theorem dX12_plansRails_29 : decode cX12_plansRails 29 = .ok (.iload_n 3, 1) := by decide +kernel
theorem dX12_plansRails_30 : decode cX12_plansRails 30 = .ok (.aload_n 0, 1) := by decide +kernel
theorem dX12_plansRails_31 : decode cX12_plansRails 31 = .ok (.iload_n 3, 1) := by decide +kernel
theorem dX12_plansRails_32 : decode cX12_plansRails 32 = .ok (.invokevirtual 544, 3) := by decide +kernel
theorem dX12_plansRails_35 : decode cX12_plansRails 35 = .ok (.iastore, 1) := by decide +kernel
theorem dX12_plansRails_36 : decode cX12_plansRails 36 = .ok (.iinc 3 1, 3) := by decide +kernel
theorem dX12_plansRails_39 : decode cX12_plansRails 39 = .ok (.goto (-30), 3) := by decide +kernel
theorem dX12_plansRails_42 : decode cX12_plansRails 42 = .ok (.iconst 3, 1) := by decide +kernel
theorem dX12_plansRails_43 : decode cX12_plansRails 43 = .ok (.istore_n 3, 1) := by decide +kernel
theorem dX12_plansRails_44 : decode cX12_plansRails 44 = .ok (.iload_n 3, 1) := by decide +kernel
theorem dX12_plansRails_45 : decode cX12_plansRails 45 = .ok (.ifCond .lt 190, 3) := by decide +kernel
theorem dX12_plansRails_48 : decode cX12_plansRails 48 = .ok (.iconst 0, 1) := by decide +kernel
theorem dX12_plansRails_49 : decode cX12_plansRails 49 = .ok (.istore 4, 2) := by decide +kernel
theorem dX12_plansRails_51 : decode cX12_plansRails 51 = .ok (.iload 4, 2) := by decide +kernel
theorem dX12_plansRails_53 : decode cX12_plansRails 53 = .ok (.iload_n 2, 1) := by decide +kernel
theorem dX12_plansRails_54 : decode cX12_plansRails 54 = .ok (.if_icmp .ge 55, 3) := by decide +kernel
theorem dX12_plansRails_57 : decode cX12_plansRails 57 = .ok (.aload_n 0, 1) := by decide +kernel
theorem dX12_plansRails_58 : decode cX12_plansRails 58 = .ok (.getfield 208, 3) := by decide +kernel
theorem dX12_plansRails_61 : decode cX12_plansRails 61 = .ok (.iload 4, 2) := by decide +kernel
theorem dX12_plansRails_63 : decode cX12_plansRails 63 = .ok (.aload_n 0, 1) := by decide +kernel
theorem dX12_plansRails_64 : decode cX12_plansRails 64 = .ok (.iload 4, 2) := by decide +kernel
theorem dX12_plansRails_66 : decode cX12_plansRails 66 = .ok (.invokevirtual 540, 3) := by decide +kernel
theorem dX12_plansRails_69 : decode cX12_plansRails 69 = .ok (.aload_n 0, 1) := by decide +kernel
theorem dX12_plansRails_70 : decode cX12_plansRails 70 = .ok (.getfield 468, 3) := by decide +kernel
theorem dX12_plansRails_73 : decode cX12_plansRails 73 = .ok (.if_icmp .le 9, 3) := by decide +kernel
theorem dX12_plansRails_76 : decode cX12_plansRails 76 = .ok (.ldc_w 543, 3) := by decide +kernel
theorem dX12_plansRails_79 : decode cX12_plansRails 79 = .ok (.goto 23, 3) := by decide +kernel
theorem dX12_plansRails_82 : decode cX12_plansRails 82 = .ok (.iload_n 1, 1) := by decide +kernel
theorem dX12_plansRails_83 : decode cX12_plansRails 83 = .ok (.aload_n 0, 1) := by decide +kernel
theorem dX12_plansRails_84 : decode cX12_plansRails 84 = .ok (.getfield 202, 3) := by decide +kernel
theorem dX12_plansRails_87 : decode cX12_plansRails 87 = .ok (.iload_n 3, 1) := by decide +kernel
theorem dX12_plansRails_88 : decode cX12_plansRails 88 = .ok (.iaload, 1) := by decide +kernel
theorem dX12_plansRails_89 : decode cX12_plansRails 89 = .ok (.aload_n 0, 1) := by decide +kernel
theorem dX12_plansRails_90 : decode cX12_plansRails 90 = .ok (.iload 4, 2) := by decide +kernel
theorem dX12_plansRails_92 : decode cX12_plansRails 92 = .ok (.invokevirtual 547, 3) := by decide +kernel
theorem dX12_plansRails_95 : decode cX12_plansRails 95 = .ok (.iconst (-1), 1) := by decide +kernel
theorem dX12_plansRails_96 : decode cX12_plansRails 96 = .ok (.ixor, 1) := by decide +kernel
theorem dX12_plansRails_97 : decode cX12_plansRails 97 = .ok (.iand, 1) := by decide +kernel
theorem dX12_plansRails_98 : decode cX12_plansRails 98 = .ok (.invokestatic 550, 3) := by decide +kernel
theorem dX12_plansRails_101 : decode cX12_plansRails 101 = .ok (.imul, 1) := by decide +kernel
theorem dX12_plansRails_102 : decode cX12_plansRails 102 = .ok (.iastore, 1) := by decide +kernel
theorem dX12_plansRails_103 : decode cX12_plansRails 103 = .ok (.iinc 4 1, 3) := by decide +kernel
theorem dX12_plansRails_106 : decode cX12_plansRails 106 = .ok (.goto (-55), 3) := by decide +kernel
theorem dX12_plansRails_109 : decode cX12_plansRails 109 = .ok (.iconst 0, 1) := by decide +kernel
theorem dX12_plansRails_110 : decode cX12_plansRails 110 = .ok (.istore 4, 2) := by decide +kernel
theorem dX12_plansRails_112 : decode cX12_plansRails 112 = .ok (.iload 4, 2) := by decide +kernel
theorem dX12_plansRails_114 : decode cX12_plansRails 114 = .ok (.iload_n 2, 1) := by decide +kernel
theorem dX12_plansRails_115 : decode cX12_plansRails 115 = .ok (.if_icmp .ge 114, 3) := by decide +kernel
theorem dX12_plansRails_118 : decode cX12_plansRails 118 = .ok (.ldc_w 543, 3) := by decide +kernel
theorem dX12_plansRails_121 : decode cX12_plansRails 121 = .ok (.istore 5, 2) := by decide +kernel
theorem dX12_plansRails_123 : decode cX12_plansRails 123 = .ok (.iconst 0, 1) := by decide +kernel
theorem dX12_plansRails_124 : decode cX12_plansRails 124 = .ok (.istore 6, 2) := by decide +kernel
theorem dX12_plansRails_126 : decode cX12_plansRails 126 = .ok (.iload 6, 2) := by decide +kernel
theorem dX12_plansRails_128 : decode cX12_plansRails 128 = .ok (.iload_n 2, 1) := by decide +kernel
theorem dX12_plansRails_129 : decode cX12_plansRails 129 = .ok (.if_icmp .ge 79, 3) := by decide +kernel
theorem dX12_plansRails_132 : decode cX12_plansRails 132 = .ok (.aload_n 0, 1) := by decide +kernel
theorem dX12_plansRails_133 : decode cX12_plansRails 133 = .ok (.getfield 208, 3) := by decide +kernel
theorem dX12_plansRails_136 : decode cX12_plansRails 136 = .ok (.iload 6, 2) := by decide +kernel
theorem dX12_plansRails_138 : decode cX12_plansRails 138 = .ok (.iaload, 1) := by decide +kernel
theorem dX12_plansRails_139 : decode cX12_plansRails 139 = .ok (.ldc_w 543, 3) := by decide +kernel
theorem dX12_plansRails_142 : decode cX12_plansRails 142 = .ok (.if_icmp .ne 6, 3) := by decide +kernel
theorem dX12_plansRails_145 : decode cX12_plansRails 145 = .ok (.goto 57, 3) := by decide +kernel
theorem dX12_plansRails_148 : decode cX12_plansRails 148 = .ok (.aload_n 0, 1) := by decide +kernel
theorem dX12_plansRails_149 : decode cX12_plansRails 149 = .ok (.getfield 211, 3) := by decide +kernel
theorem dX12_plansRails_152 : decode cX12_plansRails 152 = .ok (.iload 6, 2) := by decide +kernel
theorem dX12_plansRails_154 : decode cX12_plansRails 154 = .ok (.iload 4, 2) := by decide +kernel
theorem dX12_plansRails_156 : decode cX12_plansRails 156 = .ok (.iconst (-1), 1) := by decide +kernel
theorem dX12_plansRails_157 : decode cX12_plansRails 157 = .ok (.ixor, 1) := by decide +kernel
theorem dX12_plansRails_158 : decode cX12_plansRails 158 = .ok (.iand, 1) := by decide +kernel
theorem dX12_plansRails_159 : decode cX12_plansRails 159 = .ok (.iaload, 1) := by decide +kernel
theorem dX12_plansRails_160 : decode cX12_plansRails 160 = .ok (.aload_n 0, 1) := by decide +kernel
theorem dX12_plansRails_161 : decode cX12_plansRails 161 = .ok (.getfield 208, 3) := by decide +kernel
theorem dX12_plansRails_164 : decode cX12_plansRails 164 = .ok (.iload 6, 2) := by decide +kernel
theorem dX12_plansRails_166 : decode cX12_plansRails 166 = .ok (.iaload, 1) := by decide +kernel
theorem dX12_plansRails_167 : decode cX12_plansRails 167 = .ok (.iadd, 1) := by decide +kernel
theorem dX12_plansRails_168 : decode cX12_plansRails 168 = .ok (.aload_n 0, 1) := by decide +kernel
theorem dX12_plansRails_169 : decode cX12_plansRails 169 = .ok (.getfield 205, 3) := by decide +kernel
theorem dX12_plansRails_172 : decode cX12_plansRails 172 = .ok (.sipush 512, 3) := by decide +kernel
theorem dX12_plansRails_175 : decode cX12_plansRails 175 = .ok (.iload_n 3, 1) := by decide +kernel
theorem dX12_plansRails_176 : decode cX12_plansRails 176 = .ok (.iconst 1, 1) := by decide +kernel
theorem dX12_plansRails_177 : decode cX12_plansRails 177 = .ok (.iadd, 1) := by decide +kernel
theorem dX12_plansRails_178 : decode cX12_plansRails 178 = .ok (.imul, 1) := by decide +kernel
theorem dX12_plansRails_179 : decode cX12_plansRails 179 = .ok (.iload 6, 2) := by decide +kernel
theorem dX12_plansRails_181 : decode cX12_plansRails 181 = .ok (.iadd, 1) := by decide +kernel
theorem dX12_plansRails_182 : decode cX12_plansRails 182 = .ok (.iaload, 1) := by decide +kernel
theorem dX12_plansRails_183 : decode cX12_plansRails 183 = .ok (.iadd, 1) := by decide +kernel
theorem dX12_plansRails_184 : decode cX12_plansRails 184 = .ok (.istore 7, 2) := by decide +kernel
theorem dX12_plansRails_186 : decode cX12_plansRails 186 = .ok (.iload 7, 2) := by decide +kernel
theorem dX12_plansRails_188 : decode cX12_plansRails 188 = .ok (.iload 5, 2) := by decide +kernel
theorem dX12_plansRails_190 : decode cX12_plansRails 190 = .ok (.if_icmp .ge 8, 3) := by decide +kernel
theorem dX12_plansRails_193 : decode cX12_plansRails 193 = .ok (.iload 7, 2) := by decide +kernel
theorem dX12_plansRails_195 : decode cX12_plansRails 195 = .ok (.goto 5, 3) := by decide +kernel
theorem dX12_plansRails_198 : decode cX12_plansRails 198 = .ok (.iload 5, 2) := by decide +kernel
theorem dX12_plansRails_200 : decode cX12_plansRails 200 = .ok (.istore 5, 2) := by decide +kernel
theorem dX12_plansRails_202 : decode cX12_plansRails 202 = .ok (.iinc 6 1, 3) := by decide +kernel
theorem dX12_plansRails_205 : decode cX12_plansRails 205 = .ok (.goto (-79), 3) := by decide +kernel
theorem dX12_plansRails_208 : decode cX12_plansRails 208 = .ok (.aload_n 0, 1) := by decide +kernel
theorem dX12_plansRails_209 : decode cX12_plansRails 209 = .ok (.getfield 205, 3) := by decide +kernel
theorem dX12_plansRails_212 : decode cX12_plansRails 212 = .ok (.sipush 512, 3) := by decide +kernel
theorem dX12_plansRails_215 : decode cX12_plansRails 215 = .ok (.iload_n 3, 1) := by decide +kernel
theorem dX12_plansRails_216 : decode cX12_plansRails 216 = .ok (.imul, 1) := by decide +kernel
theorem dX12_plansRails_217 : decode cX12_plansRails 217 = .ok (.iload 4, 2) := by decide +kernel
theorem dX12_plansRails_219 : decode cX12_plansRails 219 = .ok (.iadd, 1) := by decide +kernel
theorem dX12_plansRails_220 : decode cX12_plansRails 220 = .ok (.iload 5, 2) := by decide +kernel
theorem dX12_plansRails_222 : decode cX12_plansRails 222 = .ok (.iastore, 1) := by decide +kernel
theorem dX12_plansRails_223 : decode cX12_plansRails 223 = .ok (.iinc 4 1, 3) := by decide +kernel
theorem dX12_plansRails_226 : decode cX12_plansRails 226 = .ok (.goto (-114), 3) := by decide +kernel
theorem dX12_plansRails_229 : decode cX12_plansRails 229 = .ok (.iinc 3 (-1), 3) := by decide +kernel
theorem dX12_plansRails_232 : decode cX12_plansRails 232 = .ok (.goto (-188), 3) := by decide +kernel
theorem dX12_plansRails_235 : decode cX12_plansRails 235 = .ok (.return_, 1) := by decide +kernel
theorem dX12_rails_0 : decode cX12_rails 0 = .ok (.aload_n 0, 1) := by decide +kernel
theorem dX12_rails_1 : decode cX12_rails 1 = .ok (.iconst 0, 1) := by decide +kernel
theorem dX12_rails_2 : decode cX12_rails 2 = .ok (.putfield 235, 3) := by decide +kernel
theorem dX12_rails_5 : decode cX12_rails 5 = .ok (.iload_n 1, 1) := by decide +kernel
theorem dX12_rails_6 : decode cX12_rails 6 = .ok (.iconst 0, 1) := by decide +kernel
theorem dX12_rails_7 : decode cX12_rails 7 = .ok (.sipush 999, 3) := by decide +kernel
theorem dX12_rails_10 : decode cX12_rails 10 = .ok (.invokestatic 238, 3) := by decide +kernel
theorem dX12_rails_13 : decode cX12_rails 13 = .ok (.ifCond .ne 5, 3) := by decide +kernel
theorem dX12_rails_16 : decode cX12_rails 16 = .ok (.iconst (-1), 1) := by decide +kernel
theorem dX12_rails_17 : decode cX12_rails 17 = .ok (.ireturn, 1) := by decide +kernel
theorem dX12_rails_18 : decode cX12_rails 18 = .ok (.aload_n 0, 1) := by decide +kernel
theorem dX12_rails_19 : decode cX12_rails 19 = .ok (.iload_n 1, 1) := by decide +kernel
theorem dX12_rails_20 : decode cX12_rails 20 = .ok (.invokevirtual 555, 3) := by decide +kernel
theorem dX12_rails_23 : decode cX12_rails 23 = .ok (.aload_n 0, 1) := by decide +kernel
theorem dX12_rails_24 : decode cX12_rails 24 = .ok (.getfield 205, 3) := by decide +kernel
theorem dX12_rails_27 : decode cX12_rails 27 = .ok (.iconst 0, 1) := by decide +kernel
theorem dX12_rails_28 : decode cX12_rails 28 = .ok (.iaload, 1) := by decide +kernel
theorem dX12_rails_29 : decode cX12_rails 29 = .ok (.ireturn, 1) := by decide +kernel
theorem dX12_railsOf_0 : decode cX12_railsOf 0 = .ok (.aload_n 0, 1) := by decide +kernel
theorem dX12_railsOf_1 : decode cX12_railsOf 1 = .ok (.iconst 0, 1) := by decide +kernel
theorem dX12_railsOf_2 : decode cX12_railsOf 2 = .ok (.putfield 235, 3) := by decide +kernel
theorem dX12_railsOf_5 : decode cX12_railsOf 5 = .ok (.iload_n 1, 1) := by decide +kernel
theorem dX12_railsOf_6 : decode cX12_railsOf 6 = .ok (.iconst 0, 1) := by decide +kernel
theorem dX12_railsOf_7 : decode cX12_railsOf 7 = .ok (.sipush 999, 3) := by decide +kernel
theorem dX12_railsOf_10 : decode cX12_railsOf 10 = .ok (.invokestatic 238, 3) := by decide +kernel
theorem dX12_railsOf_13 : decode cX12_railsOf 13 = .ok (.ifCond .eq 12, 3) := by decide +kernel
theorem dX12_railsOf_16 : decode cX12_railsOf 16 = .ok (.iload_n 2, 1) := by decide +kernel
theorem dX12_railsOf_17 : decode cX12_railsOf 17 = .ok (.iconst 0, 1) := by decide +kernel
theorem dX12_railsOf_18 : decode cX12_railsOf 18 = .ok (.iconst 3, 1) := by decide +kernel
theorem dX12_railsOf_19 : decode cX12_railsOf 19 = .ok (.invokestatic 238, 3) := by decide +kernel
theorem dX12_railsOf_22 : decode cX12_railsOf 22 = .ok (.ifCond .ne 5, 3) := by decide +kernel
theorem dX12_railsOf_25 : decode cX12_railsOf 25 = .ok (.iconst (-1), 1) := by decide +kernel
theorem dX12_railsOf_26 : decode cX12_railsOf 26 = .ok (.ireturn, 1) := by decide +kernel
theorem dX12_railsOf_27 : decode cX12_railsOf 27 = .ok (.aload_n 0, 1) := by decide +kernel
theorem dX12_railsOf_28 : decode cX12_railsOf 28 = .ok (.iload_n 1, 1) := by decide +kernel
theorem dX12_railsOf_29 : decode cX12_railsOf 29 = .ok (.invokevirtual 555, 3) := by decide +kernel
theorem dX12_railsOf_32 : decode cX12_railsOf 32 = .ok (.iconst 0, 1) := by decide +kernel
theorem dX12_railsOf_33 : decode cX12_railsOf 33 = .ok (.istore_n 3, 1) := by decide +kernel
theorem dX12_railsOf_34 : decode cX12_railsOf 34 = .ok (.iconst 0, 1) := by decide +kernel
theorem dX12_railsOf_35 : decode cX12_railsOf 35 = .ok (.istore 4, 2) := by decide +kernel
theorem dX12_railsOf_37 : decode cX12_railsOf 37 = .ok (.iload 4, 2) := by decide +kernel
theorem dX12_railsOf_39 : decode cX12_railsOf 39 = .ok (.iload_n 2, 1) := by decide +kernel
theorem dX12_railsOf_40 : decode cX12_railsOf 40 = .ok (.if_icmp .gt 80, 3) := by decide +kernel
theorem dX12_railsOf_43 : decode cX12_railsOf 43 = .ok (.iconst 0, 1) := by decide +kernel
theorem dX12_railsOf_44 : decode cX12_railsOf 44 = .ok (.istore 5, 2) := by decide +kernel
theorem dX12_railsOf_46 : decode cX12_railsOf 46 = .ok (.aload_n 0, 1) := by decide +kernel
theorem dX12_railsOf_47 : decode cX12_railsOf 47 = .ok (.iload 4, 2) := by decide +kernel
theorem dX12_railsOf_49 : decode cX12_railsOf 49 = .ok (.iload_n 3, 1) := by decide +kernel
theorem dX12_railsOf_50 : decode cX12_railsOf 50 = .ok (.iload 5, 2) := by decide +kernel
theorem dX12_railsOf_52 : decode cX12_railsOf 52 = .ok (.iload_n 1, 1) := by decide +kernel
theorem dX12_railsOf_53 : decode cX12_railsOf 53 = .ok (.invokevirtual 558, 3) := by decide +kernel
theorem dX12_railsOf_56 : decode cX12_railsOf 56 = .ok (.ldc_w 543, 3) := by decide +kernel
theorem dX12_railsOf_59 : decode cX12_railsOf 59 = .ok (.if_icmp .eq 46, 3) := by decide +kernel
theorem dX12_railsOf_62 : decode cX12_railsOf 62 = .ok (.aload_n 0, 1) := by decide +kernel
theorem dX12_railsOf_63 : decode cX12_railsOf 63 = .ok (.iload 4, 2) := by decide +kernel
theorem dX12_railsOf_65 : decode cX12_railsOf 65 = .ok (.iload_n 3, 1) := by decide +kernel
theorem dX12_railsOf_66 : decode cX12_railsOf 66 = .ok (.iload 5, 2) := by decide +kernel
theorem dX12_railsOf_68 : decode cX12_railsOf 68 = .ok (.iload_n 1, 1) := by decide +kernel
theorem dX12_railsOf_69 : decode cX12_railsOf 69 = .ok (.invokevirtual 558, 3) := by decide +kernel
theorem dX12_railsOf_72 : decode cX12_railsOf 72 = .ok (.aload_n 0, 1) := by decide +kernel
theorem dX12_railsOf_73 : decode cX12_railsOf 73 = .ok (.getfield 205, 3) := by decide +kernel
theorem dX12_railsOf_76 : decode cX12_railsOf 76 = .ok (.sipush 512, 3) := by decide +kernel
theorem dX12_railsOf_79 : decode cX12_railsOf 79 = .ok (.iload 4, 2) := by decide +kernel
theorem dX12_railsOf_81 : decode cX12_railsOf 81 = .ok (.iconst 1, 1) := by decide +kernel
theorem dX12_railsOf_82 : decode cX12_railsOf 82 = .ok (.iadd, 1) := by decide +kernel
theorem dX12_railsOf_83 : decode cX12_railsOf 83 = .ok (.imul, 1) := by decide +kernel
theorem dX12_railsOf_84 : decode cX12_railsOf 84 = .ok (.iload 5, 2) := by decide +kernel
theorem dX12_railsOf_86 : decode cX12_railsOf 86 = .ok (.iadd, 1) := by decide +kernel
theorem dX12_railsOf_87 : decode cX12_railsOf 87 = .ok (.iaload, 1) := by decide +kernel
theorem dX12_railsOf_88 : decode cX12_railsOf 88 = .ok (.iadd, 1) := by decide +kernel
theorem dX12_railsOf_89 : decode cX12_railsOf 89 = .ok (.aload_n 0, 1) := by decide +kernel
theorem dX12_railsOf_90 : decode cX12_railsOf 90 = .ok (.getfield 205, 3) := by decide +kernel
theorem dX12_railsOf_93 : decode cX12_railsOf 93 = .ok (.sipush 512, 3) := by decide +kernel
theorem dX12_railsOf_96 : decode cX12_railsOf 96 = .ok (.iload 4, 2) := by decide +kernel
theorem dX12_railsOf_98 : decode cX12_railsOf 98 = .ok (.imul, 1) := by decide +kernel
theorem dX12_railsOf_99 : decode cX12_railsOf 99 = .ok (.iload_n 3, 1) := by decide +kernel
theorem dX12_railsOf_100 : decode cX12_railsOf 100 = .ok (.iadd, 1) := by decide +kernel
theorem dX12_railsOf_101 : decode cX12_railsOf 101 = .ok (.iaload, 1) := by decide +kernel
theorem dX12_railsOf_102 : decode cX12_railsOf 102 = .ok (.if_icmp .eq 9, 3) := by decide +kernel
theorem dX12_railsOf_105 : decode cX12_railsOf 105 = .ok (.iinc 5 1, 3) := by decide +kernel
theorem dX12_railsOf_108 : decode cX12_railsOf 108 = .ok (.goto (-62), 3) := by decide +kernel
theorem dX12_railsOf_111 : decode cX12_railsOf 111 = .ok (.iload 5, 2) := by decide +kernel
theorem dX12_railsOf_113 : decode cX12_railsOf 113 = .ok (.istore_n 3, 1) := by decide +kernel
theorem dX12_railsOf_114 : decode cX12_railsOf 114 = .ok (.iinc 4 1, 3) := by decide +kernel
theorem dX12_railsOf_117 : decode cX12_railsOf 117 = .ok (.goto (-80), 3) := by decide +kernel
theorem dX12_railsOf_120 : decode cX12_railsOf 120 = .ok (.iload_n 3, 1) := by decide +kernel
theorem dX12_railsOf_121 : decode cX12_railsOf 121 = .ok (.ireturn, 1) := by decide +kernel
theorem dX12_stateOf_0 : decode cX12_stateOf 0 = .ok (.sipush 169, 3) := by decide +kernel
theorem dX12_stateOf_3 : decode cX12_stateOf 3 = .ok (.iload_n 0, 1) := by decide +kernel
theorem dX12_stateOf_4 : decode cX12_stateOf 4 = .ok (.imul, 1) := by decide +kernel
theorem dX12_stateOf_5 : decode cX12_stateOf 5 = .ok (.bipush 13, 2) := by decide +kernel
theorem dX12_stateOf_7 : decode cX12_stateOf 7 = .ok (.iload_n 1, 1) := by decide +kernel
theorem dX12_stateOf_8 : decode cX12_stateOf 8 = .ok (.imul, 1) := by decide +kernel
theorem dX12_stateOf_9 : decode cX12_stateOf 9 = .ok (.iadd, 1) := by decide +kernel
theorem dX12_stateOf_10 : decode cX12_stateOf 10 = .ok (.iload_n 2, 1) := by decide +kernel
theorem dX12_stateOf_11 : decode cX12_stateOf 11 = .ok (.iadd, 1) := by decide +kernel
theorem dX12_stateOf_12 : decode cX12_stateOf 12 = .ok (.ireturn, 1) := by decide +kernel
theorem dX12_withCut_0 : decode cX12_withCut 0 = .ok (.iconst 5, 1) := by decide +kernel
theorem dX12_withCut_1 : decode cX12_withCut 1 = .ok (.iload 6, 2) := by decide +kernel
theorem dX12_withCut_3 : decode cX12_withCut 3 = .ok (.imul, 1) := by decide +kernel
theorem dX12_withCut_4 : decode cX12_withCut 4 = .ok (.iconst 2, 1) := by decide +kernel
theorem dX12_withCut_5 : decode cX12_withCut 5 = .ok (.iload 7, 2) := by decide +kernel
theorem dX12_withCut_7 : decode cX12_withCut 7 = .ok (.imul, 1) := by decide +kernel
theorem dX12_withCut_8 : decode cX12_withCut 8 = .ok (.iadd, 1) := by decide +kernel
theorem dX12_withCut_9 : decode cX12_withCut 9 = .ok (.istore 8, 2) := by decide +kernel
theorem dX12_withCut_11 : decode cX12_withCut 11 = .ok (.iload 8, 2) := by decide +kernel
theorem dX12_withCut_13 : decode cX12_withCut 13 = .ok (.aload_n 0, 1) := by decide +kernel
theorem dX12_withCut_14 : decode cX12_withCut 14 = .ok (.getfield 562, 3) := by decide +kernel
theorem dX12_withCut_17 : decode cX12_withCut 17 = .ok (.aload_n 0, 1) := by decide +kernel
theorem dX12_withCut_18 : decode cX12_withCut 18 = .ok (.getfield 565, 3) := by decide +kernel
theorem dX12_withCut_21 : decode cX12_withCut 21 = .ok (.invokestatic 238, 3) := by decide +kernel
theorem dX12_withCut_24 : decode cX12_withCut 24 = .ok (.ifCond .ne 5, 3) := by decide +kernel
theorem dX12_withCut_27 : decode cX12_withCut 27 = .ok (.iconst (-1), 1) := by decide +kernel
theorem dX12_withCut_28 : decode cX12_withCut 28 = .ok (.ireturn, 1) := by decide +kernel
theorem dX12_withCut_29 : decode cX12_withCut 29 = .ok (.aload_n 0, 1) := by decide +kernel
theorem dX12_withCut_30 : decode cX12_withCut 30 = .ok (.getfield 214, 3) := by decide +kernel
theorem dX12_withCut_33 : decode cX12_withCut 33 = .ok (.sipush 2197, 3) := by decide +kernel
theorem dX12_withCut_36 : decode cX12_withCut 36 = .ok (.iload_n 1, 1) := by decide +kernel
theorem dX12_withCut_37 : decode cX12_withCut 37 = .ok (.iconst 1, 1) := by decide +kernel
theorem dX12_withCut_38 : decode cX12_withCut 38 = .ok (.iadd, 1) := by decide +kernel
theorem dX12_withCut_39 : decode cX12_withCut 39 = .ok (.imul, 1) := by decide +kernel
theorem dX12_withCut_40 : decode cX12_withCut 40 = .ok (.iload 6, 2) := by decide +kernel
theorem dX12_withCut_42 : decode cX12_withCut 42 = .ok (.iload 7, 2) := by decide +kernel
theorem dX12_withCut_44 : decode cX12_withCut 44 = .ok (.iadd, 1) := by decide +kernel
theorem dX12_withCut_45 : decode cX12_withCut 45 = .ok (.iload_n 2, 1) := by decide +kernel
theorem dX12_withCut_46 : decode cX12_withCut 46 = .ok (.iload_n 3, 1) := by decide +kernel
theorem dX12_withCut_47 : decode cX12_withCut 47 = .ok (.invokestatic 568, 3) := by decide +kernel
theorem dX12_withCut_50 : decode cX12_withCut 50 = .ok (.iadd, 1) := by decide +kernel
theorem dX12_withCut_51 : decode cX12_withCut 51 = .ok (.iaload, 1) := by decide +kernel
theorem dX12_withCut_52 : decode cX12_withCut 52 = .ok (.istore 9, 2) := by decide +kernel
theorem dX12_withCut_54 : decode cX12_withCut 54 = .ok (.iload 9, 2) := by decide +kernel
theorem dX12_withCut_56 : decode cX12_withCut 56 = .ok (.iconst (-1), 1) := by decide +kernel
theorem dX12_withCut_57 : decode cX12_withCut 57 = .ok (.if_icmp .ne 7, 3) := by decide +kernel
theorem dX12_withCut_60 : decode cX12_withCut 60 = .ok (.iconst (-1), 1) := by decide +kernel
theorem dX12_withCut_61 : decode cX12_withCut 61 = .ok (.goto 8, 3) := by decide +kernel
theorem dX12_withCut_64 : decode cX12_withCut 64 = .ok (.iload 8, 2) := by decide +kernel
theorem dX12_withCut_66 : decode cX12_withCut 66 = .ok (.iload 9, 2) := by decide +kernel
theorem dX12_withCut_68 : decode cX12_withCut 68 = .ok (.iadd, 1) := by decide +kernel
theorem dX12_withCut_69 : decode cX12_withCut 69 = .ok (.ireturn, 1) := by decide +kernel
theorem dX12_plansCuts_0 : decode cX12_plansCuts 0 = .ok (.iconst 0, 1) := by decide +kernel
theorem dX12_plansCuts_1 : decode cX12_plansCuts 1 = .ok (.istore_n 2, 1) := by decide +kernel
theorem dX12_plansCuts_2 : decode cX12_plansCuts 2 = .ok (.iload_n 2, 1) := by decide +kernel
theorem dX12_plansCuts_3 : decode cX12_plansCuts 3 = .ok (.aload_n 0, 1) := by decide +kernel
theorem dX12_plansCuts_4 : decode cX12_plansCuts 4 = .ok (.getfield 571, 3) := by decide +kernel
theorem dX12_plansCuts_7 : decode cX12_plansCuts 7 = .ok (.if_icmp .gt 85, 3) := by decide +kernel
theorem dX12_plansCuts_10 : decode cX12_plansCuts 10 = .ok (.iconst 0, 1) := by decide +kernel
theorem dX12_plansCuts_11 : decode cX12_plansCuts 11 = .ok (.istore_n 3, 1) := by decide +kernel
theorem dX12_plansCuts_12 : decode cX12_plansCuts 12 = .ok (.iload_n 2, 1) := by decide +kernel
theorem dX12_plansCuts_13 : decode cX12_plansCuts 13 = .ok (.iload_n 3, 1) := by decide +kernel
theorem dX12_plansCuts_14 : decode cX12_plansCuts 14 = .ok (.iadd, 1) := by decide +kernel
theorem dX12_plansCuts_15 : decode cX12_plansCuts 15 = .ok (.aload_n 0, 1) := by decide +kernel
theorem dX12_plansCuts_16 : decode cX12_plansCuts 16 = .ok (.getfield 571, 3) := by decide +kernel
theorem dX12_plansCuts_19 : decode cX12_plansCuts 19 = .ok (.if_icmp .gt 67, 3) := by decide +kernel
theorem dX12_plansCuts_22 : decode cX12_plansCuts 22 = .ok (.iconst 0, 1) := by decide +kernel
theorem dX12_plansCuts_23 : decode cX12_plansCuts 23 = .ok (.istore 4, 2) := by decide +kernel
theorem dX12_plansCuts_25 : decode cX12_plansCuts 25 = .ok (.iload_n 2, 1) := by decide +kernel
theorem dX12_plansCuts_26 : decode cX12_plansCuts 26 = .ok (.iload_n 3, 1) := by decide +kernel
theorem dX12_plansCuts_27 : decode cX12_plansCuts 27 = .ok (.iadd, 1) := by decide +kernel
theorem dX12_plansCuts_28 : decode cX12_plansCuts 28 = .ok (.iload 4, 2) := by decide +kernel
theorem dX12_plansCuts_30 : decode cX12_plansCuts 30 = .ok (.iadd, 1) := by decide +kernel
theorem dX12_plansCuts_31 : decode cX12_plansCuts 31 = .ok (.aload_n 0, 1) := by decide +kernel
theorem dX12_plansCuts_32 : decode cX12_plansCuts 32 = .ok (.getfield 571, 3) := by decide +kernel
theorem dX12_plansCuts_35 : decode cX12_plansCuts 35 = .ok (.if_icmp .gt 45, 3) := by decide +kernel
theorem dX12_plansCuts_38 : decode cX12_plansCuts 38 = .ok (.aload_n 0, 1) := by decide +kernel
theorem dX12_plansCuts_39 : decode cX12_plansCuts 39 = .ok (.getfield 214, 3) := by decide +kernel
theorem dX12_plansCuts_42 : decode cX12_plansCuts 42 = .ok (.sipush 17576, 3) := by decide +kernel
theorem dX12_plansCuts_45 : decode cX12_plansCuts 45 = .ok (.iload_n 2, 1) := by decide +kernel
theorem dX12_plansCuts_46 : decode cX12_plansCuts 46 = .ok (.iload_n 3, 1) := by decide +kernel
theorem dX12_plansCuts_47 : decode cX12_plansCuts 47 = .ok (.iload 4, 2) := by decide +kernel
theorem dX12_plansCuts_49 : decode cX12_plansCuts 49 = .ok (.invokestatic 568, 3) := by decide +kernel
theorem dX12_plansCuts_52 : decode cX12_plansCuts 52 = .ok (.iadd, 1) := by decide +kernel
theorem dX12_plansCuts_53 : decode cX12_plansCuts 53 = .ok (.aload_n 0, 1) := by decide +kernel
theorem dX12_plansCuts_54 : decode cX12_plansCuts 54 = .ok (.getfield 571, 3) := by decide +kernel
theorem dX12_plansCuts_57 : decode cX12_plansCuts 57 = .ok (.iload_n 2, 1) := by decide +kernel
theorem dX12_plansCuts_58 : decode cX12_plansCuts 58 = .ok (.isub, 1) := by decide +kernel
theorem dX12_plansCuts_59 : decode cX12_plansCuts 59 = .ok (.iload_n 3, 1) := by decide +kernel
theorem dX12_plansCuts_60 : decode cX12_plansCuts 60 = .ok (.isub, 1) := by decide +kernel
theorem dX12_plansCuts_61 : decode cX12_plansCuts 61 = .ok (.iload 4, 2) := by decide +kernel
theorem dX12_plansCuts_63 : decode cX12_plansCuts 63 = .ok (.isub, 1) := by decide +kernel
theorem dX12_plansCuts_64 : decode cX12_plansCuts 64 = .ok (.iload_n 1, 1) := by decide +kernel
theorem dX12_plansCuts_65 : decode cX12_plansCuts 65 = .ok (.if_icmp .lt 7, 3) := by decide +kernel
theorem dX12_plansCuts_68 : decode cX12_plansCuts 68 = .ok (.iconst 0, 1) := by decide +kernel
theorem dX12_plansCuts_69 : decode cX12_plansCuts 69 = .ok (.goto 4, 3) := by decide +kernel
theorem dX12_plansCuts_72 : decode cX12_plansCuts 72 = .ok (.iconst (-1), 1) := by decide +kernel
theorem dX12_plansCuts_73 : decode cX12_plansCuts 73 = .ok (.iastore, 1) := by decide +kernel
theorem dX12_plansCuts_74 : decode cX12_plansCuts 74 = .ok (.iinc 4 1, 3) := by decide +kernel
theorem dX12_plansCuts_77 : decode cX12_plansCuts 77 = .ok (.goto (-52), 3) := by decide +kernel
theorem dX12_plansCuts_80 : decode cX12_plansCuts 80 = .ok (.iinc 3 1, 3) := by decide +kernel
theorem dX12_plansCuts_83 : decode cX12_plansCuts 83 = .ok (.goto (-71), 3) := by decide +kernel
theorem dX12_plansCuts_86 : decode cX12_plansCuts 86 = .ok (.iinc 2 1, 3) := by decide +kernel
theorem dX12_plansCuts_89 : decode cX12_plansCuts 89 = .ok (.goto (-87), 3) := by decide +kernel
theorem dX12_plansCuts_92 : decode cX12_plansCuts 92 = .ok (.bipush 7, 2) := by decide +kernel
theorem dX12_plansCuts_94 : decode cX12_plansCuts 94 = .ok (.istore_n 2, 1) := by decide +kernel
theorem dX12_plansCuts_95 : decode cX12_plansCuts 95 = .ok (.iload_n 2, 1) := by decide +kernel
theorem dX12_plansCuts_96 : decode cX12_plansCuts 96 = .ok (.ifCond .lt 97, 3) := by decide +kernel
theorem dX12_plansCuts_99 : decode cX12_plansCuts 99 = .ok (.iconst 0, 1) := by decide +kernel
theorem dX12_plansCuts_100 : decode cX12_plansCuts 100 = .ok (.istore_n 3, 1) := by decide +kernel
theorem dX12_plansCuts_101 : decode cX12_plansCuts 101 = .ok (.iload_n 3, 1) := by decide +kernel
theorem dX12_plansCuts_102 : decode cX12_plansCuts 102 = .ok (.aload_n 0, 1) := by decide +kernel
theorem dX12_plansCuts_103 : decode cX12_plansCuts 103 = .ok (.getfield 571, 3) := by decide +kernel
theorem dX12_plansCuts_106 : decode cX12_plansCuts 106 = .ok (.if_icmp .gt 81, 3) := by decide +kernel
theorem dX12_plansCuts_109 : decode cX12_plansCuts 109 = .ok (.iconst 0, 1) := by decide +kernel
theorem dX12_plansCuts_110 : decode cX12_plansCuts 110 = .ok (.istore 4, 2) := by decide +kernel
theorem dX12_plansCuts_112 : decode cX12_plansCuts 112 = .ok (.iload_n 3, 1) := by decide +kernel
theorem dX12_plansCuts_113 : decode cX12_plansCuts 113 = .ok (.iload 4, 2) := by decide +kernel
theorem dX12_plansCuts_115 : decode cX12_plansCuts 115 = .ok (.iadd, 1) := by decide +kernel
theorem dX12_plansCuts_116 : decode cX12_plansCuts 116 = .ok (.aload_n 0, 1) := by decide +kernel
theorem dX12_plansCuts_117 : decode cX12_plansCuts 117 = .ok (.getfield 571, 3) := by decide +kernel
theorem dX12_plansCuts_120 : decode cX12_plansCuts 120 = .ok (.if_icmp .gt 61, 3) := by decide +kernel
theorem dX12_plansCuts_123 : decode cX12_plansCuts 123 = .ok (.iconst 0, 1) := by decide +kernel
theorem dX12_plansCuts_124 : decode cX12_plansCuts 124 = .ok (.istore 5, 2) := by decide +kernel
theorem dX12_plansCuts_126 : decode cX12_plansCuts 126 = .ok (.iload_n 3, 1) := by decide +kernel
theorem dX12_plansCuts_127 : decode cX12_plansCuts 127 = .ok (.iload 4, 2) := by decide +kernel
theorem dX12_plansCuts_129 : decode cX12_plansCuts 129 = .ok (.iadd, 1) := by decide +kernel
theorem dX12_plansCuts_130 : decode cX12_plansCuts 130 = .ok (.iload 5, 2) := by decide +kernel
theorem dX12_plansCuts_132 : decode cX12_plansCuts 132 = .ok (.iadd, 1) := by decide +kernel
theorem dX12_plansCuts_133 : decode cX12_plansCuts 133 = .ok (.aload_n 0, 1) := by decide +kernel
theorem dX12_plansCuts_134 : decode cX12_plansCuts 134 = .ok (.getfield 571, 3) := by decide +kernel
theorem dX12_plansCuts_137 : decode cX12_plansCuts 137 = .ok (.if_icmp .gt 38, 3) := by decide +kernel
theorem dX12_plansCuts_140 : decode cX12_plansCuts 140 = .ok (.aload_n 0, 1) := by decide +kernel
theorem dX12_plansCuts_141 : decode cX12_plansCuts 141 = .ok (.getfield 214, 3) := by decide +kernel
theorem dX12_plansCuts_144 : decode cX12_plansCuts 144 = .ok (.sipush 2197, 3) := by decide +kernel
theorem dX12_plansCuts_147 : decode cX12_plansCuts 147 = .ok (.iload_n 2, 1) := by decide +kernel
theorem dX12_plansCuts_148 : decode cX12_plansCuts 148 = .ok (.imul, 1) := by decide +kernel
theorem dX12_plansCuts_149 : decode cX12_plansCuts 149 = .ok (.iload_n 3, 1) := by decide +kernel
theorem dX12_plansCuts_150 : decode cX12_plansCuts 150 = .ok (.iload 4, 2) := by decide +kernel
theorem dX12_plansCuts_152 : decode cX12_plansCuts 152 = .ok (.iload 5, 2) := by decide +kernel
theorem dX12_plansCuts_154 : decode cX12_plansCuts 154 = .ok (.invokestatic 568, 3) := by decide +kernel
theorem dX12_plansCuts_157 : decode cX12_plansCuts 157 = .ok (.iadd, 1) := by decide +kernel
theorem dX12_plansCuts_158 : decode cX12_plansCuts 158 = .ok (.aload_n 0, 1) := by decide +kernel
theorem dX12_plansCuts_159 : decode cX12_plansCuts 159 = .ok (.iload_n 2, 1) := by decide +kernel
theorem dX12_plansCuts_160 : decode cX12_plansCuts 160 = .ok (.iload_n 3, 1) := by decide +kernel
theorem dX12_plansCuts_161 : decode cX12_plansCuts 161 = .ok (.iload 4, 2) := by decide +kernel
theorem dX12_plansCuts_163 : decode cX12_plansCuts 163 = .ok (.iload 5, 2) := by decide +kernel
theorem dX12_plansCuts_165 : decode cX12_plansCuts 165 = .ok (.invokevirtual 574, 3) := by decide +kernel
theorem dX12_plansCuts_168 : decode cX12_plansCuts 168 = .ok (.iastore, 1) := by decide +kernel
theorem dX12_plansCuts_169 : decode cX12_plansCuts 169 = .ok (.iinc 5 1, 3) := by decide +kernel
theorem dX12_plansCuts_172 : decode cX12_plansCuts 172 = .ok (.goto (-46), 3) := by decide +kernel
theorem dX12_plansCuts_175 : decode cX12_plansCuts 175 = .ok (.iinc 4 1, 3) := by decide +kernel
theorem dX12_plansCuts_178 : decode cX12_plansCuts 178 = .ok (.goto (-66), 3) := by decide +kernel
theorem dX12_plansCuts_181 : decode cX12_plansCuts 181 = .ok (.iinc 3 1, 3) := by decide +kernel
theorem dX12_plansCuts_184 : decode cX12_plansCuts 184 = .ok (.goto (-83), 3) := by decide +kernel
theorem dX12_plansCuts_187 : decode cX12_plansCuts 187 = .ok (.iinc 2 (-1), 3) := by decide +kernel
theorem dX12_plansCuts_190 : decode cX12_plansCuts 190 = .ok (.goto (-95), 3) := by decide +kernel
theorem dX12_plansCuts_193 : decode cX12_plansCuts 193 = .ok (.return_, 1) := by decide +kernel
theorem dX12_bestCut_0 : decode cX12_bestCut 0 = .ok (.aload_n 0, 1) := by decide +kernel
theorem dX12_bestCut_1 : decode cX12_bestCut 1 = .ok (.getfield 571, 3) := by decide +kernel
theorem dX12_bestCut_4 : decode cX12_bestCut 4 = .ok (.iload_n 2, 1) := by decide +kernel
theorem dX12_bestCut_5 : decode cX12_bestCut 5 = .ok (.isub, 1) := by decide +kernel
theorem dX12_bestCut_6 : decode cX12_bestCut 6 = .ok (.iload_n 3, 1) := by decide +kernel
theorem dX12_bestCut_7 : decode cX12_bestCut 7 = .ok (.isub, 1) := by decide +kernel
theorem dX12_bestCut_8 : decode cX12_bestCut 8 = .ok (.iload 4, 2) := by decide +kernel
theorem dX12_bestCut_10 : decode cX12_bestCut 10 = .ok (.isub, 1) := by decide +kernel
theorem dX12_bestCut_11 : decode cX12_bestCut 11 = .ok (.istore 5, 2) := by decide +kernel
theorem dX12_bestCut_13 : decode cX12_bestCut 13 = .ok (.iconst (-1), 1) := by decide +kernel
theorem dX12_bestCut_14 : decode cX12_bestCut 14 = .ok (.istore 6, 2) := by decide +kernel
theorem dX12_bestCut_16 : decode cX12_bestCut 16 = .ok (.iconst 0, 1) := by decide +kernel
theorem dX12_bestCut_17 : decode cX12_bestCut 17 = .ok (.istore 7, 2) := by decide +kernel
theorem dX12_bestCut_19 : decode cX12_bestCut 19 = .ok (.iload 7, 2) := by decide +kernel
theorem dX12_bestCut_21 : decode cX12_bestCut 21 = .ok (.iload 5, 2) := by decide +kernel
theorem dX12_bestCut_23 : decode cX12_bestCut 23 = .ok (.if_icmp .gt 47, 3) := by decide +kernel
theorem dX12_bestCut_26 : decode cX12_bestCut 26 = .ok (.iconst 0, 1) := by decide +kernel
theorem dX12_bestCut_27 : decode cX12_bestCut 27 = .ok (.istore 8, 2) := by decide +kernel
theorem dX12_bestCut_29 : decode cX12_bestCut 29 = .ok (.iload 8, 2) := by decide +kernel
theorem dX12_bestCut_31 : decode cX12_bestCut 31 = .ok (.iload 4, 2) := by decide +kernel
theorem dX12_bestCut_33 : decode cX12_bestCut 33 = .ok (.if_icmp .gt 31, 3) := by decide +kernel
theorem dX12_bestCut_36 : decode cX12_bestCut 36 = .ok (.iload 6, 2) := by decide +kernel
theorem dX12_bestCut_38 : decode cX12_bestCut 38 = .ok (.aload_n 0, 1) := by decide +kernel
theorem dX12_bestCut_39 : decode cX12_bestCut 39 = .ok (.iload_n 1, 1) := by decide +kernel
theorem dX12_bestCut_40 : decode cX12_bestCut 40 = .ok (.iload_n 2, 1) := by decide +kernel
theorem dX12_bestCut_41 : decode cX12_bestCut 41 = .ok (.iload_n 3, 1) := by decide +kernel
theorem dX12_bestCut_42 : decode cX12_bestCut 42 = .ok (.iload 4, 2) := by decide +kernel
theorem dX12_bestCut_44 : decode cX12_bestCut 44 = .ok (.iload 5, 2) := by decide +kernel
theorem dX12_bestCut_46 : decode cX12_bestCut 46 = .ok (.iload 7, 2) := by decide +kernel
theorem dX12_bestCut_48 : decode cX12_bestCut 48 = .ok (.iload 8, 2) := by decide +kernel
theorem dX12_bestCut_50 : decode cX12_bestCut 50 = .ok (.invokevirtual 577, 3) := by decide +kernel
theorem dX12_bestCut_53 : decode cX12_bestCut 53 = .ok (.invokestatic 517, 3) := by decide +kernel
theorem dX12_bestCut_56 : decode cX12_bestCut 56 = .ok (.istore 6, 2) := by decide +kernel
theorem dX12_bestCut_58 : decode cX12_bestCut 58 = .ok (.iinc 8 1, 3) := by decide +kernel
theorem dX12_bestCut_61 : decode cX12_bestCut 61 = .ok (.goto (-32), 3) := by decide +kernel
theorem dX12_bestCut_64 : decode cX12_bestCut 64 = .ok (.iinc 7 1, 3) := by decide +kernel
theorem dX12_bestCut_67 : decode cX12_bestCut 67 = .ok (.goto (-48), 3) := by decide +kernel
theorem dX12_bestCut_70 : decode cX12_bestCut 70 = .ok (.iload 6, 2) := by decide +kernel
theorem dX12_bestCut_72 : decode cX12_bestCut 72 = .ok (.ireturn, 1) := by decide +kernel
theorem dX12_forty_0 : decode cX12_forty 0 = .ok (.aload_n 0, 1) := by decide +kernel
theorem dX12_forty_1 : decode cX12_forty 1 = .ok (.iconst 0, 1) := by decide +kernel
theorem dX12_forty_2 : decode cX12_forty 2 = .ok (.putfield 235, 3) := by decide +kernel
theorem dX12_forty_5 : decode cX12_forty 5 = .ok (.iload_n 1, 1) := by decide +kernel
theorem dX12_forty_6 : decode cX12_forty 6 = .ok (.iconst 0, 1) := by decide +kernel
theorem dX12_forty_7 : decode cX12_forty 7 = .ok (.bipush 9, 2) := by decide +kernel
theorem dX12_forty_9 : decode cX12_forty 9 = .ok (.invokestatic 238, 3) := by decide +kernel
theorem dX12_forty_12 : decode cX12_forty 12 = .ok (.ifCond .eq 80, 3) := by decide +kernel
theorem dX12_forty_15 : decode cX12_forty 15 = .ok (.iload_n 2, 1) := by decide +kernel
theorem dX12_forty_16 : decode cX12_forty 16 = .ok (.iconst 0, 1) := by decide +kernel
theorem dX12_forty_17 : decode cX12_forty 17 = .ok (.bipush 9, 2) := by decide +kernel
theorem dX12_forty_19 : decode cX12_forty 19 = .ok (.invokestatic 238, 3) := by decide +kernel
theorem dX12_forty_22 : decode cX12_forty 22 = .ok (.ifCond .eq 70, 3) := by decide +kernel
theorem dX12_forty_25 : decode cX12_forty 25 = .ok (.iload_n 3, 1) := by decide +kernel
theorem dX12_forty_26 : decode cX12_forty 26 = .ok (.iconst 0, 1) := by decide +kernel
theorem dX12_forty_27 : decode cX12_forty 27 = .ok (.bipush 9, 2) := by decide +kernel
theorem dX12_forty_29 : decode cX12_forty 29 = .ok (.invokestatic 238, 3) := by decide +kernel
theorem dX12_forty_32 : decode cX12_forty 32 = .ok (.ifCond .eq 60, 3) := by decide +kernel
theorem dX12_forty_35 : decode cX12_forty 35 = .ok (.iload 4, 2) := by decide +kernel
theorem dX12_forty_37 : decode cX12_forty 37 = .ok (.iconst 0, 1) := by decide +kernel
theorem dX12_forty_38 : decode cX12_forty 38 = .ok (.bipush 9, 2) := by decide +kernel
theorem dX12_forty_40 : decode cX12_forty 40 = .ok (.invokestatic 238, 3) := by decide +kernel
theorem dX12_forty_43 : decode cX12_forty 43 = .ok (.ifCond .eq 49, 3) := by decide +kernel
theorem dX12_forty_46 : decode cX12_forty 46 = .ok (.iload_n 1, 1) := by decide +kernel
theorem dX12_forty_47 : decode cX12_forty 47 = .ok (.iload_n 2, 1) := by decide +kernel
theorem dX12_forty_48 : decode cX12_forty 48 = .ok (.iadd, 1) := by decide +kernel
theorem dX12_forty_49 : decode cX12_forty 49 = .ok (.iload_n 3, 1) := by decide +kernel
theorem dX12_forty_50 : decode cX12_forty 50 = .ok (.iadd, 1) := by decide +kernel
theorem dX12_forty_51 : decode cX12_forty 51 = .ok (.iload 4, 2) := by decide +kernel
theorem dX12_forty_53 : decode cX12_forty 53 = .ok (.iadd, 1) := by decide +kernel
theorem dX12_forty_54 : decode cX12_forty 54 = .ok (.bipush 12, 2) := by decide +kernel
theorem dX12_forty_56 : decode cX12_forty 56 = .ok (.if_icmp .gt 36, 3) := by decide +kernel
theorem dX12_forty_59 : decode cX12_forty 59 = .ok (.iload 5, 2) := by decide +kernel
theorem dX12_forty_61 : decode cX12_forty 61 = .ok (.iconst 0, 1) := by decide +kernel
theorem dX12_forty_62 : decode cX12_forty 62 = .ok (.bipush 60, 2) := by decide +kernel
theorem dX12_forty_64 : decode cX12_forty 64 = .ok (.invokestatic 238, 3) := by decide +kernel
theorem dX12_forty_67 : decode cX12_forty 67 = .ok (.ifCond .eq 25, 3) := by decide +kernel
theorem dX12_forty_70 : decode cX12_forty 70 = .ok (.iload 6, 2) := by decide +kernel
theorem dX12_forty_72 : decode cX12_forty 72 = .ok (.iconst 0, 1) := by decide +kernel
theorem dX12_forty_73 : decode cX12_forty 73 = .ok (.bipush 60, 2) := by decide +kernel
theorem dX12_forty_75 : decode cX12_forty 75 = .ok (.invokestatic 238, 3) := by decide +kernel
theorem dX12_forty_78 : decode cX12_forty 78 = .ok (.ifCond .eq 14, 3) := by decide +kernel
theorem dX12_forty_81 : decode cX12_forty 81 = .ok (.iload 7, 2) := by decide +kernel
theorem dX12_forty_83 : decode cX12_forty 83 = .ok (.iconst 0, 1) := by decide +kernel
theorem dX12_forty_84 : decode cX12_forty 84 = .ok (.bipush 12, 2) := by decide +kernel
theorem dX12_forty_86 : decode cX12_forty 86 = .ok (.invokestatic 238, 3) := by decide +kernel
theorem dX12_forty_89 : decode cX12_forty 89 = .ok (.ifCond .ne 5, 3) := by decide +kernel
theorem dX12_forty_92 : decode cX12_forty 92 = .ok (.iconst (-1), 1) := by decide +kernel
theorem dX12_forty_93 : decode cX12_forty 93 = .ok (.ireturn, 1) := by decide +kernel
theorem dX12_forty_94 : decode cX12_forty 94 = .ok (.aload_n 0, 1) := by decide +kernel
theorem dX12_forty_95 : decode cX12_forty 95 = .ok (.iload_n 1, 1) := by decide +kernel
theorem dX12_forty_96 : decode cX12_forty 96 = .ok (.iload_n 2, 1) := by decide +kernel
theorem dX12_forty_97 : decode cX12_forty 97 = .ok (.iadd, 1) := by decide +kernel
theorem dX12_forty_98 : decode cX12_forty 98 = .ok (.iload_n 3, 1) := by decide +kernel
theorem dX12_forty_99 : decode cX12_forty 99 = .ok (.iadd, 1) := by decide +kernel
theorem dX12_forty_100 : decode cX12_forty 100 = .ok (.iload 4, 2) := by decide +kernel
theorem dX12_forty_102 : decode cX12_forty 102 = .ok (.iadd, 1) := by decide +kernel
theorem dX12_forty_103 : decode cX12_forty 103 = .ok (.putfield 571, 3) := by decide +kernel
theorem dX12_forty_106 : decode cX12_forty 106 = .ok (.aload_n 0, 1) := by decide +kernel
theorem dX12_forty_107 : decode cX12_forty 107 = .ok (.iload 5, 2) := by decide +kernel
theorem dX12_forty_109 : decode cX12_forty 109 = .ok (.putfield 562, 3) := by decide +kernel
theorem dX12_forty_112 : decode cX12_forty 112 = .ok (.aload_n 0, 1) := by decide +kernel
theorem dX12_forty_113 : decode cX12_forty 113 = .ok (.iload 6, 2) := by decide +kernel
theorem dX12_forty_115 : decode cX12_forty 115 = .ok (.putfield 565, 3) := by decide +kernel
theorem dX12_forty_118 : decode cX12_forty 118 = .ok (.aload_n 0, 1) := by decide +kernel
theorem dX12_forty_119 : decode cX12_forty 119 = .ok (.iload 7, 2) := by decide +kernel
theorem dX12_forty_121 : decode cX12_forty 121 = .ok (.invokevirtual 581, 3) := by decide +kernel
theorem dX12_forty_124 : decode cX12_forty 124 = .ok (.aload_n 0, 1) := by decide +kernel
theorem dX12_forty_125 : decode cX12_forty 125 = .ok (.getfield 214, 3) := by decide +kernel
theorem dX12_forty_128 : decode cX12_forty 128 = .ok (.iload_n 1, 1) := by decide +kernel
theorem dX12_forty_129 : decode cX12_forty 129 = .ok (.iload_n 2, 1) := by decide +kernel
theorem dX12_forty_130 : decode cX12_forty 130 = .ok (.iload_n 3, 1) := by decide +kernel
theorem dX12_forty_131 : decode cX12_forty 131 = .ok (.invokestatic 568, 3) := by decide +kernel
theorem dX12_forty_134 : decode cX12_forty 134 = .ok (.iaload, 1) := by decide +kernel
theorem dX12_forty_135 : decode cX12_forty 135 = .ok (.istore 8, 2) := by decide +kernel
theorem dX12_forty_137 : decode cX12_forty 137 = .ok (.iload 8, 2) := by decide +kernel
theorem dX12_forty_139 : decode cX12_forty 139 = .ok (.iconst (-1), 1) := by decide +kernel
theorem dX12_forty_140 : decode cX12_forty 140 = .ok (.if_icmp .ne 6, 3) := by decide +kernel
theorem dX12_forty_143 : decode cX12_forty 143 = .ok (.bipush (-2), 2) := by decide +kernel
theorem dX12_forty_145 : decode cX12_forty 145 = .ok (.ireturn, 1) := by decide +kernel
theorem dX12_forty_146 : decode cX12_forty 146 = .ok (.aload_n 0, 1) := by decide +kernel
theorem dX12_forty_147 : decode cX12_forty 147 = .ok (.iconst 1, 1) := by decide +kernel
theorem dX12_forty_148 : decode cX12_forty 148 = .ok (.putfield 584, 3) := by decide +kernel
theorem dX12_forty_151 : decode cX12_forty 151 = .ok (.iload_n 1, 1) := by decide +kernel
theorem dX12_forty_152 : decode cX12_forty 152 = .ok (.istore 9, 2) := by decide +kernel
theorem dX12_forty_154 : decode cX12_forty 154 = .ok (.iload_n 2, 1) := by decide +kernel
theorem dX12_forty_155 : decode cX12_forty 155 = .ok (.istore 10, 2) := by decide +kernel
theorem dX12_forty_157 : decode cX12_forty 157 = .ok (.iload_n 3, 1) := by decide +kernel
theorem dX12_forty_158 : decode cX12_forty 158 = .ok (.istore 11, 2) := by decide +kernel
theorem dX12_forty_160 : decode cX12_forty 160 = .ok (.iconst 0, 1) := by decide +kernel
theorem dX12_forty_161 : decode cX12_forty 161 = .ok (.istore 12, 2) := by decide +kernel
theorem dX12_forty_163 : decode cX12_forty 163 = .ok (.iload 12, 2) := by decide +kernel
theorem dX12_forty_165 : decode cX12_forty 165 = .ok (.bipush 8, 2) := by decide +kernel
theorem dX12_forty_167 : decode cX12_forty 167 = .ok (.if_icmp .ge 142, 3) := by decide +kernel
theorem dX12_forty_170 : decode cX12_forty 170 = .ok (.aload_n 0, 1) := by decide +kernel
theorem dX12_forty_171 : decode cX12_forty 171 = .ok (.getfield 571, 3) := by decide +kernel
theorem dX12_forty_174 : decode cX12_forty 174 = .ok (.iload 9, 2) := by decide +kernel
theorem dX12_forty_176 : decode cX12_forty 176 = .ok (.isub, 1) := by decide +kernel
theorem dX12_forty_177 : decode cX12_forty 177 = .ok (.iload 10, 2) := by decide +kernel
theorem dX12_forty_179 : decode cX12_forty 179 = .ok (.isub, 1) := by decide +kernel
theorem dX12_forty_180 : decode cX12_forty 180 = .ok (.iload 11, 2) := by decide +kernel
theorem dX12_forty_182 : decode cX12_forty 182 = .ok (.isub, 1) := by decide +kernel
theorem dX12_forty_183 : decode cX12_forty 183 = .ok (.istore 13, 2) := by decide +kernel
theorem dX12_forty_185 : decode cX12_forty 185 = .ok (.iconst 0, 1) := by decide +kernel
theorem dX12_forty_186 : decode cX12_forty 186 = .ok (.istore 14, 2) := by decide +kernel
theorem dX12_forty_188 : decode cX12_forty 188 = .ok (.iconst 0, 1) := by decide +kernel
theorem dX12_forty_189 : decode cX12_forty 189 = .ok (.istore 15, 2) := by decide +kernel
theorem dX12_forty_191 : decode cX12_forty 191 = .ok (.aload_n 0, 1) := by decide +kernel
theorem dX12_forty_192 : decode cX12_forty 192 = .ok (.iload 12, 2) := by decide +kernel
theorem dX12_forty_194 : decode cX12_forty 194 = .ok (.iload 9, 2) := by decide +kernel
theorem dX12_forty_196 : decode cX12_forty 196 = .ok (.iload 10, 2) := by decide +kernel
theorem dX12_forty_198 : decode cX12_forty 198 = .ok (.iload 11, 2) := by decide +kernel
theorem dX12_forty_200 : decode cX12_forty 200 = .ok (.iload 13, 2) := by decide +kernel
theorem dX12_forty_202 : decode cX12_forty 202 = .ok (.iload 14, 2) := by decide +kernel
theorem dX12_forty_204 : decode cX12_forty 204 = .ok (.iload 15, 2) := by decide +kernel
theorem dX12_forty_206 : decode cX12_forty 206 = .ok (.invokevirtual 577, 3) := by decide +kernel
theorem dX12_forty_209 : decode cX12_forty 209 = .ok (.aload_n 0, 1) := by decide +kernel
theorem dX12_forty_210 : decode cX12_forty 210 = .ok (.getfield 214, 3) := by decide +kernel
theorem dX12_forty_213 : decode cX12_forty 213 = .ok (.sipush 2197, 3) := by decide +kernel
theorem dX12_forty_216 : decode cX12_forty 216 = .ok (.iload 12, 2) := by decide +kernel
theorem dX12_forty_218 : decode cX12_forty 218 = .ok (.imul, 1) := by decide +kernel
theorem dX12_forty_219 : decode cX12_forty 219 = .ok (.iload 9, 2) := by decide +kernel
theorem dX12_forty_221 : decode cX12_forty 221 = .ok (.iload 10, 2) := by decide +kernel
theorem dX12_forty_223 : decode cX12_forty 223 = .ok (.iload 11, 2) := by decide +kernel
theorem dX12_forty_225 : decode cX12_forty 225 = .ok (.invokestatic 568, 3) := by decide +kernel
theorem dX12_forty_228 : decode cX12_forty 228 = .ok (.iadd, 1) := by decide +kernel
theorem dX12_forty_229 : decode cX12_forty 229 = .ok (.iaload, 1) := by decide +kernel
theorem dX12_forty_230 : decode cX12_forty 230 = .ok (.if_icmp .eq 40, 3) := by decide +kernel
theorem dX12_forty_233 : decode cX12_forty 233 = .ok (.iload 14, 2) := by decide +kernel
theorem dX12_forty_235 : decode cX12_forty 235 = .ok (.iload 15, 2) := by decide +kernel
theorem dX12_forty_237 : decode cX12_forty 237 = .ok (.iload 11, 2) := by decide +kernel
theorem dX12_forty_239 : decode cX12_forty 239 = .ok (.if_icmp .ne 7, 3) := by decide +kernel
theorem dX12_forty_242 : decode cX12_forty 242 = .ok (.iconst 1, 1) := by decide +kernel
theorem dX12_forty_243 : decode cX12_forty 243 = .ok (.goto 4, 3) := by decide +kernel
theorem dX12_forty_246 : decode cX12_forty 246 = .ok (.iconst 0, 1) := by decide +kernel
theorem dX12_forty_247 : decode cX12_forty 247 = .ok (.iadd, 1) := by decide +kernel
theorem dX12_forty_248 : decode cX12_forty 248 = .ok (.istore 14, 2) := by decide +kernel
theorem dX12_forty_250 : decode cX12_forty 250 = .ok (.iload 15, 2) := by decide +kernel
theorem dX12_forty_252 : decode cX12_forty 252 = .ok (.iload 11, 2) := by decide +kernel
theorem dX12_forty_254 : decode cX12_forty 254 = .ok (.if_icmp .ne 7, 3) := by decide +kernel
theorem dX12_forty_257 : decode cX12_forty 257 = .ok (.iconst 0, 1) := by decide +kernel
theorem dX12_forty_258 : decode cX12_forty 258 = .ok (.goto 7, 3) := by decide +kernel
theorem dX12_forty_261 : decode cX12_forty 261 = .ok (.iload 15, 2) := by decide +kernel
theorem dX12_forty_263 : decode cX12_forty 263 = .ok (.iconst 1, 1) := by decide +kernel
theorem dX12_forty_264 : decode cX12_forty 264 = .ok (.iadd, 1) := by decide +kernel
theorem dX12_forty_265 : decode cX12_forty 265 = .ok (.istore 15, 2) := by decide +kernel
theorem dX12_forty_267 : decode cX12_forty 267 = .ok (.goto (-76), 3) := by decide +kernel
theorem dX12_forty_270 : decode cX12_forty 270 = .ok (.aload_n 0, 1) := by decide +kernel
theorem dX12_forty_271 : decode cX12_forty 271 = .ok (.getfield 217, 3) := by decide +kernel
theorem dX12_forty_274 : decode cX12_forty 274 = .ok (.iload 12, 2) := by decide +kernel
theorem dX12_forty_276 : decode cX12_forty 276 = .ok (.iload 14, 2) := by decide +kernel
theorem dX12_forty_278 : decode cX12_forty 278 = .ok (.iastore, 1) := by decide +kernel
theorem dX12_forty_279 : decode cX12_forty 279 = .ok (.aload_n 0, 1) := by decide +kernel
theorem dX12_forty_280 : decode cX12_forty 280 = .ok (.getfield 220, 3) := by decide +kernel
theorem dX12_forty_283 : decode cX12_forty 283 = .ok (.iload 12, 2) := by decide +kernel
theorem dX12_forty_285 : decode cX12_forty 285 = .ok (.iload 15, 2) := by decide +kernel
theorem dX12_forty_287 : decode cX12_forty 287 = .ok (.iastore, 1) := by decide +kernel
theorem dX12_forty_288 : decode cX12_forty 288 = .ok (.iload 10, 2) := by decide +kernel
theorem dX12_forty_290 : decode cX12_forty 290 = .ok (.istore 11, 2) := by decide +kernel
theorem dX12_forty_292 : decode cX12_forty 292 = .ok (.iload 9, 2) := by decide +kernel
theorem dX12_forty_294 : decode cX12_forty 294 = .ok (.istore 10, 2) := by decide +kernel
theorem dX12_forty_296 : decode cX12_forty 296 = .ok (.iload 14, 2) := by decide +kernel
theorem dX12_forty_298 : decode cX12_forty 298 = .ok (.iload 15, 2) := by decide +kernel
theorem dX12_forty_300 : decode cX12_forty 300 = .ok (.iadd, 1) := by decide +kernel
theorem dX12_forty_301 : decode cX12_forty 301 = .ok (.istore 9, 2) := by decide +kernel
theorem dX12_forty_303 : decode cX12_forty 303 = .ok (.iinc 12 1, 3) := by decide +kernel
theorem dX12_forty_306 : decode cX12_forty 306 = .ok (.goto (-143), 3) := by decide +kernel
theorem dX12_forty_309 : decode cX12_forty 309 = .ok (.iload 8, 2) := by decide +kernel
theorem dX12_forty_311 : decode cX12_forty 311 = .ok (.ireturn, 1) := by decide +kernel
theorem dX12_cutIn_0 : decode cX12_cutIn 0 = .ok (.aload_n 0, 1) := by decide +kernel
theorem dX12_cutIn_1 : decode cX12_cutIn 1 = .ok (.iconst 0, 1) := by decide +kernel
theorem dX12_cutIn_2 : decode cX12_cutIn 2 = .ok (.putfield 235, 3) := by decide +kernel
theorem dX12_cutIn_5 : decode cX12_cutIn 5 = .ok (.aload_n 0, 1) := by decide +kernel
theorem dX12_cutIn_6 : decode cX12_cutIn 6 = .ok (.getfield 584, 3) := by decide +kernel
theorem dX12_cutIn_9 : decode cX12_cutIn 9 = .ok (.ifCond .eq 22, 3) := by decide +kernel
theorem dX12_cutIn_12 : decode cX12_cutIn 12 = .ok (.iload_n 1, 1) := by decide +kernel
theorem dX12_cutIn_13 : decode cX12_cutIn 13 = .ok (.iconst 0, 1) := by decide +kernel
theorem dX12_cutIn_14 : decode cX12_cutIn 14 = .ok (.bipush 7, 2) := by decide +kernel
theorem dX12_cutIn_16 : decode cX12_cutIn 16 = .ok (.invokestatic 238, 3) := by decide +kernel
theorem dX12_cutIn_19 : decode cX12_cutIn 19 = .ok (.ifCond .eq 12, 3) := by decide +kernel
theorem dX12_cutIn_22 : decode cX12_cutIn 22 = .ok (.iload_n 2, 1) := by decide +kernel
theorem dX12_cutIn_23 : decode cX12_cutIn 23 = .ok (.iconst 0, 1) := by decide +kernel
theorem dX12_cutIn_24 : decode cX12_cutIn 24 = .ok (.iconst 1, 1) := by decide +kernel
theorem dX12_cutIn_25 : decode cX12_cutIn 25 = .ok (.invokestatic 238, 3) := by decide +kernel
theorem dX12_cutIn_28 : decode cX12_cutIn 28 = .ok (.ifCond .ne 7, 3) := by decide +kernel
theorem dX12_cutIn_31 : decode cX12_cutIn 31 = .ok (.iconst (-1), 1) := by decide +kernel
theorem dX12_cutIn_32 : decode cX12_cutIn 32 = .ok (.goto 22, 3) := by decide +kernel
theorem dX12_cutIn_35 : decode cX12_cutIn 35 = .ok (.iload_n 2, 1) := by decide +kernel
theorem dX12_cutIn_36 : decode cX12_cutIn 36 = .ok (.ifCond .ne 12, 3) := by decide +kernel
theorem dX12_cutIn_39 : decode cX12_cutIn 39 = .ok (.aload_n 0, 1) := by decide +kernel
theorem dX12_cutIn_40 : decode cX12_cutIn 40 = .ok (.getfield 217, 3) := by decide +kernel
theorem dX12_cutIn_43 : decode cX12_cutIn 43 = .ok (.iload_n 1, 1) := by decide +kernel
theorem dX12_cutIn_44 : decode cX12_cutIn 44 = .ok (.iaload, 1) := by decide +kernel
theorem dX12_cutIn_45 : decode cX12_cutIn 45 = .ok (.goto 9, 3) := by decide +kernel
theorem dX12_cutIn_48 : decode cX12_cutIn 48 = .ok (.aload_n 0, 1) := by decide +kernel
theorem dX12_cutIn_49 : decode cX12_cutIn 49 = .ok (.getfield 220, 3) := by decide +kernel
theorem dX12_cutIn_52 : decode cX12_cutIn 52 = .ok (.iload_n 1, 1) := by decide +kernel
theorem dX12_cutIn_53 : decode cX12_cutIn 53 = .ok (.iaload, 1) := by decide +kernel
theorem dX12_cutIn_54 : decode cX12_cutIn 54 = .ok (.ireturn, 1) := by decide +kernel
theorem dX12_row_0 : decode cX12_row 0 = .ok (.aload_n 0, 1) := by decide +kernel
theorem dX12_row_1 : decode cX12_row 1 = .ok (.iconst 0, 1) := by decide +kernel
theorem dX12_row_2 : decode cX12_row 2 = .ok (.putfield 235, 3) := by decide +kernel
theorem dX12_row_5 : decode cX12_row 5 = .ok (.iload_n 1, 1) := by decide +kernel
theorem dX12_row_6 : decode cX12_row 6 = .ok (.iconst 0, 1) := by decide +kernel
theorem dX12_row_7 : decode cX12_row 7 = .ok (.iconst 3, 1) := by decide +kernel
theorem dX12_row_8 : decode cX12_row 8 = .ok (.invokestatic 238, 3) := by decide +kernel
theorem dX12_row_11 : decode cX12_row 11 = .ok (.ifCond .eq 13, 3) := by decide +kernel
theorem dX12_row_14 : decode cX12_row 14 = .ok (.iload_n 3, 1) := by decide +kernel
theorem dX12_row_15 : decode cX12_row 15 = .ok (.iconst 0, 1) := by decide +kernel
theorem dX12_row_16 : decode cX12_row 16 = .ok (.bipush 40, 2) := by decide +kernel
theorem dX12_row_18 : decode cX12_row 18 = .ok (.invokestatic 238, 3) := by decide +kernel
theorem dX12_row_21 : decode cX12_row 21 = .ok (.ifCond .ne 5, 3) := by decide +kernel
theorem dX12_row_24 : decode cX12_row 24 = .ok (.iconst 0, 1) := by decide +kernel
theorem dX12_row_25 : decode cX12_row 25 = .ok (.ireturn, 1) := by decide +kernel
theorem dX12_row_26 : decode cX12_row 26 = .ok (.aload_n 0, 1) := by decide +kernel
theorem dX12_row_27 : decode cX12_row 27 = .ok (.getfield 223, 3) := by decide +kernel
theorem dX12_row_30 : decode cX12_row 30 = .ok (.iload_n 1, 1) := by decide +kernel
theorem dX12_row_31 : decode cX12_row 31 = .ok (.iload_n 3, 1) := by decide +kernel
theorem dX12_row_32 : decode cX12_row 32 = .ok (.iastore, 1) := by decide +kernel
theorem dX12_row_33 : decode cX12_row 33 = .ok (.aload_n 0, 1) := by decide +kernel
theorem dX12_row_34 : decode cX12_row 34 = .ok (.getfield 226, 3) := by decide +kernel
theorem dX12_row_37 : decode cX12_row 37 = .ok (.iload_n 1, 1) := by decide +kernel
theorem dX12_row_38 : decode cX12_row 38 = .ok (.iload_n 2, 1) := by decide +kernel
theorem dX12_row_39 : decode cX12_row 39 = .ok (.bastore, 1) := by decide +kernel
theorem dX12_row_40 : decode cX12_row 40 = .ok (.iconst 0, 1) := by decide +kernel
theorem dX12_row_41 : decode cX12_row 41 = .ok (.istore 4, 2) := by decide +kernel
theorem dX12_row_43 : decode cX12_row 43 = .ok (.iload 4, 2) := by decide +kernel
theorem dX12_row_45 : decode cX12_row 45 = .ok (.bipush 40, 2) := by decide +kernel
theorem dX12_row_47 : decode cX12_row 47 = .ok (.if_icmp .ge 35, 3) := by decide +kernel
theorem dX12_row_50 : decode cX12_row 50 = .ok (.aload_n 0, 1) := by decide +kernel
theorem dX12_row_51 : decode cX12_row 51 = .ok (.getfield 229, 3) := by decide +kernel
theorem dX12_row_54 : decode cX12_row 54 = .ok (.bipush 40, 2) := by decide +kernel
theorem dX12_row_56 : decode cX12_row 56 = .ok (.iload_n 1, 1) := by decide +kernel
theorem dX12_row_57 : decode cX12_row 57 = .ok (.imul, 1) := by decide +kernel
theorem dX12_row_58 : decode cX12_row 58 = .ok (.iload 4, 2) := by decide +kernel
theorem dX12_row_60 : decode cX12_row 60 = .ok (.iadd, 1) := by decide +kernel
theorem dX12_row_61 : decode cX12_row 61 = .ok (.iconst 0, 1) := by decide +kernel
theorem dX12_row_62 : decode cX12_row 62 = .ok (.iastore, 1) := by decide +kernel
theorem dX12_row_63 : decode cX12_row 63 = .ok (.aload_n 0, 1) := by decide +kernel
theorem dX12_row_64 : decode cX12_row 64 = .ok (.getfield 232, 3) := by decide +kernel
theorem dX12_row_67 : decode cX12_row 67 = .ok (.bipush 40, 2) := by decide +kernel
theorem dX12_row_69 : decode cX12_row 69 = .ok (.iload_n 1, 1) := by decide +kernel
theorem dX12_row_70 : decode cX12_row 70 = .ok (.imul, 1) := by decide +kernel
theorem dX12_row_71 : decode cX12_row 71 = .ok (.iload 4, 2) := by decide +kernel
theorem dX12_row_73 : decode cX12_row 73 = .ok (.iadd, 1) := by decide +kernel
theorem dX12_row_74 : decode cX12_row 74 = .ok (.iconst 0, 1) := by decide +kernel
theorem dX12_row_75 : decode cX12_row 75 = .ok (.bastore, 1) := by decide +kernel
theorem dX12_row_76 : decode cX12_row 76 = .ok (.iinc 4 1, 3) := by decide +kernel
theorem dX12_row_79 : decode cX12_row 79 = .ok (.goto (-36), 3) := by decide +kernel
theorem dX12_row_82 : decode cX12_row 82 = .ok (.iconst 1, 1) := by decide +kernel
theorem dX12_row_83 : decode cX12_row 83 = .ok (.ireturn, 1) := by decide +kernel
theorem dX12_isPlace_0 : decode cX12_isPlace 0 = .ok (.iload_n 1, 1) := by decide +kernel
theorem dX12_isPlace_1 : decode cX12_isPlace 1 = .ok (.iconst 0, 1) := by decide +kernel
theorem dX12_isPlace_2 : decode cX12_isPlace 2 = .ok (.iconst 3, 1) := by decide +kernel
theorem dX12_isPlace_3 : decode cX12_isPlace 3 = .ok (.invokestatic 238, 3) := by decide +kernel
theorem dX12_isPlace_6 : decode cX12_isPlace 6 = .ok (.ifCond .eq 33, 3) := by decide +kernel
theorem dX12_isPlace_9 : decode cX12_isPlace 9 = .ok (.aload_n 0, 1) := by decide +kernel
theorem dX12_isPlace_10 : decode cX12_isPlace 10 = .ok (.getfield 223, 3) := by decide +kernel
theorem dX12_isPlace_13 : decode cX12_isPlace 13 = .ok (.iload_n 1, 1) := by decide +kernel
theorem dX12_isPlace_14 : decode cX12_isPlace 14 = .ok (.iaload, 1) := by decide +kernel
theorem dX12_isPlace_15 : decode cX12_isPlace 15 = .ok (.iconst (-1), 1) := by decide +kernel
theorem dX12_isPlace_16 : decode cX12_isPlace 16 = .ok (.if_icmp .eq 23, 3) := by decide +kernel
theorem dX12_isPlace_19 : decode cX12_isPlace 19 = .ok (.iload_n 2, 1) := by decide +kernel
theorem dX12_isPlace_20 : decode cX12_isPlace 20 = .ok (.iconst 0, 1) := by decide +kernel
theorem dX12_isPlace_21 : decode cX12_isPlace 21 = .ok (.aload_n 0, 1) := by decide +kernel
theorem dX12_isPlace_22 : decode cX12_isPlace 22 = .ok (.getfield 223, 3) := by decide +kernel
theorem dX12_isPlace_25 : decode cX12_isPlace 25 = .ok (.iload_n 1, 1) := by decide +kernel
theorem dX12_isPlace_26 : decode cX12_isPlace 26 = .ok (.iaload, 1) := by decide +kernel
theorem dX12_isPlace_27 : decode cX12_isPlace 27 = .ok (.iconst 1, 1) := by decide +kernel
theorem dX12_isPlace_28 : decode cX12_isPlace 28 = .ok (.isub, 1) := by decide +kernel
theorem dX12_isPlace_29 : decode cX12_isPlace 29 = .ok (.invokestatic 238, 3) := by decide +kernel
theorem dX12_isPlace_32 : decode cX12_isPlace 32 = .ok (.ifCond .eq 7, 3) := by decide +kernel
theorem dX12_isPlace_35 : decode cX12_isPlace 35 = .ok (.iconst 1, 1) := by decide +kernel
theorem dX12_isPlace_36 : decode cX12_isPlace 36 = .ok (.goto 4, 3) := by decide +kernel
theorem dX12_isPlace_39 : decode cX12_isPlace 39 = .ok (.iconst 0, 1) := by decide +kernel
theorem dX12_isPlace_40 : decode cX12_isPlace 40 = .ok (.ireturn, 1) := by decide +kernel
theorem dX12_write_0 : decode cX12_write 0 = .ok (.aload_n 0, 1) := by decide +kernel
theorem dX12_write_1 : decode cX12_write 1 = .ok (.iconst 0, 1) := by decide +kernel
theorem dX12_write_2 : decode cX12_write 2 = .ok (.putfield 235, 3) := by decide +kernel
theorem dX12_write_5 : decode cX12_write 5 = .ok (.aload_n 0, 1) := by decide +kernel
theorem dX12_write_6 : decode cX12_write 6 = .ok (.iload_n 1, 1) := by decide +kernel
theorem dX12_write_7 : decode cX12_write 7 = .ok (.iload_n 2, 1) := by decide +kernel
theorem dX12_write_8 : decode cX12_write 8 = .ok (.invokevirtual 588, 3) := by decide +kernel
theorem dX12_write_11 : decode cX12_write 11 = .ok (.ifCond .eq 25, 3) := by decide +kernel
theorem dX12_write_14 : decode cX12_write 14 = .ok (.aload_n 0, 1) := by decide +kernel
theorem dX12_write_15 : decode cX12_write 15 = .ok (.getfield 226, 3) := by decide +kernel
theorem dX12_write_18 : decode cX12_write 18 = .ok (.iload_n 1, 1) := by decide +kernel
theorem dX12_write_19 : decode cX12_write 19 = .ok (.baload, 1) := by decide +kernel
theorem dX12_write_20 : decode cX12_write 20 = .ok (.ifCond .eq 18, 3) := by decide +kernel
theorem dX12_write_23 : decode cX12_write 23 = .ok (.iload_n 3, 1) := by decide +kernel
theorem dX12_write_24 : decode cX12_write 24 = .ok (.ldc_w 489, 3) := by decide +kernel
theorem dX12_write_27 : decode cX12_write 27 = .ok (.ldc_w 591, 3) := by decide +kernel
theorem dX12_write_30 : decode cX12_write 30 = .ok (.invokestatic 238, 3) := by decide +kernel
theorem dX12_write_33 : decode cX12_write 33 = .ok (.ifCond .ne 5, 3) := by decide +kernel
theorem dX12_write_36 : decode cX12_write 36 = .ok (.iconst 0, 1) := by decide +kernel
theorem dX12_write_37 : decode cX12_write 37 = .ok (.ireturn, 1) := by decide +kernel
theorem dX12_write_38 : decode cX12_write 38 = .ok (.aload_n 0, 1) := by decide +kernel
theorem dX12_write_39 : decode cX12_write 39 = .ok (.getfield 226, 3) := by decide +kernel
theorem dX12_write_42 : decode cX12_write 42 = .ok (.iload_n 1, 1) := by decide +kernel
theorem dX12_write_43 : decode cX12_write 43 = .ok (.baload, 1) := by decide +kernel
theorem dX12_write_44 : decode cX12_write 44 = .ok (.ifCond .eq 7, 3) := by decide +kernel
theorem dX12_write_47 : decode cX12_write 47 = .ok (.iload_n 3, 1) := by decide +kernel
theorem dX12_write_48 : decode cX12_write 48 = .ok (.goto 5, 3) := by decide +kernel
theorem dX12_write_51 : decode cX12_write 51 = .ok (.iload_n 3, 1) := by decide +kernel
theorem dX12_write_52 : decode cX12_write 52 = .ok (.i2s, 1) := by decide +kernel
theorem dX12_write_53 : decode cX12_write 53 = .ok (.istore 4, 2) := by decide +kernel
theorem dX12_write_55 : decode cX12_write 55 = .ok (.aload_n 0, 1) := by decide +kernel
theorem dX12_write_56 : decode cX12_write 56 = .ok (.getfield 232, 3) := by decide +kernel
theorem dX12_write_59 : decode cX12_write 59 = .ok (.bipush 40, 2) := by decide +kernel
theorem dX12_write_61 : decode cX12_write 61 = .ok (.iload_n 1, 1) := by decide +kernel
theorem dX12_write_62 : decode cX12_write 62 = .ok (.imul, 1) := by decide +kernel
theorem dX12_write_63 : decode cX12_write 63 = .ok (.iload_n 2, 1) := by decide +kernel
theorem dX12_write_64 : decode cX12_write 64 = .ok (.iadd, 1) := by decide +kernel
theorem dX12_write_65 : decode cX12_write 65 = .ok (.iload 4, 2) := by decide +kernel
theorem dX12_write_67 : decode cX12_write 67 = .ok (.sipush (-32768), 3) := by decide +kernel
theorem dX12_write_70 : decode cX12_write 70 = .ok (.if_icmp .ne 7, 3) := by decide +kernel
theorem dX12_write_73 : decode cX12_write 73 = .ok (.iconst 1, 1) := by decide +kernel
theorem dX12_write_74 : decode cX12_write 74 = .ok (.goto 4, 3) := by decide +kernel
theorem dX12_write_77 : decode cX12_write 77 = .ok (.iconst 0, 1) := by decide +kernel
theorem dX12_write_78 : decode cX12_write 78 = .ok (.bastore, 1) := by decide +kernel
theorem dX12_write_79 : decode cX12_write 79 = .ok (.aload_n 0, 1) := by decide +kernel
theorem dX12_write_80 : decode cX12_write 80 = .ok (.getfield 229, 3) := by decide +kernel
theorem dX12_write_83 : decode cX12_write 83 = .ok (.bipush 40, 2) := by decide +kernel
theorem dX12_write_85 : decode cX12_write 85 = .ok (.iload_n 1, 1) := by decide +kernel
theorem dX12_write_86 : decode cX12_write 86 = .ok (.imul, 1) := by decide +kernel
theorem dX12_write_87 : decode cX12_write 87 = .ok (.iload_n 2, 1) := by decide +kernel
theorem dX12_write_88 : decode cX12_write 88 = .ok (.iadd, 1) := by decide +kernel
theorem dX12_write_89 : decode cX12_write 89 = .ok (.aload_n 0, 1) := by decide +kernel
theorem dX12_write_90 : decode cX12_write 90 = .ok (.getfield 226, 3) := by decide +kernel
theorem dX12_write_93 : decode cX12_write 93 = .ok (.iload_n 1, 1) := by decide +kernel
theorem dX12_write_94 : decode cX12_write 94 = .ok (.baload, 1) := by decide +kernel
theorem dX12_write_95 : decode cX12_write 95 = .ok (.ifCond .eq 10, 3) := by decide +kernel
theorem dX12_write_98 : decode cX12_write 98 = .ok (.iconst 2, 1) := by decide +kernel
theorem dX12_write_99 : decode cX12_write 99 = .ok (.iload 4, 2) := by decide +kernel
theorem dX12_write_101 : decode cX12_write 101 = .ok (.imul, 1) := by decide +kernel
theorem dX12_write_102 : decode cX12_write 102 = .ok (.goto 8, 3) := by decide +kernel
theorem dX12_write_105 : decode cX12_write 105 = .ok (.bipush 8, 2) := by decide +kernel
theorem dX12_write_107 : decode cX12_write 107 = .ok (.iload 4, 2) := by decide +kernel
theorem dX12_write_109 : decode cX12_write 109 = .ok (.imul, 1) := by decide +kernel
theorem dX12_write_110 : decode cX12_write 110 = .ok (.iastore, 1) := by decide +kernel
theorem dX12_write_111 : decode cX12_write 111 = .ok (.iconst 1, 1) := by decide +kernel
theorem dX12_write_112 : decode cX12_write 112 = .ok (.ireturn, 1) := by decide +kernel
theorem dX12_near_0 : decode cX12_near 0 = .ok (.iload_n 2, 1) := by decide +kernel
theorem dX12_near_1 : decode cX12_near 1 = .ok (.istore 4, 2) := by decide +kernel
theorem dX12_near_3 : decode cX12_near 3 = .ok (.aload_n 0, 1) := by decide +kernel
theorem dX12_near_4 : decode cX12_near 4 = .ok (.iload_n 1, 1) := by decide +kernel
theorem dX12_near_5 : decode cX12_near 5 = .ok (.iload 4, 2) := by decide +kernel
theorem dX12_near_7 : decode cX12_near 7 = .ok (.invokevirtual 588, 3) := by decide +kernel
theorem dX12_near_10 : decode cX12_near 10 = .ok (.ifCond .eq 27, 3) := by decide +kernel
theorem dX12_near_13 : decode cX12_near 13 = .ok (.aload_n 0, 1) := by decide +kernel
theorem dX12_near_14 : decode cX12_near 14 = .ok (.getfield 232, 3) := by decide +kernel
theorem dX12_near_17 : decode cX12_near 17 = .ok (.bipush 40, 2) := by decide +kernel
theorem dX12_near_19 : decode cX12_near 19 = .ok (.iload_n 1, 1) := by decide +kernel
theorem dX12_near_20 : decode cX12_near 20 = .ok (.imul, 1) := by decide +kernel
theorem dX12_near_21 : decode cX12_near 21 = .ok (.iload 4, 2) := by decide +kernel
theorem dX12_near_23 : decode cX12_near 23 = .ok (.iadd, 1) := by decide +kernel
theorem dX12_near_24 : decode cX12_near 24 = .ok (.baload, 1) := by decide +kernel
theorem dX12_near_25 : decode cX12_near 25 = .ok (.ifCond .eq 12, 3) := by decide +kernel
theorem dX12_near_28 : decode cX12_near 28 = .ok (.iload 4, 2) := by decide +kernel
theorem dX12_near_30 : decode cX12_near 30 = .ok (.iload_n 3, 1) := by decide +kernel
theorem dX12_near_31 : decode cX12_near 31 = .ok (.iadd, 1) := by decide +kernel
theorem dX12_near_32 : decode cX12_near 32 = .ok (.istore 4, 2) := by decide +kernel
theorem dX12_near_34 : decode cX12_near 34 = .ok (.goto (-31), 3) := by decide +kernel
theorem dX12_near_37 : decode cX12_near 37 = .ok (.aload_n 0, 1) := by decide +kernel
theorem dX12_near_38 : decode cX12_near 38 = .ok (.iload_n 1, 1) := by decide +kernel
theorem dX12_near_39 : decode cX12_near 39 = .ok (.iload 4, 2) := by decide +kernel
theorem dX12_near_41 : decode cX12_near 41 = .ok (.invokevirtual 588, 3) := by decide +kernel
theorem dX12_near_44 : decode cX12_near 44 = .ok (.ifCond .ne 4, 3) := by decide +kernel
theorem dX12_near_47 : decode cX12_near 47 = .ok (.return_, 1) := by decide +kernel
theorem dX12_near_48 : decode cX12_near 48 = .ok (.aload_n 0, 1) := by decide +kernel
theorem dX12_near_49 : decode cX12_near 49 = .ok (.dup, 1) := by decide +kernel
theorem dX12_near_50 : decode cX12_near 50 = .ok (.getfield 592, 3) := by decide +kernel
theorem dX12_near_53 : decode cX12_near 53 = .ok (.aload_n 0, 1) := by decide +kernel
theorem dX12_near_54 : decode cX12_near 54 = .ok (.getfield 229, 3) := by decide +kernel
theorem dX12_near_57 : decode cX12_near 57 = .ok (.bipush 40, 2) := by decide +kernel
theorem dX12_near_59 : decode cX12_near 59 = .ok (.iload_n 1, 1) := by decide +kernel
theorem dX12_near_60 : decode cX12_near 60 = .ok (.imul, 1) := by decide +kernel
theorem dX12_near_61 : decode cX12_near 61 = .ok (.iload 4, 2) := by decide +kernel
theorem dX12_near_63 : decode cX12_near 63 = .ok (.iadd, 1) := by decide +kernel
theorem dX12_near_64 : decode cX12_near 64 = .ok (.iaload, 1) := by decide +kernel
theorem dX12_near_65 : decode cX12_near 65 = .ok (.iadd, 1) := by decide +kernel
theorem dX12_near_66 : decode cX12_near 66 = .ok (.putfield 592, 3) := by decide +kernel
theorem dX12_near_69 : decode cX12_near 69 = .ok (.aload_n 0, 1) := by decide +kernel
theorem dX12_near_70 : decode cX12_near 70 = .ok (.dup, 1) := by decide +kernel
theorem dX12_near_71 : decode cX12_near 71 = .ok (.getfield 595, 3) := by decide +kernel
theorem dX12_near_74 : decode cX12_near 74 = .ok (.iconst 1, 1) := by decide +kernel
theorem dX12_near_75 : decode cX12_near 75 = .ok (.iadd, 1) := by decide +kernel
theorem dX12_near_76 : decode cX12_near 76 = .ok (.putfield 595, 3) := by decide +kernel
theorem dX12_near_79 : decode cX12_near 79 = .ok (.return_, 1) := by decide +kernel
theorem dX12_told_0 : decode cX12_told 0 = .ok (.aload_n 0, 1) := by decide +kernel
theorem dX12_told_1 : decode cX12_told 1 = .ok (.iconst 0, 1) := by decide +kernel
theorem dX12_told_2 : decode cX12_told 2 = .ok (.putfield 592, 3) := by decide +kernel
theorem dX12_told_5 : decode cX12_told 5 = .ok (.aload_n 0, 1) := by decide +kernel
theorem dX12_told_6 : decode cX12_told 6 = .ok (.iconst 0, 1) := by decide +kernel
theorem dX12_told_7 : decode cX12_told 7 = .ok (.putfield 595, 3) := by decide +kernel
theorem dX12_told_10 : decode cX12_told 10 = .ok (.aload_n 0, 1) := by decide +kernel
theorem dX12_told_11 : decode cX12_told 11 = .ok (.iload_n 1, 1) := by decide +kernel
theorem dX12_told_12 : decode cX12_told 12 = .ok (.iload_n 2, 1) := by decide +kernel
theorem dX12_told_13 : decode cX12_told 13 = .ok (.iconst (-1), 1) := by decide +kernel
theorem dX12_told_14 : decode cX12_told 14 = .ok (.invokevirtual 598, 3) := by decide +kernel
theorem dX12_told_17 : decode cX12_told 17 = .ok (.aload_n 0, 1) := by decide +kernel
theorem dX12_told_18 : decode cX12_told 18 = .ok (.getfield 232, 3) := by decide +kernel
theorem dX12_told_21 : decode cX12_told 21 = .ok (.bipush 40, 2) := by decide +kernel
theorem dX12_told_23 : decode cX12_told 23 = .ok (.iload_n 1, 1) := by decide +kernel
theorem dX12_told_24 : decode cX12_told 24 = .ok (.imul, 1) := by decide +kernel
theorem dX12_told_25 : decode cX12_told 25 = .ok (.iload_n 2, 1) := by decide +kernel
theorem dX12_told_26 : decode cX12_told 26 = .ok (.iadd, 1) := by decide +kernel
theorem dX12_told_27 : decode cX12_told 27 = .ok (.baload, 1) := by decide +kernel
theorem dX12_told_28 : decode cX12_told 28 = .ok (.ifCond .eq 10, 3) := by decide +kernel
theorem dX12_told_31 : decode cX12_told 31 = .ok (.aload_n 0, 1) := by decide +kernel
theorem dX12_told_32 : decode cX12_told 32 = .ok (.iload_n 1, 1) := by decide +kernel
theorem dX12_told_33 : decode cX12_told 33 = .ok (.iload_n 2, 1) := by decide +kernel
theorem dX12_told_34 : decode cX12_told 34 = .ok (.iconst 1, 1) := by decide +kernel
theorem dX12_told_35 : decode cX12_told 35 = .ok (.invokevirtual 598, 3) := by decide +kernel
theorem dX12_told_38 : decode cX12_told 38 = .ok (.aload_n 0, 1) := by decide +kernel
theorem dX12_told_39 : decode cX12_told 39 = .ok (.getfield 595, 3) := by decide +kernel
theorem dX12_told_42 : decode cX12_told 42 = .ok (.ifCond .ne 7, 3) := by decide +kernel
theorem dX12_told_45 : decode cX12_told 45 = .ok (.iconst 0, 1) := by decide +kernel
theorem dX12_told_46 : decode cX12_told 46 = .ok (.goto 12, 3) := by decide +kernel
theorem dX12_told_49 : decode cX12_told 49 = .ok (.aload_n 0, 1) := by decide +kernel
theorem dX12_told_50 : decode cX12_told 50 = .ok (.getfield 592, 3) := by decide +kernel
theorem dX12_told_53 : decode cX12_told 53 = .ok (.aload_n 0, 1) := by decide +kernel
theorem dX12_told_54 : decode cX12_told 54 = .ok (.getfield 595, 3) := by decide +kernel
theorem dX12_told_57 : decode cX12_told 57 = .ok (.idiv, 1) := by decide +kernel
theorem dX12_told_58 : decode cX12_told 58 = .ok (.ireturn, 1) := by decide +kernel
theorem dX12_each_0 : decode cX12_each 0 = .ok (.aload_n 0, 1) := by decide +kernel
theorem dX12_each_1 : decode cX12_each 1 = .ok (.iload_n 1, 1) := by decide +kernel
theorem dX12_each_2 : decode cX12_each 2 = .ok (.iload_n 2, 1) := by decide +kernel
theorem dX12_each_3 : decode cX12_each 3 = .ok (.invokevirtual 588, 3) := by decide +kernel
theorem dX12_each_6 : decode cX12_each 6 = .ok (.istore_n 3, 1) := by decide +kernel
theorem dX12_each_7 : decode cX12_each 7 = .ok (.iload_n 3, 1) := by decide +kernel
theorem dX12_each_8 : decode cX12_each 8 = .ok (.ifCond .eq 12, 3) := by decide +kernel
theorem dX12_each_11 : decode cX12_each 11 = .ok (.aload_n 0, 1) := by decide +kernel
theorem dX12_each_12 : decode cX12_each 12 = .ok (.iload_n 1, 1) := by decide +kernel
theorem dX12_each_13 : decode cX12_each 13 = .ok (.iload_n 2, 1) := by decide +kernel
theorem dX12_each_14 : decode cX12_each 14 = .ok (.invokevirtual 602, 3) := by decide +kernel
theorem dX12_each_17 : decode cX12_each 17 = .ok (.goto 4, 3) := by decide +kernel
theorem dX12_each_20 : decode cX12_each 20 = .ok (.iconst 0, 1) := by decide +kernel
theorem dX12_each_21 : decode cX12_each 21 = .ok (.istore 4, 2) := by decide +kernel
theorem dX12_each_23 : decode cX12_each 23 = .ok (.iload_n 3, 1) := by decide +kernel
theorem dX12_each_24 : decode cX12_each 24 = .ok (.ifCond .eq 14, 3) := by decide +kernel
theorem dX12_each_27 : decode cX12_each 27 = .ok (.aload_n 0, 1) := by decide +kernel
theorem dX12_each_28 : decode cX12_each 28 = .ok (.getfield 595, 3) := by decide +kernel
theorem dX12_each_31 : decode cX12_each 31 = .ok (.ifCond .le 7, 3) := by decide +kernel
theorem dX12_each_34 : decode cX12_each 34 = .ok (.iconst 1, 1) := by decide +kernel
theorem dX12_each_35 : decode cX12_each 35 = .ok (.goto 4, 3) := by decide +kernel
theorem dX12_each_38 : decode cX12_each 38 = .ok (.iconst 0, 1) := by decide +kernel
theorem dX12_each_39 : decode cX12_each 39 = .ok (.istore_n 3, 1) := by decide +kernel
theorem dX12_each_40 : decode cX12_each 40 = .ok (.aload_n 0, 1) := by decide +kernel
theorem dX12_each_41 : decode cX12_each 41 = .ok (.iload_n 3, 1) := by decide +kernel
theorem dX12_each_42 : decode cX12_each 42 = .ok (.ifCond .eq 7, 3) := by decide +kernel
theorem dX12_each_45 : decode cX12_each 45 = .ok (.iconst 0, 1) := by decide +kernel
theorem dX12_each_46 : decode cX12_each 46 = .ok (.goto 4, 3) := by decide +kernel
theorem dX12_each_49 : decode cX12_each 49 = .ok (.iconst 1, 1) := by decide +kernel
theorem dX12_each_50 : decode cX12_each 50 = .ok (.putfield 235, 3) := by decide +kernel
theorem dX12_each_53 : decode cX12_each 53 = .ok (.iload_n 3, 1) := by decide +kernel
theorem dX12_each_54 : decode cX12_each 54 = .ok (.ifCond .eq 8, 3) := by decide +kernel
theorem dX12_each_57 : decode cX12_each 57 = .ok (.iload 4, 2) := by decide +kernel
theorem dX12_each_59 : decode cX12_each 59 = .ok (.goto 4, 3) := by decide +kernel
theorem dX12_each_62 : decode cX12_each 62 = .ok (.iconst 0, 1) := by decide +kernel
theorem dX12_each_63 : decode cX12_each 63 = .ok (.ireturn, 1) := by decide +kernel
theorem dX12_cruise_0 : decode cX12_cruise 0 = .ok (.aload_n 0, 1) := by decide +kernel
theorem dX12_cruise_1 : decode cX12_cruise 1 = .ok (.iconst 0, 1) := by decide +kernel
theorem dX12_cruise_2 : decode cX12_cruise 2 = .ok (.putfield 235, 3) := by decide +kernel
theorem dX12_cruise_5 : decode cX12_cruise 5 = .ok (.iload_n 1, 1) := by decide +kernel
theorem dX12_cruise_6 : decode cX12_cruise 6 = .ok (.iconst 0, 1) := by decide +kernel
theorem dX12_cruise_7 : decode cX12_cruise 7 = .ok (.iconst 3, 1) := by decide +kernel
theorem dX12_cruise_8 : decode cX12_cruise 8 = .ok (.invokestatic 238, 3) := by decide +kernel
theorem dX12_cruise_11 : decode cX12_cruise 11 = .ok (.ifCond .eq 22, 3) := by decide +kernel
theorem dX12_cruise_14 : decode cX12_cruise 14 = .ok (.aload_n 0, 1) := by decide +kernel
theorem dX12_cruise_15 : decode cX12_cruise 15 = .ok (.getfield 223, 3) := by decide +kernel
theorem dX12_cruise_18 : decode cX12_cruise 18 = .ok (.iload_n 1, 1) := by decide +kernel
theorem dX12_cruise_19 : decode cX12_cruise 19 = .ok (.iaload, 1) := by decide +kernel
theorem dX12_cruise_20 : decode cX12_cruise 20 = .ok (.iconst (-1), 1) := by decide +kernel
theorem dX12_cruise_21 : decode cX12_cruise 21 = .ok (.if_icmp .eq 12, 3) := by decide +kernel
theorem dX12_cruise_24 : decode cX12_cruise 24 = .ok (.iload_n 2, 1) := by decide +kernel
theorem dX12_cruise_25 : decode cX12_cruise 25 = .ok (.iconst 0, 1) := by decide +kernel
theorem dX12_cruise_26 : decode cX12_cruise 26 = .ok (.iconst 1, 1) := by decide +kernel
theorem dX12_cruise_27 : decode cX12_cruise 27 = .ok (.invokestatic 238, 3) := by decide +kernel
theorem dX12_cruise_30 : decode cX12_cruise 30 = .ok (.ifCond .ne 5, 3) := by decide +kernel
theorem dX12_cruise_33 : decode cX12_cruise 33 = .ok (.iconst (-1), 1) := by decide +kernel
theorem dX12_cruise_34 : decode cX12_cruise 34 = .ok (.ireturn, 1) := by decide +kernel
theorem dX12_cruise_35 : decode cX12_cruise 35 = .ok (.iconst 0, 1) := by decide +kernel
theorem dX12_cruise_36 : decode cX12_cruise 36 = .ok (.istore_n 3, 1) := by decide +kernel
theorem dX12_cruise_37 : decode cX12_cruise 37 = .ok (.iconst 0, 1) := by decide +kernel
theorem dX12_cruise_38 : decode cX12_cruise 38 = .ok (.istore 4, 2) := by decide +kernel
theorem dX12_cruise_40 : decode cX12_cruise 40 = .ok (.iconst 0, 1) := by decide +kernel
theorem dX12_cruise_41 : decode cX12_cruise 41 = .ok (.istore 5, 2) := by decide +kernel
theorem dX12_cruise_43 : decode cX12_cruise 43 = .ok (.iconst 0, 1) := by decide +kernel
theorem dX12_cruise_44 : decode cX12_cruise 44 = .ok (.istore 6, 2) := by decide +kernel
theorem dX12_cruise_46 : decode cX12_cruise 46 = .ok (.iconst 0, 1) := by decide +kernel
theorem dX12_cruise_47 : decode cX12_cruise 47 = .ok (.istore 7, 2) := by decide +kernel
theorem dX12_cruise_49 : decode cX12_cruise 49 = .ok (.iload 7, 2) := by decide +kernel
theorem dX12_cruise_51 : decode cX12_cruise 51 = .ok (.aload_n 0, 1) := by decide +kernel
theorem dX12_cruise_52 : decode cX12_cruise 52 = .ok (.getfield 223, 3) := by decide +kernel
theorem dX12_cruise_55 : decode cX12_cruise 55 = .ok (.iload_n 1, 1) := by decide +kernel
theorem dX12_cruise_56 : decode cX12_cruise 56 = .ok (.iaload, 1) := by decide +kernel
theorem dX12_cruise_57 : decode cX12_cruise 57 = .ok (.if_icmp .ge 78, 3) := by decide +kernel
theorem dX12_cruise_60 : decode cX12_cruise 60 = .ok (.aload_n 0, 1) := by decide +kernel
theorem dX12_cruise_61 : decode cX12_cruise 61 = .ok (.iload_n 1, 1) := by decide +kernel
theorem dX12_cruise_62 : decode cX12_cruise 62 = .ok (.iload 7, 2) := by decide +kernel
theorem dX12_cruise_64 : decode cX12_cruise 64 = .ok (.invokevirtual 602, 3) := by decide +kernel
theorem dX12_cruise_67 : decode cX12_cruise 67 = .ok (.istore 8, 2) := by decide +kernel
theorem dX12_cruise_69 : decode cX12_cruise 69 = .ok (.aload_n 0, 1) := by decide +kernel
theorem dX12_cruise_70 : decode cX12_cruise 70 = .ok (.getfield 595, 3) := by decide +kernel
theorem dX12_cruise_73 : decode cX12_cruise 73 = .ok (.ifCond .ne 6, 3) := by decide +kernel
theorem dX12_cruise_76 : decode cX12_cruise 76 = .ok (.goto 53, 3) := by decide +kernel
theorem dX12_cruise_79 : decode cX12_cruise 79 = .ok (.iload 6, 2) := by decide +kernel
theorem dX12_cruise_81 : decode cX12_cruise 81 = .ok (.ifCond .eq 10, 3) := by decide +kernel
theorem dX12_cruise_84 : decode cX12_cruise 84 = .ok (.iload 8, 2) := by decide +kernel
theorem dX12_cruise_86 : decode cX12_cruise 86 = .ok (.iload 4, 2) := by decide +kernel
theorem dX12_cruise_88 : decode cX12_cruise 88 = .ok (.if_icmp .ge 8, 3) := by decide +kernel
theorem dX12_cruise_91 : decode cX12_cruise 91 = .ok (.iload 8, 2) := by decide +kernel
theorem dX12_cruise_93 : decode cX12_cruise 93 = .ok (.goto 5, 3) := by decide +kernel
theorem dX12_cruise_96 : decode cX12_cruise 96 = .ok (.iload 4, 2) := by decide +kernel
theorem dX12_cruise_98 : decode cX12_cruise 98 = .ok (.istore 4, 2) := by decide +kernel
theorem dX12_cruise_100 : decode cX12_cruise 100 = .ok (.iload 6, 2) := by decide +kernel
theorem dX12_cruise_102 : decode cX12_cruise 102 = .ok (.ifCond .eq 10, 3) := by decide +kernel
theorem dX12_cruise_105 : decode cX12_cruise 105 = .ok (.iload 8, 2) := by decide +kernel
theorem dX12_cruise_107 : decode cX12_cruise 107 = .ok (.iload 5, 2) := by decide +kernel
theorem dX12_cruise_109 : decode cX12_cruise 109 = .ok (.if_icmp .le 8, 3) := by decide +kernel
theorem dX12_cruise_112 : decode cX12_cruise 112 = .ok (.iload 8, 2) := by decide +kernel
theorem dX12_cruise_114 : decode cX12_cruise 114 = .ok (.goto 5, 3) := by decide +kernel
theorem dX12_cruise_117 : decode cX12_cruise 117 = .ok (.iload 5, 2) := by decide +kernel
theorem dX12_cruise_119 : decode cX12_cruise 119 = .ok (.istore 5, 2) := by decide +kernel
theorem dX12_cruise_121 : decode cX12_cruise 121 = .ok (.iload_n 3, 1) := by decide +kernel
theorem dX12_cruise_122 : decode cX12_cruise 122 = .ok (.iload 8, 2) := by decide +kernel
theorem dX12_cruise_124 : decode cX12_cruise 124 = .ok (.iadd, 1) := by decide +kernel
theorem dX12_cruise_125 : decode cX12_cruise 125 = .ok (.istore_n 3, 1) := by decide +kernel
theorem dX12_cruise_126 : decode cX12_cruise 126 = .ok (.iinc 6 1, 3) := by decide +kernel
theorem dX12_cruise_129 : decode cX12_cruise 129 = .ok (.iinc 7 1, 3) := by decide +kernel
theorem dX12_cruise_132 : decode cX12_cruise 132 = .ok (.goto (-83), 3) := by decide +kernel
theorem dX12_cruise_135 : decode cX12_cruise 135 = .ok (.iload_n 2, 1) := by decide +kernel
theorem dX12_cruise_136 : decode cX12_cruise 136 = .ok (.ifCond .ne 7, 3) := by decide +kernel
theorem dX12_cruise_139 : decode cX12_cruise 139 = .ok (.iload_n 3, 1) := by decide +kernel
theorem dX12_cruise_140 : decode cX12_cruise 140 = .ok (.goto 8, 3) := by decide +kernel
theorem dX12_cruise_143 : decode cX12_cruise 143 = .ok (.iload 5, 2) := by decide +kernel
theorem dX12_cruise_145 : decode cX12_cruise 145 = .ok (.iload 4, 2) := by decide +kernel
