theorem dX11_moveLog_29 : decode cX11_moveLog 29 = .ok (.iconst 1, 1) := by decide +kernel
theorem dX11_moveLog_30 : decode cX11_moveLog 30 = .ok (.iadd, 1) := by decide +kernel
theorem dX11_moveLog_31 : decode cX11_moveLog 31 = .ok (.iastore, 1) := by decide +kernel
theorem dX11_moveLog_32 : decode cX11_moveLog 32 = .ok (.aload_n 1, 1) := by decide +kernel
theorem dX11_moveLog_33 : decode cX11_moveLog 33 = .ok (.aload_n 2, 1) := by decide +kernel
theorem dX11_moveLog_34 : decode cX11_moveLog 34 = .ok (.getfield 305, 3) := by decide +kernel
theorem dX11_moveLog_37 : decode cX11_moveLog 37 = .ok (.putfield 302, 3) := by decide +kernel
theorem dX11_moveLog_40 : decode cX11_moveLog 40 = .ok (.aload_n 1, 1) := by decide +kernel
theorem dX11_moveLog_41 : decode cX11_moveLog 41 = .ok (.aload_n 0, 1) := by decide +kernel
theorem dX11_moveLog_42 : decode cX11_moveLog 42 = .ok (.getfield 12, 3) := by decide +kernel
theorem dX11_moveLog_45 : decode cX11_moveLog 45 = .ok (.getfield 196, 3) := by decide +kernel
theorem dX11_moveLog_48 : decode cX11_moveLog 48 = .ok (.putfield 308, 3) := by decide +kernel
theorem dX11_moveLog_51 : decode cX11_moveLog 51 = .ok (.aload_n 2, 1) := by decide +kernel
theorem dX11_moveLog_52 : decode cX11_moveLog 52 = .ok (.getfield 252, 3) := by decide +kernel
theorem dX11_moveLog_55 : decode cX11_moveLog 55 = .ok (.iconst 4, 1) := by decide +kernel
theorem dX11_moveLog_56 : decode cX11_moveLog 56 = .ok (.if_icmp .ne 31, 3) := by decide +kernel
theorem dX11_moveLog_59 : decode cX11_moveLog 59 = .ok (.aload_n 0, 1) := by decide +kernel
theorem dX11_moveLog_60 : decode cX11_moveLog 60 = .ok (.getfield 12, 3) := by decide +kernel
theorem dX11_moveLog_63 : decode cX11_moveLog 63 = .ok (.iconst 1, 1) := by decide +kernel
theorem dX11_moveLog_64 : decode cX11_moveLog 64 = .ok (.invokevirtual 311, 3) := by decide +kernel
theorem dX11_moveLog_67 : decode cX11_moveLog 67 = .ok (.bipush 9, 2) := by decide +kernel
theorem dX11_moveLog_69 : decode cX11_moveLog 69 = .ok (.if_icmp .ne 18, 3) := by decide +kernel
theorem dX11_moveLog_72 : decode cX11_moveLog 72 = .ok (.aload_n 1, 1) := by decide +kernel
theorem dX11_moveLog_73 : decode cX11_moveLog 73 = .ok (.getfield 314, 3) := by decide +kernel
theorem dX11_moveLog_76 : decode cX11_moveLog 76 = .ok (.bipush 30, 2) := by decide +kernel
theorem dX11_moveLog_78 : decode cX11_moveLog 78 = .ok (.if_icmp .le 9, 3) := by decide +kernel
theorem dX11_moveLog_81 : decode cX11_moveLog 81 = .ok (.aload_n 0, 1) := by decide +kernel
theorem dX11_moveLog_82 : decode cX11_moveLog 82 = .ok (.aload_n 1, 1) := by decide +kernel
theorem dX11_moveLog_83 : decode cX11_moveLog 83 = .ok (.iconst 4, 1) := by decide +kernel
theorem dX11_moveLog_84 : decode cX11_moveLog 84 = .ok (.invokevirtual 229, 3) := by decide +kernel
theorem dX11_moveLog_87 : decode cX11_moveLog 87 = .ok (.return_, 1) := by decide +kernel
theorem dX11_floatLogsAtMill_0 : decode cX11_floatLogsAtMill 0 = .ok (.aload_n 0, 1) := by decide +kernel
theorem dX11_floatLogsAtMill_1 : decode cX11_floatLogsAtMill 1 = .ok (.getfield 19, 3) := by decide +kernel
theorem dX11_floatLogsAtMill_4 : decode cX11_floatLogsAtMill 4 = .ok (.getfield 157, 3) := by decide +kernel
theorem dX11_floatLogsAtMill_7 : decode cX11_floatLogsAtMill 7 = .ok (.aload_n 0, 1) := by decide +kernel
theorem dX11_floatLogsAtMill_8 : decode cX11_floatLogsAtMill 8 = .ok (.getfield 19, 3) := by decide +kernel
theorem dX11_floatLogsAtMill_11 : decode cX11_floatLogsAtMill 11 = .ok (.getfield 140, 3) := by decide +kernel
theorem dX11_floatLogsAtMill_14 : decode cX11_floatLogsAtMill 14 = .ok (.iaload, 1) := by decide +kernel
theorem dX11_floatLogsAtMill_15 : decode cX11_floatLogsAtMill 15 = .ok (.ifCond .ne 4, 3) := by decide +kernel
theorem dX11_floatLogsAtMill_18 : decode cX11_floatLogsAtMill 18 = .ok (.return_, 1) := by decide +kernel
theorem dX11_floatLogsAtMill_19 : decode cX11_floatLogsAtMill 19 = .ok (.iconst 0, 1) := by decide +kernel
theorem dX11_floatLogsAtMill_20 : decode cX11_floatLogsAtMill 20 = .ok (.istore_n 1, 1) := by decide +kernel
theorem dX11_floatLogsAtMill_21 : decode cX11_floatLogsAtMill 21 = .ok (.iload_n 1, 1) := by decide +kernel
theorem dX11_floatLogsAtMill_22 : decode cX11_floatLogsAtMill 22 = .ok (.aload_n 0, 1) := by decide +kernel
theorem dX11_floatLogsAtMill_23 : decode cX11_floatLogsAtMill 23 = .ok (.getfield 36, 3) := by decide +kernel
theorem dX11_floatLogsAtMill_26 : decode cX11_floatLogsAtMill 26 = .ok (.if_icmp .ge 40, 3) := by decide +kernel
theorem dX11_floatLogsAtMill_29 : decode cX11_floatLogsAtMill 29 = .ok (.aload_n 0, 1) := by decide +kernel
theorem dX11_floatLogsAtMill_30 : decode cX11_floatLogsAtMill 30 = .ok (.getfield 32, 3) := by decide +kernel
theorem dX11_floatLogsAtMill_33 : decode cX11_floatLogsAtMill 33 = .ok (.iload_n 1, 1) := by decide +kernel
theorem dX11_floatLogsAtMill_34 : decode cX11_floatLogsAtMill 34 = .ok (.aaload, 1) := by decide +kernel
theorem dX11_floatLogsAtMill_35 : decode cX11_floatLogsAtMill 35 = .ok (.astore_n 2, 1) := by decide +kernel
theorem dX11_floatLogsAtMill_36 : decode cX11_floatLogsAtMill 36 = .ok (.aload_n 2, 1) := by decide +kernel
theorem dX11_floatLogsAtMill_37 : decode cX11_floatLogsAtMill 37 = .ok (.ifnull 23, 3) := by decide +kernel
theorem dX11_floatLogsAtMill_40 : decode cX11_floatLogsAtMill 40 = .ok (.aload_n 2, 1) := by decide +kernel
theorem dX11_floatLogsAtMill_41 : decode cX11_floatLogsAtMill 41 = .ok (.aload_n 0, 1) := by decide +kernel
theorem dX11_floatLogsAtMill_42 : decode cX11_floatLogsAtMill 42 = .ok (.getfield 19, 3) := by decide +kernel
theorem dX11_floatLogsAtMill_45 : decode cX11_floatLogsAtMill 45 = .ok (.getfield 140, 3) := by decide +kernel
theorem dX11_floatLogsAtMill_48 : decode cX11_floatLogsAtMill 48 = .ok (.invokevirtual 317, 3) := by decide +kernel
theorem dX11_floatLogsAtMill_51 : decode cX11_floatLogsAtMill 51 = .ok (.ifCond .eq 9, 3) := by decide +kernel
theorem dX11_floatLogsAtMill_54 : decode cX11_floatLogsAtMill 54 = .ok (.aload_n 0, 1) := by decide +kernel
theorem dX11_floatLogsAtMill_55 : decode cX11_floatLogsAtMill 55 = .ok (.aload_n 2, 1) := by decide +kernel
theorem dX11_floatLogsAtMill_56 : decode cX11_floatLogsAtMill 56 = .ok (.iconst 1, 1) := by decide +kernel
theorem dX11_floatLogsAtMill_57 : decode cX11_floatLogsAtMill 57 = .ok (.invokevirtual 229, 3) := by decide +kernel
theorem dX11_floatLogsAtMill_60 : decode cX11_floatLogsAtMill 60 = .ok (.iinc 1 1, 3) := by decide +kernel
theorem dX11_floatLogsAtMill_63 : decode cX11_floatLogsAtMill 63 = .ok (.goto (-42), 3) := by decide +kernel
theorem dX11_floatLogsAtMill_66 : decode cX11_floatLogsAtMill 66 = .ok (.return_, 1) := by decide +kernel
theorem dX11_become_0 : decode cX11_become 0 = .ok (.aload_n 1, 1) := by decide +kernel
theorem dX11_become_1 : decode cX11_become 1 = .ok (.getfield 320, 3) := by decide +kernel
theorem dX11_become_4 : decode cX11_become 4 = .ok (.ifCond .ne 7, 3) := by decide +kernel
theorem dX11_become_7 : decode cX11_become 7 = .ok (.iconst 1, 1) := by decide +kernel
theorem dX11_become_8 : decode cX11_become 8 = .ok (.goto 4, 3) := by decide +kernel
theorem dX11_become_11 : decode cX11_become 11 = .ok (.iconst 0, 1) := by decide +kernel
theorem dX11_become_12 : decode cX11_become 12 = .ok (.istore_n 3, 1) := by decide +kernel
theorem dX11_become_13 : decode cX11_become 13 = .ok (.iload_n 2, 1) := by decide +kernel
theorem dX11_become_14 : decode cX11_become 14 = .ok (.ifCond .ne 7, 3) := by decide +kernel
theorem dX11_become_17 : decode cX11_become 17 = .ok (.iconst 1, 1) := by decide +kernel
theorem dX11_become_18 : decode cX11_become 18 = .ok (.goto 4, 3) := by decide +kernel
theorem dX11_become_21 : decode cX11_become 21 = .ok (.iconst 0, 1) := by decide +kernel
theorem dX11_become_22 : decode cX11_become 22 = .ok (.istore 4, 2) := by decide +kernel
theorem dX11_become_24 : decode cX11_become 24 = .ok (.aload_n 0, 1) := by decide +kernel
theorem dX11_become_25 : decode cX11_become 25 = .ok (.getfield 19, 3) := by decide +kernel
theorem dX11_become_28 : decode cX11_become 28 = .ok (.getfield 157, 3) := by decide +kernel
theorem dX11_become_31 : decode cX11_become 31 = .ok (.aload_n 1, 1) := by decide +kernel
theorem dX11_become_32 : decode cX11_become 32 = .ok (.getfield 302, 3) := by decide +kernel
theorem dX11_become_35 : decode cX11_become 35 = .ok (.dup2, 1) := by decide +kernel
theorem dX11_become_36 : decode cX11_become 36 = .ok (.iaload, 1) := by decide +kernel
theorem dX11_become_37 : decode cX11_become 37 = .ok (.iload 4, 2) := by decide +kernel
theorem dX11_become_39 : decode cX11_become 39 = .ok (.iload_n 3, 1) := by decide +kernel
theorem dX11_become_40 : decode cX11_become 40 = .ok (.isub, 1) := by decide +kernel
theorem dX11_become_41 : decode cX11_become 41 = .ok (.iadd, 1) := by decide +kernel
theorem dX11_become_42 : decode cX11_become 42 = .ok (.iastore, 1) := by decide +kernel
theorem dX11_become_43 : decode cX11_become 43 = .ok (.aload_n 1, 1) := by decide +kernel
theorem dX11_become_44 : decode cX11_become 44 = .ok (.iload_n 2, 1) := by decide +kernel
theorem dX11_become_45 : decode cX11_become 45 = .ok (.aload_n 0, 1) := by decide +kernel
theorem dX11_become_46 : decode cX11_become 46 = .ok (.getfield 12, 3) := by decide +kernel
theorem dX11_become_49 : decode cX11_become 49 = .ok (.getfield 196, 3) := by decide +kernel
theorem dX11_become_52 : decode cX11_become 52 = .ok (.aload_n 0, 1) := by decide +kernel
theorem dX11_become_53 : decode cX11_become 53 = .ok (.getfield 12, 3) := by decide +kernel
theorem dX11_become_56 : decode cX11_become 56 = .ok (.getfield 196, 3) := by decide +kernel
theorem dX11_become_59 : decode cX11_become 59 = .ok (.aload_n 0, 1) := by decide +kernel
theorem dX11_become_60 : decode cX11_become 60 = .ok (.getfield 19, 3) := by decide +kernel
theorem dX11_become_63 : decode cX11_become 63 = .ok (.aload_n 1, 1) := by decide +kernel
theorem dX11_become_64 : decode cX11_become 64 = .ok (.getfield 302, 3) := by decide +kernel
theorem dX11_become_67 : decode cX11_become 67 = .ok (.invokevirtual 160, 3) := by decide +kernel
theorem dX11_become_70 : decode cX11_become 70 = .ok (.iconst 4, 1) := by decide +kernel
theorem dX11_become_71 : decode cX11_become 71 = .ok (.idiv, 1) := by decide +kernel
theorem dX11_become_72 : decode cX11_become 72 = .ok (.iadd, 1) := by decide +kernel
theorem dX11_become_73 : decode cX11_become 73 = .ok (.invokevirtual 323, 3) := by decide +kernel
theorem dX11_become_76 : decode cX11_become 76 = .ok (.return_, 1) := by decide +kernel
theorem dX11_feed_0 : decode cX11_feed 0 = .ok (.aload_n 0, 1) := by decide +kernel
theorem dX11_feed_1 : decode cX11_feed 1 = .ok (.getfield 55, 3) := by decide +kernel
theorem dX11_feed_4 : decode cX11_feed 4 = .ok (.getfield 326, 3) := by decide +kernel
theorem dX11_feed_7 : decode cX11_feed 7 = .ok (.bipush 20, 2) := by decide +kernel
theorem dX11_feed_9 : decode cX11_feed 9 = .ok (.iadd, 1) := by decide +kernel
theorem dX11_feed_10 : decode cX11_feed 10 = .ok (.sipush 300, 3) := by decide +kernel
theorem dX11_feed_13 : decode cX11_feed 13 = .ok (.if_icmp .le 5, 3) := by decide +kernel
theorem dX11_feed_16 : decode cX11_feed 16 = .ok (.iconst (-1), 1) := by decide +kernel
theorem dX11_feed_17 : decode cX11_feed 17 = .ok (.ireturn, 1) := by decide +kernel
theorem dX11_feed_18 : decode cX11_feed 18 = .ok (.aload_n 0, 1) := by decide +kernel
theorem dX11_feed_19 : decode cX11_feed 19 = .ok (.getfield 55, 3) := by decide +kernel
theorem dX11_feed_22 : decode cX11_feed 22 = .ok (.iload_n 1, 1) := by decide +kernel
theorem dX11_feed_23 : decode cX11_feed 23 = .ok (.invokevirtual 329, 3) := by decide +kernel
theorem dX11_feed_26 : decode cX11_feed 26 = .ok (.aload_n 0, 1) := by decide +kernel
theorem dX11_feed_27 : decode cX11_feed 27 = .ok (.getfield 55, 3) := by decide +kernel
theorem dX11_feed_30 : decode cX11_feed 30 = .ok (.iload_n 2, 1) := by decide +kernel
theorem dX11_feed_31 : decode cX11_feed 31 = .ok (.invokevirtual 329, 3) := by decide +kernel
theorem dX11_feed_34 : decode cX11_feed 34 = .ok (.aload_n 0, 1) := by decide +kernel
theorem dX11_feed_35 : decode cX11_feed 35 = .ok (.getfield 55, 3) := by decide +kernel
theorem dX11_feed_38 : decode cX11_feed 38 = .ok (.iload_n 3, 1) := by decide +kernel
theorem dX11_feed_39 : decode cX11_feed 39 = .ok (.invokevirtual 329, 3) := by decide +kernel
theorem dX11_feed_42 : decode cX11_feed 42 = .ok (.aload_n 0, 1) := by decide +kernel
theorem dX11_feed_43 : decode cX11_feed 43 = .ok (.getfield 55, 3) := by decide +kernel
theorem dX11_feed_46 : decode cX11_feed 46 = .ok (.iload 4, 2) := by decide +kernel
theorem dX11_feed_48 : decode cX11_feed 48 = .ok (.invokevirtual 329, 3) := by decide +kernel
theorem dX11_feed_51 : decode cX11_feed 51 = .ok (.aload_n 0, 1) := by decide +kernel
theorem dX11_feed_52 : decode cX11_feed 52 = .ok (.getfield 55, 3) := by decide +kernel
theorem dX11_feed_55 : decode cX11_feed 55 = .ok (.iload 5, 2) := by decide +kernel
theorem dX11_feed_57 : decode cX11_feed 57 = .ok (.invokevirtual 329, 3) := by decide +kernel
theorem dX11_feed_60 : decode cX11_feed 60 = .ok (.aload_n 0, 1) := by decide +kernel
theorem dX11_feed_61 : decode cX11_feed 61 = .ok (.getfield 55, 3) := by decide +kernel
theorem dX11_feed_64 : decode cX11_feed 64 = .ok (.getfield 326, 3) := by decide +kernel
theorem dX11_feed_67 : decode cX11_feed 67 = .ok (.ireturn, 1) := by decide +kernel
theorem dX11_end_0 : decode cX11_end 0 = .ok (.iload_n 1, 1) := by decide +kernel
theorem dX11_end_1 : decode cX11_end 1 = .ok (.iconst 0, 1) := by decide +kernel
theorem dX11_end_2 : decode cX11_end 2 = .ok (.aload_n 0, 1) := by decide +kernel
theorem dX11_end_3 : decode cX11_end 3 = .ok (.getfield 55, 3) := by decide +kernel
theorem dX11_end_6 : decode cX11_end 6 = .ok (.getfield 326, 3) := by decide +kernel
theorem dX11_end_9 : decode cX11_end 9 = .ok (.invokestatic 116, 3) := by decide +kernel
theorem dX11_end_12 : decode cX11_end 12 = .ok (.ifCond .ne 5, 3) := by decide +kernel
theorem dX11_end_15 : decode cX11_end 15 = .ok (.iconst (-1), 1) := by decide +kernel
theorem dX11_end_16 : decode cX11_end 16 = .ok (.ireturn, 1) := by decide +kernel
theorem dX11_end_17 : decode cX11_end 17 = .ok (.aload_n 0, 1) := by decide +kernel
theorem dX11_end_18 : decode cX11_end 18 = .ok (.getfield 55, 3) := by decide +kernel
theorem dX11_end_21 : decode cX11_end 21 = .ok (.iload_n 1, 1) := by decide +kernel
theorem dX11_end_22 : decode cX11_end 22 = .ok (.putfield 326, 3) := by decide +kernel
theorem dX11_end_25 : decode cX11_end 25 = .ok (.iload_n 1, 1) := by decide +kernel
theorem dX11_end_26 : decode cX11_end 26 = .ok (.ireturn, 1) := by decide +kernel
theorem dX11_law_0 : decode cX11_law 0 = .ok (.iload_n 1, 1) := by decide +kernel
theorem dX11_law_1 : decode cX11_law 1 = .ok (.invokestatic 147, 3) := by decide +kernel
theorem dX11_law_4 : decode cX11_law 4 = .ok (.ifCond .eq 15, 3) := by decide +kernel
theorem dX11_law_7 : decode cX11_law 7 = .ok (.aload_n 0, 1) := by decide +kernel
theorem dX11_law_8 : decode cX11_law 8 = .ok (.getfield 62, 3) := by decide +kernel
theorem dX11_law_11 : decode cX11_law 11 = .ok (.getfield 332, 3) := by decide +kernel
theorem dX11_law_14 : decode cX11_law 14 = .ok (.bipush 20, 2) := by decide +kernel
theorem dX11_law_16 : decode cX11_law 16 = .ok (.if_icmp .lt 5, 3) := by decide +kernel
theorem dX11_law_19 : decode cX11_law 19 = .ok (.iconst (-1), 1) := by decide +kernel
theorem dX11_law_20 : decode cX11_law 20 = .ok (.ireturn, 1) := by decide +kernel
theorem dX11_law_21 : decode cX11_law 21 = .ok (.aload_n 0, 1) := by decide +kernel
theorem dX11_law_22 : decode cX11_law 22 = .ok (.getfield 62, 3) := by decide +kernel
theorem dX11_law_25 : decode cX11_law 25 = .ok (.iload_n 1, 1) := by decide +kernel
theorem dX11_law_26 : decode cX11_law 26 = .ok (.aload_n 0, 1) := by decide +kernel
theorem dX11_law_27 : decode cX11_law 27 = .ok (.getfield 55, 3) := by decide +kernel
theorem dX11_law_30 : decode cX11_law 30 = .ok (.invokevirtual 335, 3) := by decide +kernel
theorem dX11_law_33 : decode cX11_law 33 = .ok (.ireturn, 1) := by decide +kernel
theorem dX11_place_0 : decode cX11_place 0 = .ok (.aload_n 0, 1) := by decide +kernel
theorem dX11_place_1 : decode cX11_place 1 = .ok (.getfield 62, 3) := by decide +kernel
theorem dX11_place_4 : decode cX11_place 4 = .ok (.getfield 338, 3) := by decide +kernel
theorem dX11_place_7 : decode cX11_place 7 = .ok (.ireturn, 1) := by decide +kernel
theorem dX11_why_0 : decode cX11_why 0 = .ok (.aload_n 0, 1) := by decide +kernel
theorem dX11_why_1 : decode cX11_why 1 = .ok (.iload_n 1, 1) := by decide +kernel
theorem dX11_why_2 : decode cX11_why 2 = .ok (.invokevirtual 184, 3) := by decide +kernel
theorem dX11_why_5 : decode cX11_why 5 = .ok (.ifnull 19, 3) := by decide +kernel
theorem dX11_why_8 : decode cX11_why 8 = .ok (.iload_n 2, 1) := by decide +kernel
theorem dX11_why_9 : decode cX11_why 9 = .ok (.invokestatic 112, 3) := by decide +kernel
theorem dX11_why_12 : decode cX11_why 12 = .ok (.ifCond .eq 12, 3) := by decide +kernel
theorem dX11_why_15 : decode cX11_why 15 = .ok (.iload_n 3, 1) := by decide +kernel
theorem dX11_why_16 : decode cX11_why 16 = .ok (.iload 4, 2) := by decide +kernel
theorem dX11_why_18 : decode cX11_why 18 = .ok (.invokestatic 123, 3) := by decide +kernel
theorem dX11_why_21 : decode cX11_why 21 = .ok (.ifCond .ne 6, 3) := by decide +kernel
theorem dX11_why_24 : decode cX11_why 24 = .ok (.bipush (-2), 2) := by decide +kernel
theorem dX11_why_26 : decode cX11_why 26 = .ok (.ireturn, 1) := by decide +kernel
theorem dX11_why_27 : decode cX11_why 27 = .ok (.aload_n 0, 1) := by decide +kernel
theorem dX11_why_28 : decode cX11_why 28 = .ok (.iload_n 1, 1) := by decide +kernel
theorem dX11_why_29 : decode cX11_why 29 = .ok (.iload_n 2, 1) := by decide +kernel
theorem dX11_why_30 : decode cX11_why 30 = .ok (.iload_n 3, 1) := by decide +kernel
theorem dX11_why_31 : decode cX11_why 31 = .ok (.iload 4, 2) := by decide +kernel
theorem dX11_why_33 : decode cX11_why 33 = .ok (.invokevirtual 192, 3) := by decide +kernel
theorem dX11_why_36 : decode cX11_why 36 = .ok (.aload_n 0, 1) := by decide +kernel
theorem dX11_why_37 : decode cX11_why 37 = .ok (.getfield 62, 3) := by decide +kernel
theorem dX11_why_40 : decode cX11_why 40 = .ok (.aload_n 0, 1) := by decide +kernel
theorem dX11_why_41 : decode cX11_why 41 = .ok (.getfield 12, 3) := by decide +kernel
theorem dX11_why_44 : decode cX11_why 44 = .ok (.getfield 196, 3) := by decide +kernel
theorem dX11_why_47 : decode cX11_why 47 = .ok (.iconst 0, 1) := by decide +kernel
theorem dX11_why_48 : decode cX11_why 48 = .ok (.invokevirtual 199, 3) := by decide +kernel
theorem dX11_why_51 : decode cX11_why 51 = .ok (.ireturn, 1) := by decide +kernel
theorem dX11_whyWay_0 : decode cX11_whyWay 0 = .ok (.aload_n 0, 1) := by decide +kernel
theorem dX11_whyWay_1 : decode cX11_whyWay 1 = .ok (.iload_n 1, 1) := by decide +kernel
theorem dX11_whyWay_2 : decode cX11_whyWay 2 = .ok (.invokevirtual 248, 3) := by decide +kernel
theorem dX11_whyWay_5 : decode cX11_whyWay 5 = .ok (.astore_n 2, 1) := by decide +kernel
theorem dX11_whyWay_6 : decode cX11_whyWay 6 = .ok (.aload_n 2, 1) := by decide +kernel
theorem dX11_whyWay_7 : decode cX11_whyWay 7 = .ok (.ifnonnull 6, 3) := by decide +kernel
theorem dX11_whyWay_10 : decode cX11_whyWay 10 = .ok (.bipush (-2), 2) := by decide +kernel
theorem dX11_whyWay_12 : decode cX11_whyWay 12 = .ok (.ireturn, 1) := by decide +kernel
theorem dX11_whyWay_13 : decode cX11_whyWay 13 = .ok (.aload_n 0, 1) := by decide +kernel
theorem dX11_whyWay_14 : decode cX11_whyWay 14 = .ok (.aload_n 2, 1) := by decide +kernel
theorem dX11_whyWay_15 : decode cX11_whyWay 15 = .ok (.invokevirtual 265, 3) := by decide +kernel
theorem dX11_whyWay_18 : decode cX11_whyWay 18 = .ok (.aload_n 0, 1) := by decide +kernel
theorem dX11_whyWay_19 : decode cX11_whyWay 19 = .ok (.getfield 62, 3) := by decide +kernel
theorem dX11_whyWay_22 : decode cX11_whyWay 22 = .ok (.aload_n 0, 1) := by decide +kernel
theorem dX11_whyWay_23 : decode cX11_whyWay 23 = .ok (.getfield 12, 3) := by decide +kernel
theorem dX11_whyWay_26 : decode cX11_whyWay 26 = .ok (.getfield 196, 3) := by decide +kernel
theorem dX11_whyWay_29 : decode cX11_whyWay 29 = .ok (.iconst 1, 1) := by decide +kernel
theorem dX11_whyWay_30 : decode cX11_whyWay 30 = .ok (.invokevirtual 199, 3) := by decide +kernel
theorem dX11_whyWay_33 : decode cX11_whyWay 33 = .ok (.ireturn, 1) := by decide +kernel
theorem dX11_due_0 : decode cX11_due 0 = .ok (.aload_n 0, 1) := by decide +kernel
theorem dX11_due_1 : decode cX11_due 1 = .ok (.iload_n 1, 1) := by decide +kernel
theorem dX11_due_2 : decode cX11_due 2 = .ok (.invokevirtual 184, 3) := by decide +kernel
theorem dX11_due_5 : decode cX11_due 5 = .ok (.ifnull 12, 3) := by decide +kernel
theorem dX11_due_8 : decode cX11_due 8 = .ok (.iload_n 2, 1) := by decide +kernel
theorem dX11_due_9 : decode cX11_due 9 = .ok (.iconst 0, 1) := by decide +kernel
theorem dX11_due_10 : decode cX11_due 10 = .ok (.iconst 2, 1) := by decide +kernel
theorem dX11_due_11 : decode cX11_due 11 = .ok (.invokestatic 116, 3) := by decide +kernel
theorem dX11_due_14 : decode cX11_due 14 = .ok (.ifCond .ne 5, 3) := by decide +kernel
theorem dX11_due_17 : decode cX11_due 17 = .ok (.iconst (-1), 1) := by decide +kernel
theorem dX11_due_18 : decode cX11_due 18 = .ok (.ireturn, 1) := by decide +kernel
theorem dX11_due_19 : decode cX11_due 19 = .ok (.aload_n 0, 1) := by decide +kernel
theorem dX11_due_20 : decode cX11_due 20 = .ok (.iload_n 1, 1) := by decide +kernel
theorem dX11_due_21 : decode cX11_due 21 = .ok (.iconst 1, 1) := by decide +kernel
theorem dX11_due_22 : decode cX11_due 22 = .ok (.iload_n 2, 1) := by decide +kernel
theorem dX11_due_23 : decode cX11_due 23 = .ok (.iadd, 1) := by decide +kernel
theorem dX11_due_24 : decode cX11_due 24 = .ok (.invokevirtual 341, 3) := by decide +kernel
theorem dX11_due_27 : decode cX11_due 27 = .ok (.ireturn, 1) := by decide +kernel
theorem dX11_numberFor_0 : decode cX11_numberFor 0 = .ok (.aload_n 0, 1) := by decide +kernel
theorem dX11_numberFor_1 : decode cX11_numberFor 1 = .ok (.getfield 62, 3) := by decide +kernel
theorem dX11_numberFor_4 : decode cX11_numberFor 4 = .ok (.aload_n 0, 1) := by decide +kernel
theorem dX11_numberFor_5 : decode cX11_numberFor 5 = .ok (.getfield 12, 3) := by decide +kernel
theorem dX11_numberFor_8 : decode cX11_numberFor 8 = .ok (.invokevirtual 344, 3) := by decide +kernel
theorem dX11_numberFor_11 : decode cX11_numberFor 11 = .ok (.aload_n 0, 1) := by decide +kernel
theorem dX11_numberFor_12 : decode cX11_numberFor 12 = .ok (.getfield 62, 3) := by decide +kernel
theorem dX11_numberFor_15 : decode cX11_numberFor 15 = .ok (.getfield 348, 3) := by decide +kernel
theorem dX11_numberFor_18 : decode cX11_numberFor 18 = .ok (.bipush 11, 2) := by decide +kernel
theorem dX11_numberFor_20 : decode cX11_numberFor 20 = .ok (.iload_n 1, 1) := by decide +kernel
theorem dX11_numberFor_21 : decode cX11_numberFor 21 = .ok (.iastore, 1) := by decide +kernel
theorem dX11_numberFor_22 : decode cX11_numberFor 22 = .ok (.aload_n 0, 1) := by decide +kernel
theorem dX11_numberFor_23 : decode cX11_numberFor 23 = .ok (.getfield 62, 3) := by decide +kernel
theorem dX11_numberFor_26 : decode cX11_numberFor 26 = .ok (.aload_n 0, 1) := by decide +kernel
theorem dX11_numberFor_27 : decode cX11_numberFor 27 = .ok (.getfield 12, 3) := by decide +kernel
theorem dX11_numberFor_30 : decode cX11_numberFor 30 = .ok (.getfield 196, 3) := by decide +kernel
theorem dX11_numberFor_33 : decode cX11_numberFor 33 = .ok (.iload_n 2, 1) := by decide +kernel
theorem dX11_numberFor_34 : decode cX11_numberFor 34 = .ok (.invokevirtual 202, 3) := by decide +kernel
theorem dX11_numberFor_37 : decode cX11_numberFor 37 = .ok (.ireturn, 1) := by decide +kernel
theorem dX11_askOfCut_0 : decode cX11_askOfCut 0 = .ok (.aload_n 0, 1) := by decide +kernel
theorem dX11_askOfCut_1 : decode cX11_askOfCut 1 = .ok (.getfield 62, 3) := by decide +kernel
theorem dX11_askOfCut_4 : decode cX11_askOfCut 4 = .ok (.aload_n 0, 1) := by decide +kernel
theorem dX11_askOfCut_5 : decode cX11_askOfCut 5 = .ok (.getfield 12, 3) := by decide +kernel
theorem dX11_askOfCut_8 : decode cX11_askOfCut 8 = .ok (.invokevirtual 344, 3) := by decide +kernel
theorem dX11_askOfCut_11 : decode cX11_askOfCut 11 = .ok (.aload_n 0, 1) := by decide +kernel
theorem dX11_askOfCut_12 : decode cX11_askOfCut 12 = .ok (.getfield 62, 3) := by decide +kernel
theorem dX11_askOfCut_15 : decode cX11_askOfCut 15 = .ok (.aload_n 0, 1) := by decide +kernel
theorem dX11_askOfCut_16 : decode cX11_askOfCut 16 = .ok (.getfield 19, 3) := by decide +kernel
theorem dX11_askOfCut_19 : decode cX11_askOfCut 19 = .ok (.iload_n 2, 1) := by decide +kernel
theorem dX11_askOfCut_20 : decode cX11_askOfCut 20 = .ok (.invokevirtual 351, 3) := by decide +kernel
theorem dX11_askOfCut_23 : decode cX11_askOfCut 23 = .ok (.aload_n 0, 1) := by decide +kernel
theorem dX11_askOfCut_24 : decode cX11_askOfCut 24 = .ok (.getfield 62, 3) := by decide +kernel
theorem dX11_askOfCut_27 : decode cX11_askOfCut 27 = .ok (.getfield 348, 3) := by decide +kernel
theorem dX11_askOfCut_30 : decode cX11_askOfCut 30 = .ok (.iconst 2, 1) := by decide +kernel
theorem dX11_askOfCut_31 : decode cX11_askOfCut 31 = .ok (.iload_n 3, 1) := by decide +kernel
theorem dX11_askOfCut_32 : decode cX11_askOfCut 32 = .ok (.iastore, 1) := by decide +kernel
theorem dX11_askOfCut_33 : decode cX11_askOfCut 33 = .ok (.aload_n 0, 1) := by decide +kernel
theorem dX11_askOfCut_34 : decode cX11_askOfCut 34 = .ok (.getfield 62, 3) := by decide +kernel
theorem dX11_askOfCut_37 : decode cX11_askOfCut 37 = .ok (.getfield 348, 3) := by decide +kernel
theorem dX11_askOfCut_40 : decode cX11_askOfCut 40 = .ok (.iconst 3, 1) := by decide +kernel
theorem dX11_askOfCut_41 : decode cX11_askOfCut 41 = .ok (.iload 4, 2) := by decide +kernel
theorem dX11_askOfCut_43 : decode cX11_askOfCut 43 = .ok (.iastore, 1) := by decide +kernel
theorem dX11_askOfCut_44 : decode cX11_askOfCut 44 = .ok (.aload_n 0, 1) := by decide +kernel
theorem dX11_askOfCut_45 : decode cX11_askOfCut 45 = .ok (.getfield 62, 3) := by decide +kernel
theorem dX11_askOfCut_48 : decode cX11_askOfCut 48 = .ok (.getfield 348, 3) := by decide +kernel
theorem dX11_askOfCut_51 : decode cX11_askOfCut 51 = .ok (.bipush 11, 2) := by decide +kernel
theorem dX11_askOfCut_53 : decode cX11_askOfCut 53 = .ok (.iload_n 1, 1) := by decide +kernel
theorem dX11_askOfCut_54 : decode cX11_askOfCut 54 = .ok (.iastore, 1) := by decide +kernel
theorem dX11_askOfCut_55 : decode cX11_askOfCut 55 = .ok (.return_, 1) := by decide +kernel
theorem dX11_askOfWay_0 : decode cX11_askOfWay 0 = .ok (.aload_n 0, 1) := by decide +kernel
theorem dX11_askOfWay_1 : decode cX11_askOfWay 1 = .ok (.getfield 62, 3) := by decide +kernel
theorem dX11_askOfWay_4 : decode cX11_askOfWay 4 = .ok (.aload_n 0, 1) := by decide +kernel
theorem dX11_askOfWay_5 : decode cX11_askOfWay 5 = .ok (.getfield 12, 3) := by decide +kernel
theorem dX11_askOfWay_8 : decode cX11_askOfWay 8 = .ok (.invokevirtual 344, 3) := by decide +kernel
theorem dX11_askOfWay_11 : decode cX11_askOfWay 11 = .ok (.aload_n 0, 1) := by decide +kernel
theorem dX11_askOfWay_12 : decode cX11_askOfWay 12 = .ok (.getfield 62, 3) := by decide +kernel
theorem dX11_askOfWay_15 : decode cX11_askOfWay 15 = .ok (.aload_n 0, 1) := by decide +kernel
theorem dX11_askOfWay_16 : decode cX11_askOfWay 16 = .ok (.getfield 19, 3) := by decide +kernel
theorem dX11_askOfWay_19 : decode cX11_askOfWay 19 = .ok (.aload_n 1, 1) := by decide +kernel
theorem dX11_askOfWay_20 : decode cX11_askOfWay 20 = .ok (.getfield 273, 3) := by decide +kernel
theorem dX11_askOfWay_23 : decode cX11_askOfWay 23 = .ok (.invokevirtual 351, 3) := by decide +kernel
theorem dX11_askOfWay_26 : decode cX11_askOfWay 26 = .ok (.aload_n 0, 1) := by decide +kernel
theorem dX11_askOfWay_27 : decode cX11_askOfWay 27 = .ok (.getfield 62, 3) := by decide +kernel
theorem dX11_askOfWay_30 : decode cX11_askOfWay 30 = .ok (.getfield 348, 3) := by decide +kernel
theorem dX11_askOfWay_33 : decode cX11_askOfWay 33 = .ok (.bipush 12, 2) := by decide +kernel
theorem dX11_askOfWay_35 : decode cX11_askOfWay 35 = .ok (.aload_n 1, 1) := by decide +kernel
theorem dX11_askOfWay_36 : decode cX11_askOfWay 36 = .ok (.getfield 252, 3) := by decide +kernel
theorem dX11_askOfWay_39 : decode cX11_askOfWay 39 = .ok (.iastore, 1) := by decide +kernel
theorem dX11_askOfWay_40 : decode cX11_askOfWay 40 = .ok (.return_, 1) := by decide +kernel
theorem dX11_crew_0 : decode cX11_crew 0 = .ok (.iload_n 1, 1) := by decide +kernel
theorem dX11_crew_1 : decode cX11_crew 1 = .ok (.iconst 0, 1) := by decide +kernel
theorem dX11_crew_2 : decode cX11_crew 2 = .ok (.bipush 9, 2) := by decide +kernel
theorem dX11_crew_4 : decode cX11_crew 4 = .ok (.invokestatic 116, 3) := by decide +kernel
theorem dX11_crew_7 : decode cX11_crew 7 = .ok (.ifCond .eq 12, 3) := by decide +kernel
theorem dX11_crew_10 : decode cX11_crew 10 = .ok (.aload_n 0, 1) := by decide +kernel
theorem dX11_crew_11 : decode cX11_crew 11 = .ok (.getfield 72, 3) := by decide +kernel
theorem dX11_crew_14 : decode cX11_crew 14 = .ok (.bipush 20, 2) := by decide +kernel
theorem dX11_crew_16 : decode cX11_crew 16 = .ok (.if_icmp .lt 5, 3) := by decide +kernel
theorem dX11_crew_19 : decode cX11_crew 19 = .ok (.iconst (-1), 1) := by decide +kernel
theorem dX11_crew_20 : decode cX11_crew 20 = .ok (.ireturn, 1) := by decide +kernel
theorem dX11_crew_21 : decode cX11_crew 21 = .ok (.aload_n 0, 1) := by decide +kernel
theorem dX11_crew_22 : decode cX11_crew 22 = .ok (.getfield 68, 3) := by decide +kernel
theorem dX11_crew_25 : decode cX11_crew 25 = .ok (.aload_n 0, 1) := by decide +kernel
theorem dX11_crew_26 : decode cX11_crew 26 = .ok (.getfield 72, 3) := by decide +kernel
theorem dX11_crew_29 : decode cX11_crew 29 = .ok (.new 66, 3) := by decide +kernel
theorem dX11_crew_32 : decode cX11_crew 32 = .ok (.dup, 1) := by decide +kernel
theorem dX11_crew_33 : decode cX11_crew 33 = .ok (.iload_n 1, 1) := by decide +kernel
theorem dX11_crew_34 : decode cX11_crew 34 = .ok (.invokespecial 355, 3) := by decide +kernel
theorem dX11_crew_37 : decode cX11_crew 37 = .ok (.aastore, 1) := by decide +kernel
theorem dX11_crew_38 : decode cX11_crew 38 = .ok (.aload_n 0, 1) := by decide +kernel
theorem dX11_crew_39 : decode cX11_crew 39 = .ok (.dup, 1) := by decide +kernel
theorem dX11_crew_40 : decode cX11_crew 40 = .ok (.getfield 72, 3) := by decide +kernel
theorem dX11_crew_43 : decode cX11_crew 43 = .ok (.iconst 1, 1) := by decide +kernel
theorem dX11_crew_44 : decode cX11_crew 44 = .ok (.iadd, 1) := by decide +kernel
theorem dX11_crew_45 : decode cX11_crew 45 = .ok (.putfield 72, 3) := by decide +kernel
theorem dX11_crew_48 : decode cX11_crew 48 = .ok (.aload_n 0, 1) := by decide +kernel
theorem dX11_crew_49 : decode cX11_crew 49 = .ok (.getfield 72, 3) := by decide +kernel
theorem dX11_crew_52 : decode cX11_crew 52 = .ok (.iconst 1, 1) := by decide +kernel
theorem dX11_crew_53 : decode cX11_crew 53 = .ok (.isub, 1) := by decide +kernel
theorem dX11_crew_54 : decode cX11_crew 54 = .ok (.ireturn, 1) := by decide +kernel
theorem dX11_shop_0 : decode cX11_shop 0 = .ok (.aload_n 0, 1) := by decide +kernel
theorem dX11_shop_1 : decode cX11_shop 1 = .ok (.iload_n 1, 1) := by decide +kernel
theorem dX11_shop_2 : decode cX11_shop 2 = .ok (.invokevirtual 184, 3) := by decide +kernel
theorem dX11_shop_5 : decode cX11_shop 5 = .ok (.astore_n 3, 1) := by decide +kernel
theorem dX11_shop_6 : decode cX11_shop 6 = .ok (.aload_n 3, 1) := by decide +kernel
theorem dX11_shop_7 : decode cX11_shop 7 = .ok (.ifnull 21, 3) := by decide +kernel
theorem dX11_shop_10 : decode cX11_shop 10 = .ok (.aload_n 3, 1) := by decide +kernel
theorem dX11_shop_11 : decode cX11_shop 11 = .ok (.getfield 188, 3) := by decide +kernel
theorem dX11_shop_14 : decode cX11_shop 14 = .ok (.ifCond .ne 14, 3) := by decide +kernel
theorem dX11_shop_17 : decode cX11_shop 17 = .ok (.iload_n 2, 1) := by decide +kernel
theorem dX11_shop_18 : decode cX11_shop 18 = .ok (.iconst 1, 1) := by decide +kernel
theorem dX11_shop_19 : decode cX11_shop 19 = .ok (.sipush 999, 3) := by decide +kernel
theorem dX11_shop_22 : decode cX11_shop 22 = .ok (.invokestatic 116, 3) := by decide +kernel
theorem dX11_shop_25 : decode cX11_shop 25 = .ok (.ifCond .ne 5, 3) := by decide +kernel
theorem dX11_shop_28 : decode cX11_shop 28 = .ok (.iconst (-1), 1) := by decide +kernel
theorem dX11_shop_29 : decode cX11_shop 29 = .ok (.ireturn, 1) := by decide +kernel
theorem dX11_shop_30 : decode cX11_shop 30 = .ok (.aload_n 3, 1) := by decide +kernel
theorem dX11_shop_31 : decode cX11_shop 31 = .ok (.getfield 357, 3) := by decide +kernel
theorem dX11_shop_34 : decode cX11_shop 34 = .ok (.iload_n 2, 1) := by decide +kernel
theorem dX11_shop_35 : decode cX11_shop 35 = .ok (.iadd, 1) := by decide +kernel
theorem dX11_shop_36 : decode cX11_shop 36 = .ok (.aload_n 0, 1) := by decide +kernel
theorem dX11_shop_37 : decode cX11_shop 37 = .ok (.iload_n 1, 1) := by decide +kernel
theorem dX11_shop_38 : decode cX11_shop 38 = .ok (.iconst 2, 1) := by decide +kernel
theorem dX11_shop_39 : decode cX11_shop 39 = .ok (.invokevirtual 341, 3) := by decide +kernel
theorem dX11_shop_42 : decode cX11_shop 42 = .ok (.if_icmp .le 6, 3) := by decide +kernel
theorem dX11_shop_45 : decode cX11_shop 45 = .ok (.bipush (-2), 2) := by decide +kernel
theorem dX11_shop_47 : decode cX11_shop 47 = .ok (.ireturn, 1) := by decide +kernel
theorem dX11_shop_48 : decode cX11_shop 48 = .ok (.aload_n 3, 1) := by decide +kernel
theorem dX11_shop_49 : decode cX11_shop 49 = .ok (.dup, 1) := by decide +kernel
theorem dX11_shop_50 : decode cX11_shop 50 = .ok (.getfield 357, 3) := by decide +kernel
theorem dX11_shop_53 : decode cX11_shop 53 = .ok (.iload_n 2, 1) := by decide +kernel
theorem dX11_shop_54 : decode cX11_shop 54 = .ok (.iadd, 1) := by decide +kernel
theorem dX11_shop_55 : decode cX11_shop 55 = .ok (.putfield 357, 3) := by decide +kernel
theorem dX11_shop_58 : decode cX11_shop 58 = .ok (.aload_n 3, 1) := by decide +kernel
theorem dX11_shop_59 : decode cX11_shop 59 = .ok (.getfield 357, 3) := by decide +kernel
theorem dX11_shop_62 : decode cX11_shop 62 = .ok (.ireturn, 1) := by decide +kernel
theorem dX11_leave_0 : decode cX11_leave 0 = .ok (.aload_n 0, 1) := by decide +kernel
theorem dX11_leave_1 : decode cX11_leave 1 = .ok (.iload_n 1, 1) := by decide +kernel
theorem dX11_leave_2 : decode cX11_leave 2 = .ok (.invokevirtual 184, 3) := by decide +kernel
theorem dX11_leave_5 : decode cX11_leave 5 = .ok (.astore_n 2, 1) := by decide +kernel
theorem dX11_leave_6 : decode cX11_leave 6 = .ok (.aload_n 2, 1) := by decide +kernel
theorem dX11_leave_7 : decode cX11_leave 7 = .ok (.ifnull 10, 3) := by decide +kernel
theorem dX11_leave_10 : decode cX11_leave 10 = .ok (.aload_n 2, 1) := by decide +kernel
theorem dX11_leave_11 : decode cX11_leave 11 = .ok (.getfield 188, 3) := by decide +kernel
theorem dX11_leave_14 : decode cX11_leave 14 = .ok (.ifCond .eq 9, 3) := by decide +kernel
theorem dX11_leave_17 : decode cX11_leave 17 = .ok (.ldc_w 360, 3) := by decide +kernel
theorem dX11_leave_20 : decode cX11_leave 20 = .ok (.goto 7, 3) := by decide +kernel
theorem dX11_leave_23 : decode cX11_leave 23 = .ok (.aload_n 2, 1) := by decide +kernel
theorem dX11_leave_24 : decode cX11_leave 24 = .ok (.invokevirtual 361, 3) := by decide +kernel
theorem dX11_leave_27 : decode cX11_leave 27 = .ok (.ireturn, 1) := by decide +kernel
theorem dX11_crewOf_0 : decode cX11_crewOf 0 = .ok (.aload_n 0, 1) := by decide +kernel
theorem dX11_crewOf_1 : decode cX11_crewOf 1 = .ok (.iload_n 1, 1) := by decide +kernel
theorem dX11_crewOf_2 : decode cX11_crewOf 2 = .ok (.invokevirtual 184, 3) := by decide +kernel
theorem dX11_crewOf_5 : decode cX11_crewOf 5 = .ok (.astore_n 3, 1) := by decide +kernel
theorem dX11_crewOf_6 : decode cX11_crewOf 6 = .ok (.aload_n 3, 1) := by decide +kernel
theorem dX11_crewOf_7 : decode cX11_crewOf 7 = .ok (.ifnonnull 7, 3) := by decide +kernel
theorem dX11_crewOf_10 : decode cX11_crewOf 10 = .ok (.iconst (-1), 1) := by decide +kernel
theorem dX11_crewOf_11 : decode cX11_crewOf 11 = .ok (.goto 8, 3) := by decide +kernel
theorem dX11_crewOf_14 : decode cX11_crewOf 14 = .ok (.aload_n 3, 1) := by decide +kernel
theorem dX11_crewOf_15 : decode cX11_crewOf 15 = .ok (.iload_n 2, 1) := by decide +kernel
theorem dX11_crewOf_16 : decode cX11_crewOf 16 = .ok (.invokevirtual 364, 3) := by decide +kernel
theorem dX11_crewOf_19 : decode cX11_crewOf 19 = .ok (.ireturn, 1) := by decide +kernel
theorem dX11_closeMonth_0 : decode cX11_closeMonth 0 = .ok (.iconst 0, 1) := by decide +kernel
theorem dX11_closeMonth_1 : decode cX11_closeMonth 1 = .ok (.istore_n 1, 1) := by decide +kernel
theorem dX11_closeMonth_2 : decode cX11_closeMonth 2 = .ok (.iload_n 1, 1) := by decide +kernel
theorem dX11_closeMonth_3 : decode cX11_closeMonth 3 = .ok (.aload_n 0, 1) := by decide +kernel
theorem dX11_closeMonth_4 : decode cX11_closeMonth 4 = .ok (.getfield 72, 3) := by decide +kernel
theorem dX11_closeMonth_7 : decode cX11_closeMonth 7 = .ok (.if_icmp .ge 37, 3) := by decide +kernel
theorem dX11_closeMonth_10 : decode cX11_closeMonth 10 = .ok (.aload_n 0, 1) := by decide +kernel
theorem dX11_closeMonth_11 : decode cX11_closeMonth 11 = .ok (.getfield 68, 3) := by decide +kernel
theorem dX11_closeMonth_14 : decode cX11_closeMonth 14 = .ok (.iload_n 1, 1) := by decide +kernel
theorem dX11_closeMonth_15 : decode cX11_closeMonth 15 = .ok (.aaload, 1) := by decide +kernel
theorem dX11_closeMonth_16 : decode cX11_closeMonth 16 = .ok (.astore_n 2, 1) := by decide +kernel
theorem dX11_closeMonth_17 : decode cX11_closeMonth 17 = .ok (.aload_n 2, 1) := by decide +kernel
theorem dX11_closeMonth_18 : decode cX11_closeMonth 18 = .ok (.ifnull 20, 3) := by decide +kernel
theorem dX11_closeMonth_21 : decode cX11_closeMonth 21 = .ok (.aload_n 2, 1) := by decide +kernel
theorem dX11_closeMonth_22 : decode cX11_closeMonth 22 = .ok (.getfield 188, 3) := by decide +kernel
theorem dX11_closeMonth_25 : decode cX11_closeMonth 25 = .ok (.ifCond .ne 13, 3) := by decide +kernel
theorem dX11_closeMonth_28 : decode cX11_closeMonth 28 = .ok (.aload_n 2, 1) := by decide +kernel
theorem dX11_closeMonth_29 : decode cX11_closeMonth 29 = .ok (.aload_n 0, 1) := by decide +kernel
theorem dX11_closeMonth_30 : decode cX11_closeMonth 30 = .ok (.iload_n 1, 1) := by decide +kernel
theorem dX11_closeMonth_31 : decode cX11_closeMonth 31 = .ok (.iconst 3, 1) := by decide +kernel
theorem dX11_closeMonth_32 : decode cX11_closeMonth 32 = .ok (.invokevirtual 341, 3) := by decide +kernel
theorem dX11_closeMonth_35 : decode cX11_closeMonth 35 = .ok (.invokevirtual 365, 3) := by decide +kernel
theorem dX11_closeMonth_38 : decode cX11_closeMonth 38 = .ok (.iinc 1 1, 3) := by decide +kernel
theorem dX11_closeMonth_41 : decode cX11_closeMonth 41 = .ok (.goto (-39), 3) := by decide +kernel
theorem dX11_closeMonth_44 : decode cX11_closeMonth 44 = .ok (.return_, 1) := by decide +kernel
theorem dX11_lease_0 : decode cX11_lease 0 = .ok (.iload_n 1, 1) := by decide +kernel
theorem dX11_lease_1 : decode cX11_lease 1 = .ok (.iconst 0, 1) := by decide +kernel
theorem dX11_lease_2 : decode cX11_lease 2 = .ok (.iconst 1, 1) := by decide +kernel
theorem dX11_lease_3 : decode cX11_lease 3 = .ok (.invokestatic 116, 3) := by decide +kernel
theorem dX11_lease_6 : decode cX11_lease 6 = .ok (.ifCond .ne 5, 3) := by decide +kernel
theorem dX11_lease_9 : decode cX11_lease 9 = .ok (.iconst 0, 1) := by decide +kernel
theorem dX11_lease_10 : decode cX11_lease 10 = .ok (.ireturn, 1) := by decide +kernel
theorem dX11_lease_11 : decode cX11_lease 11 = .ok (.aload_n 0, 1) := by decide +kernel
theorem dX11_lease_12 : decode cX11_lease 12 = .ok (.iload_n 1, 1) := by decide +kernel
theorem dX11_lease_13 : decode cX11_lease 13 = .ok (.putfield 75, 3) := by decide +kernel
theorem dX11_lease_16 : decode cX11_lease 16 = .ok (.iconst 1, 1) := by decide +kernel
theorem dX11_lease_17 : decode cX11_lease 17 = .ok (.ireturn, 1) := by decide +kernel
theorem dX11_scale_0 : decode cX11_scale 0 = .ok (.aload_n 0, 1) := by decide +kernel
theorem dX11_scale_1 : decode cX11_scale 1 = .ok (.iload_n 1, 1) := by decide +kernel
theorem dX11_scale_2 : decode cX11_scale 2 = .ok (.invokevirtual 236, 3) := by decide +kernel
theorem dX11_scale_5 : decode cX11_scale 5 = .ok (.astore_n 3, 1) := by decide +kernel
theorem dX11_scale_6 : decode cX11_scale 6 = .ok (.aload_n 3, 1) := by decide +kernel
theorem dX11_scale_7 : decode cX11_scale 7 = .ok (.ifnull 12, 3) := by decide +kernel
theorem dX11_scale_10 : decode cX11_scale 10 = .ok (.iload_n 2, 1) := by decide +kernel
theorem dX11_scale_11 : decode cX11_scale 11 = .ok (.iconst 0, 1) := by decide +kernel
theorem dX11_scale_12 : decode cX11_scale 12 = .ok (.iconst 1, 1) := by decide +kernel
theorem dX11_scale_13 : decode cX11_scale 13 = .ok (.invokestatic 116, 3) := by decide +kernel
theorem dX11_scale_16 : decode cX11_scale 16 = .ok (.ifCond .ne 7, 3) := by decide +kernel
theorem dX11_scale_19 : decode cX11_scale 19 = .ok (.iconst (-1), 1) := by decide +kernel
theorem dX11_scale_20 : decode cX11_scale 20 = .ok (.goto 8, 3) := by decide +kernel
theorem dX11_scale_23 : decode cX11_scale 23 = .ok (.aload_n 3, 1) := by decide +kernel
theorem dX11_scale_24 : decode cX11_scale 24 = .ok (.iload_n 2, 1) := by decide +kernel
theorem dX11_scale_25 : decode cX11_scale 25 = .ok (.invokevirtual 233, 3) := by decide +kernel
theorem dX11_scale_28 : decode cX11_scale 28 = .ok (.ireturn, 1) := by decide +kernel
theorem dX11_found_0 : decode cX11_found 0 = .ok (.iload_n 1, 1) := by decide +kernel
theorem dX11_found_1 : decode cX11_found 1 = .ok (.iconst 0, 1) := by decide +kernel
theorem dX11_found_2 : decode cX11_found 2 = .ok (.iconst 4, 1) := by decide +kernel
theorem dX11_found_3 : decode cX11_found 3 = .ok (.invokestatic 116, 3) := by decide +kernel
theorem dX11_found_6 : decode cX11_found 6 = .ok (.ifCond .eq 11, 3) := by decide +kernel
theorem dX11_found_9 : decode cX11_found 9 = .ok (.aload_n 0, 1) := by decide +kernel
theorem dX11_found_10 : decode cX11_found 10 = .ok (.iload_n 2, 1) := by decide +kernel
theorem dX11_found_11 : decode cX11_found 11 = .ok (.invokevirtual 236, 3) := by decide +kernel
theorem dX11_found_14 : decode cX11_found 14 = .ok (.ifnonnull 5, 3) := by decide +kernel
theorem dX11_found_17 : decode cX11_found 17 = .ok (.iconst 0, 1) := by decide +kernel
theorem dX11_found_18 : decode cX11_found 18 = .ok (.ireturn, 1) := by decide +kernel
theorem dX11_found_19 : decode cX11_found 19 = .ok (.iload_n 3, 1) := by decide +kernel
theorem dX11_found_20 : decode cX11_found 20 = .ok (.iconst 0, 1) := by decide +kernel
theorem dX11_found_21 : decode cX11_found 21 = .ok (.sipush 999, 3) := by decide +kernel
theorem dX11_found_24 : decode cX11_found 24 = .ok (.invokestatic 116, 3) := by decide +kernel
theorem dX11_found_27 : decode cX11_found 27 = .ok (.ifCond .eq 12, 3) := by decide +kernel
theorem dX11_found_30 : decode cX11_found 30 = .ok (.aload_n 0, 1) := by decide +kernel
theorem dX11_found_31 : decode cX11_found 31 = .ok (.getfield 88, 3) := by decide +kernel
theorem dX11_found_34 : decode cX11_found 34 = .ok (.bipush 60, 2) := by decide +kernel
theorem dX11_found_36 : decode cX11_found 36 = .ok (.if_icmp .lt 5, 3) := by decide +kernel
theorem dX11_found_39 : decode cX11_found 39 = .ok (.iconst 0, 1) := by decide +kernel
theorem dX11_found_40 : decode cX11_found 40 = .ok (.ireturn, 1) := by decide +kernel
theorem dX11_found_41 : decode cX11_found 41 = .ok (.aload_n 0, 1) := by decide +kernel
theorem dX11_found_42 : decode cX11_found 42 = .ok (.getfield 78, 3) := by decide +kernel
theorem dX11_found_45 : decode cX11_found 45 = .ok (.aload_n 0, 1) := by decide +kernel
theorem dX11_found_46 : decode cX11_found 46 = .ok (.getfield 88, 3) := by decide +kernel
theorem dX11_found_49 : decode cX11_found 49 = .ok (.iload_n 1, 1) := by decide +kernel
theorem dX11_found_50 : decode cX11_found 50 = .ok (.iastore, 1) := by decide +kernel
theorem dX11_found_51 : decode cX11_found 51 = .ok (.aload_n 0, 1) := by decide +kernel
theorem dX11_found_52 : decode cX11_found 52 = .ok (.getfield 82, 3) := by decide +kernel
theorem dX11_found_55 : decode cX11_found 55 = .ok (.aload_n 0, 1) := by decide +kernel
theorem dX11_found_56 : decode cX11_found 56 = .ok (.getfield 88, 3) := by decide +kernel
theorem dX11_found_59 : decode cX11_found 59 = .ok (.iload_n 2, 1) := by decide +kernel
theorem dX11_found_60 : decode cX11_found 60 = .ok (.iastore, 1) := by decide +kernel
theorem dX11_found_61 : decode cX11_found 61 = .ok (.aload_n 0, 1) := by decide +kernel
theorem dX11_found_62 : decode cX11_found 62 = .ok (.getfield 85, 3) := by decide +kernel
theorem dX11_found_65 : decode cX11_found 65 = .ok (.aload_n 0, 1) := by decide +kernel
theorem dX11_found_66 : decode cX11_found 66 = .ok (.getfield 88, 3) := by decide +kernel
theorem dX11_found_69 : decode cX11_found 69 = .ok (.iload_n 3, 1) := by decide +kernel
theorem dX11_found_70 : decode cX11_found 70 = .ok (.iastore, 1) := by decide +kernel
theorem dX11_found_71 : decode cX11_found 71 = .ok (.aload_n 0, 1) := by decide +kernel
theorem dX11_found_72 : decode cX11_found 72 = .ok (.dup, 1) := by decide +kernel
theorem dX11_found_73 : decode cX11_found 73 = .ok (.getfield 88, 3) := by decide +kernel
theorem dX11_found_76 : decode cX11_found 76 = .ok (.iconst 1, 1) := by decide +kernel
theorem dX11_found_77 : decode cX11_found 77 = .ok (.iadd, 1) := by decide +kernel
theorem dX11_found_78 : decode cX11_found 78 = .ok (.putfield 88, 3) := by decide +kernel
theorem dX11_found_81 : decode cX11_found 81 = .ok (.iconst 1, 1) := by decide +kernel
theorem dX11_found_82 : decode cX11_found 82 = .ok (.ireturn, 1) := by decide +kernel
theorem dX11_hand_0 : decode cX11_hand 0 = .ok (.iconst 0, 1) := by decide +kernel
theorem dX11_hand_1 : decode cX11_hand 1 = .ok (.istore_n 3, 1) := by decide +kernel
theorem dX11_hand_2 : decode cX11_hand 2 = .ok (.iconst 0, 1) := by decide +kernel
theorem dX11_hand_3 : decode cX11_hand 3 = .ok (.istore 4, 2) := by decide +kernel
theorem dX11_hand_5 : decode cX11_hand 5 = .ok (.iconst 0, 1) := by decide +kernel
theorem dX11_hand_6 : decode cX11_hand 6 = .ok (.istore 5, 2) := by decide +kernel
theorem dX11_hand_8 : decode cX11_hand 8 = .ok (.iconst 0, 1) := by decide +kernel
theorem dX11_hand_9 : decode cX11_hand 9 = .ok (.istore 6, 2) := by decide +kernel
theorem dX11_hand_11 : decode cX11_hand 11 = .ok (.iconst 0, 1) := by decide +kernel
theorem dX11_hand_12 : decode cX11_hand 12 = .ok (.istore 7, 2) := by decide +kernel
theorem dX11_hand_14 : decode cX11_hand 14 = .ok (.iload 7, 2) := by decide +kernel
theorem dX11_hand_16 : decode cX11_hand 16 = .ok (.aload_n 0, 1) := by decide +kernel
theorem dX11_hand_17 : decode cX11_hand 17 = .ok (.getfield 88, 3) := by decide +kernel
theorem dX11_hand_20 : decode cX11_hand 20 = .ok (.if_icmp .ge 74, 3) := by decide +kernel
theorem dX11_hand_23 : decode cX11_hand 23 = .ok (.aload_n 0, 1) := by decide +kernel
theorem dX11_hand_24 : decode cX11_hand 24 = .ok (.getfield 78, 3) := by decide +kernel
theorem dX11_hand_27 : decode cX11_hand 27 = .ok (.iload 7, 2) := by decide +kernel
theorem dX11_hand_29 : decode cX11_hand 29 = .ok (.iaload, 1) := by decide +kernel
theorem dX11_hand_30 : decode cX11_hand 30 = .ok (.iload_n 1, 1) := by decide +kernel
theorem dX11_hand_31 : decode cX11_hand 31 = .ok (.if_icmp .ne 57, 3) := by decide +kernel
theorem dX11_hand_34 : decode cX11_hand 34 = .ok (.aload_n 0, 1) := by decide +kernel
theorem dX11_hand_35 : decode cX11_hand 35 = .ok (.iload 7, 2) := by decide +kernel
theorem dX11_hand_37 : decode cX11_hand 37 = .ok (.invokevirtual 367, 3) := by decide +kernel
theorem dX11_hand_40 : decode cX11_hand 40 = .ok (.istore 8, 2) := by decide +kernel
theorem dX11_hand_42 : decode cX11_hand 42 = .ok (.iload_n 3, 1) := by decide +kernel
theorem dX11_hand_43 : decode cX11_hand 43 = .ok (.ifCond .ne 8, 3) := by decide +kernel
theorem dX11_hand_46 : decode cX11_hand 46 = .ok (.iload 8, 2) := by decide +kernel
theorem dX11_hand_48 : decode cX11_hand 48 = .ok (.goto 10, 3) := by decide +kernel
theorem dX11_hand_51 : decode cX11_hand 51 = .ok (.iload 5, 2) := by decide +kernel
theorem dX11_hand_53 : decode cX11_hand 53 = .ok (.iload 8, 2) := by decide +kernel
theorem dX11_hand_55 : decode cX11_hand 55 = .ok (.invokestatic 370, 3) := by decide +kernel
theorem dX11_hand_58 : decode cX11_hand 58 = .ok (.istore 5, 2) := by decide +kernel
theorem dX11_hand_60 : decode cX11_hand 60 = .ok (.iload_n 3, 1) := by decide +kernel
theorem dX11_hand_61 : decode cX11_hand 61 = .ok (.ifCond .ne 8, 3) := by decide +kernel
theorem dX11_hand_64 : decode cX11_hand 64 = .ok (.iload 8, 2) := by decide +kernel
theorem dX11_hand_66 : decode cX11_hand 66 = .ok (.goto 10, 3) := by decide +kernel
theorem dX11_hand_69 : decode cX11_hand 69 = .ok (.iload 6, 2) := by decide +kernel
theorem dX11_hand_71 : decode cX11_hand 71 = .ok (.iload 8, 2) := by decide +kernel
theorem dX11_hand_73 : decode cX11_hand 73 = .ok (.invokestatic 375, 3) := by decide +kernel
theorem dX11_hand_76 : decode cX11_hand 76 = .ok (.istore 6, 2) := by decide +kernel
theorem dX11_hand_78 : decode cX11_hand 78 = .ok (.iload 4, 2) := by decide +kernel
theorem dX11_hand_80 : decode cX11_hand 80 = .ok (.iload 8, 2) := by decide +kernel
theorem dX11_hand_82 : decode cX11_hand 82 = .ok (.iadd, 1) := by decide +kernel
theorem dX11_hand_83 : decode cX11_hand 83 = .ok (.istore 4, 2) := by decide +kernel
theorem dX11_hand_85 : decode cX11_hand 85 = .ok (.iinc 3 1, 3) := by decide +kernel
theorem dX11_hand_88 : decode cX11_hand 88 = .ok (.iinc 7 1, 3) := by decide +kernel
theorem dX11_hand_91 : decode cX11_hand 91 = .ok (.goto (-77), 3) := by decide +kernel
theorem dX11_hand_94 : decode cX11_hand 94 = .ok (.iload_n 3, 1) := by decide +kernel
theorem dX11_hand_95 : decode cX11_hand 95 = .ok (.ifCond .eq 12, 3) := by decide +kernel
theorem dX11_hand_98 : decode cX11_hand 98 = .ok (.iload_n 2, 1) := by decide +kernel
theorem dX11_hand_99 : decode cX11_hand 99 = .ok (.iconst 0, 1) := by decide +kernel
theorem dX11_hand_100 : decode cX11_hand 100 = .ok (.iconst 1, 1) := by decide +kernel
theorem dX11_hand_101 : decode cX11_hand 101 = .ok (.invokestatic 116, 3) := by decide +kernel
theorem dX11_hand_104 : decode cX11_hand 104 = .ok (.ifCond .ne 11, 3) := by decide +kernel
theorem dX11_hand_107 : decode cX11_hand 107 = .ok (.new 378, 3) := by decide +kernel
theorem dX11_hand_110 : decode cX11_hand 110 = .ok (.dup, 1) := by decide +kernel
theorem dX11_hand_111 : decode cX11_hand 111 = .ok (.invokespecial 380, 3) := by decide +kernel
theorem dX11_hand_114 : decode cX11_hand 114 = .ok (.athrow, 1) := by decide +kernel
theorem dX11_hand_115 : decode cX11_hand 115 = .ok (.iload_n 2, 1) := by decide +kernel
theorem dX11_hand_116 : decode cX11_hand 116 = .ok (.ifCond .ne 12, 3) := by decide +kernel
theorem dX11_hand_119 : decode cX11_hand 119 = .ok (.iload 4, 2) := by decide +kernel
theorem dX11_hand_121 : decode cX11_hand 121 = .ok (.iload_n 3, 1) := by decide +kernel
theorem dX11_hand_122 : decode cX11_hand 122 = .ok (.invokestatic 381, 3) := by decide +kernel
theorem dX11_hand_125 : decode cX11_hand 125 = .ok (.goto 8, 3) := by decide +kernel
theorem dX11_hand_128 : decode cX11_hand 128 = .ok (.iload 6, 2) := by decide +kernel
theorem dX11_hand_130 : decode cX11_hand 130 = .ok (.iload 5, 2) := by decide +kernel
theorem dX11_hand_132 : decode cX11_hand 132 = .ok (.isub, 1) := by decide +kernel
theorem dX11_hand_133 : decode cX11_hand 133 = .ok (.ireturn, 1) := by decide +kernel
theorem dX11_doubleDifference_0 : decode cX11_doubleDifference 0 = .ok (.aload_n 0, 1) := by decide +kernel
theorem dX11_doubleDifference_1 : decode cX11_doubleDifference 1 = .ok (.aload_n 0, 1) := by decide +kernel
theorem dX11_doubleDifference_2 : decode cX11_doubleDifference 2 = .ok (.getfield 82, 3) := by decide +kernel
theorem dX11_doubleDifference_5 : decode cX11_doubleDifference 5 = .ok (.iload_n 1, 1) := by decide +kernel
theorem dX11_doubleDifference_6 : decode cX11_doubleDifference 6 = .ok (.iaload, 1) := by decide +kernel
theorem dX11_doubleDifference_7 : decode cX11_doubleDifference 7 = .ok (.invokevirtual 236, 3) := by decide +kernel
theorem dX11_doubleDifference_10 : decode cX11_doubleDifference 10 = .ok (.astore_n 2, 1) := by decide +kernel
theorem dX11_doubleDifference_11 : decode cX11_doubleDifference 11 = .ok (.aload_n 2, 1) := by decide +kernel
theorem dX11_doubleDifference_12 : decode cX11_doubleDifference 12 = .ok (.ifnonnull 7, 3) := by decide +kernel
theorem dX11_doubleDifference_15 : decode cX11_doubleDifference 15 = .ok (.iconst 0, 1) := by decide +kernel
theorem dX11_doubleDifference_16 : decode cX11_doubleDifference 16 = .ok (.goto 18, 3) := by decide +kernel
theorem dX11_doubleDifference_19 : decode cX11_doubleDifference 19 = .ok (.aload_n 0, 1) := by decide +kernel
theorem dX11_doubleDifference_20 : decode cX11_doubleDifference 20 = .ok (.getfield 85, 3) := by decide +kernel
theorem dX11_doubleDifference_23 : decode cX11_doubleDifference 23 = .ok (.iload_n 1, 1) := by decide +kernel
theorem dX11_doubleDifference_24 : decode cX11_doubleDifference 24 = .ok (.iaload, 1) := by decide +kernel
theorem dX11_doubleDifference_25 : decode cX11_doubleDifference 25 = .ok (.aload_n 2, 1) := by decide +kernel
theorem dX11_doubleDifference_26 : decode cX11_doubleDifference 26 = .ok (.aload_n 0, 1) := by decide +kernel
theorem dX11_doubleDifference_27 : decode cX11_doubleDifference 27 = .ok (.getfield 75, 3) := by decide +kernel
theorem dX11_doubleDifference_30 : decode cX11_doubleDifference 30 = .ok (.invokevirtual 233, 3) := by decide +kernel
theorem dX11_doubleDifference_33 : decode cX11_doubleDifference 33 = .ok (.isub, 1) := by decide +kernel
theorem dX11_doubleDifference_34 : decode cX11_doubleDifference 34 = .ok (.ireturn, 1) := by decide +kernel
theorem dX11_order_0 : decode cX11_order 0 = .ok (.iload_n 1, 1) := by decide +kernel
theorem dX11_order_1 : decode cX11_order 1 = .ok (.iconst 1, 1) := by decide +kernel
theorem dX11_order_2 : decode cX11_order 2 = .ok (.bipush 12, 2) := by decide +kernel
theorem dX11_order_4 : decode cX11_order 4 = .ok (.invokestatic 116, 3) := by decide +kernel
theorem dX11_order_7 : decode cX11_order 7 = .ok (.ifCond .eq 13, 3) := by decide +kernel
theorem dX11_order_10 : decode cX11_order 10 = .ok (.iload_n 2, 1) := by decide +kernel
theorem dX11_order_11 : decode cX11_order 11 = .ok (.iconst 2, 1) := by decide +kernel
theorem dX11_order_12 : decode cX11_order 12 = .ok (.bipush 6, 2) := by decide +kernel
theorem dX11_order_14 : decode cX11_order 14 = .ok (.invokestatic 116, 3) := by decide +kernel
theorem dX11_order_17 : decode cX11_order 17 = .ok (.ifCond .ne 5, 3) := by decide +kernel
theorem dX11_order_20 : decode cX11_order 20 = .ok (.iconst (-1), 1) := by decide +kernel
theorem dX11_order_21 : decode cX11_order 21 = .ok (.ireturn, 1) := by decide +kernel
theorem dX11_order_22 : decode cX11_order 22 = .ok (.iload_n 3, 1) := by decide +kernel
theorem dX11_order_23 : decode cX11_order 23 = .ok (.iconst 1, 1) := by decide +kernel
theorem dX11_order_24 : decode cX11_order 24 = .ok (.bipush 99, 2) := by decide +kernel
theorem dX11_order_26 : decode cX11_order 26 = .ok (.invokestatic 116, 3) := by decide +kernel
theorem dX11_order_29 : decode cX11_order 29 = .ok (.ifCond .eq 14, 3) := by decide +kernel
theorem dX11_order_32 : decode cX11_order 32 = .ok (.iload 4, 2) := by decide +kernel
theorem dX11_order_34 : decode cX11_order 34 = .ok (.iconst 1, 1) := by decide +kernel
theorem dX11_order_35 : decode cX11_order 35 = .ok (.bipush 99, 2) := by decide +kernel
theorem dX11_order_37 : decode cX11_order 37 = .ok (.invokestatic 116, 3) := by decide +kernel
theorem dX11_order_40 : decode cX11_order 40 = .ok (.ifCond .ne 5, 3) := by decide +kernel
theorem dX11_order_43 : decode cX11_order 43 = .ok (.iconst (-1), 1) := by decide +kernel
theorem dX11_order_44 : decode cX11_order 44 = .ok (.ireturn, 1) := by decide +kernel
theorem dX11_order_45 : decode cX11_order 45 = .ok (.iload 5, 2) := by decide +kernel
theorem dX11_order_47 : decode cX11_order 47 = .ok (.aload_n 0, 1) := by decide +kernel
theorem dX11_order_48 : decode cX11_order 48 = .ok (.getfield 12, 3) := by decide +kernel
theorem dX11_order_51 : decode cX11_order 51 = .ok (.getfield 196, 3) := by decide +kernel
theorem dX11_order_54 : decode cX11_order 54 = .ok (.sipush 3999, 3) := by decide +kernel
theorem dX11_order_57 : decode cX11_order 57 = .ok (.invokestatic 116, 3) := by decide +kernel
theorem dX11_order_60 : decode cX11_order 60 = .ok (.ifCond .eq 15, 3) := by decide +kernel
theorem dX11_order_63 : decode cX11_order 63 = .ok (.aload_n 0, 1) := by decide +kernel
theorem dX11_order_64 : decode cX11_order 64 = .ok (.getfield 94, 3) := by decide +kernel
theorem dX11_order_67 : decode cX11_order 67 = .ok (.getfield 384, 3) := by decide +kernel
theorem dX11_order_70 : decode cX11_order 70 = .ok (.bipush 30, 2) := by decide +kernel
theorem dX11_order_72 : decode cX11_order 72 = .ok (.if_icmp .lt 5, 3) := by decide +kernel
theorem dX11_order_75 : decode cX11_order 75 = .ok (.iconst (-1), 1) := by decide +kernel
theorem dX11_order_76 : decode cX11_order 76 = .ok (.ireturn, 1) := by decide +kernel
theorem dX11_order_77 : decode cX11_order 77 = .ok (.aload_n 0, 1) := by decide +kernel
theorem dX11_order_78 : decode cX11_order 78 = .ok (.getfield 94, 3) := by decide +kernel
theorem dX11_order_81 : decode cX11_order 81 = .ok (.iload_n 1, 1) := by decide +kernel
theorem dX11_order_82 : decode cX11_order 82 = .ok (.iload_n 2, 1) := by decide +kernel
theorem dX11_order_83 : decode cX11_order 83 = .ok (.iload_n 3, 1) := by decide +kernel
theorem dX11_order_84 : decode cX11_order 84 = .ok (.iload 4, 2) := by decide +kernel
theorem dX11_order_86 : decode cX11_order 86 = .ok (.iload 5, 2) := by decide +kernel
theorem dX11_order_88 : decode cX11_order 88 = .ok (.invokevirtual 385, 3) := by decide +kernel
theorem dX11_order_91 : decode cX11_order 91 = .ok (.ireturn, 1) := by decide +kernel
theorem dX11_best_0 : decode cX11_best 0 = .ok (.aload_n 0, 1) := by decide +kernel
theorem dX11_best_1 : decode cX11_best 1 = .ok (.iload_n 1, 1) := by decide +kernel
theorem dX11_best_2 : decode cX11_best 2 = .ok (.invokevirtual 389, 3) := by decide +kernel
theorem dX11_best_5 : decode cX11_best 5 = .ok (.astore_n 2, 1) := by decide +kernel
theorem dX11_best_6 : decode cX11_best 6 = .ok (.aload_n 2, 1) := by decide +kernel
theorem dX11_best_7 : decode cX11_best 7 = .ok (.ifnonnull 5, 3) := by decide +kernel
theorem dX11_best_10 : decode cX11_best 10 = .ok (.iconst (-1), 1) := by decide +kernel
theorem dX11_best_11 : decode cX11_best 11 = .ok (.ireturn, 1) := by decide +kernel
theorem dX11_best_12 : decode cX11_best 12 = .ok (.aload_n 0, 1) := by decide +kernel
theorem dX11_best_13 : decode cX11_best 13 = .ok (.getfield 94, 3) := by decide +kernel
theorem dX11_best_16 : decode cX11_best 16 = .ok (.aload_n 2, 1) := by decide +kernel
theorem dX11_best_17 : decode cX11_best 17 = .ok (.aload_n 0, 1) := by decide +kernel
theorem dX11_best_18 : decode cX11_best 18 = .ok (.getfield 12, 3) := by decide +kernel
theorem dX11_best_21 : decode cX11_best 21 = .ok (.getfield 196, 3) := by decide +kernel
theorem dX11_best_24 : decode cX11_best 24 = .ok (.invokevirtual 392, 3) := by decide +kernel
theorem dX11_best_27 : decode cX11_best 27 = .ok (.aload_n 0, 1) := by decide +kernel
theorem dX11_best_28 : decode cX11_best 28 = .ok (.getfield 94, 3) := by decide +kernel
theorem dX11_best_31 : decode cX11_best 31 = .ok (.getfield 395, 3) := by decide +kernel
theorem dX11_best_34 : decode cX11_best 34 = .ok (.iconst 0, 1) := by decide +kernel
theorem dX11_best_35 : decode cX11_best 35 = .ok (.iaload, 1) := by decide +kernel
theorem dX11_best_36 : decode cX11_best 36 = .ok (.ireturn, 1) := by decide +kernel
theorem dX11_board_0 : decode cX11_board 0 = .ok (.aload_n 0, 1) := by decide +kernel
theorem dX11_board_1 : decode cX11_board 1 = .ok (.iload_n 1, 1) := by decide +kernel
theorem dX11_board_2 : decode cX11_board 2 = .ok (.invokevirtual 389, 3) := by decide +kernel
theorem dX11_board_5 : decode cX11_board 5 = .ok (.astore_n 3, 1) := by decide +kernel
theorem dX11_board_6 : decode cX11_board 6 = .ok (.aload_n 3, 1) := by decide +kernel
theorem dX11_board_7 : decode cX11_board 7 = .ok (.ifnull 17, 3) := by decide +kernel
theorem dX11_board_10 : decode cX11_board 10 = .ok (.iload_n 2, 1) := by decide +kernel
theorem dX11_board_11 : decode cX11_board 11 = .ok (.iconst 0, 1) := by decide +kernel
theorem dX11_board_12 : decode cX11_board 12 = .ok (.aload_n 3, 1) := by decide +kernel
theorem dX11_board_13 : decode cX11_board 13 = .ok (.getfield 314, 3) := by decide +kernel
theorem dX11_board_16 : decode cX11_board 16 = .ok (.iconst 1, 1) := by decide +kernel
theorem dX11_board_17 : decode cX11_board 17 = .ok (.isub, 1) := by decide +kernel
theorem dX11_board_18 : decode cX11_board 18 = .ok (.invokestatic 116, 3) := by decide +kernel
theorem dX11_board_21 : decode cX11_board 21 = .ok (.ifCond .ne 5, 3) := by decide +kernel
theorem dX11_board_24 : decode cX11_board 24 = .ok (.iconst (-1), 1) := by decide +kernel
theorem dX11_board_25 : decode cX11_board 25 = .ok (.ireturn, 1) := by decide +kernel
theorem dX11_board_26 : decode cX11_board 26 = .ok (.aload_n 0, 1) := by decide +kernel
theorem dX11_board_27 : decode cX11_board 27 = .ok (.getfield 94, 3) := by decide +kernel
theorem dX11_board_30 : decode cX11_board 30 = .ok (.aload_n 3, 1) := by decide +kernel
theorem dX11_board_31 : decode cX11_board 31 = .ok (.aload_n 0, 1) := by decide +kernel
theorem dX11_board_32 : decode cX11_board 32 = .ok (.getfield 12, 3) := by decide +kernel
theorem dX11_board_35 : decode cX11_board 35 = .ok (.getfield 196, 3) := by decide +kernel
theorem dX11_board_38 : decode cX11_board 38 = .ok (.invokevirtual 392, 3) := by decide +kernel
theorem dX11_board_41 : decode cX11_board 41 = .ok (.aload_n 0, 1) := by decide +kernel
theorem dX11_board_42 : decode cX11_board 42 = .ok (.getfield 94, 3) := by decide +kernel
theorem dX11_board_45 : decode cX11_board 45 = .ok (.getfield 398, 3) := by decide +kernel
theorem dX11_board_48 : decode cX11_board 48 = .ok (.iload_n 2, 1) := by decide +kernel
theorem dX11_board_49 : decode cX11_board 49 = .ok (.iaload, 1) := by decide +kernel
theorem dX11_board_50 : decode cX11_board 50 = .ok (.ireturn, 1) := by decide +kernel
theorem dX11_saw_0 : decode cX11_saw 0 = .ok (.aload_n 0, 1) := by decide +kernel
theorem dX11_saw_1 : decode cX11_saw 1 = .ok (.iload_n 1, 1) := by decide +kernel
theorem dX11_saw_2 : decode cX11_saw 2 = .ok (.invokevirtual 389, 3) := by decide +kernel
theorem dX11_saw_5 : decode cX11_saw 5 = .ok (.astore_n 2, 1) := by decide +kernel
theorem dX11_saw_6 : decode cX11_saw 6 = .ok (.aload_n 2, 1) := by decide +kernel
theorem dX11_saw_7 : decode cX11_saw 7 = .ok (.ifnonnull 5, 3) := by decide +kernel
theorem dX11_saw_10 : decode cX11_saw 10 = .ok (.iconst (-1), 1) := by decide +kernel
theorem dX11_saw_11 : decode cX11_saw 11 = .ok (.ireturn, 1) := by decide +kernel
theorem dX11_saw_12 : decode cX11_saw 12 = .ok (.aload_n 0, 1) := by decide +kernel
theorem dX11_saw_13 : decode cX11_saw 13 = .ok (.getfield 94, 3) := by decide +kernel
theorem dX11_saw_16 : decode cX11_saw 16 = .ok (.aload_n 2, 1) := by decide +kernel
theorem dX11_saw_17 : decode cX11_saw 17 = .ok (.aload_n 0, 1) := by decide +kernel
theorem dX11_saw_18 : decode cX11_saw 18 = .ok (.getfield 12, 3) := by decide +kernel
theorem dX11_saw_21 : decode cX11_saw 21 = .ok (.getfield 196, 3) := by decide +kernel
theorem dX11_saw_24 : decode cX11_saw 24 = .ok (.invokevirtual 392, 3) := by decide +kernel
theorem dX11_saw_27 : decode cX11_saw 27 = .ok (.aload_n 0, 1) := by decide +kernel
theorem dX11_saw_28 : decode cX11_saw 28 = .ok (.getfield 94, 3) := by decide +kernel
theorem dX11_saw_31 : decode cX11_saw 31 = .ok (.aload_n 2, 1) := by decide +kernel
theorem dX11_saw_32 : decode cX11_saw 32 = .ok (.getfield 314, 3) := by decide +kernel
theorem dX11_saw_35 : decode cX11_saw 35 = .ok (.aload_n 0, 1) := by decide +kernel
theorem dX11_saw_36 : decode cX11_saw 36 = .ok (.getfield 12, 3) := by decide +kernel
theorem dX11_saw_39 : decode cX11_saw 39 = .ok (.getfield 196, 3) := by decide +kernel
theorem dX11_saw_42 : decode cX11_saw 42 = .ok (.invokevirtual 401, 3) := by decide +kernel
theorem dX11_saw_45 : decode cX11_saw 45 = .ok (.istore_n 3, 1) := by decide +kernel
theorem dX11_saw_46 : decode cX11_saw 46 = .ok (.aload_n 0, 1) := by decide +kernel
theorem dX11_saw_47 : decode cX11_saw 47 = .ok (.aload_n 2, 1) := by decide +kernel
theorem dX11_saw_48 : decode cX11_saw 48 = .ok (.iconst 2, 1) := by decide +kernel
theorem dX11_saw_49 : decode cX11_saw 49 = .ok (.invokevirtual 229, 3) := by decide +kernel
theorem dX11_saw_52 : decode cX11_saw 52 = .ok (.iload_n 3, 1) := by decide +kernel
theorem dX11_saw_53 : decode cX11_saw 53 = .ok (.ireturn, 1) := by decide +kernel
theorem dX11_orderOf_0 : decode cX11_orderOf 0 = .ok (.iload_n 1, 1) := by decide +kernel
theorem dX11_orderOf_1 : decode cX11_orderOf 1 = .ok (.iconst 0, 1) := by decide +kernel
theorem dX11_orderOf_2 : decode cX11_orderOf 2 = .ok (.aload_n 0, 1) := by decide +kernel
theorem dX11_orderOf_3 : decode cX11_orderOf 3 = .ok (.getfield 94, 3) := by decide +kernel
theorem dX11_orderOf_6 : decode cX11_orderOf 6 = .ok (.getfield 384, 3) := by decide +kernel
theorem dX11_orderOf_9 : decode cX11_orderOf 9 = .ok (.iconst 1, 1) := by decide +kernel
theorem dX11_orderOf_10 : decode cX11_orderOf 10 = .ok (.isub, 1) := by decide +kernel
theorem dX11_orderOf_11 : decode cX11_orderOf 11 = .ok (.invokestatic 116, 3) := by decide +kernel
theorem dX11_orderOf_14 : decode cX11_orderOf 14 = .ok (.ifCond .eq 12, 3) := by decide +kernel
theorem dX11_orderOf_17 : decode cX11_orderOf 17 = .ok (.iload_n 2, 1) := by decide +kernel
theorem dX11_orderOf_18 : decode cX11_orderOf 18 = .ok (.iconst 0, 1) := by decide +kernel
theorem dX11_orderOf_19 : decode cX11_orderOf 19 = .ok (.iconst 2, 1) := by decide +kernel
theorem dX11_orderOf_20 : decode cX11_orderOf 20 = .ok (.invokestatic 116, 3) := by decide +kernel
theorem dX11_orderOf_23 : decode cX11_orderOf 23 = .ok (.ifCond .ne 11, 3) := by decide +kernel
theorem dX11_orderOf_26 : decode cX11_orderOf 26 = .ok (.new 378, 3) := by decide +kernel
theorem dX11_orderOf_29 : decode cX11_orderOf 29 = .ok (.dup, 1) := by decide +kernel
theorem dX11_orderOf_30 : decode cX11_orderOf 30 = .ok (.invokespecial 380, 3) := by decide +kernel
theorem dX11_orderOf_33 : decode cX11_orderOf 33 = .ok (.athrow, 1) := by decide +kernel
theorem dX11_orderOf_34 : decode cX11_orderOf 34 = .ok (.aload_n 0, 1) := by decide +kernel
theorem dX11_orderOf_35 : decode cX11_orderOf 35 = .ok (.getfield 94, 3) := by decide +kernel
theorem dX11_orderOf_38 : decode cX11_orderOf 38 = .ok (.getfield 404, 3) := by decide +kernel
theorem dX11_orderOf_41 : decode cX11_orderOf 41 = .ok (.iload_n 1, 1) := by decide +kernel
theorem dX11_orderOf_42 : decode cX11_orderOf 42 = .ok (.iaload, 1) := by decide +kernel
theorem dX11_orderOf_43 : decode cX11_orderOf 43 = .ok (.istore_n 3, 1) := by decide +kernel
theorem dX11_orderOf_44 : decode cX11_orderOf 44 = .ok (.iload_n 2, 1) := by decide +kernel
theorem dX11_orderOf_45 : decode cX11_orderOf 45 = .ok (.iconst 2, 1) := by decide +kernel
theorem dX11_orderOf_46 : decode cX11_orderOf 46 = .ok (.if_icmp .ne 16, 3) := by decide +kernel
theorem dX11_orderOf_49 : decode cX11_orderOf 49 = .ok (.iload_n 3, 1) := by decide +kernel
theorem dX11_orderOf_50 : decode cX11_orderOf 50 = .ok (.iconst (-1), 1) := by decide +kernel
theorem dX11_orderOf_51 : decode cX11_orderOf 51 = .ok (.if_icmp .ne 11, 3) := by decide +kernel
theorem dX11_orderOf_54 : decode cX11_orderOf 54 = .ok (.new 378, 3) := by decide +kernel
theorem dX11_orderOf_57 : decode cX11_orderOf 57 = .ok (.dup, 1) := by decide +kernel
theorem dX11_orderOf_58 : decode cX11_orderOf 58 = .ok (.invokespecial 380, 3) := by decide +kernel
theorem dX11_orderOf_61 : decode cX11_orderOf 61 = .ok (.athrow, 1) := by decide +kernel
theorem dX11_orderOf_62 : decode cX11_orderOf 62 = .ok (.iload_n 2, 1) := by decide +kernel
theorem dX11_orderOf_63 : decode cX11_orderOf 63 = .ok (.ifCond .ne 13, 3) := by decide +kernel
theorem dX11_orderOf_66 : decode cX11_orderOf 66 = .ok (.aload_n 0, 1) := by decide +kernel
theorem dX11_orderOf_67 : decode cX11_orderOf 67 = .ok (.getfield 94, 3) := by decide +kernel
theorem dX11_orderOf_70 : decode cX11_orderOf 70 = .ok (.getfield 407, 3) := by decide +kernel
theorem dX11_orderOf_73 : decode cX11_orderOf 73 = .ok (.iload_n 1, 1) := by decide +kernel
theorem dX11_orderOf_74 : decode cX11_orderOf 74 = .ok (.iaload, 1) := by decide +kernel
theorem dX11_orderOf_75 : decode cX11_orderOf 75 = .ok (.ireturn, 1) := by decide +kernel
theorem dX11_orderOf_76 : decode cX11_orderOf 76 = .ok (.iload_n 2, 1) := by decide +kernel
theorem dX11_orderOf_77 : decode cX11_orderOf 77 = .ok (.iconst 1, 1) := by decide +kernel
theorem dX11_orderOf_78 : decode cX11_orderOf 78 = .ok (.if_icmp .ne 7, 3) := by decide +kernel
theorem dX11_orderOf_81 : decode cX11_orderOf 81 = .ok (.iload_n 3, 1) := by decide +kernel
theorem dX11_orderOf_82 : decode cX11_orderOf 82 = .ok (.goto 14, 3) := by decide +kernel
theorem dX11_orderOf_85 : decode cX11_orderOf 85 = .ok (.aload_n 0, 1) := by decide +kernel
theorem dX11_orderOf_86 : decode cX11_orderOf 86 = .ok (.getfield 94, 3) := by decide +kernel
theorem dX11_orderOf_89 : decode cX11_orderOf 89 = .ok (.getfield 410, 3) := by decide +kernel
theorem dX11_orderOf_92 : decode cX11_orderOf 92 = .ok (.iload_n 1, 1) := by decide +kernel
theorem dX11_orderOf_93 : decode cX11_orderOf 93 = .ok (.iaload, 1) := by decide +kernel
theorem dX11_orderOf_94 : decode cX11_orderOf 94 = .ok (.iload_n 3, 1) := by decide +kernel
theorem dX11_orderOf_95 : decode cX11_orderOf 95 = .ok (.isub, 1) := by decide +kernel
theorem dX11_orderOf_96 : decode cX11_orderOf 96 = .ok (.ireturn, 1) := by decide +kernel
theorem dX11_fire_0 : decode cX11_fire 0 = .ok (.iload_n 1, 1) := by decide +kernel
theorem dX11_fire_1 : decode cX11_fire 1 = .ok (.invokestatic 112, 3) := by decide +kernel
theorem dX11_fire_4 : decode cX11_fire 4 = .ok (.ifCond .eq 22, 3) := by decide +kernel
theorem dX11_fire_7 : decode cX11_fire 7 = .ok (.iload_n 2, 1) := by decide +kernel
theorem dX11_fire_8 : decode cX11_fire 8 = .ok (.iconst 0, 1) := by decide +kernel
theorem dX11_fire_9 : decode cX11_fire 9 = .ok (.iconst 3, 1) := by decide +kernel
theorem dX11_fire_10 : decode cX11_fire 10 = .ok (.invokestatic 116, 3) := by decide +kernel
theorem dX11_fire_13 : decode cX11_fire 13 = .ok (.ifCond .eq 13, 3) := by decide +kernel
theorem dX11_fire_16 : decode cX11_fire 16 = .ok (.iload_n 3, 1) := by decide +kernel
theorem dX11_fire_17 : decode cX11_fire 17 = .ok (.iconst 1, 1) := by decide +kernel
theorem dX11_fire_18 : decode cX11_fire 18 = .ok (.bipush 20, 2) := by decide +kernel
theorem dX11_fire_20 : decode cX11_fire 20 = .ok (.invokestatic 116, 3) := by decide +kernel
theorem dX11_fire_23 : decode cX11_fire 23 = .ok (.ifCond .ne 5, 3) := by decide +kernel
theorem dX11_fire_26 : decode cX11_fire 26 = .ok (.iconst (-1), 1) := by decide +kernel
theorem dX11_fire_27 : decode cX11_fire 27 = .ok (.ireturn, 1) := by decide +kernel
theorem dX11_fire_28 : decode cX11_fire 28 = .ok (.aload_n 0, 1) := by decide +kernel
theorem dX11_fire_29 : decode cX11_fire 29 = .ok (.iload_n 1, 1) := by decide +kernel
theorem dX11_fire_30 : decode cX11_fire 30 = .ok (.iload_n 2, 1) := by decide +kernel
theorem dX11_fire_31 : decode cX11_fire 31 = .ok (.iload_n 3, 1) := by decide +kernel
theorem dX11_fire_32 : decode cX11_fire 32 = .ok (.invokevirtual 413, 3) := by decide +kernel
theorem dX11_fire_35 : decode cX11_fire 35 = .ok (.ireturn, 1) := by decide +kernel
theorem dX11_burn_0 : decode cX11_burn 0 = .ok (.iload_n 1, 1) := by decide +kernel
theorem dX11_burn_1 : decode cX11_burn 1 = .ok (.invokestatic 112, 3) := by decide +kernel
theorem dX11_burn_4 : decode cX11_burn 4 = .ok (.ifCond .ne 5, 3) := by decide +kernel
theorem dX11_burn_7 : decode cX11_burn 7 = .ok (.iconst (-1), 1) := by decide +kernel
theorem dX11_burn_8 : decode cX11_burn 8 = .ok (.ireturn, 1) := by decide +kernel
theorem dX11_burn_9 : decode cX11_burn 9 = .ok (.aload_n 0, 1) := by decide +kernel
theorem dX11_burn_10 : decode cX11_burn 10 = .ok (.getfield 62, 3) := by decide +kernel
theorem dX11_burn_13 : decode cX11_burn 13 = .ok (.aload_n 0, 1) := by decide +kernel
theorem dX11_burn_14 : decode cX11_burn 14 = .ok (.getfield 12, 3) := by decide +kernel
theorem dX11_burn_17 : decode cX11_burn 17 = .ok (.invokevirtual 344, 3) := by decide +kernel
theorem dX11_burn_20 : decode cX11_burn 20 = .ok (.aload_n 0, 1) := by decide +kernel
theorem dX11_burn_21 : decode cX11_burn 21 = .ok (.getfield 62, 3) := by decide +kernel
theorem dX11_burn_24 : decode cX11_burn 24 = .ok (.aload_n 0, 1) := by decide +kernel
theorem dX11_burn_25 : decode cX11_burn 25 = .ok (.getfield 19, 3) := by decide +kernel
theorem dX11_burn_28 : decode cX11_burn 28 = .ok (.iload_n 1, 1) := by decide +kernel
theorem dX11_burn_29 : decode cX11_burn 29 = .ok (.invokevirtual 351, 3) := by decide +kernel
theorem dX11_burn_32 : decode cX11_burn 32 = .ok (.aload_n 0, 1) := by decide +kernel
theorem dX11_burn_33 : decode cX11_burn 33 = .ok (.getfield 62, 3) := by decide +kernel
theorem dX11_burn_36 : decode cX11_burn 36 = .ok (.aload_n 0, 1) := by decide +kernel
theorem dX11_burn_37 : decode cX11_burn 37 = .ok (.getfield 12, 3) := by decide +kernel
theorem dX11_burn_40 : decode cX11_burn 40 = .ok (.getfield 196, 3) := by decide +kernel
theorem dX11_burn_43 : decode cX11_burn 43 = .ok (.iconst 2, 1) := by decide +kernel
theorem dX11_burn_44 : decode cX11_burn 44 = .ok (.invokevirtual 199, 3) := by decide +kernel
theorem dX11_burn_47 : decode cX11_burn 47 = .ok (.iconst (-1), 1) := by decide +kernel
theorem dX11_burn_48 : decode cX11_burn 48 = .ok (.if_icmp .eq 6, 3) := by decide +kernel
theorem dX11_burn_51 : decode cX11_burn 51 = .ok (.bipush (-2), 2) := by decide +kernel
theorem dX11_burn_53 : decode cX11_burn 53 = .ok (.ireturn, 1) := by decide +kernel
theorem dX11_burn_54 : decode cX11_burn 54 = .ok (.aload_n 0, 1) := by decide +kernel
theorem dX11_burn_55 : decode cX11_burn 55 = .ok (.getfield 19, 3) := by decide +kernel
theorem dX11_burn_58 : decode cX11_burn 58 = .ok (.getfield 154, 3) := by decide +kernel
theorem dX11_burn_61 : decode cX11_burn 61 = .ok (.iload_n 1, 1) := by decide +kernel
theorem dX11_burn_62 : decode cX11_burn 62 = .ok (.iconst 0, 1) := by decide +kernel
theorem dX11_burn_63 : decode cX11_burn 63 = .ok (.iastore, 1) := by decide +kernel
theorem dX11_burn_64 : decode cX11_burn 64 = .ok (.aload_n 0, 1) := by decide +kernel
theorem dX11_burn_65 : decode cX11_burn 65 = .ok (.getfield 12, 3) := by decide +kernel
theorem dX11_burn_68 : decode cX11_burn 68 = .ok (.iconst 2, 1) := by decide +kernel
theorem dX11_burn_69 : decode cX11_burn 69 = .ok (.invokevirtual 311, 3) := by decide +kernel
theorem dX11_burn_72 : decode cX11_burn 72 = .ok (.bipush 7, 2) := by decide +kernel
theorem dX11_burn_74 : decode cX11_burn 74 = .ok (.if_icmp .lt 13, 3) := by decide +kernel
theorem dX11_burn_77 : decode cX11_burn 77 = .ok (.aload_n 0, 1) := by decide +kernel
theorem dX11_burn_78 : decode cX11_burn 78 = .ok (.iload_n 1, 1) := by decide +kernel
theorem dX11_burn_79 : decode cX11_burn 79 = .ok (.iconst 0, 1) := by decide +kernel
theorem dX11_burn_80 : decode cX11_burn 80 = .ok (.iconst 3, 1) := by decide +kernel
theorem dX11_burn_81 : decode cX11_burn 81 = .ok (.invokevirtual 413, 3) := by decide +kernel
theorem dX11_burn_84 : decode cX11_burn 84 = .ok (.goto 4, 3) := by decide +kernel
theorem dX11_burn_87 : decode cX11_burn 87 = .ok (.iconst 0, 1) := by decide +kernel
theorem dX11_burn_88 : decode cX11_burn 88 = .ok (.ireturn, 1) := by decide +kernel
theorem dX11_burnFrom_0 : decode cX11_burnFrom 0 = .ok (.aload_n 0, 1) := by decide +kernel
theorem dX11_burnFrom_1 : decode cX11_burnFrom 1 = .ok (.getfield 19, 3) := by decide +kernel
theorem dX11_burnFrom_4 : decode cX11_burnFrom 4 = .ok (.iload_n 1, 1) := by decide +kernel
theorem dX11_burnFrom_5 : decode cX11_burnFrom 5 = .ok (.iload_n 2, 1) := by decide +kernel
theorem dX11_burnFrom_6 : decode cX11_burnFrom 6 = .ok (.iload_n 3, 1) := by decide +kernel
theorem dX11_burnFrom_7 : decode cX11_burnFrom 7 = .ok (.aload_n 0, 1) := by decide +kernel
theorem dX11_burnFrom_8 : decode cX11_burnFrom 8 = .ok (.getfield 12, 3) := by decide +kernel
theorem dX11_burnFrom_11 : decode cX11_burnFrom 11 = .ok (.iconst 2, 1) := by decide +kernel
theorem dX11_burnFrom_12 : decode cX11_burnFrom 12 = .ok (.invokevirtual 311, 3) := by decide +kernel
theorem dX11_burnFrom_15 : decode cX11_burnFrom 15 = .ok (.invokevirtual 416, 3) := by decide +kernel
theorem dX11_burnFrom_18 : decode cX11_burnFrom 18 = .ok (.istore 4, 2) := by decide +kernel
theorem dX11_burnFrom_20 : decode cX11_burnFrom 20 = .ok (.aload_n 0, 1) := by decide +kernel
theorem dX11_burnFrom_21 : decode cX11_burnFrom 21 = .ok (.getfield 19, 3) := by decide +kernel
theorem dX11_burnFrom_24 : decode cX11_burnFrom 24 = .ok (.invokevirtual 419, 3) := by decide +kernel
theorem dX11_burnFrom_27 : decode cX11_burnFrom 27 = .ok (.iconst 0, 1) := by decide +kernel
theorem dX11_burnFrom_28 : decode cX11_burnFrom 28 = .ok (.istore 5, 2) := by decide +kernel
theorem dX11_burnFrom_30 : decode cX11_burnFrom 30 = .ok (.iload 5, 2) := by decide +kernel
theorem dX11_burnFrom_32 : decode cX11_burnFrom 32 = .ok (.aload_n 0, 1) := by decide +kernel
theorem dX11_burnFrom_33 : decode cX11_burnFrom 33 = .ok (.getfield 36, 3) := by decide +kernel
theorem dX11_burnFrom_36 : decode cX11_burnFrom 36 = .ok (.if_icmp .ge 54, 3) := by decide +kernel
theorem dX11_burnFrom_39 : decode cX11_burnFrom 39 = .ok (.aload_n 0, 1) := by decide +kernel
theorem dX11_burnFrom_40 : decode cX11_burnFrom 40 = .ok (.getfield 32, 3) := by decide +kernel
theorem dX11_burnFrom_43 : decode cX11_burnFrom 43 = .ok (.iload 5, 2) := by decide +kernel
theorem dX11_burnFrom_45 : decode cX11_burnFrom 45 = .ok (.aaload, 1) := by decide +kernel
theorem dX11_burnFrom_46 : decode cX11_burnFrom 46 = .ok (.astore 6, 2) := by decide +kernel
theorem dX11_burnFrom_48 : decode cX11_burnFrom 48 = .ok (.aload 6, 2) := by decide +kernel
theorem dX11_burnFrom_50 : decode cX11_burnFrom 50 = .ok (.ifnull 34, 3) := by decide +kernel
theorem dX11_burnFrom_53 : decode cX11_burnFrom 53 = .ok (.aload 6, 2) := by decide +kernel
theorem dX11_burnFrom_55 : decode cX11_burnFrom 55 = .ok (.getfield 320, 3) := by decide +kernel
theorem dX11_burnFrom_58 : decode cX11_burnFrom 58 = .ok (.ifCond .ne 26, 3) := by decide +kernel
theorem dX11_burnFrom_61 : decode cX11_burnFrom 61 = .ok (.aload_n 0, 1) := by decide +kernel
theorem dX11_burnFrom_62 : decode cX11_burnFrom 62 = .ok (.getfield 19, 3) := by decide +kernel
theorem dX11_burnFrom_65 : decode cX11_burnFrom 65 = .ok (.getfield 422, 3) := by decide +kernel
theorem dX11_burnFrom_68 : decode cX11_burnFrom 68 = .ok (.aload 6, 2) := by decide +kernel
theorem dX11_burnFrom_70 : decode cX11_burnFrom 70 = .ok (.getfield 302, 3) := by decide +kernel
theorem dX11_burnFrom_73 : decode cX11_burnFrom 73 = .ok (.iaload, 1) := by decide +kernel
theorem dX11_burnFrom_74 : decode cX11_burnFrom 74 = .ok (.ifCond .le 10, 3) := by decide +kernel
theorem dX11_burnFrom_77 : decode cX11_burnFrom 77 = .ok (.aload_n 0, 1) := by decide +kernel
theorem dX11_burnFrom_78 : decode cX11_burnFrom 78 = .ok (.aload 6, 2) := by decide +kernel
theorem dX11_burnFrom_80 : decode cX11_burnFrom 80 = .ok (.iconst 3, 1) := by decide +kernel
theorem dX11_burnFrom_81 : decode cX11_burnFrom 81 = .ok (.invokevirtual 229, 3) := by decide +kernel
theorem dX11_burnFrom_84 : decode cX11_burnFrom 84 = .ok (.iinc 5 1, 3) := by decide +kernel
theorem dX11_burnFrom_87 : decode cX11_burnFrom 87 = .ok (.goto (-57), 3) := by decide +kernel
theorem dX11_burnFrom_90 : decode cX11_burnFrom 90 = .ok (.iload 4, 2) := by decide +kernel
theorem dX11_burnFrom_92 : decode cX11_burnFrom 92 = .ok (.ireturn, 1) := by decide +kernel
theorem dX11_spur_0 : decode cX11_spur 0 = .ok (.iload_n 1, 1) := by decide +kernel
theorem dX11_spur_1 : decode cX11_spur 1 = .ok (.ifCond .le 24, 3) := by decide +kernel
theorem dX11_spur_4 : decode cX11_spur 4 = .ok (.iload_n 2, 1) := by decide +kernel
theorem dX11_spur_5 : decode cX11_spur 5 = .ok (.iconst 1, 1) := by decide +kernel
theorem dX11_spur_6 : decode cX11_spur 6 = .ok (.bipush 50, 2) := by decide +kernel
theorem dX11_spur_8 : decode cX11_spur 8 = .ok (.invokestatic 116, 3) := by decide +kernel
theorem dX11_spur_11 : decode cX11_spur 11 = .ok (.ifCond .eq 14, 3) := by decide +kernel
theorem dX11_spur_14 : decode cX11_spur 14 = .ok (.iload_n 3, 1) := by decide +kernel
theorem dX11_spur_15 : decode cX11_spur 15 = .ok (.iconst 0, 1) := by decide +kernel
theorem dX11_spur_16 : decode cX11_spur 16 = .ok (.sipush 999, 3) := by decide +kernel
theorem dX11_spur_19 : decode cX11_spur 19 = .ok (.invokestatic 116, 3) := by decide +kernel
theorem dX11_spur_22 : decode cX11_spur 22 = .ok (.ifCond .ne 5, 3) := by decide +kernel
theorem dX11_spur_25 : decode cX11_spur 25 = .ok (.iconst (-1), 1) := by decide +kernel
theorem dX11_spur_26 : decode cX11_spur 26 = .ok (.ireturn, 1) := by decide +kernel
theorem dX11_spur_27 : decode cX11_spur 27 = .ok (.aload_n 0, 1) := by decide +kernel
theorem dX11_spur_28 : decode cX11_spur 28 = .ok (.getfield 101, 3) := by decide +kernel
theorem dX11_spur_31 : decode cX11_spur 31 = .ok (.getfield 425, 3) := by decide +kernel
theorem dX11_spur_34 : decode cX11_spur 34 = .ok (.bipush 9, 2) := by decide +kernel
theorem dX11_spur_36 : decode cX11_spur 36 = .ok (.if_icmp .lt 7, 3) := by decide +kernel
theorem dX11_spur_39 : decode cX11_spur 39 = .ok (.iconst (-1), 1) := by decide +kernel
theorem dX11_spur_40 : decode cX11_spur 40 = .ok (.goto 13, 3) := by decide +kernel
theorem dX11_spur_43 : decode cX11_spur 43 = .ok (.aload_n 0, 1) := by decide +kernel
theorem dX11_spur_44 : decode cX11_spur 44 = .ok (.getfield 101, 3) := by decide +kernel
theorem dX11_spur_47 : decode cX11_spur 47 = .ok (.iload_n 1, 1) := by decide +kernel
theorem dX11_spur_48 : decode cX11_spur 48 = .ok (.iload_n 2, 1) := by decide +kernel
theorem dX11_spur_49 : decode cX11_spur 49 = .ok (.iload_n 3, 1) := by decide +kernel
theorem dX11_spur_50 : decode cX11_spur 50 = .ok (.invokevirtual 428, 3) := by decide +kernel
theorem dX11_spur_53 : decode cX11_spur 53 = .ok (.ireturn, 1) := by decide +kernel
theorem dX11_asked_0 : decode cX11_asked 0 = .ok (.iload_n 1, 1) := by decide +kernel
theorem dX11_asked_1 : decode cX11_asked 1 = .ok (.iconst 0, 1) := by decide +kernel
theorem dX11_asked_2 : decode cX11_asked 2 = .ok (.iconst 3, 1) := by decide +kernel
theorem dX11_asked_3 : decode cX11_asked 3 = .ok (.invokestatic 116, 3) := by decide +kernel
theorem dX11_asked_6 : decode cX11_asked 6 = .ok (.ifCond .eq 7, 3) := by decide +kernel
theorem dX11_asked_9 : decode cX11_asked 9 = .ok (.iload_n 2, 1) := by decide +kernel
theorem dX11_asked_10 : decode cX11_asked 10 = .ok (.ifCond .ge 5, 3) := by decide +kernel
theorem dX11_asked_13 : decode cX11_asked 13 = .ok (.iconst 0, 1) := by decide +kernel
theorem dX11_asked_14 : decode cX11_asked 14 = .ok (.ireturn, 1) := by decide +kernel
theorem dX11_asked_15 : decode cX11_asked 15 = .ok (.aload_n 0, 1) := by decide +kernel
theorem dX11_asked_16 : decode cX11_asked 16 = .ok (.getfield 101, 3) := by decide +kernel
theorem dX11_asked_19 : decode cX11_asked 19 = .ok (.getfield 431, 3) := by decide +kernel
theorem dX11_asked_22 : decode cX11_asked 22 = .ok (.iload_n 1, 1) := by decide +kernel
theorem dX11_asked_23 : decode cX11_asked 23 = .ok (.iload_n 2, 1) := by decide +kernel
theorem dX11_asked_24 : decode cX11_asked 24 = .ok (.iastore, 1) := by decide +kernel
theorem dX11_asked_25 : decode cX11_asked 25 = .ok (.iconst 1, 1) := by decide +kernel
theorem dX11_asked_26 : decode cX11_asked 26 = .ok (.ireturn, 1) := by decide +kernel
theorem dX11_rails_0 : decode cX11_rails 0 = .ok (.iload_n 1, 1) := by decide +kernel
theorem dX11_rails_1 : decode cX11_rails 1 = .ok (.iconst 0, 1) := by decide +kernel
theorem dX11_rails_2 : decode cX11_rails 2 = .ok (.sipush 999, 3) := by decide +kernel
theorem dX11_rails_5 : decode cX11_rails 5 = .ok (.invokestatic 116, 3) := by decide +kernel
theorem dX11_rails_8 : decode cX11_rails 8 = .ok (.ifCond .eq 18, 3) := by decide +kernel
theorem dX11_rails_11 : decode cX11_rails 11 = .ok (.aload_n 0, 1) := by decide +kernel
theorem dX11_rails_12 : decode cX11_rails 12 = .ok (.getfield 101, 3) := by decide +kernel
theorem dX11_rails_15 : decode cX11_rails 15 = .ok (.iload_n 1, 1) := by decide +kernel
theorem dX11_rails_16 : decode cX11_rails 16 = .ok (.aload_n 0, 1) := by decide +kernel
theorem dX11_rails_17 : decode cX11_rails 17 = .ok (.getfield 49, 3) := by decide +kernel
theorem dX11_rails_20 : decode cX11_rails 20 = .ok (.invokevirtual 434, 3) := by decide +kernel
theorem dX11_rails_23 : decode cX11_rails 23 = .ok (.goto 4, 3) := by decide +kernel
theorem dX11_rails_26 : decode cX11_rails 26 = .ok (.iconst (-1), 1) := by decide +kernel
theorem dX11_rails_27 : decode cX11_rails 27 = .ok (.ireturn, 1) := by decide +kernel
theorem dX11_railsOf_0 : decode cX11_railsOf 0 = .ok (.iload_n 1, 1) := by decide +kernel
theorem dX11_railsOf_1 : decode cX11_railsOf 1 = .ok (.iconst 0, 1) := by decide +kernel
theorem dX11_railsOf_2 : decode cX11_railsOf 2 = .ok (.sipush 999, 3) := by decide +kernel
theorem dX11_railsOf_5 : decode cX11_railsOf 5 = .ok (.invokestatic 116, 3) := by decide +kernel
theorem dX11_railsOf_8 : decode cX11_railsOf 8 = .ok (.ifCond .eq 12, 3) := by decide +kernel
theorem dX11_railsOf_11 : decode cX11_railsOf 11 = .ok (.iload_n 2, 1) := by decide +kernel
theorem dX11_railsOf_12 : decode cX11_railsOf 12 = .ok (.iconst 0, 1) := by decide +kernel
theorem dX11_railsOf_13 : decode cX11_railsOf 13 = .ok (.iconst 3, 1) := by decide +kernel
theorem dX11_railsOf_14 : decode cX11_railsOf 14 = .ok (.invokestatic 116, 3) := by decide +kernel
theorem dX11_railsOf_17 : decode cX11_railsOf 17 = .ok (.ifCond .ne 5, 3) := by decide +kernel
theorem dX11_railsOf_20 : decode cX11_railsOf 20 = .ok (.iconst (-1), 1) := by decide +kernel
theorem dX11_railsOf_21 : decode cX11_railsOf 21 = .ok (.ireturn, 1) := by decide +kernel
theorem dX11_railsOf_22 : decode cX11_railsOf 22 = .ok (.aload_n 0, 1) := by decide +kernel
theorem dX11_railsOf_23 : decode cX11_railsOf 23 = .ok (.getfield 101, 3) := by decide +kernel
theorem dX11_railsOf_26 : decode cX11_railsOf 26 = .ok (.iload_n 1, 1) := by decide +kernel
theorem dX11_railsOf_27 : decode cX11_railsOf 27 = .ok (.aload_n 0, 1) := by decide +kernel
theorem dX11_railsOf_28 : decode cX11_railsOf 28 = .ok (.getfield 49, 3) := by decide +kernel
theorem dX11_railsOf_31 : decode cX11_railsOf 31 = .ok (.invokevirtual 434, 3) := by decide +kernel
theorem dX11_railsOf_34 : decode cX11_railsOf 34 = .ok (.pop, 1) := by decide +kernel
theorem dX11_railsOf_35 : decode cX11_railsOf 35 = .ok (.aload_n 0, 1) := by decide +kernel
theorem dX11_railsOf_36 : decode cX11_railsOf 36 = .ok (.getfield 101, 3) := by decide +kernel
theorem dX11_railsOf_39 : decode cX11_railsOf 39 = .ok (.getfield 437, 3) := by decide +kernel
theorem dX11_railsOf_42 : decode cX11_railsOf 42 = .ok (.iload_n 2, 1) := by decide +kernel
theorem dX11_railsOf_43 : decode cX11_railsOf 43 = .ok (.iaload, 1) := by decide +kernel
theorem dX11_railsOf_44 : decode cX11_railsOf 44 = .ok (.ireturn, 1) := by decide +kernel
theorem dX11_forty_0 : decode cX11_forty 0 = .ok (.iload_n 1, 1) := by decide +kernel
theorem dX11_forty_1 : decode cX11_forty 1 = .ok (.iconst 0, 1) := by decide +kernel
theorem dX11_forty_2 : decode cX11_forty 2 = .ok (.bipush 9, 2) := by decide +kernel
theorem dX11_forty_4 : decode cX11_forty 4 = .ok (.invokestatic 116, 3) := by decide +kernel
theorem dX11_forty_7 : decode cX11_forty 7 = .ok (.ifCond .eq 34, 3) := by decide +kernel
theorem dX11_forty_10 : decode cX11_forty 10 = .ok (.iload_n 2, 1) := by decide +kernel
theorem dX11_forty_11 : decode cX11_forty 11 = .ok (.iconst 0, 1) := by decide +kernel
theorem dX11_forty_12 : decode cX11_forty 12 = .ok (.bipush 9, 2) := by decide +kernel
theorem dX11_forty_14 : decode cX11_forty 14 = .ok (.invokestatic 116, 3) := by decide +kernel
theorem dX11_forty_17 : decode cX11_forty 17 = .ok (.ifCond .eq 24, 3) := by decide +kernel
theorem dX11_forty_20 : decode cX11_forty 20 = .ok (.iload_n 3, 1) := by decide +kernel
theorem dX11_forty_21 : decode cX11_forty 21 = .ok (.iconst 0, 1) := by decide +kernel
theorem dX11_forty_22 : decode cX11_forty 22 = .ok (.bipush 9, 2) := by decide +kernel
theorem dX11_forty_24 : decode cX11_forty 24 = .ok (.invokestatic 116, 3) := by decide +kernel
theorem dX11_forty_27 : decode cX11_forty 27 = .ok (.ifCond .eq 14, 3) := by decide +kernel
theorem dX11_forty_30 : decode cX11_forty 30 = .ok (.iload 4, 2) := by decide +kernel
theorem dX11_forty_32 : decode cX11_forty 32 = .ok (.iconst 0, 1) := by decide +kernel
theorem dX11_forty_33 : decode cX11_forty 33 = .ok (.bipush 9, 2) := by decide +kernel
theorem dX11_forty_35 : decode cX11_forty 35 = .ok (.invokestatic 116, 3) := by decide +kernel
theorem dX11_forty_38 : decode cX11_forty 38 = .ok (.ifCond .ne 5, 3) := by decide +kernel
theorem dX11_forty_41 : decode cX11_forty 41 = .ok (.iconst (-1), 1) := by decide +kernel
theorem dX11_forty_42 : decode cX11_forty 42 = .ok (.ireturn, 1) := by decide +kernel
theorem dX11_forty_43 : decode cX11_forty 43 = .ok (.iload_n 1, 1) := by decide +kernel
theorem dX11_forty_44 : decode cX11_forty 44 = .ok (.iload_n 2, 1) := by decide +kernel
theorem dX11_forty_45 : decode cX11_forty 45 = .ok (.iadd, 1) := by decide +kernel
theorem dX11_forty_46 : decode cX11_forty 46 = .ok (.iload_n 3, 1) := by decide +kernel
theorem dX11_forty_47 : decode cX11_forty 47 = .ok (.iadd, 1) := by decide +kernel
theorem dX11_forty_48 : decode cX11_forty 48 = .ok (.iload 4, 2) := by decide +kernel
theorem dX11_forty_50 : decode cX11_forty 50 = .ok (.iadd, 1) := by decide +kernel
theorem dX11_forty_51 : decode cX11_forty 51 = .ok (.bipush 12, 2) := by decide +kernel
theorem dX11_forty_53 : decode cX11_forty 53 = .ok (.if_icmp .gt 14, 3) := by decide +kernel
theorem dX11_forty_56 : decode cX11_forty 56 = .ok (.iload 7, 2) := by decide +kernel
theorem dX11_forty_58 : decode cX11_forty 58 = .ok (.iconst 0, 1) := by decide +kernel
theorem dX11_forty_59 : decode cX11_forty 59 = .ok (.bipush 12, 2) := by decide +kernel
theorem dX11_forty_61 : decode cX11_forty 61 = .ok (.invokestatic 116, 3) := by decide +kernel
theorem dX11_forty_64 : decode cX11_forty 64 = .ok (.ifCond .ne 5, 3) := by decide +kernel
theorem dX11_forty_67 : decode cX11_forty 67 = .ok (.iconst (-1), 1) := by decide +kernel
theorem dX11_forty_68 : decode cX11_forty 68 = .ok (.ireturn, 1) := by decide +kernel
theorem dX11_forty_69 : decode cX11_forty 69 = .ok (.iload 5, 2) := by decide +kernel
theorem dX11_forty_71 : decode cX11_forty 71 = .ok (.iconst 0, 1) := by decide +kernel
theorem dX11_forty_72 : decode cX11_forty 72 = .ok (.bipush 60, 2) := by decide +kernel
theorem dX11_forty_74 : decode cX11_forty 74 = .ok (.invokestatic 116, 3) := by decide +kernel
theorem dX11_forty_77 : decode cX11_forty 77 = .ok (.ifCond .eq 14, 3) := by decide +kernel
theorem dX11_forty_80 : decode cX11_forty 80 = .ok (.iload 6, 2) := by decide +kernel
theorem dX11_forty_82 : decode cX11_forty 82 = .ok (.iconst 0, 1) := by decide +kernel
theorem dX11_forty_83 : decode cX11_forty 83 = .ok (.bipush 60, 2) := by decide +kernel
theorem dX11_forty_85 : decode cX11_forty 85 = .ok (.invokestatic 116, 3) := by decide +kernel
theorem dX11_forty_88 : decode cX11_forty 88 = .ok (.ifCond .ne 5, 3) := by decide +kernel
theorem dX11_forty_91 : decode cX11_forty 91 = .ok (.iconst (-1), 1) := by decide +kernel
theorem dX11_forty_92 : decode cX11_forty 92 = .ok (.ireturn, 1) := by decide +kernel
theorem dX11_forty_93 : decode cX11_forty 93 = .ok (.aload_n 0, 1) := by decide +kernel
theorem dX11_forty_94 : decode cX11_forty 94 = .ok (.getfield 101, 3) := by decide +kernel
theorem dX11_forty_97 : decode cX11_forty 97 = .ok (.iload_n 1, 1) := by decide +kernel
theorem dX11_forty_98 : decode cX11_forty 98 = .ok (.iload_n 2, 1) := by decide +kernel
theorem dX11_forty_99 : decode cX11_forty 99 = .ok (.iload_n 3, 1) := by decide +kernel
theorem dX11_forty_100 : decode cX11_forty 100 = .ok (.iload 4, 2) := by decide +kernel
theorem dX11_forty_102 : decode cX11_forty 102 = .ok (.invokevirtual 440, 3) := by decide +kernel
theorem dX11_forty_105 : decode cX11_forty 105 = .ok (.aload_n 0, 1) := by decide +kernel
theorem dX11_forty_106 : decode cX11_forty 106 = .ok (.getfield 101, 3) := by decide +kernel
theorem dX11_forty_109 : decode cX11_forty 109 = .ok (.iload 5, 2) := by decide +kernel
theorem dX11_forty_111 : decode cX11_forty 111 = .ok (.iload 6, 2) := by decide +kernel
theorem dX11_forty_113 : decode cX11_forty 113 = .ok (.iload 7, 2) := by decide +kernel
theorem dX11_forty_115 : decode cX11_forty 115 = .ok (.invokevirtual 443, 3) := by decide +kernel
theorem dX11_forty_118 : decode cX11_forty 118 = .ok (.ireturn, 1) := by decide +kernel
theorem dX11_cutIn_0 : decode cX11_cutIn 0 = .ok (.aload_n 0, 1) := by decide +kernel
theorem dX11_cutIn_1 : decode cX11_cutIn 1 = .ok (.getfield 101, 3) := by decide +kernel
theorem dX11_cutIn_4 : decode cX11_cutIn 4 = .ok (.getfield 446, 3) := by decide +kernel
theorem dX11_cutIn_7 : decode cX11_cutIn 7 = .ok (.ifCond .eq 22, 3) := by decide +kernel
theorem dX11_cutIn_10 : decode cX11_cutIn 10 = .ok (.iload_n 1, 1) := by decide +kernel
theorem dX11_cutIn_11 : decode cX11_cutIn 11 = .ok (.iconst 0, 1) := by decide +kernel
theorem dX11_cutIn_12 : decode cX11_cutIn 12 = .ok (.bipush 7, 2) := by decide +kernel
theorem dX11_cutIn_14 : decode cX11_cutIn 14 = .ok (.invokestatic 116, 3) := by decide +kernel
theorem dX11_cutIn_17 : decode cX11_cutIn 17 = .ok (.ifCond .eq 12, 3) := by decide +kernel
theorem dX11_cutIn_20 : decode cX11_cutIn 20 = .ok (.iload_n 2, 1) := by decide +kernel
theorem dX11_cutIn_21 : decode cX11_cutIn 21 = .ok (.iconst 0, 1) := by decide +kernel
theorem dX11_cutIn_22 : decode cX11_cutIn 22 = .ok (.iconst 1, 1) := by decide +kernel
theorem dX11_cutIn_23 : decode cX11_cutIn 23 = .ok (.invokestatic 116, 3) := by decide +kernel
theorem dX11_cutIn_26 : decode cX11_cutIn 26 = .ok (.ifCond .ne 5, 3) := by decide +kernel
theorem dX11_cutIn_29 : decode cX11_cutIn 29 = .ok (.iconst (-1), 1) := by decide +kernel
theorem dX11_cutIn_30 : decode cX11_cutIn 30 = .ok (.ireturn, 1) := by decide +kernel
theorem dX11_cutIn_31 : decode cX11_cutIn 31 = .ok (.aload_n 0, 1) := by decide +kernel
theorem dX11_cutIn_32 : decode cX11_cutIn 32 = .ok (.getfield 101, 3) := by decide +kernel
theorem dX11_cutIn_35 : decode cX11_cutIn 35 = .ok (.getfield 449, 3) := by decide +kernel
theorem dX11_cutIn_38 : decode cX11_cutIn 38 = .ok (.iconst 2, 1) := by decide +kernel
theorem dX11_cutIn_39 : decode cX11_cutIn 39 = .ok (.iload_n 1, 1) := by decide +kernel
theorem dX11_cutIn_40 : decode cX11_cutIn 40 = .ok (.imul, 1) := by decide +kernel
theorem dX11_cutIn_41 : decode cX11_cutIn 41 = .ok (.iload_n 2, 1) := by decide +kernel
theorem dX11_cutIn_42 : decode cX11_cutIn 42 = .ok (.iadd, 1) := by decide +kernel
theorem dX11_cutIn_43 : decode cX11_cutIn 43 = .ok (.iaload, 1) := by decide +kernel
theorem dX11_cutIn_44 : decode cX11_cutIn 44 = .ok (.ireturn, 1) := by decide +kernel
theorem dX11_row_0 : decode cX11_row 0 = .ok (.iload_n 1, 1) := by decide +kernel
theorem dX11_row_1 : decode cX11_row 1 = .ok (.iconst 0, 1) := by decide +kernel
theorem dX11_row_2 : decode cX11_row 2 = .ok (.iconst 3, 1) := by decide +kernel
theorem dX11_row_3 : decode cX11_row 3 = .ok (.invokestatic 116, 3) := by decide +kernel
theorem dX11_row_6 : decode cX11_row 6 = .ok (.ifCond .eq 13, 3) := by decide +kernel
theorem dX11_row_9 : decode cX11_row 9 = .ok (.iload_n 3, 1) := by decide +kernel
theorem dX11_row_10 : decode cX11_row 10 = .ok (.iconst 0, 1) := by decide +kernel
theorem dX11_row_11 : decode cX11_row 11 = .ok (.bipush 40, 2) := by decide +kernel
theorem dX11_row_13 : decode cX11_row 13 = .ok (.invokestatic 116, 3) := by decide +kernel
theorem dX11_row_16 : decode cX11_row 16 = .ok (.ifCond .ne 5, 3) := by decide +kernel
theorem dX11_row_19 : decode cX11_row 19 = .ok (.iconst 0, 1) := by decide +kernel
theorem dX11_row_20 : decode cX11_row 20 = .ok (.ireturn, 1) := by decide +kernel
theorem dX11_row_21 : decode cX11_row 21 = .ok (.aload_n 0, 1) := by decide +kernel
theorem dX11_row_22 : decode cX11_row 22 = .ok (.getfield 108, 3) := by decide +kernel
theorem dX11_row_25 : decode cX11_row 25 = .ok (.iload_n 1, 1) := by decide +kernel
theorem dX11_row_26 : decode cX11_row 26 = .ok (.iload_n 2, 1) := by decide +kernel
theorem dX11_row_27 : decode cX11_row 27 = .ok (.iload_n 3, 1) := by decide +kernel
theorem dX11_row_28 : decode cX11_row 28 = .ok (.invokevirtual 452, 3) := by decide +kernel
theorem dX11_row_31 : decode cX11_row 31 = .ok (.iconst 1, 1) := by decide +kernel
theorem dX11_row_32 : decode cX11_row 32 = .ok (.ireturn, 1) := by decide +kernel
theorem dX11_write_0 : decode cX11_write 0 = .ok (.aload_n 0, 1) := by decide +kernel
theorem dX11_write_1 : decode cX11_write 1 = .ok (.getfield 108, 3) := by decide +kernel
theorem dX11_write_4 : decode cX11_write 4 = .ok (.iload_n 1, 1) := by decide +kernel
theorem dX11_write_5 : decode cX11_write 5 = .ok (.iload_n 2, 1) := by decide +kernel
theorem dX11_write_6 : decode cX11_write 6 = .ok (.invokevirtual 456, 3) := by decide +kernel
theorem dX11_write_9 : decode cX11_write 9 = .ok (.ifCond .eq 20, 3) := by decide +kernel
theorem dX11_write_12 : decode cX11_write 12 = .ok (.aload_n 0, 1) := by decide +kernel
theorem dX11_write_13 : decode cX11_write 13 = .ok (.getfield 108, 3) := by decide +kernel
theorem dX11_write_16 : decode cX11_write 16 = .ok (.iload_n 1, 1) := by decide +kernel
theorem dX11_write_17 : decode cX11_write 17 = .ok (.iload_n 2, 1) := by decide +kernel
theorem dX11_write_18 : decode cX11_write 18 = .ok (.iload_n 3, 1) := by decide +kernel
theorem dX11_write_19 : decode cX11_write 19 = .ok (.invokevirtual 459, 3) := by decide +kernel
theorem dX11_write_22 : decode cX11_write 22 = .ok (.ifCond .eq 7, 3) := by decide +kernel
theorem dX11_write_25 : decode cX11_write 25 = .ok (.iconst 1, 1) := by decide +kernel
theorem dX11_write_26 : decode cX11_write 26 = .ok (.goto 4, 3) := by decide +kernel
theorem dX11_write_29 : decode cX11_write 29 = .ok (.iconst 0, 1) := by decide +kernel
theorem dX11_write_30 : decode cX11_write 30 = .ok (.ireturn, 1) := by decide +kernel
theorem dX11_each_0 : decode cX11_each 0 = .ok (.aload_n 0, 1) := by decide +kernel
theorem dX11_each_1 : decode cX11_each 1 = .ok (.getfield 108, 3) := by decide +kernel
theorem dX11_each_4 : decode cX11_each 4 = .ok (.iload_n 1, 1) := by decide +kernel
theorem dX11_each_5 : decode cX11_each 5 = .ok (.iload_n 2, 1) := by decide +kernel
theorem dX11_each_6 : decode cX11_each 6 = .ok (.invokevirtual 456, 3) := by decide +kernel
theorem dX11_each_9 : decode cX11_each 9 = .ok (.ifCond .eq 14, 3) := by decide +kernel
theorem dX11_each_12 : decode cX11_each 12 = .ok (.aload_n 0, 1) := by decide +kernel
theorem dX11_each_13 : decode cX11_each 13 = .ok (.getfield 108, 3) := by decide +kernel
theorem dX11_each_16 : decode cX11_each 16 = .ok (.iload_n 1, 1) := by decide +kernel
theorem dX11_each_17 : decode cX11_each 17 = .ok (.invokevirtual 462, 3) := by decide +kernel
theorem dX11_each_20 : decode cX11_each 20 = .ok (.ifCond .ne 11, 3) := by decide +kernel
theorem dX11_each_23 : decode cX11_each 23 = .ok (.new 378, 3) := by decide +kernel
theorem dX11_each_26 : decode cX11_each 26 = .ok (.dup, 1) := by decide +kernel
theorem dX11_each_27 : decode cX11_each 27 = .ok (.invokespecial 380, 3) := by decide +kernel
theorem dX11_each_30 : decode cX11_each 30 = .ok (.athrow, 1) := by decide +kernel
theorem dX11_each_31 : decode cX11_each 31 = .ok (.aload_n 0, 1) := by decide +kernel
theorem dX11_each_32 : decode cX11_each 32 = .ok (.getfield 108, 3) := by decide +kernel
theorem dX11_each_35 : decode cX11_each 35 = .ok (.iload_n 1, 1) := by decide +kernel
theorem dX11_each_36 : decode cX11_each 36 = .ok (.iload_n 2, 1) := by decide +kernel
theorem dX11_each_37 : decode cX11_each 37 = .ok (.invokevirtual 465, 3) := by decide +kernel
theorem dX11_each_40 : decode cX11_each 40 = .ok (.ireturn, 1) := by decide +kernel
theorem dX11_cruise_0 : decode cX11_cruise 0 = .ok (.aload_n 0, 1) := by decide +kernel
theorem dX11_cruise_1 : decode cX11_cruise 1 = .ok (.getfield 108, 3) := by decide +kernel
theorem dX11_cruise_4 : decode cX11_cruise 4 = .ok (.iload_n 1, 1) := by decide +kernel
theorem dX11_cruise_5 : decode cX11_cruise 5 = .ok (.invokevirtual 468, 3) := by decide +kernel
theorem dX11_cruise_8 : decode cX11_cruise 8 = .ok (.ifCond .eq 12, 3) := by decide +kernel
theorem dX11_cruise_11 : decode cX11_cruise 11 = .ok (.iload_n 2, 1) := by decide +kernel
theorem dX11_cruise_12 : decode cX11_cruise 12 = .ok (.iconst 0, 1) := by decide +kernel
theorem dX11_cruise_13 : decode cX11_cruise 13 = .ok (.iconst 1, 1) := by decide +kernel
theorem dX11_cruise_14 : decode cX11_cruise 14 = .ok (.invokestatic 116, 3) := by decide +kernel
theorem dX11_cruise_17 : decode cX11_cruise 17 = .ok (.ifCond .ne 5, 3) := by decide +kernel
theorem dX11_cruise_20 : decode cX11_cruise 20 = .ok (.iconst (-1), 1) := by decide +kernel
theorem dX11_cruise_21 : decode cX11_cruise 21 = .ok (.ireturn, 1) := by decide +kernel
theorem dX11_cruise_22 : decode cX11_cruise 22 = .ok (.aload_n 0, 1) := by decide +kernel
theorem dX11_cruise_23 : decode cX11_cruise 23 = .ok (.getfield 108, 3) := by decide +kernel
theorem dX11_cruise_26 : decode cX11_cruise 26 = .ok (.iload_n 1, 1) := by decide +kernel
theorem dX11_cruise_27 : decode cX11_cruise 27 = .ok (.invokevirtual 462, 3) := by decide +kernel
theorem dX11_cruise_30 : decode cX11_cruise 30 = .ok (.ifCond .ne 5, 3) := by decide +kernel
theorem dX11_cruise_33 : decode cX11_cruise 33 = .ok (.iconst 0, 1) := by decide +kernel
theorem dX11_cruise_34 : decode cX11_cruise 34 = .ok (.ireturn, 1) := by decide +kernel
theorem dX11_cruise_35 : decode cX11_cruise 35 = .ok (.iload_n 2, 1) := by decide +kernel
theorem dX11_cruise_36 : decode cX11_cruise 36 = .ok (.ifCond .ne 14, 3) := by decide +kernel
theorem dX11_cruise_39 : decode cX11_cruise 39 = .ok (.aload_n 0, 1) := by decide +kernel
theorem dX11_cruise_40 : decode cX11_cruise 40 = .ok (.getfield 108, 3) := by decide +kernel
theorem dX11_cruise_43 : decode cX11_cruise 43 = .ok (.iload_n 1, 1) := by decide +kernel
theorem dX11_cruise_44 : decode cX11_cruise 44 = .ok (.invokevirtual 471, 3) := by decide +kernel
theorem dX11_cruise_47 : decode cX11_cruise 47 = .ok (.goto 11, 3) := by decide +kernel
theorem dX11_cruise_50 : decode cX11_cruise 50 = .ok (.aload_n 0, 1) := by decide +kernel
theorem dX11_cruise_51 : decode cX11_cruise 51 = .ok (.getfield 108, 3) := by decide +kernel
theorem dX11_cruise_54 : decode cX11_cruise 54 = .ok (.iload_n 1, 1) := by decide +kernel
theorem dX11_cruise_55 : decode cX11_cruise 55 = .ok (.invokevirtual 474, 3) := by decide +kernel
theorem dX11_cruise_58 : decode cX11_cruise 58 = .ok (.ireturn, 1) := by decide +kernel
theorem dX11_knew_0 : decode cX11_knew 0 = .ok (.aload_n 0, 1) := by decide +kernel
theorem dX11_knew_1 : decode cX11_knew 1 = .ok (.iload_n 1, 1) := by decide +kernel
theorem dX11_knew_2 : decode cX11_knew 2 = .ok (.invokevirtual 236, 3) := by decide +kernel
theorem dX11_knew_5 : decode cX11_knew 5 = .ok (.astore 4, 2) := by decide +kernel
theorem dX11_knew_7 : decode cX11_knew 7 = .ok (.aload 4, 2) := by decide +kernel
theorem dX11_knew_9 : decode cX11_knew 9 = .ok (.ifnull 27, 3) := by decide +kernel
theorem dX11_knew_12 : decode cX11_knew 12 = .ok (.iload_n 3, 1) := by decide +kernel
theorem dX11_knew_13 : decode cX11_knew 13 = .ok (.iconst 0, 1) := by decide +kernel
theorem dX11_knew_14 : decode cX11_knew 14 = .ok (.aload_n 0, 1) := by decide +kernel
theorem dX11_knew_15 : decode cX11_knew 15 = .ok (.getfield 12, 3) := by decide +kernel
theorem dX11_knew_18 : decode cX11_knew 18 = .ok (.getfield 196, 3) := by decide +kernel
theorem dX11_knew_21 : decode cX11_knew 21 = .ok (.invokestatic 116, 3) := by decide +kernel
theorem dX11_knew_24 : decode cX11_knew 24 = .ok (.ifCond .eq 12, 3) := by decide +kernel
theorem dX11_knew_27 : decode cX11_knew 27 = .ok (.iload_n 2, 1) := by decide +kernel
theorem dX11_knew_28 : decode cX11_knew 28 = .ok (.iconst 0, 1) := by decide +kernel
theorem dX11_knew_29 : decode cX11_knew 29 = .ok (.iload_n 3, 1) := by decide +kernel
theorem dX11_knew_30 : decode cX11_knew 30 = .ok (.invokestatic 116, 3) := by decide +kernel
theorem dX11_knew_33 : decode cX11_knew 33 = .ok (.ifCond .ne 6, 3) := by decide +kernel
theorem dX11_knew_36 : decode cX11_knew 36 = .ok (.bipush (-2), 2) := by decide +kernel
theorem dX11_knew_38 : decode cX11_knew 38 = .ok (.ireturn, 1) := by decide +kernel
theorem dX11_knew_39 : decode cX11_knew 39 = .ok (.aload 4, 2) := by decide +kernel
theorem dX11_knew_41 : decode cX11_knew 41 = .ok (.iload_n 2, 1) := by decide +kernel
theorem dX11_knew_42 : decode cX11_knew 42 = .ok (.iload_n 3, 1) := by decide +kernel
theorem dX11_knew_43 : decode cX11_knew 43 = .ok (.invokevirtual 477, 3) := by decide +kernel
theorem dX11_knew_46 : decode cX11_knew 46 = .ok (.ireturn, 1) := by decide +kernel
theorem dX11_alter_0 : decode cX11_alter 0 = .ok (.aload_n 0, 1) := by decide +kernel
theorem dX11_alter_1 : decode cX11_alter 1 = .ok (.iload_n 1, 1) := by decide +kernel
theorem dX11_alter_2 : decode cX11_alter 2 = .ok (.invokevirtual 236, 3) := by decide +kernel
theorem dX11_alter_5 : decode cX11_alter 5 = .ok (.astore 4, 2) := by decide +kernel
theorem dX11_alter_7 : decode cX11_alter 7 = .ok (.aload 4, 2) := by decide +kernel
theorem dX11_alter_9 : decode cX11_alter 9 = .ok (.ifnull 23, 3) := by decide +kernel
theorem dX11_alter_12 : decode cX11_alter 12 = .ok (.iload_n 2, 1) := by decide +kernel
theorem dX11_alter_13 : decode cX11_alter 13 = .ok (.iconst 0, 1) := by decide +kernel
theorem dX11_alter_14 : decode cX11_alter 14 = .ok (.iconst 4, 1) := by decide +kernel
theorem dX11_alter_15 : decode cX11_alter 15 = .ok (.invokestatic 116, 3) := by decide +kernel
theorem dX11_alter_18 : decode cX11_alter 18 = .ok (.ifCond .eq 14, 3) := by decide +kernel
theorem dX11_alter_21 : decode cX11_alter 21 = .ok (.iload_n 3, 1) := by decide +kernel
theorem dX11_alter_22 : decode cX11_alter 22 = .ok (.iconst 1, 1) := by decide +kernel
theorem dX11_alter_23 : decode cX11_alter 23 = .ok (.ldc_w 480, 3) := by decide +kernel
theorem dX11_alter_26 : decode cX11_alter 26 = .ok (.invokestatic 116, 3) := by decide +kernel
theorem dX11_alter_29 : decode cX11_alter 29 = .ok (.ifCond .ne 5, 3) := by decide +kernel
theorem dX11_alter_32 : decode cX11_alter 32 = .ok (.iconst 0, 1) := by decide +kernel
theorem dX11_alter_33 : decode cX11_alter 33 = .ok (.ireturn, 1) := by decide +kernel
theorem dX11_alter_34 : decode cX11_alter 34 = .ok (.aload 4, 2) := by decide +kernel
theorem dX11_alter_36 : decode cX11_alter 36 = .ok (.getfield 481, 3) := by decide +kernel
theorem dX11_alter_39 : decode cX11_alter 39 = .ok (.iload_n 2, 1) := by decide +kernel
theorem dX11_alter_40 : decode cX11_alter 40 = .ok (.dup2, 1) := by decide +kernel
theorem dX11_alter_41 : decode cX11_alter 41 = .ok (.iaload, 1) := by decide +kernel
theorem dX11_alter_42 : decode cX11_alter 42 = .ok (.iload_n 3, 1) := by decide +kernel
theorem dX11_alter_43 : decode cX11_alter 43 = .ok (.ixor, 1) := by decide +kernel
theorem dX11_alter_44 : decode cX11_alter 44 = .ok (.iastore, 1) := by decide +kernel
theorem dX11_alter_45 : decode cX11_alter 45 = .ok (.iconst 1, 1) := by decide +kernel
theorem dX11_alter_46 : decode cX11_alter 46 = .ok (.ireturn, 1) := by decide +kernel
theorem dX11_checked_0 : decode cX11_checked 0 = .ok (.aload_n 0, 1) := by decide +kernel
theorem dX11_checked_1 : decode cX11_checked 1 = .ok (.iload_n 1, 1) := by decide +kernel
theorem dX11_checked_2 : decode cX11_checked 2 = .ok (.invokevirtual 236, 3) := by decide +kernel
theorem dX11_checked_5 : decode cX11_checked 5 = .ok (.astore_n 3, 1) := by decide +kernel
theorem dX11_checked_6 : decode cX11_checked 6 = .ok (.aload_n 3, 1) := by decide +kernel
theorem dX11_checked_7 : decode cX11_checked 7 = .ok (.ifnull 12, 3) := by decide +kernel
theorem dX11_checked_10 : decode cX11_checked 10 = .ok (.iload_n 2, 1) := by decide +kernel
theorem dX11_checked_11 : decode cX11_checked 11 = .ok (.iconst 0, 1) := by decide +kernel
theorem dX11_checked_12 : decode cX11_checked 12 = .ok (.iconst 1, 1) := by decide +kernel
theorem dX11_checked_13 : decode cX11_checked 13 = .ok (.invokestatic 116, 3) := by decide +kernel
theorem dX11_checked_16 : decode cX11_checked 16 = .ok (.ifCond .ne 6, 3) := by decide +kernel
theorem dX11_checked_19 : decode cX11_checked 19 = .ok (.bipush (-3), 2) := by decide +kernel
theorem dX11_checked_21 : decode cX11_checked 21 = .ok (.ireturn, 1) := by decide +kernel
theorem dX11_checked_22 : decode cX11_checked 22 = .ok (.aload_n 3, 1) := by decide +kernel
theorem dX11_checked_23 : decode cX11_checked 23 = .ok (.invokevirtual 484, 3) := by decide +kernel
theorem dX11_checked_26 : decode cX11_checked 26 = .ok (.istore 4, 2) := by decide +kernel
theorem dX11_checked_28 : decode cX11_checked 28 = .ok (.iload_n 2, 1) := by decide +kernel
theorem dX11_checked_29 : decode cX11_checked 29 = .ok (.ifCond .ne 6, 3) := by decide +kernel
theorem dX11_checked_32 : decode cX11_checked 32 = .ok (.iload 4, 2) := by decide +kernel
theorem dX11_checked_34 : decode cX11_checked 34 = .ok (.ireturn, 1) := by decide +kernel
theorem dX11_checked_35 : decode cX11_checked 35 = .ok (.iload 4, 2) := by decide +kernel
theorem dX11_checked_37 : decode cX11_checked 37 = .ok (.ifCond .ge 8, 3) := by decide +kernel
theorem dX11_checked_40 : decode cX11_checked 40 = .ok (.bipush (-3), 2) := by decide +kernel
theorem dX11_checked_42 : decode cX11_checked 42 = .ok (.goto 9, 3) := by decide +kernel
theorem dX11_checked_45 : decode cX11_checked 45 = .ok (.aload_n 3, 1) := by decide +kernel
theorem dX11_checked_46 : decode cX11_checked 46 = .ok (.iload 4, 2) := by decide +kernel
theorem dX11_checked_48 : decode cX11_checked 48 = .ok (.invokevirtual 487, 3) := by decide +kernel
theorem dX11_checked_51 : decode cX11_checked 51 = .ok (.ireturn, 1) := by decide +kernel
theorem dX11_count_0 : decode cX11_count 0 = .ok (.iload_n 1, 1) := by decide +kernel
theorem dX11_count_1 : decode cX11_count 1 = .ok (.tableswitch 162 0 13 #[71, 79, 84, 89, 94, 99, 107, 112, 120, 128, 136, 141, 149, 154], 71) := by decide +kernel
theorem dX11_count_72 : decode cX11_count 72 = .ok (.aload_n 0, 1) := by decide +kernel
theorem dX11_count_73 : decode cX11_count 73 = .ok (.getfield 12, 3) := by decide +kernel
theorem dX11_count_76 : decode cX11_count 76 = .ok (.getfield 196, 3) := by decide +kernel
theorem dX11_count_79 : decode cX11_count 79 = .ok (.ireturn, 1) := by decide +kernel
theorem dX11_count_80 : decode cX11_count 80 = .ok (.aload_n 0, 1) := by decide +kernel
theorem dX11_count_81 : decode cX11_count 81 = .ok (.getfield 36, 3) := by decide +kernel
theorem dX11_count_84 : decode cX11_count 84 = .ok (.ireturn, 1) := by decide +kernel
theorem dX11_count_85 : decode cX11_count 85 = .ok (.aload_n 0, 1) := by decide +kernel
theorem dX11_count_86 : decode cX11_count 86 = .ok (.getfield 46, 3) := by decide +kernel
theorem dX11_count_89 : decode cX11_count 89 = .ok (.ireturn, 1) := by decide +kernel
theorem dX11_count_90 : decode cX11_count 90 = .ok (.aload_n 0, 1) := by decide +kernel
theorem dX11_count_91 : decode cX11_count 91 = .ok (.getfield 49, 3) := by decide +kernel
theorem dX11_count_94 : decode cX11_count 94 = .ok (.ireturn, 1) := by decide +kernel
theorem dX11_count_95 : decode cX11_count 95 = .ok (.aload_n 0, 1) := by decide +kernel
theorem dX11_count_96 : decode cX11_count 96 = .ok (.invokevirtual 490, 3) := by decide +kernel
theorem dX11_count_99 : decode cX11_count 99 = .ok (.ireturn, 1) := by decide +kernel
theorem dX11_count_100 : decode cX11_count 100 = .ok (.aload_n 0, 1) := by decide +kernel
theorem dX11_count_101 : decode cX11_count 101 = .ok (.getfield 62, 3) := by decide +kernel
theorem dX11_count_104 : decode cX11_count 104 = .ok (.getfield 332, 3) := by decide +kernel
theorem dX11_count_107 : decode cX11_count 107 = .ok (.ireturn, 1) := by decide +kernel
theorem dX11_count_108 : decode cX11_count 108 = .ok (.aload_n 0, 1) := by decide +kernel
theorem dX11_count_109 : decode cX11_count 109 = .ok (.getfield 72, 3) := by decide +kernel
theorem dX11_count_112 : decode cX11_count 112 = .ok (.ireturn, 1) := by decide +kernel
theorem dX11_count_113 : decode cX11_count 113 = .ok (.aload_n 0, 1) := by decide +kernel
theorem dX11_count_114 : decode cX11_count 114 = .ok (.getfield 94, 3) := by decide +kernel
theorem dX11_count_117 : decode cX11_count 117 = .ok (.getfield 384, 3) := by decide +kernel
theorem dX11_count_120 : decode cX11_count 120 = .ok (.ireturn, 1) := by decide +kernel
theorem dX11_count_121 : decode cX11_count 121 = .ok (.aload_n 0, 1) := by decide +kernel
theorem dX11_count_122 : decode cX11_count 122 = .ok (.getfield 94, 3) := by decide +kernel
theorem dX11_count_125 : decode cX11_count 125 = .ok (.getfield 493, 3) := by decide +kernel
theorem dX11_count_128 : decode cX11_count 128 = .ok (.ireturn, 1) := by decide +kernel
theorem dX11_count_129 : decode cX11_count 129 = .ok (.aload_n 0, 1) := by decide +kernel
theorem dX11_count_130 : decode cX11_count 130 = .ok (.getfield 55, 3) := by decide +kernel
theorem dX11_count_133 : decode cX11_count 133 = .ok (.getfield 326, 3) := by decide +kernel
theorem dX11_count_136 : decode cX11_count 136 = .ok (.ireturn, 1) := by decide +kernel
theorem dX11_count_137 : decode cX11_count 137 = .ok (.aload_n 0, 1) := by decide +kernel
theorem dX11_count_138 : decode cX11_count 138 = .ok (.getfield 88, 3) := by decide +kernel
theorem dX11_count_141 : decode cX11_count 141 = .ok (.ireturn, 1) := by decide +kernel
theorem dX11_count_142 : decode cX11_count 142 = .ok (.aload_n 0, 1) := by decide +kernel
theorem dX11_count_143 : decode cX11_count 143 = .ok (.getfield 101, 3) := by decide +kernel
theorem dX11_count_146 : decode cX11_count 146 = .ok (.getfield 425, 3) := by decide +kernel
theorem dX11_count_149 : decode cX11_count 149 = .ok (.ireturn, 1) := by decide +kernel
theorem dX11_count_150 : decode cX11_count 150 = .ok (.aload_n 0, 1) := by decide +kernel
theorem dX11_count_151 : decode cX11_count 151 = .ok (.invokevirtual 496, 3) := by decide +kernel
theorem dX11_count_154 : decode cX11_count 154 = .ok (.ireturn, 1) := by decide +kernel
theorem dX11_count_155 : decode cX11_count 155 = .ok (.aload_n 0, 1) := by decide +kernel
theorem dX11_count_156 : decode cX11_count 156 = .ok (.getfield 19, 3) := by decide +kernel
theorem dX11_count_159 : decode cX11_count 159 = .ok (.invokevirtual 499, 3) := by decide +kernel
theorem dX11_count_162 : decode cX11_count 162 = .ok (.ireturn, 1) := by decide +kernel
theorem dX11_count_163 : decode cX11_count 163 = .ok (.iload_n 1, 1) := by decide +kernel
theorem dX11_count_164 : decode cX11_count 164 = .ok (.bipush 20, 2) := by decide +kernel
theorem dX11_count_166 : decode cX11_count 166 = .ok (.bipush 24, 2) := by decide +kernel
theorem dX11_count_168 : decode cX11_count 168 = .ok (.invokestatic 116, 3) := by decide +kernel
theorem dX11_count_171 : decode cX11_count 171 = .ok (.ifCond .eq 14, 3) := by decide +kernel
theorem dX11_count_174 : decode cX11_count 174 = .ok (.aload_n 0, 1) := by decide +kernel
theorem dX11_count_175 : decode cX11_count 175 = .ok (.iload_n 1, 1) := by decide +kernel
theorem dX11_count_176 : decode cX11_count 176 = .ok (.bipush 20, 2) := by decide +kernel
theorem dX11_count_178 : decode cX11_count 178 = .ok (.isub, 1) := by decide +kernel
theorem dX11_count_179 : decode cX11_count 179 = .ok (.invokevirtual 502, 3) := by decide +kernel
theorem dX11_count_182 : decode cX11_count 182 = .ok (.goto 4, 3) := by decide +kernel
theorem dX11_count_185 : decode cX11_count 185 = .ok (.iconst (-1), 1) := by decide +kernel
theorem dX11_count_186 : decode cX11_count 186 = .ok (.ireturn, 1) := by decide +kernel
theorem dX11_wagesPaid_0 : decode cX11_wagesPaid 0 = .ok (.iconst 0, 1) := by decide +kernel
theorem dX11_wagesPaid_1 : decode cX11_wagesPaid 1 = .ok (.istore_n 1, 1) := by decide +kernel
theorem dX11_wagesPaid_2 : decode cX11_wagesPaid 2 = .ok (.iconst 0, 1) := by decide +kernel
theorem dX11_wagesPaid_3 : decode cX11_wagesPaid 3 = .ok (.istore_n 2, 1) := by decide +kernel
theorem dX11_wagesPaid_4 : decode cX11_wagesPaid 4 = .ok (.iload_n 2, 1) := by decide +kernel
theorem dX11_wagesPaid_5 : decode cX11_wagesPaid 5 = .ok (.aload_n 0, 1) := by decide +kernel
theorem dX11_wagesPaid_6 : decode cX11_wagesPaid 6 = .ok (.getfield 72, 3) := by decide +kernel
theorem dX11_wagesPaid_9 : decode cX11_wagesPaid 9 = .ok (.if_icmp .ge 31, 3) := by decide +kernel
theorem dX11_wagesPaid_12 : decode cX11_wagesPaid 12 = .ok (.aload_n 0, 1) := by decide +kernel
theorem dX11_wagesPaid_13 : decode cX11_wagesPaid 13 = .ok (.getfield 68, 3) := by decide +kernel
theorem dX11_wagesPaid_16 : decode cX11_wagesPaid 16 = .ok (.iload_n 2, 1) := by decide +kernel
theorem dX11_wagesPaid_17 : decode cX11_wagesPaid 17 = .ok (.aaload, 1) := by decide +kernel
theorem dX11_wagesPaid_18 : decode cX11_wagesPaid 18 = .ok (.astore_n 3, 1) := by decide +kernel
theorem dX11_wagesPaid_19 : decode cX11_wagesPaid 19 = .ok (.iload_n 1, 1) := by decide +kernel
theorem dX11_wagesPaid_20 : decode cX11_wagesPaid 20 = .ok (.aload_n 3, 1) := by decide +kernel
theorem dX11_wagesPaid_21 : decode cX11_wagesPaid 21 = .ok (.ifnonnull 7, 3) := by decide +kernel
theorem dX11_wagesPaid_24 : decode cX11_wagesPaid 24 = .ok (.iconst 0, 1) := by decide +kernel
theorem dX11_wagesPaid_25 : decode cX11_wagesPaid 25 = .ok (.goto 7, 3) := by decide +kernel
theorem dX11_wagesPaid_28 : decode cX11_wagesPaid 28 = .ok (.aload_n 3, 1) := by decide +kernel
theorem dX11_wagesPaid_29 : decode cX11_wagesPaid 29 = .ok (.getfield 505, 3) := by decide +kernel
theorem dX11_wagesPaid_32 : decode cX11_wagesPaid 32 = .ok (.iadd, 1) := by decide +kernel
theorem dX11_wagesPaid_33 : decode cX11_wagesPaid 33 = .ok (.istore_n 1, 1) := by decide +kernel
theorem dX11_wagesPaid_34 : decode cX11_wagesPaid 34 = .ok (.iinc 2 1, 3) := by decide +kernel
theorem dX11_wagesPaid_37 : decode cX11_wagesPaid 37 = .ok (.goto (-33), 3) := by decide +kernel
theorem dX11_wagesPaid_40 : decode cX11_wagesPaid 40 = .ok (.iload_n 1, 1) := by decide +kernel
theorem dX11_wagesPaid_41 : decode cX11_wagesPaid 41 = .ok (.ireturn, 1) := by decide +kernel
theorem dX11_logsThatBecame_0 : decode cX11_logsThatBecame 0 = .ok (.iconst 0, 1) := by decide +kernel
theorem dX11_logsThatBecame_1 : decode cX11_logsThatBecame 1 = .ok (.istore_n 2, 1) := by decide +kernel
theorem dX11_logsThatBecame_2 : decode cX11_logsThatBecame 2 = .ok (.iconst 0, 1) := by decide +kernel
theorem dX11_logsThatBecame_3 : decode cX11_logsThatBecame 3 = .ok (.istore_n 3, 1) := by decide +kernel
theorem dX11_logsThatBecame_4 : decode cX11_logsThatBecame 4 = .ok (.iload_n 3, 1) := by decide +kernel
theorem dX11_logsThatBecame_5 : decode cX11_logsThatBecame 5 = .ok (.aload_n 0, 1) := by decide +kernel
theorem dX11_logsThatBecame_6 : decode cX11_logsThatBecame 6 = .ok (.getfield 36, 3) := by decide +kernel
theorem dX11_logsThatBecame_9 : decode cX11_logsThatBecame 9 = .ok (.if_icmp .ge 34, 3) := by decide +kernel
theorem dX11_logsThatBecame_12 : decode cX11_logsThatBecame 12 = .ok (.aload_n 0, 1) := by decide +kernel
theorem dX11_logsThatBecame_13 : decode cX11_logsThatBecame 13 = .ok (.getfield 32, 3) := by decide +kernel
theorem dX11_logsThatBecame_16 : decode cX11_logsThatBecame 16 = .ok (.iload_n 3, 1) := by decide +kernel
theorem dX11_logsThatBecame_17 : decode cX11_logsThatBecame 17 = .ok (.aaload, 1) := by decide +kernel
theorem dX11_logsThatBecame_18 : decode cX11_logsThatBecame 18 = .ok (.astore 4, 2) := by decide +kernel
theorem dX11_logsThatBecame_20 : decode cX11_logsThatBecame 20 = .ok (.aload 4, 2) := by decide +kernel
theorem dX11_logsThatBecame_22 : decode cX11_logsThatBecame 22 = .ok (.ifnull 15, 3) := by decide +kernel
theorem dX11_logsThatBecame_25 : decode cX11_logsThatBecame 25 = .ok (.aload 4, 2) := by decide +kernel
theorem dX11_logsThatBecame_27 : decode cX11_logsThatBecame 27 = .ok (.getfield 320, 3) := by decide +kernel
theorem dX11_logsThatBecame_30 : decode cX11_logsThatBecame 30 = .ok (.iload_n 1, 1) := by decide +kernel
theorem dX11_logsThatBecame_31 : decode cX11_logsThatBecame 31 = .ok (.if_icmp .ne 6, 3) := by decide +kernel
theorem dX11_logsThatBecame_34 : decode cX11_logsThatBecame 34 = .ok (.iinc 2 1, 3) := by decide +kernel
theorem dX11_logsThatBecame_37 : decode cX11_logsThatBecame 37 = .ok (.iinc 3 1, 3) := by decide +kernel
theorem dX11_logsThatBecame_40 : decode cX11_logsThatBecame 40 = .ok (.goto (-36), 3) := by decide +kernel
theorem dX11_logsThatBecame_43 : decode cX11_logsThatBecame 43 = .ok (.iload_n 2, 1) := by decide +kernel
theorem dX11_logsThatBecame_44 : decode cX11_logsThatBecame 44 = .ok (.ireturn, 1) := by decide +kernel
theorem dX11_within_0 : decode cX11_within 0 = .ok (.iload_n 0, 1) := by decide +kernel
theorem dX11_within_1 : decode cX11_within 1 = .ok (.iload_n 1, 1) := by decide +kernel
theorem dX11_within_2 : decode cX11_within 2 = .ok (.if_icmp .lt 12, 3) := by decide +kernel
theorem dX11_within_5 : decode cX11_within 5 = .ok (.iload_n 0, 1) := by decide +kernel
theorem dX11_within_6 : decode cX11_within 6 = .ok (.iload_n 2, 1) := by decide +kernel
theorem dX11_within_7 : decode cX11_within 7 = .ok (.if_icmp .gt 7, 3) := by decide +kernel
theorem dX11_within_10 : decode cX11_within 10 = .ok (.iconst 1, 1) := by decide +kernel
theorem dX11_within_11 : decode cX11_within 11 = .ok (.goto 4, 3) := by decide +kernel
theorem dX11_within_14 : decode cX11_within 14 = .ok (.iconst 0, 1) := by decide +kernel
theorem dX11_within_15 : decode cX11_within 15 = .ok (.ireturn, 1) := by decide +kernel
theorem dX11_isDay_0 : decode cX11_isDay 0 = .ok (.iload_n 0, 1) := by decide +kernel
theorem dX11_isDay_1 : decode cX11_isDay 1 = .ok (.iconst 0, 1) := by decide +kernel
theorem dX11_isDay_2 : decode cX11_isDay 2 = .ok (.sipush 3999, 3) := by decide +kernel
theorem dX11_isDay_5 : decode cX11_isDay 5 = .ok (.invokestatic 116, 3) := by decide +kernel
theorem dX11_isDay_8 : decode cX11_isDay 8 = .ok (.ireturn, 1) := by decide +kernel
theorem dX11_isCell_0 : decode cX11_isCell 0 = .ok (.iload_n 0, 1) := by decide +kernel
theorem dX11_isCell_1 : decode cX11_isCell 1 = .ok (.iconst 0, 1) := by decide +kernel
theorem dX11_isCell_2 : decode cX11_isCell 2 = .ok (.bipush 63, 2) := by decide +kernel
theorem dX11_isCell_4 : decode cX11_isCell 4 = .ok (.invokestatic 116, 3) := by decide +kernel
theorem dX11_isCell_7 : decode cX11_isCell 7 = .ok (.ireturn, 1) := by decide +kernel
theorem dX11_isStem_0 : decode cX11_isStem 0 = .ok (.iload_n 0, 1) := by decide +kernel
theorem dX11_isStem_1 : decode cX11_isStem 1 = .ok (.iconst 0, 1) := by decide +kernel
theorem dX11_isStem_2 : decode cX11_isStem 2 = .ok (.iconst 3, 1) := by decide +kernel
theorem dX11_isStem_3 : decode cX11_isStem 3 = .ok (.invokestatic 116, 3) := by decide +kernel
theorem dX11_isStem_6 : decode cX11_isStem 6 = .ok (.ifCond .eq 16, 3) := by decide +kernel
theorem dX11_isStem_9 : decode cX11_isStem 9 = .ok (.iload_n 1, 1) := by decide +kernel
theorem dX11_isStem_10 : decode cX11_isStem 10 = .ok (.iconst 0, 1) := by decide +kernel
theorem dX11_isStem_11 : decode cX11_isStem 11 = .ok (.iconst 3, 1) := by decide +kernel
theorem dX11_isStem_12 : decode cX11_isStem 12 = .ok (.invokestatic 116, 3) := by decide +kernel
theorem dX11_isStem_15 : decode cX11_isStem 15 = .ok (.ifCond .eq 7, 3) := by decide +kernel
theorem dX11_isStem_18 : decode cX11_isStem 18 = .ok (.iconst 1, 1) := by decide +kernel
theorem dX11_isStem_19 : decode cX11_isStem 19 = .ok (.goto 4, 3) := by decide +kernel
theorem dX11_isStem_22 : decode cX11_isStem 22 = .ok (.iconst 0, 1) := by decide +kernel
theorem dX11_isStem_23 : decode cX11_isStem 23 = .ok (.ireturn, 1) := by decide +kernel
theorem dX11_logAt_0 : decode cX11_logAt 0 = .ok (.iload_n 1, 1) := by decide +kernel
theorem dX11_logAt_1 : decode cX11_logAt 1 = .ok (.iconst 0, 1) := by decide +kernel
theorem dX11_logAt_2 : decode cX11_logAt 2 = .ok (.aload_n 0, 1) := by decide +kernel
theorem dX11_logAt_3 : decode cX11_logAt 3 = .ok (.getfield 36, 3) := by decide +kernel
theorem dX11_logAt_6 : decode cX11_logAt 6 = .ok (.iconst 1, 1) := by decide +kernel
theorem dX11_logAt_7 : decode cX11_logAt 7 = .ok (.isub, 1) := by decide +kernel
theorem dX11_logAt_8 : decode cX11_logAt 8 = .ok (.invokestatic 116, 3) := by decide +kernel
theorem dX11_logAt_11 : decode cX11_logAt 11 = .ok (.ifCond .eq 12, 3) := by decide +kernel
theorem dX11_logAt_14 : decode cX11_logAt 14 = .ok (.aload_n 0, 1) := by decide +kernel
theorem dX11_logAt_15 : decode cX11_logAt 15 = .ok (.getfield 32, 3) := by decide +kernel
theorem dX11_logAt_18 : decode cX11_logAt 18 = .ok (.iload_n 1, 1) := by decide +kernel
theorem dX11_logAt_19 : decode cX11_logAt 19 = .ok (.aaload, 1) := by decide +kernel
theorem dX11_logAt_20 : decode cX11_logAt 20 = .ok (.goto 4, 3) := by decide +kernel
theorem dX11_logAt_23 : decode cX11_logAt 23 = .ok (.aconst_null, 1) := by decide +kernel
theorem dX11_logAt_24 : decode cX11_logAt 24 = .ok (.areturn, 1) := by decide +kernel
theorem dX11_pondLogAt_0 : decode cX11_pondLogAt 0 = .ok (.aload_n 0, 1) := by decide +kernel
theorem dX11_pondLogAt_1 : decode cX11_pondLogAt 1 = .ok (.iload_n 1, 1) := by decide +kernel
theorem dX11_pondLogAt_2 : decode cX11_pondLogAt 2 = .ok (.invokevirtual 236, 3) := by decide +kernel
theorem dX11_pondLogAt_5 : decode cX11_pondLogAt 5 = .ok (.astore_n 2, 1) := by decide +kernel
theorem dX11_pondLogAt_6 : decode cX11_pondLogAt 6 = .ok (.aload_n 2, 1) := by decide +kernel
theorem dX11_pondLogAt_7 : decode cX11_pondLogAt 7 = .ok (.ifnull 15, 3) := by decide +kernel
theorem dX11_pondLogAt_10 : decode cX11_pondLogAt 10 = .ok (.aload_n 2, 1) := by decide +kernel
theorem dX11_pondLogAt_11 : decode cX11_pondLogAt 11 = .ok (.getfield 320, 3) := by decide +kernel
theorem dX11_pondLogAt_14 : decode cX11_pondLogAt 14 = .ok (.iconst 1, 1) := by decide +kernel
theorem dX11_pondLogAt_15 : decode cX11_pondLogAt 15 = .ok (.if_icmp .ne 7, 3) := by decide +kernel
theorem dX11_pondLogAt_18 : decode cX11_pondLogAt 18 = .ok (.aload_n 2, 1) := by decide +kernel
theorem dX11_pondLogAt_19 : decode cX11_pondLogAt 19 = .ok (.goto 4, 3) := by decide +kernel
theorem dX11_pondLogAt_22 : decode cX11_pondLogAt 22 = .ok (.aconst_null, 1) := by decide +kernel
theorem dX11_pondLogAt_23 : decode cX11_pondLogAt 23 = .ok (.areturn, 1) := by decide +kernel
theorem dX11_wayAt_0 : decode cX11_wayAt 0 = .ok (.iload_n 1, 1) := by decide +kernel
theorem dX11_wayAt_1 : decode cX11_wayAt 1 = .ok (.iconst 0, 1) := by decide +kernel
theorem dX11_wayAt_2 : decode cX11_wayAt 2 = .ok (.aload_n 0, 1) := by decide +kernel
theorem dX11_wayAt_3 : decode cX11_wayAt 3 = .ok (.getfield 46, 3) := by decide +kernel
theorem dX11_wayAt_6 : decode cX11_wayAt 6 = .ok (.iconst 1, 1) := by decide +kernel
theorem dX11_wayAt_7 : decode cX11_wayAt 7 = .ok (.isub, 1) := by decide +kernel
theorem dX11_wayAt_8 : decode cX11_wayAt 8 = .ok (.invokestatic 116, 3) := by decide +kernel
theorem dX11_wayAt_11 : decode cX11_wayAt 11 = .ok (.ifCond .eq 12, 3) := by decide +kernel
theorem dX11_wayAt_14 : decode cX11_wayAt 14 = .ok (.aload_n 0, 1) := by decide +kernel
theorem dX11_wayAt_15 : decode cX11_wayAt 15 = .ok (.getfield 42, 3) := by decide +kernel
theorem dX11_wayAt_18 : decode cX11_wayAt 18 = .ok (.iload_n 1, 1) := by decide +kernel
theorem dX11_wayAt_19 : decode cX11_wayAt 19 = .ok (.aaload, 1) := by decide +kernel
theorem dX11_wayAt_20 : decode cX11_wayAt 20 = .ok (.goto 4, 3) := by decide +kernel
theorem dX11_wayAt_23 : decode cX11_wayAt 23 = .ok (.aconst_null, 1) := by decide +kernel
theorem dX11_wayAt_24 : decode cX11_wayAt 24 = .ok (.areturn, 1) := by decide +kernel
theorem dX11_crewAt_0 : decode cX11_crewAt 0 = .ok (.iload_n 1, 1) := by decide +kernel
theorem dX11_crewAt_1 : decode cX11_crewAt 1 = .ok (.iconst 0, 1) := by decide +kernel
theorem dX11_crewAt_2 : decode cX11_crewAt 2 = .ok (.aload_n 0, 1) := by decide +kernel
theorem dX11_crewAt_3 : decode cX11_crewAt 3 = .ok (.getfield 72, 3) := by decide +kernel
theorem dX11_crewAt_6 : decode cX11_crewAt 6 = .ok (.iconst 1, 1) := by decide +kernel
theorem dX11_crewAt_7 : decode cX11_crewAt 7 = .ok (.isub, 1) := by decide +kernel
theorem dX11_crewAt_8 : decode cX11_crewAt 8 = .ok (.invokestatic 116, 3) := by decide +kernel
theorem dX11_crewAt_11 : decode cX11_crewAt 11 = .ok (.ifCond .eq 12, 3) := by decide +kernel
theorem dX11_crewAt_14 : decode cX11_crewAt 14 = .ok (.aload_n 0, 1) := by decide +kernel
theorem dX11_crewAt_15 : decode cX11_crewAt 15 = .ok (.getfield 68, 3) := by decide +kernel
theorem dX11_crewAt_18 : decode cX11_crewAt 18 = .ok (.iload_n 1, 1) := by decide +kernel
theorem dX11_crewAt_19 : decode cX11_crewAt 19 = .ok (.aaload, 1) := by decide +kernel
theorem dX11_crewAt_20 : decode cX11_crewAt 20 = .ok (.goto 4, 3) := by decide +kernel
theorem dX11_crewAt_23 : decode cX11_crewAt 23 = .ok (.aconst_null, 1) := by decide +kernel
theorem dX11_crewAt_24 : decode cX11_crewAt 24 = .ok (.areturn, 1) := by decide +kernel
theorem dX12_init_0 : decode cX12_init 0 = .ok (.aload_n 0, 1) := by decide +kernel
theorem dX12_init_1 : decode cX12_init 1 = .ok (.invokespecial 1, 3) := by decide +kernel
theorem dX12_init_4 : decode cX12_init 4 = .ok (.aload_n 0, 1) := by decide +kernel
theorem dX12_init_5 : decode cX12_init 5 = .ok (.bipush 64, 2) := by decide +kernel
theorem dX12_init_7 : decode cX12_init 7 = .ok (.newarray .int, 2) := by decide +kernel
theorem dX12_init_9 : decode cX12_init 9 = .ok (.putfield 7, 3) := by decide +kernel
theorem dX12_init_12 : decode cX12_init 12 = .ok (.aload_n 0, 1) := by decide +kernel
theorem dX12_init_13 : decode cX12_init 13 = .ok (.bipush 64, 2) := by decide +kernel
theorem dX12_init_15 : decode cX12_init 15 = .ok (.newarray .int, 2) := by decide +kernel
theorem dX12_init_17 : decode cX12_init 17 = .ok (.putfield 13, 3) := by decide +kernel
theorem dX12_init_20 : decode cX12_init 20 = .ok (.aload_n 0, 1) := by decide +kernel
theorem dX12_init_21 : decode cX12_init 21 = .ok (.sipush 1024, 3) := by decide +kernel
theorem dX12_init_24 : decode cX12_init 24 = .ok (.newarray .int, 2) := by decide +kernel
theorem dX12_init_26 : decode cX12_init 26 = .ok (.putfield 16, 3) := by decide +kernel
theorem dX12_init_29 : decode cX12_init 29 = .ok (.aload_n 0, 1) := by decide +kernel
theorem dX12_init_30 : decode cX12_init 30 = .ok (.iconst 4, 1) := by decide +kernel
theorem dX12_init_31 : decode cX12_init 31 = .ok (.newarray .int, 2) := by decide +kernel
theorem dX12_init_33 : decode cX12_init 33 = .ok (.putfield 19, 3) := by decide +kernel
theorem dX12_init_36 : decode cX12_init 36 = .ok (.aload_n 0, 1) := by decide +kernel
theorem dX12_init_37 : decode cX12_init 37 = .ok (.iconst 4, 1) := by decide +kernel
theorem dX12_init_38 : decode cX12_init 38 = .ok (.newarray .int, 2) := by decide +kernel
theorem dX12_init_40 : decode cX12_init 40 = .ok (.putfield 22, 3) := by decide +kernel
theorem dX12_init_43 : decode cX12_init 43 = .ok (.aload_n 0, 1) := by decide +kernel
theorem dX12_init_44 : decode cX12_init 44 = .ok (.sipush 200, 3) := by decide +kernel
theorem dX12_init_47 : decode cX12_init 47 = .ok (.newarray .int, 2) := by decide +kernel
theorem dX12_init_49 : decode cX12_init 49 = .ok (.putfield 25, 3) := by decide +kernel
theorem dX12_init_52 : decode cX12_init 52 = .ok (.aload_n 0, 1) := by decide +kernel
theorem dX12_init_53 : decode cX12_init 53 = .ok (.sipush 200, 3) := by decide +kernel
theorem dX12_init_56 : decode cX12_init 56 = .ok (.newarray .int, 2) := by decide +kernel
theorem dX12_init_58 : decode cX12_init 58 = .ok (.putfield 28, 3) := by decide +kernel
theorem dX12_init_61 : decode cX12_init 61 = .ok (.aload_n 0, 1) := by decide +kernel
theorem dX12_init_62 : decode cX12_init 62 = .ok (.sipush 200, 3) := by decide +kernel
theorem dX12_init_65 : decode cX12_init 65 = .ok (.newarray .int, 2) := by decide +kernel
theorem dX12_init_67 : decode cX12_init 67 = .ok (.putfield 31, 3) := by decide +kernel
theorem dX12_init_70 : decode cX12_init 70 = .ok (.aload_n 0, 1) := by decide +kernel
theorem dX12_init_71 : decode cX12_init 71 = .ok (.sipush 200, 3) := by decide +kernel
theorem dX12_init_74 : decode cX12_init 74 = .ok (.newarray .int, 2) := by decide +kernel
theorem dX12_init_76 : decode cX12_init 76 = .ok (.putfield 34, 3) := by decide +kernel
theorem dX12_init_79 : decode cX12_init 79 = .ok (.aload_n 0, 1) := by decide +kernel
theorem dX12_init_80 : decode cX12_init 80 = .ok (.bipush 7, 2) := by decide +kernel
theorem dX12_init_82 : decode cX12_init 82 = .ok (.newarray .int, 2) := by decide +kernel
theorem dX12_init_84 : decode cX12_init 84 = .ok (.putfield 37, 3) := by decide +kernel
theorem dX12_init_87 : decode cX12_init 87 = .ok (.aload_n 0, 1) := by decide +kernel
theorem dX12_init_88 : decode cX12_init 88 = .ok (.bipush 8, 2) := by decide +kernel
theorem dX12_init_90 : decode cX12_init 90 = .ok (.newarray .int, 2) := by decide +kernel
theorem dX12_init_92 : decode cX12_init 92 = .ok (.putfield 40, 3) := by decide +kernel
theorem dX12_init_95 : decode cX12_init 95 = .ok (.aload_n 0, 1) := by decide +kernel
theorem dX12_init_96 : decode cX12_init 96 = .ok (.bipush 11, 2) := by decide +kernel
theorem dX12_init_98 : decode cX12_init 98 = .ok (.newarray .int, 2) := by decide +kernel
theorem dX12_init_100 : decode cX12_init 100 = .ok (.putfield 43, 3) := by decide +kernel
theorem dX12_init_103 : decode cX12_init 103 = .ok (.aload_n 0, 1) := by decide +kernel
theorem dX12_init_104 : decode cX12_init 104 = .ok (.sipush 300, 3) := by decide +kernel
theorem dX12_init_107 : decode cX12_init 107 = .ok (.newarray .int, 2) := by decide +kernel
theorem dX12_init_109 : decode cX12_init 109 = .ok (.putfield 46, 3) := by decide +kernel
theorem dX12_init_112 : decode cX12_init 112 = .ok (.aload_n 0, 1) := by decide +kernel
theorem dX12_init_113 : decode cX12_init 113 = .ok (.sipush 300, 3) := by decide +kernel
theorem dX12_init_116 : decode cX12_init 116 = .ok (.newarray .int, 2) := by decide +kernel
theorem dX12_init_118 : decode cX12_init 118 = .ok (.putfield 49, 3) := by decide +kernel
theorem dX12_init_121 : decode cX12_init 121 = .ok (.aload_n 0, 1) := by decide +kernel
theorem dX12_init_122 : decode cX12_init 122 = .ok (.sipush 300, 3) := by decide +kernel
theorem dX12_init_125 : decode cX12_init 125 = .ok (.newarray .int, 2) := by decide +kernel
theorem dX12_init_127 : decode cX12_init 127 = .ok (.putfield 52, 3) := by decide +kernel
theorem dX12_init_130 : decode cX12_init 130 = .ok (.aload_n 0, 1) := by decide +kernel
theorem dX12_init_131 : decode cX12_init 131 = .ok (.sipush 300, 3) := by decide +kernel
theorem dX12_init_134 : decode cX12_init 134 = .ok (.newarray .int, 2) := by decide +kernel
theorem dX12_init_136 : decode cX12_init 136 = .ok (.putfield 55, 3) := by decide +kernel
theorem dX12_init_139 : decode cX12_init 139 = .ok (.aload_n 0, 1) := by decide +kernel
theorem dX12_init_140 : decode cX12_init 140 = .ok (.sipush 300, 3) := by decide +kernel
theorem dX12_init_143 : decode cX12_init 143 = .ok (.newarray .int, 2) := by decide +kernel
theorem dX12_init_145 : decode cX12_init 145 = .ok (.putfield 58, 3) := by decide +kernel
theorem dX12_init_148 : decode cX12_init 148 = .ok (.aload_n 0, 1) := by decide +kernel
theorem dX12_init_149 : decode cX12_init 149 = .ok (.sipush 300, 3) := by decide +kernel
theorem dX12_init_152 : decode cX12_init 152 = .ok (.newarray .int, 2) := by decide +kernel
theorem dX12_init_154 : decode cX12_init 154 = .ok (.putfield 61, 3) := by decide +kernel
theorem dX12_init_157 : decode cX12_init 157 = .ok (.aload_n 0, 1) := by decide +kernel
theorem dX12_init_158 : decode cX12_init 158 = .ok (.sipush 300, 3) := by decide +kernel
theorem dX12_init_161 : decode cX12_init 161 = .ok (.newarray .int, 2) := by decide +kernel
theorem dX12_init_163 : decode cX12_init 163 = .ok (.putfield 64, 3) := by decide +kernel
theorem dX12_init_166 : decode cX12_init 166 = .ok (.aload_n 0, 1) := by decide +kernel
theorem dX12_init_167 : decode cX12_init 167 = .ok (.sipush 300, 3) := by decide +kernel
theorem dX12_init_170 : decode cX12_init 170 = .ok (.newarray .int, 2) := by decide +kernel
theorem dX12_init_172 : decode cX12_init 172 = .ok (.putfield 67, 3) := by decide +kernel
theorem dX12_init_175 : decode cX12_init 175 = .ok (.aload_n 0, 1) := by decide +kernel
theorem dX12_init_176 : decode cX12_init 176 = .ok (.sipush 300, 3) := by decide +kernel
theorem dX12_init_179 : decode cX12_init 179 = .ok (.newarray .int, 2) := by decide +kernel
theorem dX12_init_181 : decode cX12_init 181 = .ok (.putfield 70, 3) := by decide +kernel
theorem dX12_init_184 : decode cX12_init 184 = .ok (.aload_n 0, 1) := by decide +kernel
theorem dX12_init_185 : decode cX12_init 185 = .ok (.sipush 1500, 3) := by decide +kernel
theorem dX12_init_188 : decode cX12_init 188 = .ok (.newarray .int, 2) := by decide +kernel
theorem dX12_init_190 : decode cX12_init 190 = .ok (.putfield 73, 3) := by decide +kernel
theorem dX12_init_193 : decode cX12_init 193 = .ok (.aload_n 0, 1) := by decide +kernel
theorem dX12_init_194 : decode cX12_init 194 = .ok (.sipush 1500, 3) := by decide +kernel
theorem dX12_init_197 : decode cX12_init 197 = .ok (.newarray .int, 2) := by decide +kernel
theorem dX12_init_199 : decode cX12_init 199 = .ok (.putfield 76, 3) := by decide +kernel
theorem dX12_init_202 : decode cX12_init 202 = .ok (.aload_n 0, 1) := by decide +kernel
theorem dX12_init_203 : decode cX12_init 203 = .ok (.sipush 1500, 3) := by decide +kernel
theorem dX12_init_206 : decode cX12_init 206 = .ok (.newarray .int, 2) := by decide +kernel
theorem dX12_init_208 : decode cX12_init 208 = .ok (.putfield 79, 3) := by decide +kernel
theorem dX12_init_211 : decode cX12_init 211 = .ok (.aload_n 0, 1) := by decide +kernel
theorem dX12_init_212 : decode cX12_init 212 = .ok (.sipush 300, 3) := by decide +kernel
theorem dX12_init_215 : decode cX12_init 215 = .ok (.newarray .int, 2) := by decide +kernel
theorem dX12_init_217 : decode cX12_init 217 = .ok (.putfield 82, 3) := by decide +kernel
theorem dX12_init_220 : decode cX12_init 220 = .ok (.aload_n 0, 1) := by decide +kernel
theorem dX12_init_221 : decode cX12_init 221 = .ok (.sipush 300, 3) := by decide +kernel
theorem dX12_init_224 : decode cX12_init 224 = .ok (.newarray .int, 2) := by decide +kernel
theorem dX12_init_226 : decode cX12_init 226 = .ok (.putfield 85, 3) := by decide +kernel
theorem dX12_init_229 : decode cX12_init 229 = .ok (.aload_n 0, 1) := by decide +kernel
theorem dX12_init_230 : decode cX12_init 230 = .ok (.bipush 20, 2) := by decide +kernel
theorem dX12_init_232 : decode cX12_init 232 = .ok (.newarray .int, 2) := by decide +kernel
theorem dX12_init_234 : decode cX12_init 234 = .ok (.putfield 88, 3) := by decide +kernel
theorem dX12_init_237 : decode cX12_init 237 = .ok (.aload_n 0, 1) := by decide +kernel
theorem dX12_init_238 : decode cX12_init 238 = .ok (.bipush 21, 2) := by decide +kernel
theorem dX12_init_240 : decode cX12_init 240 = .ok (.newarray .int, 2) := by decide +kernel
theorem dX12_init_242 : decode cX12_init 242 = .ok (.putfield 91, 3) := by decide +kernel
theorem dX12_init_245 : decode cX12_init 245 = .ok (.aload_n 0, 1) := by decide +kernel
theorem dX12_init_246 : decode cX12_init 246 = .ok (.sipush 252, 3) := by decide +kernel
theorem dX12_init_249 : decode cX12_init 249 = .ok (.newarray .int, 2) := by decide +kernel
theorem dX12_init_251 : decode cX12_init 251 = .ok (.putfield 94, 3) := by decide +kernel
theorem dX12_init_254 : decode cX12_init 254 = .ok (.aload_n 0, 1) := by decide +kernel
theorem dX12_init_255 : decode cX12_init 255 = .ok (.sipush 252, 3) := by decide +kernel
theorem dX12_init_258 : decode cX12_init 258 = .ok (.newarray .int, 2) := by decide +kernel
theorem dX12_init_260 : decode cX12_init 260 = .ok (.putfield 97, 3) := by decide +kernel
theorem dX12_init_263 : decode cX12_init 263 = .ok (.aload_n 0, 1) := by decide +kernel
theorem dX12_init_264 : decode cX12_init 264 = .ok (.sipush 252, 3) := by decide +kernel
theorem dX12_init_267 : decode cX12_init 267 = .ok (.newarray .int, 2) := by decide +kernel
theorem dX12_init_269 : decode cX12_init 269 = .ok (.putfield 100, 3) := by decide +kernel
theorem dX12_init_272 : decode cX12_init 272 = .ok (.aload_n 0, 1) := by decide +kernel
theorem dX12_init_273 : decode cX12_init 273 = .ok (.sipush 1260, 3) := by decide +kernel
theorem dX12_init_276 : decode cX12_init 276 = .ok (.newarray .boolean, 2) := by decide +kernel
theorem dX12_init_278 : decode cX12_init 278 = .ok (.putfield 103, 3) := by decide +kernel
theorem dX12_init_281 : decode cX12_init 281 = .ok (.aload_n 0, 1) := by decide +kernel
theorem dX12_init_282 : decode cX12_init 282 = .ok (.sipush 1260, 3) := by decide +kernel
theorem dX12_init_285 : decode cX12_init 285 = .ok (.newarray .int, 2) := by decide +kernel
theorem dX12_init_287 : decode cX12_init 287 = .ok (.putfield 107, 3) := by decide +kernel
theorem dX12_init_290 : decode cX12_init 290 = .ok (.aload_n 0, 1) := by decide +kernel
theorem dX12_init_291 : decode cX12_init 291 = .ok (.sipush 1260, 3) := by decide +kernel
theorem dX12_init_294 : decode cX12_init 294 = .ok (.newarray .int, 2) := by decide +kernel
theorem dX12_init_296 : decode cX12_init 296 = .ok (.putfield 110, 3) := by decide +kernel
theorem dX12_init_299 : decode cX12_init 299 = .ok (.aload_n 0, 1) := by decide +kernel
theorem dX12_init_300 : decode cX12_init 300 = .ok (.sipush 1260, 3) := by decide +kernel
theorem dX12_init_303 : decode cX12_init 303 = .ok (.newarray .int, 2) := by decide +kernel
theorem dX12_init_305 : decode cX12_init 305 = .ok (.putfield 113, 3) := by decide +kernel
theorem dX12_init_308 : decode cX12_init 308 = .ok (.aload_n 0, 1) := by decide +kernel
theorem dX12_init_309 : decode cX12_init 309 = .ok (.sipush 300, 3) := by decide +kernel
theorem dX12_init_312 : decode cX12_init 312 = .ok (.newarray .byte, 2) := by decide +kernel
theorem dX12_init_314 : decode cX12_init 314 = .ok (.putfield 116, 3) := by decide +kernel
theorem dX12_init_317 : decode cX12_init 317 = .ok (.aload_n 0, 1) := by decide +kernel
theorem dX12_init_318 : decode cX12_init 318 = .ok (.iconst (-1), 1) := by decide +kernel
theorem dX12_init_319 : decode cX12_init 319 = .ok (.putfield 120, 3) := by decide +kernel
theorem dX12_init_322 : decode cX12_init 322 = .ok (.aload_n 0, 1) := by decide +kernel
theorem dX12_init_323 : decode cX12_init 323 = .ok (.bipush 13, 2) := by decide +kernel
theorem dX12_init_325 : decode cX12_init 325 = .ok (.newarray .int, 2) := by decide +kernel
theorem dX12_init_327 : decode cX12_init 327 = .ok (.putfield 124, 3) := by decide +kernel
theorem dX12_init_330 : decode cX12_init 330 = .ok (.aload_n 0, 1) := by decide +kernel
theorem dX12_init_331 : decode cX12_init 331 = .ok (.bipush 40, 2) := by decide +kernel
theorem dX12_init_333 : decode cX12_init 333 = .ok (.newarray .int, 2) := by decide +kernel
theorem dX12_init_335 : decode cX12_init 335 = .ok (.putfield 127, 3) := by decide +kernel
theorem dX12_init_338 : decode cX12_init 338 = .ok (.aload_n 0, 1) := by decide +kernel
theorem dX12_init_339 : decode cX12_init 339 = .ok (.bipush 40, 2) := by decide +kernel
theorem dX12_init_341 : decode cX12_init 341 = .ok (.newarray .int, 2) := by decide +kernel
theorem dX12_init_343 : decode cX12_init 343 = .ok (.putfield 130, 3) := by decide +kernel
theorem dX12_init_346 : decode cX12_init 346 = .ok (.aload_n 0, 1) := by decide +kernel
theorem dX12_init_347 : decode cX12_init 347 = .ok (.bipush 40, 2) := by decide +kernel
theorem dX12_init_349 : decode cX12_init 349 = .ok (.newarray .int, 2) := by decide +kernel
theorem dX12_init_351 : decode cX12_init 351 = .ok (.putfield 133, 3) := by decide +kernel
theorem dX12_init_354 : decode cX12_init 354 = .ok (.aload_n 0, 1) := by decide +kernel
theorem dX12_init_355 : decode cX12_init 355 = .ok (.bipush 40, 2) := by decide +kernel
theorem dX12_init_357 : decode cX12_init 357 = .ok (.newarray .boolean, 2) := by decide +kernel
theorem dX12_init_359 : decode cX12_init 359 = .ok (.putfield 136, 3) := by decide +kernel
theorem dX12_init_362 : decode cX12_init 362 = .ok (.aload_n 0, 1) := by decide +kernel
theorem dX12_init_363 : decode cX12_init 363 = .ok (.bipush 40, 2) := by decide +kernel
theorem dX12_init_365 : decode cX12_init 365 = .ok (.newarray .int, 2) := by decide +kernel
theorem dX12_init_367 : decode cX12_init 367 = .ok (.putfield 139, 3) := by decide +kernel
theorem dX12_init_370 : decode cX12_init 370 = .ok (.aload_n 0, 1) := by decide +kernel
theorem dX12_init_371 : decode cX12_init 371 = .ok (.bipush 20, 2) := by decide +kernel
theorem dX12_init_373 : decode cX12_init 373 = .ok (.newarray .int, 2) := by decide +kernel
theorem dX12_init_375 : decode cX12_init 375 = .ok (.putfield 142, 3) := by decide +kernel
theorem dX12_init_378 : decode cX12_init 378 = .ok (.aload_n 0, 1) := by decide +kernel
theorem dX12_init_379 : decode cX12_init 379 = .ok (.bipush 20, 2) := by decide +kernel
theorem dX12_init_381 : decode cX12_init 381 = .ok (.newarray .int, 2) := by decide +kernel
theorem dX12_init_383 : decode cX12_init 383 = .ok (.putfield 145, 3) := by decide +kernel
theorem dX12_init_386 : decode cX12_init 386 = .ok (.aload_n 0, 1) := by decide +kernel
theorem dX12_init_387 : decode cX12_init 387 = .ok (.bipush 20, 2) := by decide +kernel
theorem dX12_init_389 : decode cX12_init 389 = .ok (.newarray .int, 2) := by decide +kernel
theorem dX12_init_391 : decode cX12_init 391 = .ok (.putfield 148, 3) := by decide +kernel
theorem dX12_init_394 : decode cX12_init 394 = .ok (.aload_n 0, 1) := by decide +kernel
theorem dX12_init_395 : decode cX12_init 395 = .ok (.bipush 20, 2) := by decide +kernel
theorem dX12_init_397 : decode cX12_init 397 = .ok (.newarray .int, 2) := by decide +kernel
theorem dX12_init_399 : decode cX12_init 399 = .ok (.putfield 151, 3) := by decide +kernel
theorem dX12_init_402 : decode cX12_init 402 = .ok (.aload_n 0, 1) := by decide +kernel
theorem dX12_init_403 : decode cX12_init 403 = .ok (.bipush 20, 2) := by decide +kernel
theorem dX12_init_405 : decode cX12_init 405 = .ok (.newarray .boolean, 2) := by decide +kernel
theorem dX12_init_407 : decode cX12_init 407 = .ok (.putfield 154, 3) := by decide +kernel
theorem dX12_init_410 : decode cX12_init 410 = .ok (.aload_n 0, 1) := by decide +kernel
theorem dX12_init_411 : decode cX12_init 411 = .ok (.bipush 60, 2) := by decide +kernel
theorem dX12_init_413 : decode cX12_init 413 = .ok (.newarray .int, 2) := by decide +kernel
theorem dX12_init_415 : decode cX12_init 415 = .ok (.putfield 157, 3) := by decide +kernel
theorem dX12_init_418 : decode cX12_init 418 = .ok (.aload_n 0, 1) := by decide +kernel
theorem dX12_init_419 : decode cX12_init 419 = .ok (.bipush 60, 2) := by decide +kernel
theorem dX12_init_421 : decode cX12_init 421 = .ok (.newarray .int, 2) := by decide +kernel
theorem dX12_init_423 : decode cX12_init 423 = .ok (.putfield 160, 3) := by decide +kernel
theorem dX12_init_426 : decode cX12_init 426 = .ok (.aload_n 0, 1) := by decide +kernel
theorem dX12_init_427 : decode cX12_init 427 = .ok (.bipush 60, 2) := by decide +kernel
theorem dX12_init_429 : decode cX12_init 429 = .ok (.newarray .int, 2) := by decide +kernel
theorem dX12_init_431 : decode cX12_init 431 = .ok (.putfield 163, 3) := by decide +kernel
theorem dX12_init_434 : decode cX12_init 434 = .ok (.aload_n 0, 1) := by decide +kernel
theorem dX12_init_435 : decode cX12_init 435 = .ok (.bipush 30, 2) := by decide +kernel
theorem dX12_init_437 : decode cX12_init 437 = .ok (.newarray .int, 2) := by decide +kernel
theorem dX12_init_439 : decode cX12_init 439 = .ok (.putfield 166, 3) := by decide +kernel
theorem dX12_init_442 : decode cX12_init 442 = .ok (.aload_n 0, 1) := by decide +kernel
theorem dX12_init_443 : decode cX12_init 443 = .ok (.bipush 30, 2) := by decide +kernel
theorem dX12_init_445 : decode cX12_init 445 = .ok (.newarray .int, 2) := by decide +kernel
theorem dX12_init_447 : decode cX12_init 447 = .ok (.putfield 169, 3) := by decide +kernel
theorem dX12_init_450 : decode cX12_init 450 = .ok (.aload_n 0, 1) := by decide +kernel
theorem dX12_init_451 : decode cX12_init 451 = .ok (.bipush 30, 2) := by decide +kernel
theorem dX12_init_453 : decode cX12_init 453 = .ok (.newarray .int, 2) := by decide +kernel
theorem dX12_init_455 : decode cX12_init 455 = .ok (.putfield 172, 3) := by decide +kernel
theorem dX12_init_458 : decode cX12_init 458 = .ok (.aload_n 0, 1) := by decide +kernel
theorem dX12_init_459 : decode cX12_init 459 = .ok (.bipush 30, 2) := by decide +kernel
theorem dX12_init_461 : decode cX12_init 461 = .ok (.newarray .int, 2) := by decide +kernel
theorem dX12_init_463 : decode cX12_init 463 = .ok (.putfield 175, 3) := by decide +kernel
theorem dX12_init_466 : decode cX12_init 466 = .ok (.aload_n 0, 1) := by decide +kernel
theorem dX12_init_467 : decode cX12_init 467 = .ok (.bipush 30, 2) := by decide +kernel
theorem dX12_init_469 : decode cX12_init 469 = .ok (.newarray .int, 2) := by decide +kernel
theorem dX12_init_471 : decode cX12_init 471 = .ok (.putfield 178, 3) := by decide +kernel
theorem dX12_init_474 : decode cX12_init 474 = .ok (.aload_n 0, 1) := by decide +kernel
theorem dX12_init_475 : decode cX12_init 475 = .ok (.bipush 30, 2) := by decide +kernel
theorem dX12_init_477 : decode cX12_init 477 = .ok (.newarray .int, 2) := by decide +kernel
theorem dX12_init_479 : decode cX12_init 479 = .ok (.putfield 181, 3) := by decide +kernel
theorem dX12_init_482 : decode cX12_init 482 = .ok (.aload_n 0, 1) := by decide +kernel
theorem dX12_init_483 : decode cX12_init 483 = .ok (.bipush 40, 2) := by decide +kernel
theorem dX12_init_485 : decode cX12_init 485 = .ok (.newarray .int, 2) := by decide +kernel
theorem dX12_init_487 : decode cX12_init 487 = .ok (.putfield 184, 3) := by decide +kernel
theorem dX12_init_490 : decode cX12_init 490 = .ok (.aload_n 0, 1) := by decide +kernel
theorem dX12_init_491 : decode cX12_init 491 = .ok (.bipush 40, 2) := by decide +kernel
theorem dX12_init_493 : decode cX12_init 493 = .ok (.newarray .int, 2) := by decide +kernel
theorem dX12_init_495 : decode cX12_init 495 = .ok (.putfield 187, 3) := by decide +kernel
theorem dX12_init_498 : decode cX12_init 498 = .ok (.aload_n 0, 1) := by decide +kernel
theorem dX12_init_499 : decode cX12_init 499 = .ok (.bipush 64, 2) := by decide +kernel
theorem dX12_init_501 : decode cX12_init 501 = .ok (.newarray .int, 2) := by decide +kernel
theorem dX12_init_503 : decode cX12_init 503 = .ok (.putfield 190, 3) := by decide +kernel
theorem dX12_init_506 : decode cX12_init 506 = .ok (.aload_n 0, 1) := by decide +kernel
theorem dX12_init_507 : decode cX12_init 507 = .ok (.bipush 9, 2) := by decide +kernel
theorem dX12_init_509 : decode cX12_init 509 = .ok (.newarray .int, 2) := by decide +kernel
theorem dX12_init_511 : decode cX12_init 511 = .ok (.putfield 193, 3) := by decide +kernel
theorem dX12_init_514 : decode cX12_init 514 = .ok (.aload_n 0, 1) := by decide +kernel
theorem dX12_init_515 : decode cX12_init 515 = .ok (.bipush 9, 2) := by decide +kernel
theorem dX12_init_517 : decode cX12_init 517 = .ok (.newarray .int, 2) := by decide +kernel
theorem dX12_init_519 : decode cX12_init 519 = .ok (.putfield 196, 3) := by decide +kernel
theorem dX12_init_522 : decode cX12_init 522 = .ok (.aload_n 0, 1) := by decide +kernel
theorem dX12_init_523 : decode cX12_init 523 = .ok (.bipush 9, 2) := by decide +kernel
theorem dX12_init_525 : decode cX12_init 525 = .ok (.newarray .int, 2) := by decide +kernel
theorem dX12_init_527 : decode cX12_init 527 = .ok (.putfield 199, 3) := by decide +kernel
theorem dX12_init_530 : decode cX12_init 530 = .ok (.aload_n 0, 1) := by decide +kernel
theorem dX12_init_531 : decode cX12_init 531 = .ok (.iconst 4, 1) := by decide +kernel
theorem dX12_init_532 : decode cX12_init 532 = .ok (.newarray .int, 2) := by decide +kernel
theorem dX12_init_534 : decode cX12_init 534 = .ok (.putfield 202, 3) := by decide +kernel
theorem dX12_init_537 : decode cX12_init 537 = .ok (.aload_n 0, 1) := by decide +kernel
theorem dX12_init_538 : decode cX12_init 538 = .ok (.sipush 2560, 3) := by decide +kernel
theorem dX12_init_541 : decode cX12_init 541 = .ok (.newarray .int, 2) := by decide +kernel
theorem dX12_init_543 : decode cX12_init 543 = .ok (.putfield 205, 3) := by decide +kernel
theorem dX12_init_546 : decode cX12_init 546 = .ok (.aload_n 0, 1) := by decide +kernel
theorem dX12_init_547 : decode cX12_init 547 = .ok (.sipush 512, 3) := by decide +kernel
theorem dX12_init_550 : decode cX12_init 550 = .ok (.newarray .int, 2) := by decide +kernel
theorem dX12_init_552 : decode cX12_init 552 = .ok (.putfield 208, 3) := by decide +kernel
theorem dX12_init_555 : decode cX12_init 555 = .ok (.aload_n 0, 1) := by decide +kernel
theorem dX12_init_556 : decode cX12_init 556 = .ok (.sipush 512, 3) := by decide +kernel
theorem dX12_init_559 : decode cX12_init 559 = .ok (.newarray .int, 2) := by decide +kernel
theorem dX12_init_561 : decode cX12_init 561 = .ok (.putfield 211, 3) := by decide +kernel
theorem dX12_init_564 : decode cX12_init 564 = .ok (.aload_n 0, 1) := by decide +kernel
theorem dX12_init_565 : decode cX12_init 565 = .ok (.sipush 19773, 3) := by decide +kernel
theorem dX12_init_568 : decode cX12_init 568 = .ok (.newarray .int, 2) := by decide +kernel
theorem dX12_init_570 : decode cX12_init 570 = .ok (.putfield 214, 3) := by decide +kernel
theorem dX12_init_573 : decode cX12_init 573 = .ok (.aload_n 0, 1) := by decide +kernel
theorem dX12_init_574 : decode cX12_init 574 = .ok (.bipush 8, 2) := by decide +kernel
theorem dX12_init_576 : decode cX12_init 576 = .ok (.newarray .int, 2) := by decide +kernel
theorem dX12_init_578 : decode cX12_init 578 = .ok (.putfield 217, 3) := by decide +kernel
theorem dX12_init_581 : decode cX12_init 581 = .ok (.aload_n 0, 1) := by decide +kernel
theorem dX12_init_582 : decode cX12_init 582 = .ok (.bipush 8, 2) := by decide +kernel
theorem dX12_init_584 : decode cX12_init 584 = .ok (.newarray .int, 2) := by decide +kernel
theorem dX12_init_586 : decode cX12_init 586 = .ok (.putfield 220, 3) := by decide +kernel
theorem dX12_init_589 : decode cX12_init 589 = .ok (.aload_n 0, 1) := by decide +kernel
theorem dX12_init_590 : decode cX12_init 590 = .ok (.iconst 4, 1) := by decide +kernel
theorem dX12_init_591 : decode cX12_init 591 = .ok (.newarray .int, 2) := by decide +kernel
theorem dX12_init_593 : decode cX12_init 593 = .ok (.putfield 223, 3) := by decide +kernel
theorem dX12_init_596 : decode cX12_init 596 = .ok (.aload_n 0, 1) := by decide +kernel
theorem dX12_init_597 : decode cX12_init 597 = .ok (.iconst 4, 1) := by decide +kernel
theorem dX12_init_598 : decode cX12_init 598 = .ok (.newarray .boolean, 2) := by decide +kernel
theorem dX12_init_600 : decode cX12_init 600 = .ok (.putfield 226, 3) := by decide +kernel
theorem dX12_init_603 : decode cX12_init 603 = .ok (.aload_n 0, 1) := by decide +kernel
theorem dX12_init_604 : decode cX12_init 604 = .ok (.sipush 160, 3) := by decide +kernel
theorem dX12_init_607 : decode cX12_init 607 = .ok (.newarray .int, 2) := by decide +kernel
theorem dX12_init_609 : decode cX12_init 609 = .ok (.putfield 229, 3) := by decide +kernel
theorem dX12_init_612 : decode cX12_init 612 = .ok (.aload_n 0, 1) := by decide +kernel
theorem dX12_init_613 : decode cX12_init 613 = .ok (.sipush 160, 3) := by decide +kernel
theorem dX12_init_616 : decode cX12_init 616 = .ok (.newarray .boolean, 2) := by decide +kernel
theorem dX12_init_618 : decode cX12_init 618 = .ok (.putfield 232, 3) := by decide +kernel
theorem dX12_init_621 : decode cX12_init 621 = .ok (.iconst 0, 1) := by decide +kernel
theorem dX12_init_622 : decode cX12_init 622 = .ok (.istore_n 1, 1) := by decide +kernel
theorem dX12_init_623 : decode cX12_init 623 = .ok (.iload_n 1, 1) := by decide +kernel
theorem dX12_init_624 : decode cX12_init 624 = .ok (.iconst 4, 1) := by decide +kernel
theorem dX12_init_625 : decode cX12_init 625 = .ok (.if_icmp .ge 24, 3) := by decide +kernel
theorem dX12_init_628 : decode cX12_init 628 = .ok (.aload_n 0, 1) := by decide +kernel
theorem dX12_init_629 : decode cX12_init 629 = .ok (.getfield 19, 3) := by decide +kernel
theorem dX12_init_632 : decode cX12_init 632 = .ok (.iload_n 1, 1) := by decide +kernel
theorem dX12_init_633 : decode cX12_init 633 = .ok (.bipush 20, 2) := by decide +kernel
theorem dX12_init_635 : decode cX12_init 635 = .ok (.iastore, 1) := by decide +kernel
theorem dX12_init_636 : decode cX12_init 636 = .ok (.aload_n 0, 1) := by decide +kernel
theorem dX12_init_637 : decode cX12_init 637 = .ok (.getfield 22, 3) := by decide +kernel
theorem dX12_init_640 : decode cX12_init 640 = .ok (.iload_n 1, 1) := by decide +kernel
theorem dX12_init_641 : decode cX12_init 641 = .ok (.iconst 1, 1) := by decide +kernel
theorem dX12_init_642 : decode cX12_init 642 = .ok (.iastore, 1) := by decide +kernel
theorem dX12_init_643 : decode cX12_init 643 = .ok (.iinc 1 1, 3) := by decide +kernel
theorem dX12_init_646 : decode cX12_init 646 = .ok (.goto (-23), 3) := by decide +kernel
theorem dX12_init_649 : decode cX12_init 649 = .ok (.iconst 2, 1) := by decide +kernel
theorem dX12_init_650 : decode cX12_init 650 = .ok (.istore_n 1, 1) := by decide +kernel
theorem dX12_init_651 : decode cX12_init 651 = .ok (.iload_n 1, 1) := by decide +kernel
theorem dX12_init_652 : decode cX12_init 652 = .ok (.bipush 7, 2) := by decide +kernel
theorem dX12_init_654 : decode cX12_init 654 = .ok (.if_icmp .ge 17, 3) := by decide +kernel
theorem dX12_init_657 : decode cX12_init 657 = .ok (.aload_n 0, 1) := by decide +kernel
theorem dX12_init_658 : decode cX12_init 658 = .ok (.getfield 37, 3) := by decide +kernel
theorem dX12_init_661 : decode cX12_init 661 = .ok (.iload_n 1, 1) := by decide +kernel
theorem dX12_init_662 : decode cX12_init 662 = .ok (.bipush 10, 2) := by decide +kernel
theorem dX12_init_664 : decode cX12_init 664 = .ok (.iastore, 1) := by decide +kernel
theorem dX12_init_665 : decode cX12_init 665 = .ok (.iinc 1 1, 3) := by decide +kernel
theorem dX12_init_668 : decode cX12_init 668 = .ok (.goto (-17), 3) := by decide +kernel
theorem dX12_init_671 : decode cX12_init 671 = .ok (.iconst 0, 1) := by decide +kernel
theorem dX12_init_672 : decode cX12_init 672 = .ok (.istore_n 1, 1) := by decide +kernel
theorem dX12_init_673 : decode cX12_init 673 = .ok (.iload_n 1, 1) := by decide +kernel
theorem dX12_init_674 : decode cX12_init 674 = .ok (.iconst 4, 1) := by decide +kernel
theorem dX12_init_675 : decode cX12_init 675 = .ok (.if_icmp .ge 16, 3) := by decide +kernel
theorem dX12_init_678 : decode cX12_init 678 = .ok (.aload_n 0, 1) := by decide +kernel
theorem dX12_init_679 : decode cX12_init 679 = .ok (.getfield 223, 3) := by decide +kernel
theorem dX12_init_682 : decode cX12_init 682 = .ok (.iload_n 1, 1) := by decide +kernel
theorem dX12_init_683 : decode cX12_init 683 = .ok (.iconst (-1), 1) := by decide +kernel
theorem dX12_init_684 : decode cX12_init 684 = .ok (.iastore, 1) := by decide +kernel
theorem dX12_init_685 : decode cX12_init 685 = .ok (.iinc 1 1, 3) := by decide +kernel
theorem dX12_init_688 : decode cX12_init 688 = .ok (.goto (-15), 3) := by decide +kernel
theorem dX12_init_691 : decode cX12_init 691 = .ok (.return_, 1) := by decide +kernel
theorem dX12_thrown_0 : decode cX12_thrown 0 = .ok (.aload_n 0, 1) := by decide +kernel
theorem dX12_thrown_1 : decode cX12_thrown 1 = .ok (.getfield 235, 3) := by decide +kernel
theorem dX12_thrown_4 : decode cX12_thrown 4 = .ok (.ireturn, 1) := by decide +kernel
theorem dX12_within_0 : decode cX12_within 0 = .ok (.iload_n 0, 1) := by decide +kernel
theorem dX12_within_1 : decode cX12_within 1 = .ok (.iload_n 1, 1) := by decide +kernel
theorem dX12_within_2 : decode cX12_within 2 = .ok (.if_icmp .lt 12, 3) := by decide +kernel
theorem dX12_within_5 : decode cX12_within 5 = .ok (.iload_n 0, 1) := by decide +kernel
theorem dX12_within_6 : decode cX12_within 6 = .ok (.iload_n 2, 1) := by decide +kernel
theorem dX12_within_7 : decode cX12_within 7 = .ok (.if_icmp .gt 7, 3) := by decide +kernel
theorem dX12_within_10 : decode cX12_within 10 = .ok (.iconst 1, 1) := by decide +kernel
theorem dX12_within_11 : decode cX12_within 11 = .ok (.goto 4, 3) := by decide +kernel
theorem dX12_within_14 : decode cX12_within 14 = .ok (.iconst 0, 1) := by decide +kernel
theorem dX12_within_15 : decode cX12_within 15 = .ok (.ireturn, 1) := by decide +kernel
theorem dX12_isCell_0 : decode cX12_isCell 0 = .ok (.iload_n 0, 1) := by decide +kernel
theorem dX12_isCell_1 : decode cX12_isCell 1 = .ok (.iconst 0, 1) := by decide +kernel
theorem dX12_isCell_2 : decode cX12_isCell 2 = .ok (.bipush 63, 2) := by decide +kernel
theorem dX12_isCell_4 : decode cX12_isCell 4 = .ok (.invokestatic 238, 3) := by decide +kernel
theorem dX12_isCell_7 : decode cX12_isCell 7 = .ok (.ireturn, 1) := by decide +kernel
theorem dX12_xOf_0 : decode cX12_xOf 0 = .ok (.iload_n 0, 1) := by decide +kernel
theorem dX12_xOf_1 : decode cX12_xOf 1 = .ok (.bipush 8, 2) := by decide +kernel
theorem dX12_xOf_3 : decode cX12_xOf 3 = .ok (.irem, 1) := by decide +kernel
theorem dX12_xOf_4 : decode cX12_xOf 4 = .ok (.ireturn, 1) := by decide +kernel
theorem dX12_yOf_0 : decode cX12_yOf 0 = .ok (.iload_n 0, 1) := by decide +kernel
theorem dX12_yOf_1 : decode cX12_yOf 1 = .ok (.bipush 8, 2) := by decide +kernel
theorem dX12_yOf_3 : decode cX12_yOf 3 = .ok (.idiv, 1) := by decide +kernel
theorem dX12_yOf_4 : decode cX12_yOf 4 = .ok (.ireturn, 1) := by decide +kernel
theorem dX12_apart_0 : decode cX12_apart 0 = .ok (.iload_n 0, 1) := by decide +kernel
theorem dX12_apart_1 : decode cX12_apart 1 = .ok (.iload_n 1, 1) := by decide +kernel
theorem dX12_apart_2 : decode cX12_apart 2 = .ok (.if_icmp .ge 9, 3) := by decide +kernel
theorem dX12_apart_5 : decode cX12_apart 5 = .ok (.iload_n 1, 1) := by decide +kernel
theorem dX12_apart_6 : decode cX12_apart 6 = .ok (.iload_n 0, 1) := by decide +kernel
theorem dX12_apart_7 : decode cX12_apart 7 = .ok (.isub, 1) := by decide +kernel
theorem dX12_apart_8 : decode cX12_apart 8 = .ok (.goto 6, 3) := by decide +kernel
theorem dX12_apart_11 : decode cX12_apart 11 = .ok (.iload_n 0, 1) := by decide +kernel
theorem dX12_apart_12 : decode cX12_apart 12 = .ok (.iload_n 1, 1) := by decide +kernel
theorem dX12_apart_13 : decode cX12_apart 13 = .ok (.isub, 1) := by decide +kernel
theorem dX12_apart_14 : decode cX12_apart 14 = .ok (.ireturn, 1) := by decide +kernel
theorem dX12_areBeside_0 : decode cX12_areBeside 0 = .ok (.iload_n 0, 1) := by decide +kernel
theorem dX12_areBeside_1 : decode cX12_areBeside 1 = .ok (.invokestatic 242, 3) := by decide +kernel
theorem dX12_areBeside_4 : decode cX12_areBeside 4 = .ok (.iload_n 1, 1) := by decide +kernel
theorem dX12_areBeside_5 : decode cX12_areBeside 5 = .ok (.invokestatic 242, 3) := by decide +kernel
theorem dX12_areBeside_8 : decode cX12_areBeside 8 = .ok (.invokestatic 246, 3) := by decide +kernel
theorem dX12_areBeside_11 : decode cX12_areBeside 11 = .ok (.iload_n 0, 1) := by decide +kernel
theorem dX12_areBeside_12 : decode cX12_areBeside 12 = .ok (.invokestatic 250, 3) := by decide +kernel
theorem dX12_areBeside_15 : decode cX12_areBeside 15 = .ok (.iload_n 1, 1) := by decide +kernel
theorem dX12_areBeside_16 : decode cX12_areBeside 16 = .ok (.invokestatic 250, 3) := by decide +kernel
theorem dX12_areBeside_19 : decode cX12_areBeside 19 = .ok (.invokestatic 246, 3) := by decide +kernel
theorem dX12_areBeside_22 : decode cX12_areBeside 22 = .ok (.iadd, 1) := by decide +kernel
theorem dX12_areBeside_23 : decode cX12_areBeside 23 = .ok (.iconst 1, 1) := by decide +kernel
theorem dX12_areBeside_24 : decode cX12_areBeside 24 = .ok (.if_icmp .ne 7, 3) := by decide +kernel
theorem dX12_areBeside_27 : decode cX12_areBeside 27 = .ok (.iconst 1, 1) := by decide +kernel
theorem dX12_areBeside_28 : decode cX12_areBeside 28 = .ok (.goto 4, 3) := by decide +kernel
theorem dX12_areBeside_31 : decode cX12_areBeside 31 = .ok (.iconst 0, 1) := by decide +kernel
theorem dX12_areBeside_32 : decode cX12_areBeside 32 = .ok (.ireturn, 1) := by decide +kernel
theorem dX12_stemAt_0 : decode cX12_stemAt 0 = .ok (.bipush 16, 2) := by decide +kernel
theorem dX12_stemAt_2 : decode cX12_stemAt 2 = .ok (.iload_n 0, 1) := by decide +kernel
theorem dX12_stemAt_3 : decode cX12_stemAt 3 = .ok (.imul, 1) := by decide +kernel
theorem dX12_stemAt_4 : decode cX12_stemAt 4 = .ok (.iconst 4, 1) := by decide +kernel
theorem dX12_stemAt_5 : decode cX12_stemAt 5 = .ok (.iload_n 1, 1) := by decide +kernel
theorem dX12_stemAt_6 : decode cX12_stemAt 6 = .ok (.imul, 1) := by decide +kernel
theorem dX12_stemAt_7 : decode cX12_stemAt 7 = .ok (.iadd, 1) := by decide +kernel
theorem dX12_stemAt_8 : decode cX12_stemAt 8 = .ok (.iload_n 2, 1) := by decide +kernel
theorem dX12_stemAt_9 : decode cX12_stemAt 9 = .ok (.iadd, 1) := by decide +kernel
theorem dX12_stemAt_10 : decode cX12_stemAt 10 = .ok (.ireturn, 1) := by decide +kernel
theorem dX12_isStem_0 : decode cX12_isStem 0 = .ok (.iload_n 0, 1) := by decide +kernel
theorem dX12_isStem_1 : decode cX12_isStem 1 = .ok (.iconst 0, 1) := by decide +kernel
theorem dX12_isStem_2 : decode cX12_isStem 2 = .ok (.iconst 3, 1) := by decide +kernel
theorem dX12_isStem_3 : decode cX12_isStem 3 = .ok (.invokestatic 238, 3) := by decide +kernel
theorem dX12_isStem_6 : decode cX12_isStem 6 = .ok (.ifCond .eq 16, 3) := by decide +kernel
theorem dX12_isStem_9 : decode cX12_isStem 9 = .ok (.iload_n 1, 1) := by decide +kernel
theorem dX12_isStem_10 : decode cX12_isStem 10 = .ok (.iconst 0, 1) := by decide +kernel
theorem dX12_isStem_11 : decode cX12_isStem 11 = .ok (.iconst 3, 1) := by decide +kernel
theorem dX12_isStem_12 : decode cX12_isStem 12 = .ok (.invokestatic 238, 3) := by decide +kernel
theorem dX12_isStem_15 : decode cX12_isStem 15 = .ok (.ifCond .eq 7, 3) := by decide +kernel
theorem dX12_isStem_18 : decode cX12_isStem 18 = .ok (.iconst 1, 1) := by decide +kernel
theorem dX12_isStem_19 : decode cX12_isStem 19 = .ok (.goto 4, 3) := by decide +kernel
theorem dX12_isStem_22 : decode cX12_isStem 22 = .ok (.iconst 0, 1) := by decide +kernel
theorem dX12_isStem_23 : decode cX12_isStem 23 = .ok (.ireturn, 1) := by decide +kernel
theorem dX12_cell_0 : decode cX12_cell 0 = .ok (.aload_n 0, 1) := by decide +kernel
theorem dX12_cell_1 : decode cX12_cell 1 = .ok (.iconst 0, 1) := by decide +kernel
theorem dX12_cell_2 : decode cX12_cell 2 = .ok (.putfield 235, 3) := by decide +kernel
theorem dX12_cell_5 : decode cX12_cell 5 = .ok (.iload_n 1, 1) := by decide +kernel
theorem dX12_cell_6 : decode cX12_cell 6 = .ok (.invokestatic 253, 3) := by decide +kernel
theorem dX12_cell_9 : decode cX12_cell 9 = .ok (.ifCond .eq 13, 3) := by decide +kernel
theorem dX12_cell_12 : decode cX12_cell 12 = .ok (.iload_n 2, 1) := by decide +kernel
theorem dX12_cell_13 : decode cX12_cell 13 = .ok (.iconst 0, 1) := by decide +kernel
theorem dX12_cell_14 : decode cX12_cell 14 = .ok (.bipush 40, 2) := by decide +kernel
theorem dX12_cell_16 : decode cX12_cell 16 = .ok (.invokestatic 238, 3) := by decide +kernel
theorem dX12_cell_19 : decode cX12_cell 19 = .ok (.ifCond .ne 5, 3) := by decide +kernel
theorem dX12_cell_22 : decode cX12_cell 22 = .ok (.iconst 0, 1) := by decide +kernel
theorem dX12_cell_23 : decode cX12_cell 23 = .ok (.ireturn, 1) := by decide +kernel
theorem dX12_cell_24 : decode cX12_cell 24 = .ok (.aload_n 0, 1) := by decide +kernel
theorem dX12_cell_25 : decode cX12_cell 25 = .ok (.getfield 7, 3) := by decide +kernel
theorem dX12_cell_28 : decode cX12_cell 28 = .ok (.iload_n 1, 1) := by decide +kernel
theorem dX12_cell_29 : decode cX12_cell 29 = .ok (.iload_n 2, 1) := by decide +kernel
theorem dX12_cell_30 : decode cX12_cell 30 = .ok (.iastore, 1) := by decide +kernel
theorem dX12_cell_31 : decode cX12_cell 31 = .ok (.iconst 1, 1) := by decide +kernel
theorem dX12_cell_32 : decode cX12_cell 32 = .ok (.ireturn, 1) := by decide +kernel
theorem dX12_stand_0 : decode cX12_stand 0 = .ok (.aload_n 0, 1) := by decide +kernel
theorem dX12_stand_1 : decode cX12_stand 1 = .ok (.iconst 0, 1) := by decide +kernel
theorem dX12_stand_2 : decode cX12_stand 2 = .ok (.putfield 235, 3) := by decide +kernel
theorem dX12_stand_5 : decode cX12_stand 5 = .ok (.iload_n 1, 1) := by decide +kernel
theorem dX12_stand_6 : decode cX12_stand 6 = .ok (.invokestatic 253, 3) := by decide +kernel
theorem dX12_stand_9 : decode cX12_stand 9 = .ok (.ifCond .eq 23, 3) := by decide +kernel
theorem dX12_stand_12 : decode cX12_stand 12 = .ok (.iload_n 2, 1) := by decide +kernel
theorem dX12_stand_13 : decode cX12_stand 13 = .ok (.iload_n 3, 1) := by decide +kernel
theorem dX12_stand_14 : decode cX12_stand 14 = .ok (.invokestatic 257, 3) := by decide +kernel
theorem dX12_stand_17 : decode cX12_stand 17 = .ok (.ifCond .eq 15, 3) := by decide +kernel
theorem dX12_stand_20 : decode cX12_stand 20 = .ok (.iload 4, 2) := by decide +kernel
theorem dX12_stand_22 : decode cX12_stand 22 = .ok (.iconst 0, 1) := by decide +kernel
theorem dX12_stand_23 : decode cX12_stand 23 = .ok (.sipush 200, 3) := by decide +kernel
theorem dX12_stand_26 : decode cX12_stand 26 = .ok (.invokestatic 238, 3) := by decide +kernel
theorem dX12_stand_29 : decode cX12_stand 29 = .ok (.ifCond .ne 5, 3) := by decide +kernel
theorem dX12_stand_32 : decode cX12_stand 32 = .ok (.iconst 0, 1) := by decide +kernel
theorem dX12_stand_33 : decode cX12_stand 33 = .ok (.ireturn, 1) := by decide +kernel
theorem dX12_stand_34 : decode cX12_stand 34 = .ok (.aload_n 0, 1) := by decide +kernel
theorem dX12_stand_35 : decode cX12_stand 35 = .ok (.getfield 16, 3) := by decide +kernel
theorem dX12_stand_38 : decode cX12_stand 38 = .ok (.iload_n 1, 1) := by decide +kernel
theorem dX12_stand_39 : decode cX12_stand 39 = .ok (.iload_n 2, 1) := by decide +kernel
theorem dX12_stand_40 : decode cX12_stand 40 = .ok (.iload_n 3, 1) := by decide +kernel
theorem dX12_stand_41 : decode cX12_stand 41 = .ok (.invokestatic 261, 3) := by decide +kernel
theorem dX12_stand_44 : decode cX12_stand 44 = .ok (.iload 4, 2) := by decide +kernel
theorem dX12_stand_46 : decode cX12_stand 46 = .ok (.iastore, 1) := by decide +kernel
theorem dX12_stand_47 : decode cX12_stand 47 = .ok (.iconst 1, 1) := by decide +kernel
theorem dX12_stand_48 : decode cX12_stand 48 = .ok (.ireturn, 1) := by decide +kernel
theorem dX12_sort_0 : decode cX12_sort 0 = .ok (.aload_n 0, 1) := by decide +kernel
theorem dX12_sort_1 : decode cX12_sort 1 = .ok (.iconst 0, 1) := by decide +kernel
theorem dX12_sort_2 : decode cX12_sort 2 = .ok (.putfield 235, 3) := by decide +kernel
theorem dX12_sort_5 : decode cX12_sort 5 = .ok (.iload_n 1, 1) := by decide +kernel
theorem dX12_sort_6 : decode cX12_sort 6 = .ok (.iconst 0, 1) := by decide +kernel
theorem dX12_sort_7 : decode cX12_sort 7 = .ok (.iconst 3, 1) := by decide +kernel
theorem dX12_sort_8 : decode cX12_sort 8 = .ok (.invokestatic 238, 3) := by decide +kernel
theorem dX12_sort_11 : decode cX12_sort 11 = .ok (.ifCond .eq 22, 3) := by decide +kernel
theorem dX12_sort_14 : decode cX12_sort 14 = .ok (.iload_n 2, 1) := by decide +kernel
theorem dX12_sort_15 : decode cX12_sort 15 = .ok (.iconst 0, 1) := by decide +kernel
theorem dX12_sort_16 : decode cX12_sort 16 = .ok (.bipush 100, 2) := by decide +kernel
theorem dX12_sort_18 : decode cX12_sort 18 = .ok (.invokestatic 238, 3) := by decide +kernel
theorem dX12_sort_21 : decode cX12_sort 21 = .ok (.ifCond .eq 12, 3) := by decide +kernel
theorem dX12_sort_24 : decode cX12_sort 24 = .ok (.iload_n 3, 1) := by decide +kernel
theorem dX12_sort_25 : decode cX12_sort 25 = .ok (.iconst 1, 1) := by decide +kernel
theorem dX12_sort_26 : decode cX12_sort 26 = .ok (.iconst 3, 1) := by decide +kernel
theorem dX12_sort_27 : decode cX12_sort 27 = .ok (.invokestatic 238, 3) := by decide +kernel
theorem dX12_sort_30 : decode cX12_sort 30 = .ok (.ifCond .ne 5, 3) := by decide +kernel
theorem dX12_sort_33 : decode cX12_sort 33 = .ok (.iconst 0, 1) := by decide +kernel
theorem dX12_sort_34 : decode cX12_sort 34 = .ok (.ireturn, 1) := by decide +kernel
theorem dX12_sort_35 : decode cX12_sort 35 = .ok (.aload_n 0, 1) := by decide +kernel
theorem dX12_sort_36 : decode cX12_sort 36 = .ok (.getfield 19, 3) := by decide +kernel
theorem dX12_sort_39 : decode cX12_sort 39 = .ok (.iload_n 1, 1) := by decide +kernel
theorem dX12_sort_40 : decode cX12_sort 40 = .ok (.iload_n 2, 1) := by decide +kernel
theorem dX12_sort_41 : decode cX12_sort 41 = .ok (.iastore, 1) := by decide +kernel
theorem dX12_sort_42 : decode cX12_sort 42 = .ok (.aload_n 0, 1) := by decide +kernel
theorem dX12_sort_43 : decode cX12_sort 43 = .ok (.getfield 22, 3) := by decide +kernel
theorem dX12_sort_46 : decode cX12_sort 46 = .ok (.iload_n 1, 1) := by decide +kernel
theorem dX12_sort_47 : decode cX12_sort 47 = .ok (.iload_n 3, 1) := by decide +kernel
theorem dX12_sort_48 : decode cX12_sort 48 = .ok (.iastore, 1) := by decide +kernel
theorem dX12_sort_49 : decode cX12_sort 49 = .ok (.iconst 1, 1) := by decide +kernel
theorem dX12_sort_50 : decode cX12_sort 50 = .ok (.ireturn, 1) := by decide +kernel
theorem dX12_mill_0 : decode cX12_mill 0 = .ok (.aload_n 0, 1) := by decide +kernel
theorem dX12_mill_1 : decode cX12_mill 1 = .ok (.iconst 0, 1) := by decide +kernel
theorem dX12_mill_2 : decode cX12_mill 2 = .ok (.putfield 235, 3) := by decide +kernel
theorem dX12_mill_5 : decode cX12_mill 5 = .ok (.iload_n 1, 1) := by decide +kernel
theorem dX12_mill_6 : decode cX12_mill 6 = .ok (.invokestatic 253, 3) := by decide +kernel
theorem dX12_mill_9 : decode cX12_mill 9 = .ok (.ifCond .eq 10, 3) := by decide +kernel
theorem dX12_mill_12 : decode cX12_mill 12 = .ok (.aload_n 0, 1) := by decide +kernel
theorem dX12_mill_13 : decode cX12_mill 13 = .ok (.getfield 265, 3) := by decide +kernel
theorem dX12_mill_16 : decode cX12_mill 16 = .ok (.ifCond .le 5, 3) := by decide +kernel
theorem dX12_mill_19 : decode cX12_mill 19 = .ok (.iconst 0, 1) := by decide +kernel
theorem dX12_mill_20 : decode cX12_mill 20 = .ok (.ireturn, 1) := by decide +kernel
theorem dX12_mill_21 : decode cX12_mill 21 = .ok (.aload_n 0, 1) := by decide +kernel
theorem dX12_mill_22 : decode cX12_mill 22 = .ok (.iload_n 1, 1) := by decide +kernel
theorem dX12_mill_23 : decode cX12_mill 23 = .ok (.putfield 268, 3) := by decide +kernel
theorem dX12_mill_26 : decode cX12_mill 26 = .ok (.iconst 1, 1) := by decide +kernel
theorem dX12_mill_27 : decode cX12_mill 27 = .ok (.ireturn, 1) := by decide +kernel
theorem dX12_farOf_0 : decode cX12_farOf 0 = .ok (.iload_n 1, 1) := by decide +kernel
theorem dX12_farOf_1 : decode cX12_farOf 1 = .ok (.invokestatic 242, 3) := by decide +kernel
theorem dX12_farOf_4 : decode cX12_farOf 4 = .ok (.aload_n 0, 1) := by decide +kernel
theorem dX12_farOf_5 : decode cX12_farOf 5 = .ok (.getfield 268, 3) := by decide +kernel
theorem dX12_farOf_8 : decode cX12_farOf 8 = .ok (.invokestatic 242, 3) := by decide +kernel
theorem dX12_farOf_11 : decode cX12_farOf 11 = .ok (.invokestatic 246, 3) := by decide +kernel
theorem dX12_farOf_14 : decode cX12_farOf 14 = .ok (.iload_n 1, 1) := by decide +kernel
theorem dX12_farOf_15 : decode cX12_farOf 15 = .ok (.invokestatic 250, 3) := by decide +kernel
theorem dX12_farOf_18 : decode cX12_farOf 18 = .ok (.aload_n 0, 1) := by decide +kernel
theorem dX12_farOf_19 : decode cX12_farOf 19 = .ok (.getfield 268, 3) := by decide +kernel
theorem dX12_farOf_22 : decode cX12_farOf 22 = .ok (.invokestatic 250, 3) := by decide +kernel
theorem dX12_farOf_25 : decode cX12_farOf 25 = .ok (.invokestatic 246, 3) := by decide +kernel
theorem dX12_farOf_28 : decode cX12_farOf 28 = .ok (.iadd, 1) := by decide +kernel
theorem dX12_farOf_29 : decode cX12_farOf 29 = .ok (.ireturn, 1) := by decide +kernel
theorem dX12_stemsOf_0 : decode cX12_stemsOf 0 = .ok (.iconst 0, 1) := by decide +kernel
theorem dX12_stemsOf_1 : decode cX12_stemsOf 1 = .ok (.istore_n 2, 1) := by decide +kernel
theorem dX12_stemsOf_2 : decode cX12_stemsOf 2 = .ok (.bipush 16, 2) := by decide +kernel
theorem dX12_stemsOf_4 : decode cX12_stemsOf 4 = .ok (.iload_n 1, 1) := by decide +kernel
theorem dX12_stemsOf_5 : decode cX12_stemsOf 5 = .ok (.imul, 1) := by decide +kernel
theorem dX12_stemsOf_6 : decode cX12_stemsOf 6 = .ok (.istore_n 3, 1) := by decide +kernel
theorem dX12_stemsOf_7 : decode cX12_stemsOf 7 = .ok (.iload_n 3, 1) := by decide +kernel
theorem dX12_stemsOf_8 : decode cX12_stemsOf 8 = .ok (.bipush 16, 2) := by decide +kernel
theorem dX12_stemsOf_10 : decode cX12_stemsOf 10 = .ok (.iload_n 1, 1) := by decide +kernel
theorem dX12_stemsOf_11 : decode cX12_stemsOf 11 = .ok (.imul, 1) := by decide +kernel
theorem dX12_stemsOf_12 : decode cX12_stemsOf 12 = .ok (.bipush 16, 2) := by decide +kernel
theorem dX12_stemsOf_14 : decode cX12_stemsOf 14 = .ok (.iadd, 1) := by decide +kernel
theorem dX12_stemsOf_15 : decode cX12_stemsOf 15 = .ok (.if_icmp .ge 18, 3) := by decide +kernel
theorem dX12_stemsOf_18 : decode cX12_stemsOf 18 = .ok (.iload_n 2, 1) := by decide +kernel
theorem dX12_stemsOf_19 : decode cX12_stemsOf 19 = .ok (.aload_n 0, 1) := by decide +kernel
theorem dX12_stemsOf_20 : decode cX12_stemsOf 20 = .ok (.getfield 16, 3) := by decide +kernel
theorem dX12_stemsOf_23 : decode cX12_stemsOf 23 = .ok (.iload_n 3, 1) := by decide +kernel
theorem dX12_stemsOf_24 : decode cX12_stemsOf 24 = .ok (.iaload, 1) := by decide +kernel
theorem dX12_stemsOf_25 : decode cX12_stemsOf 25 = .ok (.iadd, 1) := by decide +kernel
theorem dX12_stemsOf_26 : decode cX12_stemsOf 26 = .ok (.istore_n 2, 1) := by decide +kernel
theorem dX12_stemsOf_27 : decode cX12_stemsOf 27 = .ok (.iinc 3 1, 3) := by decide +kernel
theorem dX12_stemsOf_30 : decode cX12_stemsOf 30 = .ok (.goto (-23), 3) := by decide +kernel
theorem dX12_stemsOf_33 : decode cX12_stemsOf 33 = .ok (.iload_n 2, 1) := by decide +kernel
theorem dX12_stemsOf_34 : decode cX12_stemsOf 34 = .ok (.ireturn, 1) := by decide +kernel
theorem dX12_weather_0 : decode cX12_weather 0 = .ok (.aload_n 0, 1) := by decide +kernel
theorem dX12_weather_1 : decode cX12_weather 1 = .ok (.iconst 0, 1) := by decide +kernel
theorem dX12_weather_2 : decode cX12_weather 2 = .ok (.putfield 235, 3) := by decide +kernel
theorem dX12_weather_5 : decode cX12_weather 5 = .ok (.iload_n 1, 1) := by decide +kernel
theorem dX12_weather_6 : decode cX12_weather 6 = .ok (.aload_n 0, 1) := by decide +kernel
theorem dX12_weather_7 : decode cX12_weather 7 = .ok (.getfield 271, 3) := by decide +kernel
theorem dX12_weather_10 : decode cX12_weather 10 = .ok (.sipush 3999, 3) := by decide +kernel
theorem dX12_weather_13 : decode cX12_weather 13 = .ok (.invokestatic 238, 3) := by decide +kernel
theorem dX12_weather_16 : decode cX12_weather 16 = .ok (.ifCond .eq 44, 3) := by decide +kernel
theorem dX12_weather_19 : decode cX12_weather 19 = .ok (.iload_n 2, 1) := by decide +kernel
theorem dX12_weather_20 : decode cX12_weather 20 = .ok (.iconst 0, 1) := by decide +kernel
theorem dX12_weather_21 : decode cX12_weather 21 = .ok (.bipush 9, 2) := by decide +kernel
theorem dX12_weather_23 : decode cX12_weather 23 = .ok (.invokestatic 238, 3) := by decide +kernel
theorem dX12_weather_26 : decode cX12_weather 26 = .ok (.ifCond .eq 34, 3) := by decide +kernel
theorem dX12_weather_29 : decode cX12_weather 29 = .ok (.iload_n 3, 1) := by decide +kernel
theorem dX12_weather_30 : decode cX12_weather 30 = .ok (.iconst 0, 1) := by decide +kernel
theorem dX12_weather_31 : decode cX12_weather 31 = .ok (.bipush 9, 2) := by decide +kernel
theorem dX12_weather_33 : decode cX12_weather 33 = .ok (.invokestatic 238, 3) := by decide +kernel
theorem dX12_weather_36 : decode cX12_weather 36 = .ok (.ifCond .eq 24, 3) := by decide +kernel
theorem dX12_weather_39 : decode cX12_weather 39 = .ok (.iload 4, 2) := by decide +kernel
theorem dX12_weather_41 : decode cX12_weather 41 = .ok (.iconst 0, 1) := by decide +kernel
theorem dX12_weather_42 : decode cX12_weather 42 = .ok (.bipush 9, 2) := by decide +kernel
theorem dX12_weather_44 : decode cX12_weather 44 = .ok (.invokestatic 238, 3) := by decide +kernel
theorem dX12_weather_47 : decode cX12_weather 47 = .ok (.ifCond .eq 13, 3) := by decide +kernel
theorem dX12_weather_50 : decode cX12_weather 50 = .ok (.aload_n 0, 1) := by decide +kernel
theorem dX12_weather_51 : decode cX12_weather 51 = .ok (.getfield 274, 3) := by decide +kernel
theorem dX12_weather_54 : decode cX12_weather 54 = .ok (.sipush 200, 3) := by decide +kernel
theorem dX12_weather_57 : decode cX12_weather 57 = .ok (.if_icmp .ne 5, 3) := by decide +kernel
theorem dX12_weather_60 : decode cX12_weather 60 = .ok (.iconst 0, 1) := by decide +kernel
theorem dX12_weather_61 : decode cX12_weather 61 = .ok (.ireturn, 1) := by decide +kernel
theorem dX12_weather_62 : decode cX12_weather 62 = .ok (.aload_n 0, 1) := by decide +kernel
theorem dX12_weather_63 : decode cX12_weather 63 = .ok (.getfield 25, 3) := by decide +kernel
theorem dX12_weather_66 : decode cX12_weather 66 = .ok (.aload_n 0, 1) := by decide +kernel
theorem dX12_weather_67 : decode cX12_weather 67 = .ok (.getfield 274, 3) := by decide +kernel
theorem dX12_weather_70 : decode cX12_weather 70 = .ok (.iload_n 1, 1) := by decide +kernel
theorem dX12_weather_71 : decode cX12_weather 71 = .ok (.iastore, 1) := by decide +kernel
theorem dX12_weather_72 : decode cX12_weather 72 = .ok (.aload_n 0, 1) := by decide +kernel
theorem dX12_weather_73 : decode cX12_weather 73 = .ok (.getfield 28, 3) := by decide +kernel
theorem dX12_weather_76 : decode cX12_weather 76 = .ok (.aload_n 0, 1) := by decide +kernel
theorem dX12_weather_77 : decode cX12_weather 77 = .ok (.getfield 274, 3) := by decide +kernel
theorem dX12_weather_80 : decode cX12_weather 80 = .ok (.iload_n 2, 1) := by decide +kernel
theorem dX12_weather_81 : decode cX12_weather 81 = .ok (.iastore, 1) := by decide +kernel
theorem dX12_weather_82 : decode cX12_weather 82 = .ok (.aload_n 0, 1) := by decide +kernel
theorem dX12_weather_83 : decode cX12_weather 83 = .ok (.getfield 31, 3) := by decide +kernel
theorem dX12_weather_86 : decode cX12_weather 86 = .ok (.aload_n 0, 1) := by decide +kernel
theorem dX12_weather_87 : decode cX12_weather 87 = .ok (.getfield 274, 3) := by decide +kernel
theorem dX12_weather_90 : decode cX12_weather 90 = .ok (.iload_n 3, 1) := by decide +kernel
theorem dX12_weather_91 : decode cX12_weather 91 = .ok (.iastore, 1) := by decide +kernel
theorem dX12_weather_92 : decode cX12_weather 92 = .ok (.aload_n 0, 1) := by decide +kernel
theorem dX12_weather_93 : decode cX12_weather 93 = .ok (.getfield 34, 3) := by decide +kernel
theorem dX12_weather_96 : decode cX12_weather 96 = .ok (.aload_n 0, 1) := by decide +kernel
theorem dX12_weather_97 : decode cX12_weather 97 = .ok (.getfield 274, 3) := by decide +kernel
theorem dX12_weather_100 : decode cX12_weather 100 = .ok (.iload 4, 2) := by decide +kernel
theorem dX12_weather_102 : decode cX12_weather 102 = .ok (.iastore, 1) := by decide +kernel
theorem dX12_weather_103 : decode cX12_weather 103 = .ok (.aload_n 0, 1) := by decide +kernel
theorem dX12_weather_104 : decode cX12_weather 104 = .ok (.dup, 1) := by decide +kernel
theorem dX12_weather_105 : decode cX12_weather 105 = .ok (.getfield 274, 3) := by decide +kernel
theorem dX12_weather_108 : decode cX12_weather 108 = .ok (.iconst 1, 1) := by decide +kernel
theorem dX12_weather_109 : decode cX12_weather 109 = .ok (.iadd, 1) := by decide +kernel
theorem dX12_weather_110 : decode cX12_weather 110 = .ok (.putfield 274, 3) := by decide +kernel
theorem dX12_weather_113 : decode cX12_weather 113 = .ok (.iconst 1, 1) := by decide +kernel
theorem dX12_weather_114 : decode cX12_weather 114 = .ok (.ireturn, 1) := by decide +kernel
theorem dX12_sky_0 : decode cX12_sky 0 = .ok (.iconst (-1), 1) := by decide +kernel
theorem dX12_sky_1 : decode cX12_sky 1 = .ok (.istore_n 3, 1) := by decide +kernel
theorem dX12_sky_2 : decode cX12_sky 2 = .ok (.iconst 0, 1) := by decide +kernel
theorem dX12_sky_3 : decode cX12_sky 3 = .ok (.istore 4, 2) := by decide +kernel
theorem dX12_sky_5 : decode cX12_sky 5 = .ok (.iload 4, 2) := by decide +kernel
theorem dX12_sky_7 : decode cX12_sky 7 = .ok (.aload_n 0, 1) := by decide +kernel
theorem dX12_sky_8 : decode cX12_sky 8 = .ok (.getfield 274, 3) := by decide +kernel
theorem dX12_sky_11 : decode cX12_sky 11 = .ok (.if_icmp .ge 44, 3) := by decide +kernel
theorem dX12_sky_14 : decode cX12_sky 14 = .ok (.aload_n 0, 1) := by decide +kernel
theorem dX12_sky_15 : decode cX12_sky 15 = .ok (.getfield 25, 3) := by decide +kernel
theorem dX12_sky_18 : decode cX12_sky 18 = .ok (.iload 4, 2) := by decide +kernel
theorem dX12_sky_20 : decode cX12_sky 20 = .ok (.iaload, 1) := by decide +kernel
theorem dX12_sky_21 : decode cX12_sky 21 = .ok (.iload_n 1, 1) := by decide +kernel
theorem dX12_sky_22 : decode cX12_sky 22 = .ok (.if_icmp .gt 27, 3) := by decide +kernel
theorem dX12_sky_25 : decode cX12_sky 25 = .ok (.iload_n 3, 1) := by decide +kernel
theorem dX12_sky_26 : decode cX12_sky 26 = .ok (.iconst (-1), 1) := by decide +kernel
theorem dX12_sky_27 : decode cX12_sky 27 = .ok (.if_icmp .eq 19, 3) := by decide +kernel
theorem dX12_sky_30 : decode cX12_sky 30 = .ok (.aload_n 0, 1) := by decide +kernel
theorem dX12_sky_31 : decode cX12_sky 31 = .ok (.getfield 25, 3) := by decide +kernel
theorem dX12_sky_34 : decode cX12_sky 34 = .ok (.iload 4, 2) := by decide +kernel
theorem dX12_sky_36 : decode cX12_sky 36 = .ok (.iaload, 1) := by decide +kernel
theorem dX12_sky_37 : decode cX12_sky 37 = .ok (.aload_n 0, 1) := by decide +kernel
theorem dX12_sky_38 : decode cX12_sky 38 = .ok (.getfield 25, 3) := by decide +kernel
theorem dX12_sky_41 : decode cX12_sky 41 = .ok (.iload_n 3, 1) := by decide +kernel
theorem dX12_sky_42 : decode cX12_sky 42 = .ok (.iaload, 1) := by decide +kernel
theorem dX12_sky_43 : decode cX12_sky 43 = .ok (.if_icmp .lt 6, 3) := by decide +kernel
theorem dX12_sky_46 : decode cX12_sky 46 = .ok (.iload 4, 2) := by decide +kernel
theorem dX12_sky_48 : decode cX12_sky 48 = .ok (.istore_n 3, 1) := by decide +kernel
theorem dX12_sky_49 : decode cX12_sky 49 = .ok (.iinc 4 1, 3) := by decide +kernel
theorem dX12_sky_52 : decode cX12_sky 52 = .ok (.goto (-47), 3) := by decide +kernel
theorem dX12_sky_55 : decode cX12_sky 55 = .ok (.iload_n 3, 1) := by decide +kernel
theorem dX12_sky_56 : decode cX12_sky 56 = .ok (.iconst (-1), 1) := by decide +kernel
theorem dX12_sky_57 : decode cX12_sky 57 = .ok (.if_icmp .ne 22, 3) := by decide +kernel
theorem dX12_sky_60 : decode cX12_sky 60 = .ok (.iload_n 2, 1) := by decide +kernel
theorem dX12_sky_61 : decode cX12_sky 61 = .ok (.ifCond .ne 7, 3) := by decide +kernel
theorem dX12_sky_64 : decode cX12_sky 64 = .ok (.iconst 0, 1) := by decide +kernel
theorem dX12_sky_65 : decode cX12_sky 65 = .ok (.goto 13, 3) := by decide +kernel
theorem dX12_sky_68 : decode cX12_sky 68 = .ok (.iload_n 2, 1) := by decide +kernel
theorem dX12_sky_69 : decode cX12_sky 69 = .ok (.iconst 1, 1) := by decide +kernel
theorem dX12_sky_70 : decode cX12_sky 70 = .ok (.if_icmp .ne 7, 3) := by decide +kernel
theorem dX12_sky_73 : decode cX12_sky 73 = .ok (.iconst 5, 1) := by decide +kernel
theorem dX12_sky_74 : decode cX12_sky 74 = .ok (.goto 4, 3) := by decide +kernel
theorem dX12_sky_77 : decode cX12_sky 77 = .ok (.iconst 3, 1) := by decide +kernel
theorem dX12_sky_78 : decode cX12_sky 78 = .ok (.ireturn, 1) := by decide +kernel
theorem dX12_sky_79 : decode cX12_sky 79 = .ok (.iload_n 2, 1) := by decide +kernel
theorem dX12_sky_80 : decode cX12_sky 80 = .ok (.ifCond .ne 12, 3) := by decide +kernel
theorem dX12_sky_83 : decode cX12_sky 83 = .ok (.aload_n 0, 1) := by decide +kernel
theorem dX12_sky_84 : decode cX12_sky 84 = .ok (.getfield 28, 3) := by decide +kernel
theorem dX12_sky_87 : decode cX12_sky 87 = .ok (.iload_n 3, 1) := by decide +kernel
theorem dX12_sky_88 : decode cX12_sky 88 = .ok (.iaload, 1) := by decide +kernel
theorem dX12_sky_89 : decode cX12_sky 89 = .ok (.goto 23, 3) := by decide +kernel
theorem dX12_sky_92 : decode cX12_sky 92 = .ok (.iload_n 2, 1) := by decide +kernel
theorem dX12_sky_93 : decode cX12_sky 93 = .ok (.iconst 1, 1) := by decide +kernel
theorem dX12_sky_94 : decode cX12_sky 94 = .ok (.if_icmp .ne 12, 3) := by decide +kernel
theorem dX12_sky_97 : decode cX12_sky 97 = .ok (.aload_n 0, 1) := by decide +kernel
theorem dX12_sky_98 : decode cX12_sky 98 = .ok (.getfield 31, 3) := by decide +kernel
theorem dX12_sky_101 : decode cX12_sky 101 = .ok (.iload_n 3, 1) := by decide +kernel
theorem dX12_sky_102 : decode cX12_sky 102 = .ok (.iaload, 1) := by decide +kernel
theorem dX12_sky_103 : decode cX12_sky 103 = .ok (.goto 9, 3) := by decide +kernel
theorem dX12_sky_106 : decode cX12_sky 106 = .ok (.aload_n 0, 1) := by decide +kernel
theorem dX12_sky_107 : decode cX12_sky 107 = .ok (.getfield 34, 3) := by decide +kernel
theorem dX12_sky_110 : decode cX12_sky 110 = .ok (.iload_n 3, 1) := by decide +kernel
theorem dX12_sky_111 : decode cX12_sky 111 = .ok (.iaload, 1) := by decide +kernel
theorem dX12_sky_112 : decode cX12_sky 112 = .ok (.ireturn, 1) := by decide +kernel
theorem dX12_weatherOf_0 : decode cX12_weatherOf 0 = .ok (.aload_n 0, 1) := by decide +kernel
theorem dX12_weatherOf_1 : decode cX12_weatherOf 1 = .ok (.iconst 0, 1) := by decide +kernel
theorem dX12_weatherOf_2 : decode cX12_weatherOf 2 = .ok (.putfield 235, 3) := by decide +kernel
theorem dX12_weatherOf_5 : decode cX12_weatherOf 5 = .ok (.iload_n 1, 1) := by decide +kernel
theorem dX12_weatherOf_6 : decode cX12_weatherOf 6 = .ok (.iconst 0, 1) := by decide +kernel
theorem dX12_weatherOf_7 : decode cX12_weatherOf 7 = .ok (.sipush 3999, 3) := by decide +kernel
theorem dX12_weatherOf_10 : decode cX12_weatherOf 10 = .ok (.invokestatic 238, 3) := by decide +kernel
theorem dX12_weatherOf_13 : decode cX12_weatherOf 13 = .ok (.ifCond .eq 21, 3) := by decide +kernel
theorem dX12_weatherOf_16 : decode cX12_weatherOf 16 = .ok (.iload_n 2, 1) := by decide +kernel
theorem dX12_weatherOf_17 : decode cX12_weatherOf 17 = .ok (.iconst 0, 1) := by decide +kernel
theorem dX12_weatherOf_18 : decode cX12_weatherOf 18 = .ok (.iconst 2, 1) := by decide +kernel
theorem dX12_weatherOf_19 : decode cX12_weatherOf 19 = .ok (.invokestatic 238, 3) := by decide +kernel
theorem dX12_weatherOf_22 : decode cX12_weatherOf 22 = .ok (.ifCond .eq 12, 3) := by decide +kernel
theorem dX12_weatherOf_25 : decode cX12_weatherOf 25 = .ok (.aload_n 0, 1) := by decide +kernel
theorem dX12_weatherOf_26 : decode cX12_weatherOf 26 = .ok (.iload_n 1, 1) := by decide +kernel
theorem dX12_weatherOf_27 : decode cX12_weatherOf 27 = .ok (.iload_n 2, 1) := by decide +kernel
theorem dX12_weatherOf_28 : decode cX12_weatherOf 28 = .ok (.invokevirtual 277, 3) := by decide +kernel
theorem dX12_weatherOf_31 : decode cX12_weatherOf 31 = .ok (.goto 4, 3) := by decide +kernel
theorem dX12_weatherOf_34 : decode cX12_weatherOf 34 = .ok (.iconst (-1), 1) := by decide +kernel
theorem dX12_weatherOf_35 : decode cX12_weatherOf 35 = .ok (.ireturn, 1) := by decide +kernel
theorem dX12_season_0 : decode cX12_season 0 = .ok (.aload_n 0, 1) := by decide +kernel
theorem dX12_season_1 : decode cX12_season 1 = .ok (.getfield 271, 3) := by decide +kernel
theorem dX12_season_4 : decode cX12_season 4 = .ok (.bipush 100, 2) := by decide +kernel
theorem dX12_season_6 : decode cX12_season 6 = .ok (.irem, 1) := by decide +kernel
theorem dX12_season_7 : decode cX12_season 7 = .ok (.bipush 25, 2) := by decide +kernel
theorem dX12_season_9 : decode cX12_season 9 = .ok (.idiv, 1) := by decide +kernel
theorem dX12_season_10 : decode cX12_season 10 = .ok (.ireturn, 1) := by decide +kernel
theorem dX12_unitsOf_0 : decode cX12_unitsOf 0 = .ok (.iconst 4, 1) := by decide +kernel
theorem dX12_unitsOf_1 : decode cX12_unitsOf 1 = .ok (.iconst 2, 1) := by decide +kernel
theorem dX12_unitsOf_2 : decode cX12_unitsOf 2 = .ok (.iload_n 0, 1) := by decide +kernel
theorem dX12_unitsOf_3 : decode cX12_unitsOf 3 = .ok (.imul, 1) := by decide +kernel
theorem dX12_unitsOf_4 : decode cX12_unitsOf 4 = .ok (.iadd, 1) := by decide +kernel
theorem dX12_unitsOf_5 : decode cX12_unitsOf 5 = .ok (.ireturn, 1) := by decide +kernel
theorem dX12_wideAt_0 : decode cX12_wideAt 0 = .ok (.bipush 10, 2) := by decide +kernel
theorem dX12_wideAt_2 : decode cX12_wideAt 2 = .ok (.bipush 7, 2) := by decide +kernel
theorem dX12_wideAt_4 : decode cX12_wideAt 4 = .ok (.iload_n 2, 1) := by decide +kernel
theorem dX12_wideAt_5 : decode cX12_wideAt 5 = .ok (.imul, 1) := by decide +kernel
theorem dX12_wideAt_6 : decode cX12_wideAt 6 = .ok (.iadd, 1) := by decide +kernel
theorem dX12_wideAt_7 : decode cX12_wideAt 7 = .ok (.iload_n 1, 1) := by decide +kernel
theorem dX12_wideAt_8 : decode cX12_wideAt 8 = .ok (.iadd, 1) := by decide +kernel
theorem dX12_wideAt_9 : decode cX12_wideAt 9 = .ok (.aload_n 0, 1) := by decide +kernel
theorem dX12_wideAt_10 : decode cX12_wideAt 10 = .ok (.getfield 22, 3) := by decide +kernel
theorem dX12_wideAt_13 : decode cX12_wideAt 13 = .ok (.iload_n 1, 1) := by decide +kernel
theorem dX12_wideAt_14 : decode cX12_wideAt 14 = .ok (.iaload, 1) := by decide +kernel
theorem dX12_wideAt_15 : decode cX12_wideAt 15 = .ok (.iload_n 3, 1) := by decide +kernel
theorem dX12_wideAt_16 : decode cX12_wideAt 16 = .ok (.imul, 1) := by decide +kernel
theorem dX12_wideAt_17 : decode cX12_wideAt 17 = .ok (.isub, 1) := by decide +kernel
theorem dX12_wideAt_18 : decode cX12_wideAt 18 = .ok (.istore 4, 2) := by decide +kernel
theorem dX12_wideAt_20 : decode cX12_wideAt 20 = .ok (.iload 4, 2) := by decide +kernel
theorem dX12_wideAt_22 : decode cX12_wideAt 22 = .ok (.iconst 1, 1) := by decide +kernel
theorem dX12_wideAt_23 : decode cX12_wideAt 23 = .ok (.if_icmp .ge 7, 3) := by decide +kernel
theorem dX12_wideAt_26 : decode cX12_wideAt 26 = .ok (.iconst 1, 1) := by decide +kernel
theorem dX12_wideAt_27 : decode cX12_wideAt 27 = .ok (.goto 5, 3) := by decide +kernel
theorem dX12_wideAt_30 : decode cX12_wideAt 30 = .ok (.iload 4, 2) := by decide +kernel
theorem dX12_wideAt_32 : decode cX12_wideAt 32 = .ok (.ireturn, 1) := by decide +kernel
theorem dX12_price_0 : decode cX12_price 0 = .ok (.aload_n 0, 1) := by decide +kernel
theorem dX12_price_1 : decode cX12_price 1 = .ok (.iconst 0, 1) := by decide +kernel
theorem dX12_price_2 : decode cX12_price 2 = .ok (.putfield 235, 3) := by decide +kernel
theorem dX12_price_5 : decode cX12_price 5 = .ok (.iload_n 1, 1) := by decide +kernel
theorem dX12_price_6 : decode cX12_price 6 = .ok (.iconst 2, 1) := by decide +kernel
theorem dX12_price_7 : decode cX12_price 7 = .ok (.bipush 6, 2) := by decide +kernel
theorem dX12_price_9 : decode cX12_price 9 = .ok (.invokestatic 238, 3) := by decide +kernel
theorem dX12_price_12 : decode cX12_price 12 = .ok (.ifCond .eq 13, 3) := by decide +kernel
theorem dX12_price_15 : decode cX12_price 15 = .ok (.iload_n 2, 1) := by decide +kernel
theorem dX12_price_16 : decode cX12_price 16 = .ok (.iconst 0, 1) := by decide +kernel
theorem dX12_price_17 : decode cX12_price 17 = .ok (.bipush 99, 2) := by decide +kernel
theorem dX12_price_19 : decode cX12_price 19 = .ok (.invokestatic 238, 3) := by decide +kernel
theorem dX12_price_22 : decode cX12_price 22 = .ok (.ifCond .ne 5, 3) := by decide +kernel
theorem dX12_price_25 : decode cX12_price 25 = .ok (.iconst 0, 1) := by decide +kernel
theorem dX12_price_26 : decode cX12_price 26 = .ok (.ireturn, 1) := by decide +kernel
theorem dX12_price_27 : decode cX12_price 27 = .ok (.aload_n 0, 1) := by decide +kernel
theorem dX12_price_28 : decode cX12_price 28 = .ok (.getfield 37, 3) := by decide +kernel
theorem dX12_price_31 : decode cX12_price 31 = .ok (.iload_n 1, 1) := by decide +kernel
theorem dX12_price_32 : decode cX12_price 32 = .ok (.iload_n 2, 1) := by decide +kernel
theorem dX12_price_33 : decode cX12_price 33 = .ok (.iastore, 1) := by decide +kernel
theorem dX12_price_34 : decode cX12_price 34 = .ok (.iconst 1, 1) := by decide +kernel
theorem dX12_price_35 : decode cX12_price 35 = .ok (.ireturn, 1) := by decide +kernel
theorem dX12_bucks_0 : decode cX12_bucks 0 = .ok (.iload_n 2, 1) := by decide +kernel
theorem dX12_bucks_1 : decode cX12_bucks 1 = .ok (.invokestatic 280, 3) := by decide +kernel
theorem dX12_bucks_4 : decode cX12_bucks 4 = .ok (.istore_n 3, 1) := by decide +kernel
theorem dX12_bucks_5 : decode cX12_bucks 5 = .ok (.iload_n 3, 1) := by decide +kernel
theorem dX12_bucks_6 : decode cX12_bucks 6 = .ok (.istore 4, 2) := by decide +kernel
theorem dX12_bucks_8 : decode cX12_bucks 8 = .ok (.iload 4, 2) := by decide +kernel
theorem dX12_bucks_10 : decode cX12_bucks 10 = .ok (.ifCond .lt 134, 3) := by decide +kernel
theorem dX12_bucks_13 : decode cX12_bucks 13 = .ok (.aload_n 0, 1) := by decide +kernel
theorem dX12_bucks_14 : decode cX12_bucks 14 = .ok (.getfield 43, 3) := by decide +kernel
theorem dX12_bucks_17 : decode cX12_bucks 17 = .ok (.iload 4, 2) := by decide +kernel
theorem dX12_bucks_19 : decode cX12_bucks 19 = .ok (.iload_n 3, 1) := by decide +kernel
theorem dX12_bucks_20 : decode cX12_bucks 20 = .ok (.iload 4, 2) := by decide +kernel
theorem dX12_bucks_22 : decode cX12_bucks 22 = .ok (.isub, 1) := by decide +kernel
theorem dX12_bucks_23 : decode cX12_bucks 23 = .ok (.iconst 2, 1) := by decide +kernel
theorem dX12_bucks_24 : decode cX12_bucks 24 = .ok (.if_icmp .ge 7, 3) := by decide +kernel
theorem dX12_bucks_27 : decode cX12_bucks 27 = .ok (.iconst 0, 1) := by decide +kernel
theorem dX12_bucks_28 : decode cX12_bucks 28 = .ok (.goto 4, 3) := by decide +kernel
theorem dX12_bucks_31 : decode cX12_bucks 31 = .ok (.iconst (-1), 1) := by decide +kernel
theorem dX12_bucks_32 : decode cX12_bucks 32 = .ok (.iastore, 1) := by decide +kernel
theorem dX12_bucks_33 : decode cX12_bucks 33 = .ok (.iconst 2, 1) := by decide +kernel
theorem dX12_bucks_34 : decode cX12_bucks 34 = .ok (.istore 5, 2) := by decide +kernel
theorem dX12_bucks_36 : decode cX12_bucks 36 = .ok (.iload 5, 2) := by decide +kernel
theorem dX12_bucks_38 : decode cX12_bucks 38 = .ok (.bipush 6, 2) := by decide +kernel
theorem dX12_bucks_40 : decode cX12_bucks 40 = .ok (.if_icmp .gt 98, 3) := by decide +kernel
theorem dX12_bucks_43 : decode cX12_bucks 43 = .ok (.iload 4, 2) := by decide +kernel
theorem dX12_bucks_45 : decode cX12_bucks 45 = .ok (.iload 5, 2) := by decide +kernel
theorem dX12_bucks_47 : decode cX12_bucks 47 = .ok (.iadd, 1) := by decide +kernel
theorem dX12_bucks_48 : decode cX12_bucks 48 = .ok (.iload_n 3, 1) := by decide +kernel
theorem dX12_bucks_49 : decode cX12_bucks 49 = .ok (.if_icmp .gt 89, 3) := by decide +kernel
theorem dX12_bucks_52 : decode cX12_bucks 52 = .ok (.aload_n 0, 1) := by decide +kernel
theorem dX12_bucks_53 : decode cX12_bucks 53 = .ok (.getfield 43, 3) := by decide +kernel
theorem dX12_bucks_56 : decode cX12_bucks 56 = .ok (.iload 4, 2) := by decide +kernel
theorem dX12_bucks_58 : decode cX12_bucks 58 = .ok (.iload 5, 2) := by decide +kernel
theorem dX12_bucks_60 : decode cX12_bucks 60 = .ok (.iadd, 1) := by decide +kernel
theorem dX12_bucks_61 : decode cX12_bucks 61 = .ok (.iaload, 1) := by decide +kernel
theorem dX12_bucks_62 : decode cX12_bucks 62 = .ok (.iconst (-1), 1) := by decide +kernel
theorem dX12_bucks_63 : decode cX12_bucks 63 = .ok (.if_icmp .ne 6, 3) := by decide +kernel
theorem dX12_bucks_66 : decode cX12_bucks 66 = .ok (.goto 66, 3) := by decide +kernel
theorem dX12_bucks_69 : decode cX12_bucks 69 = .ok (.aload_n 0, 1) := by decide +kernel
theorem dX12_bucks_70 : decode cX12_bucks 70 = .ok (.getfield 37, 3) := by decide +kernel
theorem dX12_bucks_73 : decode cX12_bucks 73 = .ok (.iload 5, 2) := by decide +kernel
theorem dX12_bucks_75 : decode cX12_bucks 75 = .ok (.iaload, 1) := by decide +kernel
theorem dX12_bucks_76 : decode cX12_bucks 76 = .ok (.aload_n 0, 1) := by decide +kernel
theorem dX12_bucks_77 : decode cX12_bucks 77 = .ok (.iload_n 1, 1) := by decide +kernel
theorem dX12_bucks_78 : decode cX12_bucks 78 = .ok (.iload_n 2, 1) := by decide +kernel
theorem dX12_bucks_79 : decode cX12_bucks 79 = .ok (.iload 4, 2) := by decide +kernel
theorem dX12_bucks_81 : decode cX12_bucks 81 = .ok (.iload 5, 2) := by decide +kernel
theorem dX12_bucks_83 : decode cX12_bucks 83 = .ok (.iadd, 1) := by decide +kernel
theorem dX12_bucks_84 : decode cX12_bucks 84 = .ok (.invokevirtual 283, 3) := by decide +kernel
theorem dX12_bucks_87 : decode cX12_bucks 87 = .ok (.imul, 1) := by decide +kernel
theorem dX12_bucks_88 : decode cX12_bucks 88 = .ok (.aload_n 0, 1) := by decide +kernel
theorem dX12_bucks_89 : decode cX12_bucks 89 = .ok (.getfield 43, 3) := by decide +kernel
theorem dX12_bucks_92 : decode cX12_bucks 92 = .ok (.iload 4, 2) := by decide +kernel
theorem dX12_bucks_94 : decode cX12_bucks 94 = .ok (.iload 5, 2) := by decide +kernel
theorem dX12_bucks_96 : decode cX12_bucks 96 = .ok (.iadd, 1) := by decide +kernel
theorem dX12_bucks_97 : decode cX12_bucks 97 = .ok (.iaload, 1) := by decide +kernel
theorem dX12_bucks_98 : decode cX12_bucks 98 = .ok (.iadd, 1) := by decide +kernel
theorem dX12_bucks_99 : decode cX12_bucks 99 = .ok (.istore 6, 2) := by decide +kernel
theorem dX12_bucks_101 : decode cX12_bucks 101 = .ok (.aload_n 0, 1) := by decide +kernel
theorem dX12_bucks_102 : decode cX12_bucks 102 = .ok (.getfield 43, 3) := by decide +kernel
theorem dX12_bucks_105 : decode cX12_bucks 105 = .ok (.iload 4, 2) := by decide +kernel
theorem dX12_bucks_107 : decode cX12_bucks 107 = .ok (.iload 6, 2) := by decide +kernel
theorem dX12_bucks_109 : decode cX12_bucks 109 = .ok (.aload_n 0, 1) := by decide +kernel
theorem dX12_bucks_110 : decode cX12_bucks 110 = .ok (.getfield 43, 3) := by decide +kernel
theorem dX12_bucks_113 : decode cX12_bucks 113 = .ok (.iload 4, 2) := by decide +kernel
theorem dX12_bucks_115 : decode cX12_bucks 115 = .ok (.iaload, 1) := by decide +kernel
theorem dX12_bucks_116 : decode cX12_bucks 116 = .ok (.if_icmp .le 8, 3) := by decide +kernel
theorem dX12_bucks_119 : decode cX12_bucks 119 = .ok (.iload 6, 2) := by decide +kernel
theorem dX12_bucks_121 : decode cX12_bucks 121 = .ok (.goto 10, 3) := by decide +kernel
theorem dX12_bucks_124 : decode cX12_bucks 124 = .ok (.aload_n 0, 1) := by decide +kernel
theorem dX12_bucks_125 : decode cX12_bucks 125 = .ok (.getfield 43, 3) := by decide +kernel
theorem dX12_bucks_128 : decode cX12_bucks 128 = .ok (.iload 4, 2) := by decide +kernel
theorem dX12_bucks_130 : decode cX12_bucks 130 = .ok (.iaload, 1) := by decide +kernel
theorem dX12_bucks_131 : decode cX12_bucks 131 = .ok (.iastore, 1) := by decide +kernel
theorem dX12_bucks_132 : decode cX12_bucks 132 = .ok (.iinc 5 1, 3) := by decide +kernel
theorem dX12_bucks_135 : decode cX12_bucks 135 = .ok (.goto (-99), 3) := by decide +kernel
theorem dX12_bucks_138 : decode cX12_bucks 138 = .ok (.iinc 4 (-1), 3) := by decide +kernel
theorem dX12_bucks_141 : decode cX12_bucks 141 = .ok (.goto (-133), 3) := by decide +kernel
theorem dX12_bucks_144 : decode cX12_bucks 144 = .ok (.aload_n 0, 1) := by decide +kernel
theorem dX12_bucks_145 : decode cX12_bucks 145 = .ok (.iconst 0, 1) := by decide +kernel
theorem dX12_bucks_146 : decode cX12_bucks 146 = .ok (.putfield 286, 3) := by decide +kernel
theorem dX12_bucks_149 : decode cX12_bucks 149 = .ok (.iconst 0, 1) := by decide +kernel
theorem dX12_bucks_150 : decode cX12_bucks 150 = .ok (.istore 4, 2) := by decide +kernel
theorem dX12_bucks_152 : decode cX12_bucks 152 = .ok (.iload_n 3, 1) := by decide +kernel
theorem dX12_bucks_153 : decode cX12_bucks 153 = .ok (.iload 4, 2) := by decide +kernel
theorem dX12_bucks_155 : decode cX12_bucks 155 = .ok (.isub, 1) := by decide +kernel
theorem dX12_bucks_156 : decode cX12_bucks 156 = .ok (.iconst 2, 1) := by decide +kernel
theorem dX12_bucks_157 : decode cX12_bucks 157 = .ok (.if_icmp .lt 97, 3) := by decide +kernel
theorem dX12_bucks_160 : decode cX12_bucks 160 = .ok (.iconst 2, 1) := by decide +kernel
theorem dX12_bucks_161 : decode cX12_bucks 161 = .ok (.istore 5, 2) := by decide +kernel
theorem dX12_bucks_163 : decode cX12_bucks 163 = .ok (.aload_n 0, 1) := by decide +kernel
theorem dX12_bucks_164 : decode cX12_bucks 164 = .ok (.getfield 43, 3) := by decide +kernel
theorem dX12_bucks_167 : decode cX12_bucks 167 = .ok (.iload 4, 2) := by decide +kernel
theorem dX12_bucks_169 : decode cX12_bucks 169 = .ok (.iload 5, 2) := by decide +kernel
theorem dX12_bucks_171 : decode cX12_bucks 171 = .ok (.iadd, 1) := by decide +kernel
theorem dX12_bucks_172 : decode cX12_bucks 172 = .ok (.iaload, 1) := by decide +kernel
theorem dX12_bucks_173 : decode cX12_bucks 173 = .ok (.iconst (-1), 1) := by decide +kernel
theorem dX12_bucks_174 : decode cX12_bucks 174 = .ok (.if_icmp .eq 43, 3) := by decide +kernel
theorem dX12_bucks_177 : decode cX12_bucks 177 = .ok (.aload_n 0, 1) := by decide +kernel
theorem dX12_bucks_178 : decode cX12_bucks 178 = .ok (.getfield 37, 3) := by decide +kernel
theorem dX12_bucks_181 : decode cX12_bucks 181 = .ok (.iload 5, 2) := by decide +kernel
theorem dX12_bucks_183 : decode cX12_bucks 183 = .ok (.iaload, 1) := by decide +kernel
theorem dX12_bucks_184 : decode cX12_bucks 184 = .ok (.aload_n 0, 1) := by decide +kernel
theorem dX12_bucks_185 : decode cX12_bucks 185 = .ok (.iload_n 1, 1) := by decide +kernel
theorem dX12_bucks_186 : decode cX12_bucks 186 = .ok (.iload_n 2, 1) := by decide +kernel
theorem dX12_bucks_187 : decode cX12_bucks 187 = .ok (.iload 4, 2) := by decide +kernel
theorem dX12_bucks_189 : decode cX12_bucks 189 = .ok (.iload 5, 2) := by decide +kernel
theorem dX12_bucks_191 : decode cX12_bucks 191 = .ok (.iadd, 1) := by decide +kernel
theorem dX12_bucks_192 : decode cX12_bucks 192 = .ok (.invokevirtual 283, 3) := by decide +kernel
theorem dX12_bucks_195 : decode cX12_bucks 195 = .ok (.imul, 1) := by decide +kernel
theorem dX12_bucks_196 : decode cX12_bucks 196 = .ok (.aload_n 0, 1) := by decide +kernel
theorem dX12_bucks_197 : decode cX12_bucks 197 = .ok (.getfield 43, 3) := by decide +kernel
theorem dX12_bucks_200 : decode cX12_bucks 200 = .ok (.iload 4, 2) := by decide +kernel
theorem dX12_bucks_202 : decode cX12_bucks 202 = .ok (.iload 5, 2) := by decide +kernel
theorem dX12_bucks_204 : decode cX12_bucks 204 = .ok (.iadd, 1) := by decide +kernel
theorem dX12_bucks_205 : decode cX12_bucks 205 = .ok (.iaload, 1) := by decide +kernel
theorem dX12_bucks_206 : decode cX12_bucks 206 = .ok (.iadd, 1) := by decide +kernel
theorem dX12_bucks_207 : decode cX12_bucks 207 = .ok (.aload_n 0, 1) := by decide +kernel
theorem dX12_bucks_208 : decode cX12_bucks 208 = .ok (.getfield 43, 3) := by decide +kernel
theorem dX12_bucks_211 : decode cX12_bucks 211 = .ok (.iload 4, 2) := by decide +kernel
theorem dX12_bucks_213 : decode cX12_bucks 213 = .ok (.iaload, 1) := by decide +kernel
theorem dX12_bucks_214 : decode cX12_bucks 214 = .ok (.if_icmp .eq 9, 3) := by decide +kernel
theorem dX12_bucks_217 : decode cX12_bucks 217 = .ok (.iinc 5 1, 3) := by decide +kernel
theorem dX12_bucks_220 : decode cX12_bucks 220 = .ok (.goto (-57), 3) := by decide +kernel
theorem dX12_bucks_223 : decode cX12_bucks 223 = .ok (.aload_n 0, 1) := by decide +kernel
theorem dX12_bucks_224 : decode cX12_bucks 224 = .ok (.getfield 40, 3) := by decide +kernel
theorem dX12_bucks_227 : decode cX12_bucks 227 = .ok (.aload_n 0, 1) := by decide +kernel
theorem dX12_bucks_228 : decode cX12_bucks 228 = .ok (.getfield 286, 3) := by decide +kernel
theorem dX12_bucks_231 : decode cX12_bucks 231 = .ok (.iload 5, 2) := by decide +kernel
theorem dX12_bucks_233 : decode cX12_bucks 233 = .ok (.iastore, 1) := by decide +kernel
theorem dX12_bucks_234 : decode cX12_bucks 234 = .ok (.aload_n 0, 1) := by decide +kernel
theorem dX12_bucks_235 : decode cX12_bucks 235 = .ok (.dup, 1) := by decide +kernel
theorem dX12_bucks_236 : decode cX12_bucks 236 = .ok (.getfield 286, 3) := by decide +kernel
theorem dX12_bucks_239 : decode cX12_bucks 239 = .ok (.iconst 1, 1) := by decide +kernel
theorem dX12_bucks_240 : decode cX12_bucks 240 = .ok (.iadd, 1) := by decide +kernel
theorem dX12_bucks_241 : decode cX12_bucks 241 = .ok (.putfield 286, 3) := by decide +kernel
theorem dX12_bucks_244 : decode cX12_bucks 244 = .ok (.iload 4, 2) := by decide +kernel
theorem dX12_bucks_246 : decode cX12_bucks 246 = .ok (.iload 5, 2) := by decide +kernel
theorem dX12_bucks_248 : decode cX12_bucks 248 = .ok (.iadd, 1) := by decide +kernel
theorem dX12_bucks_249 : decode cX12_bucks 249 = .ok (.istore 4, 2) := by decide +kernel
theorem dX12_bucks_251 : decode cX12_bucks 251 = .ok (.goto (-99), 3) := by decide +kernel
theorem dX12_bucks_254 : decode cX12_bucks 254 = .ok (.aload_n 0, 1) := by decide +kernel
theorem dX12_bucks_255 : decode cX12_bucks 255 = .ok (.getfield 43, 3) := by decide +kernel
theorem dX12_bucks_258 : decode cX12_bucks 258 = .ok (.iconst 0, 1) := by decide +kernel
theorem dX12_bucks_259 : decode cX12_bucks 259 = .ok (.iaload, 1) := by decide +kernel
theorem dX12_bucks_260 : decode cX12_bucks 260 = .ok (.ireturn, 1) := by decide +kernel
theorem dX12_buck_0 : decode cX12_buck 0 = .ok (.aload_n 0, 1) := by decide +kernel
theorem dX12_buck_1 : decode cX12_buck 1 = .ok (.iconst 0, 1) := by decide +kernel
theorem dX12_buck_2 : decode cX12_buck 2 = .ok (.putfield 235, 3) := by decide +kernel
theorem dX12_buck_5 : decode cX12_buck 5 = .ok (.iload_n 1, 1) := by decide +kernel
theorem dX12_buck_6 : decode cX12_buck 6 = .ok (.iload_n 2, 1) := by decide +kernel
theorem dX12_buck_7 : decode cX12_buck 7 = .ok (.invokestatic 257, 3) := by decide +kernel
theorem dX12_buck_10 : decode cX12_buck 10 = .ok (.ifCond .eq 12, 3) := by decide +kernel
theorem dX12_buck_13 : decode cX12_buck 13 = .ok (.aload_n 0, 1) := by decide +kernel
theorem dX12_buck_14 : decode cX12_buck 14 = .ok (.iload_n 1, 1) := by decide +kernel
theorem dX12_buck_15 : decode cX12_buck 15 = .ok (.iload_n 2, 1) := by decide +kernel
theorem dX12_buck_16 : decode cX12_buck 16 = .ok (.invokevirtual 289, 3) := by decide +kernel
theorem dX12_buck_19 : decode cX12_buck 19 = .ok (.goto 4, 3) := by decide +kernel
theorem dX12_buck_22 : decode cX12_buck 22 = .ok (.iconst (-1), 1) := by decide +kernel
theorem dX12_buck_23 : decode cX12_buck 23 = .ok (.ireturn, 1) := by decide +kernel
theorem dX12_piece_0 : decode cX12_piece 0 = .ok (.aload_n 0, 1) := by decide +kernel
theorem dX12_piece_1 : decode cX12_piece 1 = .ok (.iconst 0, 1) := by decide +kernel
theorem dX12_piece_2 : decode cX12_piece 2 = .ok (.putfield 235, 3) := by decide +kernel
theorem dX12_piece_5 : decode cX12_piece 5 = .ok (.iload_n 1, 1) := by decide +kernel
theorem dX12_piece_6 : decode cX12_piece 6 = .ok (.iload_n 2, 1) := by decide +kernel
theorem dX12_piece_7 : decode cX12_piece 7 = .ok (.invokestatic 257, 3) := by decide +kernel
theorem dX12_piece_10 : decode cX12_piece 10 = .ok (.ifCond .ne 5, 3) := by decide +kernel
theorem dX12_piece_13 : decode cX12_piece 13 = .ok (.iconst (-1), 1) := by decide +kernel
theorem dX12_piece_14 : decode cX12_piece 14 = .ok (.ireturn, 1) := by decide +kernel
theorem dX12_piece_15 : decode cX12_piece 15 = .ok (.aload_n 0, 1) := by decide +kernel
theorem dX12_piece_16 : decode cX12_piece 16 = .ok (.iload_n 1, 1) := by decide +kernel
theorem dX12_piece_17 : decode cX12_piece 17 = .ok (.iload_n 2, 1) := by decide +kernel
theorem dX12_piece_18 : decode cX12_piece 18 = .ok (.invokevirtual 289, 3) := by decide +kernel
theorem dX12_piece_21 : decode cX12_piece 21 = .ok (.pop, 1) := by decide +kernel
theorem dX12_piece_22 : decode cX12_piece 22 = .ok (.iload_n 3, 1) := by decide +kernel
theorem dX12_piece_23 : decode cX12_piece 23 = .ok (.iconst 0, 1) := by decide +kernel
theorem dX12_piece_24 : decode cX12_piece 24 = .ok (.aload_n 0, 1) := by decide +kernel
theorem dX12_piece_25 : decode cX12_piece 25 = .ok (.getfield 286, 3) := by decide +kernel
theorem dX12_piece_28 : decode cX12_piece 28 = .ok (.iconst 1, 1) := by decide +kernel
theorem dX12_piece_29 : decode cX12_piece 29 = .ok (.isub, 1) := by decide +kernel
theorem dX12_piece_30 : decode cX12_piece 30 = .ok (.invokestatic 238, 3) := by decide +kernel
theorem dX12_piece_33 : decode cX12_piece 33 = .ok (.ifCond .eq 12, 3) := by decide +kernel
theorem dX12_piece_36 : decode cX12_piece 36 = .ok (.aload_n 0, 1) := by decide +kernel
theorem dX12_piece_37 : decode cX12_piece 37 = .ok (.getfield 40, 3) := by decide +kernel
theorem dX12_piece_40 : decode cX12_piece 40 = .ok (.iload_n 3, 1) := by decide +kernel
theorem dX12_piece_41 : decode cX12_piece 41 = .ok (.iaload, 1) := by decide +kernel
theorem dX12_piece_42 : decode cX12_piece 42 = .ok (.goto 4, 3) := by decide +kernel
theorem dX12_piece_45 : decode cX12_piece 45 = .ok (.iconst (-1), 1) := by decide +kernel
theorem dX12_piece_46 : decode cX12_piece 46 = .ok (.ireturn, 1) := by decide +kernel
theorem dX12_lays_0 : decode cX12_lays 0 = .ok (.aload_n 0, 1) := by decide +kernel
theorem dX12_lays_1 : decode cX12_lays 1 = .ok (.iconst 0, 1) := by decide +kernel
theorem dX12_lays_2 : decode cX12_lays 2 = .ok (.putfield 286, 3) := by decide +kernel
theorem dX12_lays_5 : decode cX12_lays 5 = .ok (.iconst 0, 1) := by decide +kernel
theorem dX12_lays_6 : decode cX12_lays 6 = .ok (.istore 4, 2) := by decide +kernel
theorem dX12_lays_8 : decode cX12_lays 8 = .ok (.iload_n 3, 1) := by decide +kernel
theorem dX12_lays_9 : decode cX12_lays 9 = .ok (.istore 5, 2) := by decide +kernel
theorem dX12_lays_11 : decode cX12_lays 11 = .ok (.iload 5, 2) := by decide +kernel
theorem dX12_lays_13 : decode cX12_lays 13 = .ok (.ifCond .le 16, 3) := by decide +kernel
theorem dX12_lays_16 : decode cX12_lays 16 = .ok (.iinc 4 1, 3) := by decide +kernel
theorem dX12_lays_19 : decode cX12_lays 19 = .ok (.iload 5, 2) := by decide +kernel
theorem dX12_lays_21 : decode cX12_lays 21 = .ok (.bipush 10, 2) := by decide +kernel
theorem dX12_lays_23 : decode cX12_lays 23 = .ok (.idiv, 1) := by decide +kernel
theorem dX12_lays_24 : decode cX12_lays 24 = .ok (.istore 5, 2) := by decide +kernel
theorem dX12_lays_26 : decode cX12_lays 26 = .ok (.goto (-15), 3) := by decide +kernel
theorem dX12_lays_29 : decode cX12_lays 29 = .ok (.iconst 0, 1) := by decide +kernel
theorem dX12_lays_30 : decode cX12_lays 30 = .ok (.istore 5, 2) := by decide +kernel
theorem dX12_lays_32 : decode cX12_lays 32 = .ok (.iload_n 3, 1) := by decide +kernel
theorem dX12_lays_33 : decode cX12_lays 33 = .ok (.istore 6, 2) := by decide +kernel
theorem dX12_lays_35 : decode cX12_lays 35 = .ok (.iload_n 3, 1) := by decide +kernel
theorem dX12_lays_36 : decode cX12_lays 36 = .ok (.ifCond .le 13, 3) := by decide +kernel
theorem dX12_lays_39 : decode cX12_lays 39 = .ok (.iload 4, 2) := by decide +kernel
theorem dX12_lays_41 : decode cX12_lays 41 = .ok (.iconst 5, 1) := by decide +kernel
theorem dX12_lays_42 : decode cX12_lays 42 = .ok (.if_icmp .gt 7, 3) := by decide +kernel
theorem dX12_lays_45 : decode cX12_lays 45 = .ok (.iconst 1, 1) := by decide +kernel
theorem dX12_lays_46 : decode cX12_lays 46 = .ok (.goto 4, 3) := by decide +kernel
theorem dX12_lays_49 : decode cX12_lays 49 = .ok (.iconst 0, 1) := by decide +kernel
theorem dX12_lays_50 : decode cX12_lays 50 = .ok (.istore 7, 2) := by decide +kernel
theorem dX12_lays_52 : decode cX12_lays 52 = .ok (.iload 4, 2) := by decide +kernel
theorem dX12_lays_54 : decode cX12_lays 54 = .ok (.iconst 1, 1) := by decide +kernel
theorem dX12_lays_55 : decode cX12_lays 55 = .ok (.isub, 1) := by decide +kernel
theorem dX12_lays_56 : decode cX12_lays 56 = .ok (.istore 8, 2) := by decide +kernel
theorem dX12_lays_58 : decode cX12_lays 58 = .ok (.iload 8, 2) := by decide +kernel
theorem dX12_lays_60 : decode cX12_lays 60 = .ok (.ifCond .lt 54, 3) := by decide +kernel
theorem dX12_lays_63 : decode cX12_lays 63 = .ok (.iload 7, 2) := by decide +kernel
theorem dX12_lays_65 : decode cX12_lays 65 = .ok (.ifCond .eq 49, 3) := by decide +kernel
theorem dX12_lays_68 : decode cX12_lays 68 = .ok (.iload 6, 2) := by decide +kernel
theorem dX12_lays_70 : decode cX12_lays 70 = .ok (.bipush 10, 2) := by decide +kernel
theorem dX12_lays_72 : decode cX12_lays 72 = .ok (.irem, 1) := by decide +kernel
theorem dX12_lays_73 : decode cX12_lays 73 = .ok (.istore 9, 2) := by decide +kernel
theorem dX12_lays_75 : decode cX12_lays 75 = .ok (.iload 6, 2) := by decide +kernel
theorem dX12_lays_77 : decode cX12_lays 77 = .ok (.bipush 10, 2) := by decide +kernel
theorem dX12_lays_79 : decode cX12_lays 79 = .ok (.idiv, 1) := by decide +kernel
theorem dX12_lays_80 : decode cX12_lays 80 = .ok (.istore 6, 2) := by decide +kernel
theorem dX12_lays_82 : decode cX12_lays 82 = .ok (.iload 9, 2) := by decide +kernel
theorem dX12_lays_84 : decode cX12_lays 84 = .ok (.iconst 2, 1) := by decide +kernel
theorem dX12_lays_85 : decode cX12_lays 85 = .ok (.bipush 6, 2) := by decide +kernel
theorem dX12_lays_87 : decode cX12_lays 87 = .ok (.invokestatic 238, 3) := by decide +kernel
