theorem dX5_strict_0 : decode cX5_strict 0 = .ok (.aload_n 0, 1) := by decide +kernel
theorem dX5_strict_1 : decode cX5_strict 1 = .ok (.iload_n 1, 1) := by decide +kernel
theorem dX5_strict_2 : decode cX5_strict 2 = .ok (.invokevirtual 162, 3) := by decide +kernel
theorem dX5_strict_5 : decode cX5_strict 5 = .ok (.ifCond .eq 5, 3) := by decide +kernel
theorem dX5_strict_8 : decode cX5_strict 8 = .ok (.iconst (-1), 1) := by decide +kernel
theorem dX5_strict_9 : decode cX5_strict 9 = .ok (.ireturn, 1) := by decide +kernel
theorem dX5_strict_10 : decode cX5_strict 10 = .ok (.aload_n 0, 1) := by decide +kernel
theorem dX5_strict_11 : decode cX5_strict 11 = .ok (.getfield 138, 3) := by decide +kernel
theorem dX5_strict_14 : decode cX5_strict 14 = .ok (.istore_n 2, 1) := by decide +kernel
theorem dX5_strict_15 : decode cX5_strict 15 = .ok (.bipush (-9), 2) := by decide +kernel
theorem dX5_strict_17 : decode cX5_strict 17 = .ok (.istore_n 3, 1) := by decide +kernel
theorem dX5_strict_18 : decode cX5_strict 18 = .ok (.iconst 3, 1) := by decide +kernel
theorem dX5_strict_19 : decode cX5_strict 19 = .ok (.istore 4, 2) := by decide +kernel
theorem dX5_strict_21 : decode cX5_strict 21 = .ok (.iload 4, 2) := by decide +kernel
theorem dX5_strict_23 : decode cX5_strict 23 = .ok (.ifCond .lt 31, 3) := by decide +kernel
theorem dX5_strict_26 : decode cX5_strict 26 = .ok (.aload_n 0, 1) := by decide +kernel
theorem dX5_strict_27 : decode cX5_strict 27 = .ok (.iload 4, 2) := by decide +kernel
theorem dX5_strict_29 : decode cX5_strict 29 = .ok (.putfield 138, 3) := by decide +kernel
theorem dX5_strict_32 : decode cX5_strict 32 = .ok (.aload_n 0, 1) := by decide +kernel
theorem dX5_strict_33 : decode cX5_strict 33 = .ok (.iload_n 1, 1) := by decide +kernel
theorem dX5_strict_34 : decode cX5_strict 34 = .ok (.invokevirtual 165, 3) := by decide +kernel
theorem dX5_strict_37 : decode cX5_strict 37 = .ok (.iload_n 1, 1) := by decide +kernel
theorem dX5_strict_38 : decode cX5_strict 38 = .ok (.if_icmp .ne 8, 3) := by decide +kernel
theorem dX5_strict_41 : decode cX5_strict 41 = .ok (.iload 4, 2) := by decide +kernel
theorem dX5_strict_43 : decode cX5_strict 43 = .ok (.goto 4, 3) := by decide +kernel
theorem dX5_strict_46 : decode cX5_strict 46 = .ok (.iload_n 3, 1) := by decide +kernel
theorem dX5_strict_47 : decode cX5_strict 47 = .ok (.istore_n 3, 1) := by decide +kernel
theorem dX5_strict_48 : decode cX5_strict 48 = .ok (.iinc 4 (-1), 3) := by decide +kernel
theorem dX5_strict_51 : decode cX5_strict 51 = .ok (.goto (-30), 3) := by decide +kernel
theorem dX5_strict_54 : decode cX5_strict 54 = .ok (.aload_n 0, 1) := by decide +kernel
theorem dX5_strict_55 : decode cX5_strict 55 = .ok (.iload_n 2, 1) := by decide +kernel
theorem dX5_strict_56 : decode cX5_strict 56 = .ok (.putfield 138, 3) := by decide +kernel
theorem dX5_strict_59 : decode cX5_strict 59 = .ok (.iload_n 3, 1) := by decide +kernel
theorem dX5_strict_60 : decode cX5_strict 60 = .ok (.ireturn, 1) := by decide +kernel
theorem dX5_comeNow_0 : decode cX5_comeNow 0 = .ok (.iconst 0, 1) := by decide +kernel
theorem dX5_comeNow_1 : decode cX5_comeNow 1 = .ok (.istore_n 1, 1) := by decide +kernel
theorem dX5_comeNow_2 : decode cX5_comeNow 2 = .ok (.iconst 0, 1) := by decide +kernel
theorem dX5_comeNow_3 : decode cX5_comeNow 3 = .ok (.istore_n 2, 1) := by decide +kernel
theorem dX5_comeNow_4 : decode cX5_comeNow 4 = .ok (.iload_n 2, 1) := by decide +kernel
theorem dX5_comeNow_5 : decode cX5_comeNow 5 = .ok (.aload_n 0, 1) := by decide +kernel
theorem dX5_comeNow_6 : decode cX5_comeNow 6 = .ok (.getfield 80, 3) := by decide +kernel
theorem dX5_comeNow_9 : decode cX5_comeNow 9 = .ok (.if_icmp .ge 26, 3) := by decide +kernel
theorem dX5_comeNow_12 : decode cX5_comeNow 12 = .ok (.iload_n 1, 1) := by decide +kernel
theorem dX5_comeNow_13 : decode cX5_comeNow 13 = .ok (.aload_n 0, 1) := by decide +kernel
theorem dX5_comeNow_14 : decode cX5_comeNow 14 = .ok (.iload_n 2, 1) := by decide +kernel
theorem dX5_comeNow_15 : decode cX5_comeNow 15 = .ok (.invokevirtual 165, 3) := by decide +kernel
theorem dX5_comeNow_18 : decode cX5_comeNow 18 = .ok (.iload_n 2, 1) := by decide +kernel
theorem dX5_comeNow_19 : decode cX5_comeNow 19 = .ok (.if_icmp .ne 7, 3) := by decide +kernel
theorem dX5_comeNow_22 : decode cX5_comeNow 22 = .ok (.iconst 1, 1) := by decide +kernel
theorem dX5_comeNow_23 : decode cX5_comeNow 23 = .ok (.goto 4, 3) := by decide +kernel
theorem dX5_comeNow_26 : decode cX5_comeNow 26 = .ok (.iconst 0, 1) := by decide +kernel
theorem dX5_comeNow_27 : decode cX5_comeNow 27 = .ok (.iadd, 1) := by decide +kernel
theorem dX5_comeNow_28 : decode cX5_comeNow 28 = .ok (.istore_n 1, 1) := by decide +kernel
theorem dX5_comeNow_29 : decode cX5_comeNow 29 = .ok (.iinc 2 1, 3) := by decide +kernel
theorem dX5_comeNow_32 : decode cX5_comeNow 32 = .ok (.goto (-28), 3) := by decide +kernel
theorem dX5_comeNow_35 : decode cX5_comeNow 35 = .ok (.iload_n 1, 1) := by decide +kernel
theorem dX5_comeNow_36 : decode cX5_comeNow 36 = .ok (.ireturn, 1) := by decide +kernel
theorem dX5_site_0 : decode cX5_site 0 = .ok (.aload_n 0, 1) := by decide +kernel
theorem dX5_site_1 : decode cX5_site 1 = .ok (.getfield 80, 3) := by decide +kernel
theorem dX5_site_4 : decode cX5_site 4 = .ok (.ifCond .ne 6, 3) := by decide +kernel
theorem dX5_site_7 : decode cX5_site 7 = .ok (.bipush (-3), 2) := by decide +kernel
theorem dX5_site_9 : decode cX5_site 9 = .ok (.ireturn, 1) := by decide +kernel
theorem dX5_site_10 : decode cX5_site 10 = .ok (.iload_n 1, 1) := by decide +kernel
theorem dX5_site_11 : decode cX5_site 11 = .ok (.i2l, 1) := by decide +kernel
theorem dX5_site_12 : decode cX5_site 12 = .ok (.lconst 0, 1) := by decide +kernel
theorem dX5_site_13 : decode cX5_site 13 = .ok (.lconst 1, 1) := by decide +kernel
theorem dX5_site_14 : decode cX5_site 14 = .ok (.invokestatic 83, 3) := by decide +kernel
theorem dX5_site_17 : decode cX5_site 17 = .ok (.ifCond .ne 6, 3) := by decide +kernel
theorem dX5_site_20 : decode cX5_site 20 = .ok (.bipush (-2), 2) := by decide +kernel
theorem dX5_site_22 : decode cX5_site 22 = .ok (.ireturn, 1) := by decide +kernel
theorem dX5_site_23 : decode cX5_site 23 = .ok (.aload_n 0, 1) := by decide +kernel
theorem dX5_site_24 : decode cX5_site 24 = .ok (.getfield 135, 3) := by decide +kernel
theorem dX5_site_27 : decode cX5_site 27 = .ok (.istore_n 2, 1) := by decide +kernel
theorem dX5_site_28 : decode cX5_site 28 = .ok (.bipush (-9), 2) := by decide +kernel
theorem dX5_site_30 : decode cX5_site 30 = .ok (.istore_n 3, 1) := by decide +kernel
theorem dX5_site_31 : decode cX5_site 31 = .ok (.bipush (-9), 2) := by decide +kernel
theorem dX5_site_33 : decode cX5_site 33 = .ok (.istore 4, 2) := by decide +kernel
theorem dX5_site_35 : decode cX5_site 35 = .ok (.iconst 0, 1) := by decide +kernel
theorem dX5_site_36 : decode cX5_site 36 = .ok (.istore 5, 2) := by decide +kernel
theorem dX5_site_38 : decode cX5_site 38 = .ok (.iload 5, 2) := by decide +kernel
theorem dX5_site_40 : decode cX5_site 40 = .ok (.bipush 10, 2) := by decide +kernel
theorem dX5_site_42 : decode cX5_site 42 = .ok (.if_icmp .ge 51, 3) := by decide +kernel
theorem dX5_site_45 : decode cX5_site 45 = .ok (.aload_n 0, 1) := by decide +kernel
theorem dX5_site_46 : decode cX5_site 46 = .ok (.iload 5, 2) := by decide +kernel
theorem dX5_site_48 : decode cX5_site 48 = .ok (.putfield 135, 3) := by decide +kernel
theorem dX5_site_51 : decode cX5_site 51 = .ok (.aload_n 0, 1) := by decide +kernel
theorem dX5_site_52 : decode cX5_site 52 = .ok (.invokevirtual 200, 3) := by decide +kernel
theorem dX5_site_55 : decode cX5_site 55 = .ok (.istore 6, 2) := by decide +kernel
theorem dX5_site_57 : decode cX5_site 57 = .ok (.iload 6, 2) := by decide +kernel
theorem dX5_site_59 : decode cX5_site 59 = .ok (.iload 4, 2) := by decide +kernel
theorem dX5_site_61 : decode cX5_site 61 = .ok (.if_icmp .le 8, 3) := by decide +kernel
theorem dX5_site_64 : decode cX5_site 64 = .ok (.iload 5, 2) := by decide +kernel
theorem dX5_site_66 : decode cX5_site 66 = .ok (.goto 4, 3) := by decide +kernel
theorem dX5_site_69 : decode cX5_site 69 = .ok (.iload_n 3, 1) := by decide +kernel
theorem dX5_site_70 : decode cX5_site 70 = .ok (.istore_n 3, 1) := by decide +kernel
theorem dX5_site_71 : decode cX5_site 71 = .ok (.iload 6, 2) := by decide +kernel
theorem dX5_site_73 : decode cX5_site 73 = .ok (.iload 4, 2) := by decide +kernel
theorem dX5_site_75 : decode cX5_site 75 = .ok (.if_icmp .le 8, 3) := by decide +kernel
theorem dX5_site_78 : decode cX5_site 78 = .ok (.iload 6, 2) := by decide +kernel
theorem dX5_site_80 : decode cX5_site 80 = .ok (.goto 5, 3) := by decide +kernel
theorem dX5_site_83 : decode cX5_site 83 = .ok (.iload 4, 2) := by decide +kernel
theorem dX5_site_85 : decode cX5_site 85 = .ok (.istore 4, 2) := by decide +kernel
theorem dX5_site_87 : decode cX5_site 87 = .ok (.iinc 5 1, 3) := by decide +kernel
theorem dX5_site_90 : decode cX5_site 90 = .ok (.goto (-52), 3) := by decide +kernel
theorem dX5_site_93 : decode cX5_site 93 = .ok (.aload_n 0, 1) := by decide +kernel
theorem dX5_site_94 : decode cX5_site 94 = .ok (.iload_n 2, 1) := by decide +kernel
theorem dX5_site_95 : decode cX5_site 95 = .ok (.putfield 135, 3) := by decide +kernel
theorem dX5_site_98 : decode cX5_site 98 = .ok (.iload_n 1, 1) := by decide +kernel
theorem dX5_site_99 : decode cX5_site 99 = .ok (.ifCond .ne 7, 3) := by decide +kernel
theorem dX5_site_102 : decode cX5_site 102 = .ok (.iload_n 3, 1) := by decide +kernel
theorem dX5_site_103 : decode cX5_site 103 = .ok (.goto 5, 3) := by decide +kernel
theorem dX5_site_106 : decode cX5_site 106 = .ok (.iload 4, 2) := by decide +kernel
theorem dX5_site_108 : decode cX5_site 108 = .ok (.ireturn, 1) := by decide +kernel
theorem dX5_exchange_0 : decode cX5_exchange 0 = .ok (.aload_n 0, 1) := by decide +kernel
theorem dX5_exchange_1 : decode cX5_exchange 1 = .ok (.getfield 43, 3) := by decide +kernel
theorem dX5_exchange_4 : decode cX5_exchange 4 = .ok (.iload_n 1, 1) := by decide +kernel
theorem dX5_exchange_5 : decode cX5_exchange 5 = .ok (.iaload, 1) := by decide +kernel
theorem dX5_exchange_6 : decode cX5_exchange 6 = .ok (.istore_n 3, 1) := by decide +kernel
theorem dX5_exchange_7 : decode cX5_exchange 7 = .ok (.aload_n 0, 1) := by decide +kernel
theorem dX5_exchange_8 : decode cX5_exchange 8 = .ok (.getfield 43, 3) := by decide +kernel
theorem dX5_exchange_11 : decode cX5_exchange 11 = .ok (.iload_n 1, 1) := by decide +kernel
theorem dX5_exchange_12 : decode cX5_exchange 12 = .ok (.aload_n 0, 1) := by decide +kernel
theorem dX5_exchange_13 : decode cX5_exchange 13 = .ok (.getfield 43, 3) := by decide +kernel
theorem dX5_exchange_16 : decode cX5_exchange 16 = .ok (.iload_n 2, 1) := by decide +kernel
theorem dX5_exchange_17 : decode cX5_exchange 17 = .ok (.iaload, 1) := by decide +kernel
theorem dX5_exchange_18 : decode cX5_exchange 18 = .ok (.iastore, 1) := by decide +kernel
theorem dX5_exchange_19 : decode cX5_exchange 19 = .ok (.aload_n 0, 1) := by decide +kernel
theorem dX5_exchange_20 : decode cX5_exchange 20 = .ok (.getfield 43, 3) := by decide +kernel
theorem dX5_exchange_23 : decode cX5_exchange 23 = .ok (.iload_n 2, 1) := by decide +kernel
theorem dX5_exchange_24 : decode cX5_exchange 24 = .ok (.iload_n 3, 1) := by decide +kernel
theorem dX5_exchange_25 : decode cX5_exchange 25 = .ok (.iastore, 1) := by decide +kernel
theorem dX5_exchange_26 : decode cX5_exchange 26 = .ok (.return_, 1) := by decide +kernel
theorem dX5_nextOrder_0 : decode cX5_nextOrder 0 = .ok (.aload_n 0, 1) := by decide +kernel
theorem dX5_nextOrder_1 : decode cX5_nextOrder 1 = .ok (.getfield 80, 3) := by decide +kernel
theorem dX5_nextOrder_4 : decode cX5_nextOrder 4 = .ok (.iconst 2, 1) := by decide +kernel
theorem dX5_nextOrder_5 : decode cX5_nextOrder 5 = .ok (.isub, 1) := by decide +kernel
theorem dX5_nextOrder_6 : decode cX5_nextOrder 6 = .ok (.istore_n 1, 1) := by decide +kernel
theorem dX5_nextOrder_7 : decode cX5_nextOrder 7 = .ok (.iload_n 1, 1) := by decide +kernel
theorem dX5_nextOrder_8 : decode cX5_nextOrder 8 = .ok (.ifCond .lt 26, 3) := by decide +kernel
theorem dX5_nextOrder_11 : decode cX5_nextOrder 11 = .ok (.aload_n 0, 1) := by decide +kernel
theorem dX5_nextOrder_12 : decode cX5_nextOrder 12 = .ok (.getfield 43, 3) := by decide +kernel
theorem dX5_nextOrder_15 : decode cX5_nextOrder 15 = .ok (.iload_n 1, 1) := by decide +kernel
theorem dX5_nextOrder_16 : decode cX5_nextOrder 16 = .ok (.iaload, 1) := by decide +kernel
theorem dX5_nextOrder_17 : decode cX5_nextOrder 17 = .ok (.aload_n 0, 1) := by decide +kernel
theorem dX5_nextOrder_18 : decode cX5_nextOrder 18 = .ok (.getfield 43, 3) := by decide +kernel
theorem dX5_nextOrder_21 : decode cX5_nextOrder 21 = .ok (.iload_n 1, 1) := by decide +kernel
theorem dX5_nextOrder_22 : decode cX5_nextOrder 22 = .ok (.iconst 1, 1) := by decide +kernel
theorem dX5_nextOrder_23 : decode cX5_nextOrder 23 = .ok (.iadd, 1) := by decide +kernel
theorem dX5_nextOrder_24 : decode cX5_nextOrder 24 = .ok (.iaload, 1) := by decide +kernel
theorem dX5_nextOrder_25 : decode cX5_nextOrder 25 = .ok (.if_icmp .le 9, 3) := by decide +kernel
theorem dX5_nextOrder_28 : decode cX5_nextOrder 28 = .ok (.iinc 1 (-1), 3) := by decide +kernel
theorem dX5_nextOrder_31 : decode cX5_nextOrder 31 = .ok (.goto (-24), 3) := by decide +kernel
theorem dX5_nextOrder_34 : decode cX5_nextOrder 34 = .ok (.iload_n 1, 1) := by decide +kernel
theorem dX5_nextOrder_35 : decode cX5_nextOrder 35 = .ok (.ifCond .ge 5, 3) := by decide +kernel
theorem dX5_nextOrder_38 : decode cX5_nextOrder 38 = .ok (.iconst 0, 1) := by decide +kernel
theorem dX5_nextOrder_39 : decode cX5_nextOrder 39 = .ok (.ireturn, 1) := by decide +kernel
theorem dX5_nextOrder_40 : decode cX5_nextOrder 40 = .ok (.aload_n 0, 1) := by decide +kernel
theorem dX5_nextOrder_41 : decode cX5_nextOrder 41 = .ok (.getfield 80, 3) := by decide +kernel
theorem dX5_nextOrder_44 : decode cX5_nextOrder 44 = .ok (.iconst 1, 1) := by decide +kernel
theorem dX5_nextOrder_45 : decode cX5_nextOrder 45 = .ok (.isub, 1) := by decide +kernel
theorem dX5_nextOrder_46 : decode cX5_nextOrder 46 = .ok (.istore_n 2, 1) := by decide +kernel
theorem dX5_nextOrder_47 : decode cX5_nextOrder 47 = .ok (.aload_n 0, 1) := by decide +kernel
theorem dX5_nextOrder_48 : decode cX5_nextOrder 48 = .ok (.getfield 43, 3) := by decide +kernel
theorem dX5_nextOrder_51 : decode cX5_nextOrder 51 = .ok (.iload_n 2, 1) := by decide +kernel
theorem dX5_nextOrder_52 : decode cX5_nextOrder 52 = .ok (.iaload, 1) := by decide +kernel
theorem dX5_nextOrder_53 : decode cX5_nextOrder 53 = .ok (.aload_n 0, 1) := by decide +kernel
theorem dX5_nextOrder_54 : decode cX5_nextOrder 54 = .ok (.getfield 43, 3) := by decide +kernel
theorem dX5_nextOrder_57 : decode cX5_nextOrder 57 = .ok (.iload_n 1, 1) := by decide +kernel
theorem dX5_nextOrder_58 : decode cX5_nextOrder 58 = .ok (.iaload, 1) := by decide +kernel
theorem dX5_nextOrder_59 : decode cX5_nextOrder 59 = .ok (.if_icmp .ge 9, 3) := by decide +kernel
theorem dX5_nextOrder_62 : decode cX5_nextOrder 62 = .ok (.iinc 2 (-1), 3) := by decide +kernel
theorem dX5_nextOrder_65 : decode cX5_nextOrder 65 = .ok (.goto (-18), 3) := by decide +kernel
theorem dX5_nextOrder_68 : decode cX5_nextOrder 68 = .ok (.aload_n 0, 1) := by decide +kernel
theorem dX5_nextOrder_69 : decode cX5_nextOrder 69 = .ok (.iload_n 1, 1) := by decide +kernel
theorem dX5_nextOrder_70 : decode cX5_nextOrder 70 = .ok (.iload_n 2, 1) := by decide +kernel
theorem dX5_nextOrder_71 : decode cX5_nextOrder 71 = .ok (.invokevirtual 204, 3) := by decide +kernel
theorem dX5_nextOrder_74 : decode cX5_nextOrder 74 = .ok (.iload_n 1, 1) := by decide +kernel
theorem dX5_nextOrder_75 : decode cX5_nextOrder 75 = .ok (.iconst 1, 1) := by decide +kernel
theorem dX5_nextOrder_76 : decode cX5_nextOrder 76 = .ok (.iadd, 1) := by decide +kernel
theorem dX5_nextOrder_77 : decode cX5_nextOrder 77 = .ok (.istore_n 3, 1) := by decide +kernel
theorem dX5_nextOrder_78 : decode cX5_nextOrder 78 = .ok (.aload_n 0, 1) := by decide +kernel
theorem dX5_nextOrder_79 : decode cX5_nextOrder 79 = .ok (.getfield 80, 3) := by decide +kernel
theorem dX5_nextOrder_82 : decode cX5_nextOrder 82 = .ok (.iconst 1, 1) := by decide +kernel
theorem dX5_nextOrder_83 : decode cX5_nextOrder 83 = .ok (.isub, 1) := by decide +kernel
theorem dX5_nextOrder_84 : decode cX5_nextOrder 84 = .ok (.istore 4, 2) := by decide +kernel
theorem dX5_nextOrder_86 : decode cX5_nextOrder 86 = .ok (.iload 4, 2) := by decide +kernel
theorem dX5_nextOrder_88 : decode cX5_nextOrder 88 = .ok (.iload_n 3, 1) := by decide +kernel
theorem dX5_nextOrder_89 : decode cX5_nextOrder 89 = .ok (.if_icmp .le 19, 3) := by decide +kernel
theorem dX5_nextOrder_92 : decode cX5_nextOrder 92 = .ok (.aload_n 0, 1) := by decide +kernel
theorem dX5_nextOrder_93 : decode cX5_nextOrder 93 = .ok (.iload_n 3, 1) := by decide +kernel
theorem dX5_nextOrder_94 : decode cX5_nextOrder 94 = .ok (.iload 4, 2) := by decide +kernel
theorem dX5_nextOrder_96 : decode cX5_nextOrder 96 = .ok (.invokevirtual 204, 3) := by decide +kernel
theorem dX5_nextOrder_99 : decode cX5_nextOrder 99 = .ok (.iinc 3 1, 3) := by decide +kernel
theorem dX5_nextOrder_102 : decode cX5_nextOrder 102 = .ok (.iinc 4 (-1), 3) := by decide +kernel
theorem dX5_nextOrder_105 : decode cX5_nextOrder 105 = .ok (.goto (-19), 3) := by decide +kernel
theorem dX5_nextOrder_108 : decode cX5_nextOrder 108 = .ok (.iconst 1, 1) := by decide +kernel
theorem dX5_nextOrder_109 : decode cX5_nextOrder 109 = .ok (.ireturn, 1) := by decide +kernel
theorem dX5_comeInOrder_0 : decode cX5_comeInOrder 0 = .ok (.iconst 0, 1) := by decide +kernel
theorem dX5_comeInOrder_1 : decode cX5_comeInOrder 1 = .ok (.istore_n 1, 1) := by decide +kernel
theorem dX5_comeInOrder_2 : decode cX5_comeInOrder 2 = .ok (.iconst 0, 1) := by decide +kernel
theorem dX5_comeInOrder_3 : decode cX5_comeInOrder 3 = .ok (.istore_n 2, 1) := by decide +kernel
theorem dX5_comeInOrder_4 : decode cX5_comeInOrder 4 = .ok (.iload_n 2, 1) := by decide +kernel
theorem dX5_comeInOrder_5 : decode cX5_comeInOrder 5 = .ok (.aload_n 0, 1) := by decide +kernel
theorem dX5_comeInOrder_6 : decode cX5_comeInOrder 6 = .ok (.getfield 80, 3) := by decide +kernel
theorem dX5_comeInOrder_9 : decode cX5_comeInOrder 9 = .ok (.if_icmp .ge 36, 3) := by decide +kernel
theorem dX5_comeInOrder_12 : decode cX5_comeInOrder 12 = .ok (.iload_n 1, 1) := by decide +kernel
theorem dX5_comeInOrder_13 : decode cX5_comeInOrder 13 = .ok (.aload_n 0, 1) := by decide +kernel
theorem dX5_comeInOrder_14 : decode cX5_comeInOrder 14 = .ok (.aload_n 0, 1) := by decide +kernel
theorem dX5_comeInOrder_15 : decode cX5_comeInOrder 15 = .ok (.getfield 43, 3) := by decide +kernel
theorem dX5_comeInOrder_18 : decode cX5_comeInOrder 18 = .ok (.iload_n 2, 1) := by decide +kernel
theorem dX5_comeInOrder_19 : decode cX5_comeInOrder 19 = .ok (.iaload, 1) := by decide +kernel
theorem dX5_comeInOrder_20 : decode cX5_comeInOrder 20 = .ok (.invokevirtual 174, 3) := by decide +kernel
theorem dX5_comeInOrder_23 : decode cX5_comeInOrder 23 = .ok (.aload_n 0, 1) := by decide +kernel
theorem dX5_comeInOrder_24 : decode cX5_comeInOrder 24 = .ok (.getfield 43, 3) := by decide +kernel
theorem dX5_comeInOrder_27 : decode cX5_comeInOrder 27 = .ok (.iload_n 2, 1) := by decide +kernel
theorem dX5_comeInOrder_28 : decode cX5_comeInOrder 28 = .ok (.iaload, 1) := by decide +kernel
theorem dX5_comeInOrder_29 : decode cX5_comeInOrder 29 = .ok (.if_icmp .ne 7, 3) := by decide +kernel
theorem dX5_comeInOrder_32 : decode cX5_comeInOrder 32 = .ok (.iconst 1, 1) := by decide +kernel
theorem dX5_comeInOrder_33 : decode cX5_comeInOrder 33 = .ok (.goto 4, 3) := by decide +kernel
theorem dX5_comeInOrder_36 : decode cX5_comeInOrder 36 = .ok (.iconst 0, 1) := by decide +kernel
theorem dX5_comeInOrder_37 : decode cX5_comeInOrder 37 = .ok (.iadd, 1) := by decide +kernel
theorem dX5_comeInOrder_38 : decode cX5_comeInOrder 38 = .ok (.istore_n 1, 1) := by decide +kernel
theorem dX5_comeInOrder_39 : decode cX5_comeInOrder 39 = .ok (.iinc 2 1, 3) := by decide +kernel
theorem dX5_comeInOrder_42 : decode cX5_comeInOrder 42 = .ok (.goto (-38), 3) := by decide +kernel
theorem dX5_comeInOrder_45 : decode cX5_comeInOrder 45 = .ok (.aload_n 0, 1) := by decide +kernel
theorem dX5_comeInOrder_46 : decode cX5_comeInOrder 46 = .ok (.invokevirtual 197, 3) := by decide +kernel
theorem dX5_comeInOrder_49 : decode cX5_comeInOrder 49 = .ok (.iload_n 1, 1) := by decide +kernel
theorem dX5_comeInOrder_50 : decode cX5_comeInOrder 50 = .ok (.ireturn, 1) := by decide +kernel
theorem dX5_bestOrder_0 : decode cX5_bestOrder 0 = .ok (.aload_n 0, 1) := by decide +kernel
theorem dX5_bestOrder_1 : decode cX5_bestOrder 1 = .ok (.invokevirtual 190, 3) := by decide +kernel
theorem dX5_bestOrder_4 : decode cX5_bestOrder 4 = .ok (.iconst 0, 1) := by decide +kernel
theorem dX5_bestOrder_5 : decode cX5_bestOrder 5 = .ok (.istore_n 1, 1) := by decide +kernel
theorem dX5_bestOrder_6 : decode cX5_bestOrder 6 = .ok (.iload_n 1, 1) := by decide +kernel
theorem dX5_bestOrder_7 : decode cX5_bestOrder 7 = .ok (.aload_n 0, 1) := by decide +kernel
theorem dX5_bestOrder_8 : decode cX5_bestOrder 8 = .ok (.getfield 80, 3) := by decide +kernel
theorem dX5_bestOrder_11 : decode cX5_bestOrder 11 = .ok (.if_icmp .ge 16, 3) := by decide +kernel
theorem dX5_bestOrder_14 : decode cX5_bestOrder 14 = .ok (.aload_n 0, 1) := by decide +kernel
theorem dX5_bestOrder_15 : decode cX5_bestOrder 15 = .ok (.getfield 43, 3) := by decide +kernel
theorem dX5_bestOrder_18 : decode cX5_bestOrder 18 = .ok (.iload_n 1, 1) := by decide +kernel
theorem dX5_bestOrder_19 : decode cX5_bestOrder 19 = .ok (.iload_n 1, 1) := by decide +kernel
theorem dX5_bestOrder_20 : decode cX5_bestOrder 20 = .ok (.iastore, 1) := by decide +kernel
theorem dX5_bestOrder_21 : decode cX5_bestOrder 21 = .ok (.iinc 1 1, 3) := by decide +kernel
theorem dX5_bestOrder_24 : decode cX5_bestOrder 24 = .ok (.goto (-18), 3) := by decide +kernel
theorem dX5_bestOrder_27 : decode cX5_bestOrder 27 = .ok (.bipush (-9), 2) := by decide +kernel
theorem dX5_bestOrder_29 : decode cX5_bestOrder 29 = .ok (.istore_n 1, 1) := by decide +kernel
theorem dX5_bestOrder_30 : decode cX5_bestOrder 30 = .ok (.iconst 1, 1) := by decide +kernel
theorem dX5_bestOrder_31 : decode cX5_bestOrder 31 = .ok (.istore_n 2, 1) := by decide +kernel
theorem dX5_bestOrder_32 : decode cX5_bestOrder 32 = .ok (.iload_n 2, 1) := by decide +kernel
theorem dX5_bestOrder_33 : decode cX5_bestOrder 33 = .ok (.ifCond .eq 74, 3) := by decide +kernel
theorem dX5_bestOrder_36 : decode cX5_bestOrder 36 = .ok (.aload_n 0, 1) := by decide +kernel
theorem dX5_bestOrder_37 : decode cX5_bestOrder 37 = .ok (.invokevirtual 208, 3) := by decide +kernel
theorem dX5_bestOrder_40 : decode cX5_bestOrder 40 = .ok (.istore_n 3, 1) := by decide +kernel
theorem dX5_bestOrder_41 : decode cX5_bestOrder 41 = .ok (.iconst 0, 1) := by decide +kernel
theorem dX5_bestOrder_42 : decode cX5_bestOrder 42 = .ok (.istore 4, 2) := by decide +kernel
theorem dX5_bestOrder_44 : decode cX5_bestOrder 44 = .ok (.iload 4, 2) := by decide +kernel
theorem dX5_bestOrder_46 : decode cX5_bestOrder 46 = .ok (.aload_n 0, 1) := by decide +kernel
theorem dX5_bestOrder_47 : decode cX5_bestOrder 47 = .ok (.getfield 80, 3) := by decide +kernel
theorem dX5_bestOrder_50 : decode cX5_bestOrder 50 = .ok (.if_icmp .ge 38, 3) := by decide +kernel
theorem dX5_bestOrder_53 : decode cX5_bestOrder 53 = .ok (.aload_n 0, 1) := by decide +kernel
theorem dX5_bestOrder_54 : decode cX5_bestOrder 54 = .ok (.getfield 46, 3) := by decide +kernel
theorem dX5_bestOrder_57 : decode cX5_bestOrder 57 = .ok (.iload 4, 2) := by decide +kernel
theorem dX5_bestOrder_59 : decode cX5_bestOrder 59 = .ok (.iload_n 3, 1) := by decide +kernel
theorem dX5_bestOrder_60 : decode cX5_bestOrder 60 = .ok (.iload_n 1, 1) := by decide +kernel
theorem dX5_bestOrder_61 : decode cX5_bestOrder 61 = .ok (.if_icmp .le 13, 3) := by decide +kernel
theorem dX5_bestOrder_64 : decode cX5_bestOrder 64 = .ok (.aload_n 0, 1) := by decide +kernel
theorem dX5_bestOrder_65 : decode cX5_bestOrder 65 = .ok (.getfield 43, 3) := by decide +kernel
theorem dX5_bestOrder_68 : decode cX5_bestOrder 68 = .ok (.iload 4, 2) := by decide +kernel
theorem dX5_bestOrder_70 : decode cX5_bestOrder 70 = .ok (.iaload, 1) := by decide +kernel
theorem dX5_bestOrder_71 : decode cX5_bestOrder 71 = .ok (.goto 10, 3) := by decide +kernel
theorem dX5_bestOrder_74 : decode cX5_bestOrder 74 = .ok (.aload_n 0, 1) := by decide +kernel
theorem dX5_bestOrder_75 : decode cX5_bestOrder 75 = .ok (.getfield 46, 3) := by decide +kernel
theorem dX5_bestOrder_78 : decode cX5_bestOrder 78 = .ok (.iload 4, 2) := by decide +kernel
theorem dX5_bestOrder_80 : decode cX5_bestOrder 80 = .ok (.iaload, 1) := by decide +kernel
theorem dX5_bestOrder_81 : decode cX5_bestOrder 81 = .ok (.iastore, 1) := by decide +kernel
theorem dX5_bestOrder_82 : decode cX5_bestOrder 82 = .ok (.iinc 4 1, 3) := by decide +kernel
theorem dX5_bestOrder_85 : decode cX5_bestOrder 85 = .ok (.goto (-41), 3) := by decide +kernel
theorem dX5_bestOrder_88 : decode cX5_bestOrder 88 = .ok (.iload_n 3, 1) := by decide +kernel
theorem dX5_bestOrder_89 : decode cX5_bestOrder 89 = .ok (.iload_n 1, 1) := by decide +kernel
theorem dX5_bestOrder_90 : decode cX5_bestOrder 90 = .ok (.if_icmp .le 7, 3) := by decide +kernel
theorem dX5_bestOrder_93 : decode cX5_bestOrder 93 = .ok (.iload_n 3, 1) := by decide +kernel
theorem dX5_bestOrder_94 : decode cX5_bestOrder 94 = .ok (.goto 4, 3) := by decide +kernel
theorem dX5_bestOrder_97 : decode cX5_bestOrder 97 = .ok (.iload_n 1, 1) := by decide +kernel
theorem dX5_bestOrder_98 : decode cX5_bestOrder 98 = .ok (.istore_n 1, 1) := by decide +kernel
theorem dX5_bestOrder_99 : decode cX5_bestOrder 99 = .ok (.aload_n 0, 1) := by decide +kernel
theorem dX5_bestOrder_100 : decode cX5_bestOrder 100 = .ok (.invokevirtual 211, 3) := by decide +kernel
theorem dX5_bestOrder_103 : decode cX5_bestOrder 103 = .ok (.istore_n 2, 1) := by decide +kernel
theorem dX5_bestOrder_104 : decode cX5_bestOrder 104 = .ok (.goto (-72), 3) := by decide +kernel
theorem dX5_bestOrder_107 : decode cX5_bestOrder 107 = .ok (.iload_n 1, 1) := by decide +kernel
theorem dX5_bestOrder_108 : decode cX5_bestOrder 108 = .ok (.ireturn, 1) := by decide +kernel
theorem dX5_order_0 : decode cX5_order 0 = .ok (.aload_n 0, 1) := by decide +kernel
theorem dX5_order_1 : decode cX5_order 1 = .ok (.getfield 80, 3) := by decide +kernel
theorem dX5_order_4 : decode cX5_order 4 = .ok (.ifCond .ne 6, 3) := by decide +kernel
theorem dX5_order_7 : decode cX5_order 7 = .ok (.bipush (-3), 2) := by decide +kernel
theorem dX5_order_9 : decode cX5_order 9 = .ok (.ireturn, 1) := by decide +kernel
theorem dX5_order_10 : decode cX5_order 10 = .ok (.iload_n 1, 1) := by decide +kernel
theorem dX5_order_11 : decode cX5_order 11 = .ok (.i2l, 1) := by decide +kernel
theorem dX5_order_12 : decode cX5_order 12 = .ok (.ldc2_w 215, 3) := by decide +kernel
theorem dX5_order_15 : decode cX5_order 15 = .ok (.ldc2_w 217, 3) := by decide +kernel
theorem dX5_order_18 : decode cX5_order 18 = .ok (.invokestatic 83, 3) := by decide +kernel
theorem dX5_order_21 : decode cX5_order 21 = .ok (.ifCond .ne 6, 3) := by decide +kernel
theorem dX5_order_24 : decode cX5_order 24 = .ok (.bipush (-2), 2) := by decide +kernel
theorem dX5_order_26 : decode cX5_order 26 = .ok (.ireturn, 1) := by decide +kernel
theorem dX5_order_27 : decode cX5_order 27 = .ok (.aload_n 0, 1) := by decide +kernel
theorem dX5_order_28 : decode cX5_order 28 = .ok (.invokevirtual 219, 3) := by decide +kernel
theorem dX5_order_31 : decode cX5_order 31 = .ok (.istore_n 2, 1) := by decide +kernel
theorem dX5_order_32 : decode cX5_order 32 = .ok (.iload_n 1, 1) := by decide +kernel
theorem dX5_order_33 : decode cX5_order 33 = .ok (.ifCond .ge 7, 3) := by decide +kernel
theorem dX5_order_36 : decode cX5_order 36 = .ok (.iload_n 2, 1) := by decide +kernel
theorem dX5_order_37 : decode cX5_order 37 = .ok (.goto 22, 3) := by decide +kernel
theorem dX5_order_40 : decode cX5_order 40 = .ok (.iload_n 1, 1) := by decide +kernel
theorem dX5_order_41 : decode cX5_order 41 = .ok (.aload_n 0, 1) := by decide +kernel
theorem dX5_order_42 : decode cX5_order 42 = .ok (.getfield 80, 3) := by decide +kernel
theorem dX5_order_45 : decode cX5_order 45 = .ok (.if_icmp .ge 12, 3) := by decide +kernel
theorem dX5_order_48 : decode cX5_order 48 = .ok (.aload_n 0, 1) := by decide +kernel
theorem dX5_order_49 : decode cX5_order 49 = .ok (.getfield 46, 3) := by decide +kernel
theorem dX5_order_52 : decode cX5_order 52 = .ok (.iload_n 1, 1) := by decide +kernel
theorem dX5_order_53 : decode cX5_order 53 = .ok (.iaload, 1) := by decide +kernel
theorem dX5_order_54 : decode cX5_order 54 = .ok (.goto 5, 3) := by decide +kernel
theorem dX5_order_57 : decode cX5_order 57 = .ok (.bipush (-9), 2) := by decide +kernel
theorem dX5_order_59 : decode cX5_order 59 = .ok (.ireturn, 1) := by decide +kernel
theorem dX5_asMet_0 : decode cX5_asMet 0 = .ok (.iconst 0, 1) := by decide +kernel
theorem dX5_asMet_1 : decode cX5_asMet 1 = .ok (.istore_n 2, 1) := by decide +kernel
theorem dX5_asMet_2 : decode cX5_asMet 2 = .ok (.iload_n 2, 1) := by decide +kernel
theorem dX5_asMet_3 : decode cX5_asMet 3 = .ok (.aload_n 0, 1) := by decide +kernel
theorem dX5_asMet_4 : decode cX5_asMet 4 = .ok (.getfield 80, 3) := by decide +kernel
theorem dX5_asMet_7 : decode cX5_asMet 7 = .ok (.if_icmp .ge 38, 3) := by decide +kernel
theorem dX5_asMet_10 : decode cX5_asMet 10 = .ok (.aload_n 0, 1) := by decide +kernel
theorem dX5_asMet_11 : decode cX5_asMet 11 = .ok (.getfield 16, 3) := by decide +kernel
theorem dX5_asMet_14 : decode cX5_asMet 14 = .ok (.iload_n 2, 1) := by decide +kernel
theorem dX5_asMet_15 : decode cX5_asMet 15 = .ok (.iload_n 1, 1) := by decide +kernel
theorem dX5_asMet_16 : decode cX5_asMet 16 = .ok (.iload_n 2, 1) := by decide +kernel
theorem dX5_asMet_17 : decode cX5_asMet 17 = .ok (.invokestatic 222, 3) := by decide +kernel
theorem dX5_asMet_20 : decode cX5_asMet 20 = .ok (.ifCond .eq 12, 3) := by decide +kernel
theorem dX5_asMet_23 : decode cX5_asMet 23 = .ok (.aload_n 0, 1) := by decide +kernel
theorem dX5_asMet_24 : decode cX5_asMet 24 = .ok (.getfield 34, 3) := by decide +kernel
theorem dX5_asMet_27 : decode cX5_asMet 27 = .ok (.iload_n 2, 1) := by decide +kernel
theorem dX5_asMet_28 : decode cX5_asMet 28 = .ok (.iaload, 1) := by decide +kernel
theorem dX5_asMet_29 : decode cX5_asMet 29 = .ok (.goto 9, 3) := by decide +kernel
theorem dX5_asMet_32 : decode cX5_asMet 32 = .ok (.aload_n 0, 1) := by decide +kernel
theorem dX5_asMet_33 : decode cX5_asMet 33 = .ok (.getfield 37, 3) := by decide +kernel
theorem dX5_asMet_36 : decode cX5_asMet 36 = .ok (.iload_n 2, 1) := by decide +kernel
theorem dX5_asMet_37 : decode cX5_asMet 37 = .ok (.iaload, 1) := by decide +kernel
theorem dX5_asMet_38 : decode cX5_asMet 38 = .ok (.iastore, 1) := by decide +kernel
theorem dX5_asMet_39 : decode cX5_asMet 39 = .ok (.iinc 2 1, 3) := by decide +kernel
theorem dX5_asMet_42 : decode cX5_asMet 42 = .ok (.goto (-40), 3) := by decide +kernel
theorem dX5_asMet_45 : decode cX5_asMet 45 = .ok (.return_, 1) := by decide +kernel
theorem dX5_spreads_0 : decode cX5_spreads 0 = .ok (.iconst 0, 1) := by decide +kernel
theorem dX5_spreads_1 : decode cX5_spreads 1 = .ok (.istore_n 2, 1) := by decide +kernel
theorem dX5_spreads_2 : decode cX5_spreads 2 = .ok (.iload_n 2, 1) := by decide +kernel
theorem dX5_spreads_3 : decode cX5_spreads 3 = .ok (.bipush 64, 2) := by decide +kernel
theorem dX5_spreads_5 : decode cX5_spreads 5 = .ok (.if_icmp .ge 94, 3) := by decide +kernel
theorem dX5_spreads_8 : decode cX5_spreads 8 = .ok (.iconst 0, 1) := by decide +kernel
theorem dX5_spreads_9 : decode cX5_spreads 9 = .ok (.istore_n 3, 1) := by decide +kernel
theorem dX5_spreads_10 : decode cX5_spreads 10 = .ok (.iload_n 3, 1) := by decide +kernel
theorem dX5_spreads_11 : decode cX5_spreads 11 = .ok (.aload_n 0, 1) := by decide +kernel
theorem dX5_spreads_12 : decode cX5_spreads 12 = .ok (.getfield 80, 3) := by decide +kernel
theorem dX5_spreads_15 : decode cX5_spreads 15 = .ok (.if_icmp .ge 78, 3) := by decide +kernel
theorem dX5_spreads_18 : decode cX5_spreads 18 = .ok (.aload_n 0, 1) := by decide +kernel
theorem dX5_spreads_19 : decode cX5_spreads 19 = .ok (.getfield 49, 3) := by decide +kernel
theorem dX5_spreads_22 : decode cX5_spreads 22 = .ok (.iload_n 2, 1) := by decide +kernel
theorem dX5_spreads_23 : decode cX5_spreads 23 = .ok (.iaload, 1) := by decide +kernel
theorem dX5_spreads_24 : decode cX5_spreads 24 = .ok (.iload_n 1, 1) := by decide +kernel
theorem dX5_spreads_25 : decode cX5_spreads 25 = .ok (.if_icmp .ne 68, 3) := by decide +kernel
theorem dX5_spreads_28 : decode cX5_spreads 28 = .ok (.aload_n 0, 1) := by decide +kernel
theorem dX5_spreads_29 : decode cX5_spreads 29 = .ok (.iload_n 2, 1) := by decide +kernel
theorem dX5_spreads_30 : decode cX5_spreads 30 = .ok (.invokevirtual 225, 3) := by decide +kernel
theorem dX5_spreads_33 : decode cX5_spreads 33 = .ok (.aload_n 0, 1) := by decide +kernel
theorem dX5_spreads_34 : decode cX5_spreads 34 = .ok (.iload_n 3, 1) := by decide +kernel
theorem dX5_spreads_35 : decode cX5_spreads 35 = .ok (.invokevirtual 165, 3) := by decide +kernel
theorem dX5_spreads_38 : decode cX5_spreads 38 = .ok (.istore 4, 2) := by decide +kernel
theorem dX5_spreads_40 : decode cX5_spreads 40 = .ok (.iload 4, 2) := by decide +kernel
theorem dX5_spreads_42 : decode cX5_spreads 42 = .ok (.ifCond .ge 7, 3) := by decide +kernel
theorem dX5_spreads_45 : decode cX5_spreads 45 = .ok (.iload_n 2, 1) := by decide +kernel
theorem dX5_spreads_46 : decode cX5_spreads 46 = .ok (.goto 9, 3) := by decide +kernel
theorem dX5_spreads_49 : decode cX5_spreads 49 = .ok (.iload_n 2, 1) := by decide +kernel
theorem dX5_spreads_50 : decode cX5_spreads 50 = .ok (.iconst 1, 1) := by decide +kernel
theorem dX5_spreads_51 : decode cX5_spreads 51 = .ok (.iload 4, 2) := by decide +kernel
theorem dX5_spreads_53 : decode cX5_spreads 53 = .ok (.ishl, 1) := by decide +kernel
theorem dX5_spreads_54 : decode cX5_spreads 54 = .ok (.ior, 1) := by decide +kernel
theorem dX5_spreads_55 : decode cX5_spreads 55 = .ok (.istore 5, 2) := by decide +kernel
theorem dX5_spreads_57 : decode cX5_spreads 57 = .ok (.aload_n 0, 1) := by decide +kernel
theorem dX5_spreads_58 : decode cX5_spreads 58 = .ok (.getfield 49, 3) := by decide +kernel
theorem dX5_spreads_61 : decode cX5_spreads 61 = .ok (.iload 5, 2) := by decide +kernel
theorem dX5_spreads_63 : decode cX5_spreads 63 = .ok (.aload_n 0, 1) := by decide +kernel
theorem dX5_spreads_64 : decode cX5_spreads 64 = .ok (.getfield 49, 3) := by decide +kernel
theorem dX5_spreads_67 : decode cX5_spreads 67 = .ok (.iload 5, 2) := by decide +kernel
theorem dX5_spreads_69 : decode cX5_spreads 69 = .ok (.iaload, 1) := by decide +kernel
theorem dX5_spreads_70 : decode cX5_spreads 70 = .ok (.ifCond .ge 9, 3) := by decide +kernel
theorem dX5_spreads_73 : decode cX5_spreads 73 = .ok (.iload_n 1, 1) := by decide +kernel
theorem dX5_spreads_74 : decode cX5_spreads 74 = .ok (.iconst 1, 1) := by decide +kernel
theorem dX5_spreads_75 : decode cX5_spreads 75 = .ok (.iadd, 1) := by decide +kernel
theorem dX5_spreads_76 : decode cX5_spreads 76 = .ok (.goto 10, 3) := by decide +kernel
theorem dX5_spreads_79 : decode cX5_spreads 79 = .ok (.aload_n 0, 1) := by decide +kernel
theorem dX5_spreads_80 : decode cX5_spreads 80 = .ok (.getfield 49, 3) := by decide +kernel
theorem dX5_spreads_83 : decode cX5_spreads 83 = .ok (.iload 5, 2) := by decide +kernel
theorem dX5_spreads_85 : decode cX5_spreads 85 = .ok (.iaload, 1) := by decide +kernel
theorem dX5_spreads_86 : decode cX5_spreads 86 = .ok (.iastore, 1) := by decide +kernel
theorem dX5_spreads_87 : decode cX5_spreads 87 = .ok (.iinc 3 1, 3) := by decide +kernel
theorem dX5_spreads_90 : decode cX5_spreads 90 = .ok (.goto (-80), 3) := by decide +kernel
theorem dX5_spreads_93 : decode cX5_spreads 93 = .ok (.iinc 2 1, 3) := by decide +kernel
theorem dX5_spreads_96 : decode cX5_spreads 96 = .ok (.goto (-94), 3) := by decide +kernel
theorem dX5_spreads_99 : decode cX5_spreads 99 = .ok (.return_, 1) := by decide +kernel
theorem dX5_ahead_0 : decode cX5_ahead 0 = .ok (.aload_n 0, 1) := by decide +kernel
theorem dX5_ahead_1 : decode cX5_ahead 1 = .ok (.iload_n 1, 1) := by decide +kernel
theorem dX5_ahead_2 : decode cX5_ahead 2 = .ok (.invokevirtual 162, 3) := by decide +kernel
theorem dX5_ahead_5 : decode cX5_ahead 5 = .ok (.ifCond .eq 5, 3) := by decide +kernel
theorem dX5_ahead_8 : decode cX5_ahead 8 = .ok (.iconst (-1), 1) := by decide +kernel
theorem dX5_ahead_9 : decode cX5_ahead 9 = .ok (.ireturn, 1) := by decide +kernel
theorem dX5_ahead_10 : decode cX5_ahead 10 = .ok (.aload_n 0, 1) := by decide +kernel
theorem dX5_ahead_11 : decode cX5_ahead 11 = .ok (.invokevirtual 190, 3) := by decide +kernel
theorem dX5_ahead_14 : decode cX5_ahead 14 = .ok (.iconst 0, 1) := by decide +kernel
theorem dX5_ahead_15 : decode cX5_ahead 15 = .ok (.istore_n 2, 1) := by decide +kernel
theorem dX5_ahead_16 : decode cX5_ahead 16 = .ok (.iload_n 2, 1) := by decide +kernel
theorem dX5_ahead_17 : decode cX5_ahead 17 = .ok (.bipush 64, 2) := by decide +kernel
theorem dX5_ahead_19 : decode cX5_ahead 19 = .ok (.if_icmp .ge 25, 3) := by decide +kernel
theorem dX5_ahead_22 : decode cX5_ahead 22 = .ok (.aload_n 0, 1) := by decide +kernel
theorem dX5_ahead_23 : decode cX5_ahead 23 = .ok (.getfield 49, 3) := by decide +kernel
theorem dX5_ahead_26 : decode cX5_ahead 26 = .ok (.iload_n 2, 1) := by decide +kernel
theorem dX5_ahead_27 : decode cX5_ahead 27 = .ok (.iload_n 2, 1) := by decide +kernel
theorem dX5_ahead_28 : decode cX5_ahead 28 = .ok (.ifCond .ne 7, 3) := by decide +kernel
theorem dX5_ahead_31 : decode cX5_ahead 31 = .ok (.iconst 0, 1) := by decide +kernel
theorem dX5_ahead_32 : decode cX5_ahead 32 = .ok (.goto 5, 3) := by decide +kernel
theorem dX5_ahead_35 : decode cX5_ahead 35 = .ok (.bipush (-9), 2) := by decide +kernel
theorem dX5_ahead_37 : decode cX5_ahead 37 = .ok (.iastore, 1) := by decide +kernel
theorem dX5_ahead_38 : decode cX5_ahead 38 = .ok (.iinc 2 1, 3) := by decide +kernel
theorem dX5_ahead_41 : decode cX5_ahead 41 = .ok (.goto (-25), 3) := by decide +kernel
theorem dX5_ahead_44 : decode cX5_ahead 44 = .ok (.iconst 0, 1) := by decide +kernel
theorem dX5_ahead_45 : decode cX5_ahead 45 = .ok (.istore_n 2, 1) := by decide +kernel
theorem dX5_ahead_46 : decode cX5_ahead 46 = .ok (.iload_n 2, 1) := by decide +kernel
theorem dX5_ahead_47 : decode cX5_ahead 47 = .ok (.bipush 7, 2) := by decide +kernel
theorem dX5_ahead_49 : decode cX5_ahead 49 = .ok (.if_icmp .ge 14, 3) := by decide +kernel
theorem dX5_ahead_52 : decode cX5_ahead 52 = .ok (.aload_n 0, 1) := by decide +kernel
theorem dX5_ahead_53 : decode cX5_ahead 53 = .ok (.iload_n 2, 1) := by decide +kernel
theorem dX5_ahead_54 : decode cX5_ahead 54 = .ok (.invokevirtual 229, 3) := by decide +kernel
theorem dX5_ahead_57 : decode cX5_ahead 57 = .ok (.iinc 2 1, 3) := by decide +kernel
theorem dX5_ahead_60 : decode cX5_ahead 60 = .ok (.goto (-14), 3) := by decide +kernel
theorem dX5_ahead_63 : decode cX5_ahead 63 = .ok (.bipush (-9), 2) := by decide +kernel
theorem dX5_ahead_65 : decode cX5_ahead 65 = .ok (.istore_n 2, 1) := by decide +kernel
theorem dX5_ahead_66 : decode cX5_ahead 66 = .ok (.iconst 0, 1) := by decide +kernel
theorem dX5_ahead_67 : decode cX5_ahead 67 = .ok (.istore_n 3, 1) := by decide +kernel
theorem dX5_ahead_68 : decode cX5_ahead 68 = .ok (.iload_n 3, 1) := by decide +kernel
theorem dX5_ahead_69 : decode cX5_ahead 69 = .ok (.bipush 64, 2) := by decide +kernel
theorem dX5_ahead_71 : decode cX5_ahead 71 = .ok (.if_icmp .ge 69, 3) := by decide +kernel
theorem dX5_ahead_74 : decode cX5_ahead 74 = .ok (.aload_n 0, 1) := by decide +kernel
theorem dX5_ahead_75 : decode cX5_ahead 75 = .ok (.iload_n 3, 1) := by decide +kernel
theorem dX5_ahead_76 : decode cX5_ahead 76 = .ok (.invokevirtual 225, 3) := by decide +kernel
theorem dX5_ahead_79 : decode cX5_ahead 79 = .ok (.aload_n 0, 1) := by decide +kernel
theorem dX5_ahead_80 : decode cX5_ahead 80 = .ok (.getfield 49, 3) := by decide +kernel
theorem dX5_ahead_83 : decode cX5_ahead 83 = .ok (.iload_n 3, 1) := by decide +kernel
theorem dX5_ahead_84 : decode cX5_ahead 84 = .ok (.iaload, 1) := by decide +kernel
theorem dX5_ahead_85 : decode cX5_ahead 85 = .ok (.ifCond .lt 16, 3) := by decide +kernel
theorem dX5_ahead_88 : decode cX5_ahead 88 = .ok (.aload_n 0, 1) := by decide +kernel
theorem dX5_ahead_89 : decode cX5_ahead 89 = .ok (.iload_n 1, 1) := by decide +kernel
theorem dX5_ahead_90 : decode cX5_ahead 90 = .ok (.invokevirtual 165, 3) := by decide +kernel
theorem dX5_ahead_93 : decode cX5_ahead 93 = .ok (.iload_n 1, 1) := by decide +kernel
theorem dX5_ahead_94 : decode cX5_ahead 94 = .ok (.if_icmp .ne 7, 3) := by decide +kernel
theorem dX5_ahead_97 : decode cX5_ahead 97 = .ok (.iconst 1, 1) := by decide +kernel
theorem dX5_ahead_98 : decode cX5_ahead 98 = .ok (.goto 4, 3) := by decide +kernel
theorem dX5_ahead_101 : decode cX5_ahead 101 = .ok (.iconst 0, 1) := by decide +kernel
theorem dX5_ahead_102 : decode cX5_ahead 102 = .ok (.istore 4, 2) := by decide +kernel
theorem dX5_ahead_104 : decode cX5_ahead 104 = .ok (.iload 4, 2) := by decide +kernel
theorem dX5_ahead_106 : decode cX5_ahead 106 = .ok (.ifCond .eq 26, 3) := by decide +kernel
theorem dX5_ahead_109 : decode cX5_ahead 109 = .ok (.iload_n 2, 1) := by decide +kernel
theorem dX5_ahead_110 : decode cX5_ahead 110 = .ok (.ifCond .lt 13, 3) := by decide +kernel
theorem dX5_ahead_113 : decode cX5_ahead 113 = .ok (.aload_n 0, 1) := by decide +kernel
theorem dX5_ahead_114 : decode cX5_ahead 114 = .ok (.getfield 49, 3) := by decide +kernel
theorem dX5_ahead_117 : decode cX5_ahead 117 = .ok (.iload_n 3, 1) := by decide +kernel
theorem dX5_ahead_118 : decode cX5_ahead 118 = .ok (.iaload, 1) := by decide +kernel
theorem dX5_ahead_119 : decode cX5_ahead 119 = .ok (.iload_n 2, 1) := by decide +kernel
theorem dX5_ahead_120 : decode cX5_ahead 120 = .ok (.if_icmp .ge 12, 3) := by decide +kernel
theorem dX5_ahead_123 : decode cX5_ahead 123 = .ok (.aload_n 0, 1) := by decide +kernel
theorem dX5_ahead_124 : decode cX5_ahead 124 = .ok (.getfield 49, 3) := by decide +kernel
theorem dX5_ahead_127 : decode cX5_ahead 127 = .ok (.iload_n 3, 1) := by decide +kernel
theorem dX5_ahead_128 : decode cX5_ahead 128 = .ok (.iaload, 1) := by decide +kernel
theorem dX5_ahead_129 : decode cX5_ahead 129 = .ok (.goto 4, 3) := by decide +kernel
theorem dX5_ahead_132 : decode cX5_ahead 132 = .ok (.iload_n 2, 1) := by decide +kernel
theorem dX5_ahead_133 : decode cX5_ahead 133 = .ok (.istore_n 2, 1) := by decide +kernel
theorem dX5_ahead_134 : decode cX5_ahead 134 = .ok (.iinc 3 1, 3) := by decide +kernel
theorem dX5_ahead_137 : decode cX5_ahead 137 = .ok (.goto (-69), 3) := by decide +kernel
theorem dX5_ahead_140 : decode cX5_ahead 140 = .ok (.aload_n 0, 1) := by decide +kernel
theorem dX5_ahead_141 : decode cX5_ahead 141 = .ok (.invokevirtual 197, 3) := by decide +kernel
theorem dX5_ahead_144 : decode cX5_ahead 144 = .ok (.iload_n 2, 1) := by decide +kernel
theorem dX5_ahead_145 : decode cX5_ahead 145 = .ok (.ireturn, 1) := by decide +kernel
theorem dX5_reading_0 : decode cX5_reading 0 = .ok (.aload_n 0, 1) := by decide +kernel
theorem dX5_reading_1 : decode cX5_reading 1 = .ok (.iload_n 1, 1) := by decide +kernel
theorem dX5_reading_2 : decode cX5_reading 2 = .ok (.invokevirtual 162, 3) := by decide +kernel
theorem dX5_reading_5 : decode cX5_reading 5 = .ok (.ifCond .ne 17, 3) := by decide +kernel
theorem dX5_reading_8 : decode cX5_reading 8 = .ok (.aload_n 0, 1) := by decide +kernel
theorem dX5_reading_9 : decode cX5_reading 9 = .ok (.iload_n 2, 1) := by decide +kernel
theorem dX5_reading_10 : decode cX5_reading 10 = .ok (.invokevirtual 162, 3) := by decide +kernel
theorem dX5_reading_13 : decode cX5_reading 13 = .ok (.ifCond .eq 11, 3) := by decide +kernel
theorem dX5_reading_16 : decode cX5_reading 16 = .ok (.iload_n 2, 1) := by decide +kernel
theorem dX5_reading_17 : decode cX5_reading 17 = .ok (.bipush (-9), 2) := by decide +kernel
theorem dX5_reading_19 : decode cX5_reading 19 = .ok (.if_icmp .eq 5, 3) := by decide +kernel
theorem dX5_reading_22 : decode cX5_reading 22 = .ok (.iconst (-1), 1) := by decide +kernel
theorem dX5_reading_23 : decode cX5_reading 23 = .ok (.ireturn, 1) := by decide +kernel
theorem dX5_reading_24 : decode cX5_reading 24 = .ok (.aload_n 0, 1) := by decide +kernel
theorem dX5_reading_25 : decode cX5_reading 25 = .ok (.getfield 144, 3) := by decide +kernel
theorem dX5_reading_28 : decode cX5_reading 28 = .ok (.bipush 8, 2) := by decide +kernel
theorem dX5_reading_30 : decode cX5_reading 30 = .ok (.if_icmp .ne 6, 3) := by decide +kernel
theorem dX5_reading_33 : decode cX5_reading 33 = .ok (.bipush (-4), 2) := by decide +kernel
theorem dX5_reading_35 : decode cX5_reading 35 = .ok (.ireturn, 1) := by decide +kernel
theorem dX5_reading_36 : decode cX5_reading 36 = .ok (.aload_n 0, 1) := by decide +kernel
theorem dX5_reading_37 : decode cX5_reading 37 = .ok (.getfield 52, 3) := by decide +kernel
theorem dX5_reading_40 : decode cX5_reading 40 = .ok (.aload_n 0, 1) := by decide +kernel
theorem dX5_reading_41 : decode cX5_reading 41 = .ok (.getfield 144, 3) := by decide +kernel
theorem dX5_reading_44 : decode cX5_reading 44 = .ok (.iload_n 1, 1) := by decide +kernel
theorem dX5_reading_45 : decode cX5_reading 45 = .ok (.iastore, 1) := by decide +kernel
theorem dX5_reading_46 : decode cX5_reading 46 = .ok (.aload_n 0, 1) := by decide +kernel
theorem dX5_reading_47 : decode cX5_reading 47 = .ok (.getfield 55, 3) := by decide +kernel
theorem dX5_reading_50 : decode cX5_reading 50 = .ok (.aload_n 0, 1) := by decide +kernel
theorem dX5_reading_51 : decode cX5_reading 51 = .ok (.getfield 144, 3) := by decide +kernel
theorem dX5_reading_54 : decode cX5_reading 54 = .ok (.iload_n 2, 1) := by decide +kernel
theorem dX5_reading_55 : decode cX5_reading 55 = .ok (.iastore, 1) := by decide +kernel
theorem dX5_reading_56 : decode cX5_reading 56 = .ok (.aload_n 0, 1) := by decide +kernel
theorem dX5_reading_57 : decode cX5_reading 57 = .ok (.dup, 1) := by decide +kernel
theorem dX5_reading_58 : decode cX5_reading 58 = .ok (.getfield 144, 3) := by decide +kernel
theorem dX5_reading_61 : decode cX5_reading 61 = .ok (.iconst 1, 1) := by decide +kernel
theorem dX5_reading_62 : decode cX5_reading 62 = .ok (.iadd, 1) := by decide +kernel
theorem dX5_reading_63 : decode cX5_reading 63 = .ok (.putfield 144, 3) := by decide +kernel
theorem dX5_reading_66 : decode cX5_reading 66 = .ok (.aload_n 0, 1) := by decide +kernel
theorem dX5_reading_67 : decode cX5_reading 67 = .ok (.getfield 144, 3) := by decide +kernel
theorem dX5_reading_70 : decode cX5_reading 70 = .ok (.iconst 1, 1) := by decide +kernel
theorem dX5_reading_71 : decode cX5_reading 71 = .ok (.isub, 1) := by decide +kernel
theorem dX5_reading_72 : decode cX5_reading 72 = .ok (.ireturn, 1) := by decide +kernel
theorem dX5_back_0 : decode cX5_back 0 = .ok (.iload_n 1, 1) := by decide +kernel
theorem dX5_back_1 : decode cX5_back 1 = .ok (.i2l, 1) := by decide +kernel
theorem dX5_back_2 : decode cX5_back 2 = .ok (.lconst 0, 1) := by decide +kernel
theorem dX5_back_3 : decode cX5_back 3 = .ok (.aload_n 0, 1) := by decide +kernel
theorem dX5_back_4 : decode cX5_back 4 = .ok (.getfield 144, 3) := by decide +kernel
theorem dX5_back_7 : decode cX5_back 7 = .ok (.i2l, 1) := by decide +kernel
theorem dX5_back_8 : decode cX5_back 8 = .ok (.invokestatic 83, 3) := by decide +kernel
theorem dX5_back_11 : decode cX5_back 11 = .ok (.ifCond .ne 6, 3) := by decide +kernel
theorem dX5_back_14 : decode cX5_back 14 = .ok (.bipush (-2), 2) := by decide +kernel
theorem dX5_back_16 : decode cX5_back 16 = .ok (.ireturn, 1) := by decide +kernel
theorem dX5_back_17 : decode cX5_back 17 = .ok (.aload_n 0, 1) := by decide +kernel
theorem dX5_back_18 : decode cX5_back 18 = .ok (.dup, 1) := by decide +kernel
theorem dX5_back_19 : decode cX5_back 19 = .ok (.getfield 144, 3) := by decide +kernel
theorem dX5_back_22 : decode cX5_back 22 = .ok (.iload_n 1, 1) := by decide +kernel
theorem dX5_back_23 : decode cX5_back 23 = .ok (.isub, 1) := by decide +kernel
theorem dX5_back_24 : decode cX5_back 24 = .ok (.putfield 144, 3) := by decide +kernel
theorem dX5_back_27 : decode cX5_back 27 = .ok (.aload_n 0, 1) := by decide +kernel
theorem dX5_back_28 : decode cX5_back 28 = .ok (.getfield 144, 3) := by decide +kernel
theorem dX5_back_31 : decode cX5_back 31 = .ok (.ireturn, 1) := by decide +kernel
theorem dX5_areSo_0 : decode cX5_areSo 0 = .ok (.iconst 1, 1) := by decide +kernel
theorem dX5_areSo_1 : decode cX5_areSo 1 = .ok (.istore_n 1, 1) := by decide +kernel
theorem dX5_areSo_2 : decode cX5_areSo 2 = .ok (.iconst 0, 1) := by decide +kernel
theorem dX5_areSo_3 : decode cX5_areSo 3 = .ok (.istore_n 2, 1) := by decide +kernel
theorem dX5_areSo_4 : decode cX5_areSo 4 = .ok (.iload_n 2, 1) := by decide +kernel
theorem dX5_areSo_5 : decode cX5_areSo 5 = .ok (.aload_n 0, 1) := by decide +kernel
theorem dX5_areSo_6 : decode cX5_areSo 6 = .ok (.getfield 144, 3) := by decide +kernel
theorem dX5_areSo_9 : decode cX5_areSo 9 = .ok (.if_icmp .ge 38, 3) := by decide +kernel
theorem dX5_areSo_12 : decode cX5_areSo 12 = .ok (.iload_n 1, 1) := by decide +kernel
theorem dX5_areSo_13 : decode cX5_areSo 13 = .ok (.ifCond .eq 26, 3) := by decide +kernel
theorem dX5_areSo_16 : decode cX5_areSo 16 = .ok (.aload_n 0, 1) := by decide +kernel
theorem dX5_areSo_17 : decode cX5_areSo 17 = .ok (.aload_n 0, 1) := by decide +kernel
theorem dX5_areSo_18 : decode cX5_areSo 18 = .ok (.getfield 52, 3) := by decide +kernel
theorem dX5_areSo_21 : decode cX5_areSo 21 = .ok (.iload_n 2, 1) := by decide +kernel
theorem dX5_areSo_22 : decode cX5_areSo 22 = .ok (.iaload, 1) := by decide +kernel
theorem dX5_areSo_23 : decode cX5_areSo 23 = .ok (.invokevirtual 165, 3) := by decide +kernel
theorem dX5_areSo_26 : decode cX5_areSo 26 = .ok (.aload_n 0, 1) := by decide +kernel
theorem dX5_areSo_27 : decode cX5_areSo 27 = .ok (.getfield 55, 3) := by decide +kernel
theorem dX5_areSo_30 : decode cX5_areSo 30 = .ok (.iload_n 2, 1) := by decide +kernel
theorem dX5_areSo_31 : decode cX5_areSo 31 = .ok (.iaload, 1) := by decide +kernel
theorem dX5_areSo_32 : decode cX5_areSo 32 = .ok (.if_icmp .ne 7, 3) := by decide +kernel
theorem dX5_areSo_35 : decode cX5_areSo 35 = .ok (.iconst 1, 1) := by decide +kernel
theorem dX5_areSo_36 : decode cX5_areSo 36 = .ok (.goto 4, 3) := by decide +kernel
theorem dX5_areSo_39 : decode cX5_areSo 39 = .ok (.iconst 0, 1) := by decide +kernel
theorem dX5_areSo_40 : decode cX5_areSo 40 = .ok (.istore_n 1, 1) := by decide +kernel
theorem dX5_areSo_41 : decode cX5_areSo 41 = .ok (.iinc 2 1, 3) := by decide +kernel
theorem dX5_areSo_44 : decode cX5_areSo 44 = .ok (.goto (-40), 3) := by decide +kernel
theorem dX5_areSo_47 : decode cX5_areSo 47 = .ok (.iload_n 1, 1) := by decide +kernel
theorem dX5_areSo_48 : decode cX5_areSo 48 = .ok (.ireturn, 1) := by decide +kernel
theorem dX5_smells_0 : decode cX5_smells 0 = .ok (.aload_n 0, 1) := by decide +kernel
theorem dX5_smells_1 : decode cX5_smells 1 = .ok (.iload_n 1, 1) := by decide +kernel
theorem dX5_smells_2 : decode cX5_smells 2 = .ok (.invokevirtual 162, 3) := by decide +kernel
theorem dX5_smells_5 : decode cX5_smells 5 = .ok (.ifCond .eq 5, 3) := by decide +kernel
theorem dX5_smells_8 : decode cX5_smells 8 = .ok (.iconst (-1), 1) := by decide +kernel
theorem dX5_smells_9 : decode cX5_smells 9 = .ok (.ireturn, 1) := by decide +kernel
theorem dX5_smells_10 : decode cX5_smells 10 = .ok (.aload_n 0, 1) := by decide +kernel
theorem dX5_smells_11 : decode cX5_smells 11 = .ok (.getfield 13, 3) := by decide +kernel
theorem dX5_smells_14 : decode cX5_smells 14 = .ok (.iload_n 1, 1) := by decide +kernel
theorem dX5_smells_15 : decode cX5_smells 15 = .ok (.iaload, 1) := by decide +kernel
theorem dX5_smells_16 : decode cX5_smells 16 = .ok (.istore_n 2, 1) := by decide +kernel
theorem dX5_smells_17 : decode cX5_smells 17 = .ok (.iconst 0, 1) := by decide +kernel
theorem dX5_smells_18 : decode cX5_smells 18 = .ok (.istore_n 3, 1) := by decide +kernel
theorem dX5_smells_19 : decode cX5_smells 19 = .ok (.iconst 0, 1) := by decide +kernel
theorem dX5_smells_20 : decode cX5_smells 20 = .ok (.istore 4, 2) := by decide +kernel
theorem dX5_smells_22 : decode cX5_smells 22 = .ok (.iload 4, 2) := by decide +kernel
theorem dX5_smells_24 : decode cX5_smells 24 = .ok (.bipush 8, 2) := by decide +kernel
theorem dX5_smells_26 : decode cX5_smells 26 = .ok (.if_icmp .ge 35, 3) := by decide +kernel
theorem dX5_smells_29 : decode cX5_smells 29 = .ok (.aload_n 0, 1) := by decide +kernel
theorem dX5_smells_30 : decode cX5_smells 30 = .ok (.getfield 13, 3) := by decide +kernel
theorem dX5_smells_33 : decode cX5_smells 33 = .ok (.iload_n 1, 1) := by decide +kernel
theorem dX5_smells_34 : decode cX5_smells 34 = .ok (.iload 4, 2) := by decide +kernel
theorem dX5_smells_36 : decode cX5_smells 36 = .ok (.iastore, 1) := by decide +kernel
theorem dX5_smells_37 : decode cX5_smells 37 = .ok (.iload_n 3, 1) := by decide +kernel
theorem dX5_smells_38 : decode cX5_smells 38 = .ok (.aload_n 0, 1) := by decide +kernel
theorem dX5_smells_39 : decode cX5_smells 39 = .ok (.invokevirtual 232, 3) := by decide +kernel
theorem dX5_smells_42 : decode cX5_smells 42 = .ok (.ifCond .eq 10, 3) := by decide +kernel
theorem dX5_smells_45 : decode cX5_smells 45 = .ok (.iconst 1, 1) := by decide +kernel
theorem dX5_smells_46 : decode cX5_smells 46 = .ok (.iload 4, 2) := by decide +kernel
theorem dX5_smells_48 : decode cX5_smells 48 = .ok (.ishl, 1) := by decide +kernel
theorem dX5_smells_49 : decode cX5_smells 49 = .ok (.goto 4, 3) := by decide +kernel
theorem dX5_smells_52 : decode cX5_smells 52 = .ok (.iconst 0, 1) := by decide +kernel
theorem dX5_smells_53 : decode cX5_smells 53 = .ok (.ior, 1) := by decide +kernel
theorem dX5_smells_54 : decode cX5_smells 54 = .ok (.istore_n 3, 1) := by decide +kernel
theorem dX5_smells_55 : decode cX5_smells 55 = .ok (.iinc 4 1, 3) := by decide +kernel
theorem dX5_smells_58 : decode cX5_smells 58 = .ok (.goto (-36), 3) := by decide +kernel
theorem dX5_smells_61 : decode cX5_smells 61 = .ok (.aload_n 0, 1) := by decide +kernel
theorem dX5_smells_62 : decode cX5_smells 62 = .ok (.getfield 13, 3) := by decide +kernel
theorem dX5_smells_65 : decode cX5_smells 65 = .ok (.iload_n 1, 1) := by decide +kernel
theorem dX5_smells_66 : decode cX5_smells 66 = .ok (.iload_n 2, 1) := by decide +kernel
theorem dX5_smells_67 : decode cX5_smells 67 = .ok (.iastore, 1) := by decide +kernel
theorem dX5_smells_68 : decode cX5_smells 68 = .ok (.iload_n 3, 1) := by decide +kernel
theorem dX5_smells_69 : decode cX5_smells 69 = .ok (.ireturn, 1) := by decide +kernel
theorem dX5_pasts_0 : decode cX5_pasts 0 = .ok (.aload_n 0, 1) := by decide +kernel
theorem dX5_pasts_1 : decode cX5_pasts 1 = .ok (.iload_n 1, 1) := by decide +kernel
theorem dX5_pasts_2 : decode cX5_pasts 2 = .ok (.invokevirtual 162, 3) := by decide +kernel
theorem dX5_pasts_5 : decode cX5_pasts 5 = .ok (.ifCond .eq 5, 3) := by decide +kernel
theorem dX5_pasts_8 : decode cX5_pasts 8 = .ok (.iconst (-1), 1) := by decide +kernel
theorem dX5_pasts_9 : decode cX5_pasts 9 = .ok (.ireturn, 1) := by decide +kernel
theorem dX5_pasts_10 : decode cX5_pasts 10 = .ok (.aload_n 0, 1) := by decide +kernel
theorem dX5_pasts_11 : decode cX5_pasts 11 = .ok (.getfield 16, 3) := by decide +kernel
theorem dX5_pasts_14 : decode cX5_pasts 14 = .ok (.iload_n 1, 1) := by decide +kernel
theorem dX5_pasts_15 : decode cX5_pasts 15 = .ok (.iaload, 1) := by decide +kernel
theorem dX5_pasts_16 : decode cX5_pasts 16 = .ok (.istore_n 2, 1) := by decide +kernel
theorem dX5_pasts_17 : decode cX5_pasts 17 = .ok (.iconst 0, 1) := by decide +kernel
theorem dX5_pasts_18 : decode cX5_pasts 18 = .ok (.istore_n 3, 1) := by decide +kernel
theorem dX5_pasts_19 : decode cX5_pasts 19 = .ok (.iconst 0, 1) := by decide +kernel
theorem dX5_pasts_20 : decode cX5_pasts 20 = .ok (.istore 4, 2) := by decide +kernel
theorem dX5_pasts_22 : decode cX5_pasts 22 = .ok (.iload 4, 2) := by decide +kernel
theorem dX5_pasts_24 : decode cX5_pasts 24 = .ok (.bipush 8, 2) := by decide +kernel
theorem dX5_pasts_26 : decode cX5_pasts 26 = .ok (.if_icmp .ge 35, 3) := by decide +kernel
theorem dX5_pasts_29 : decode cX5_pasts 29 = .ok (.aload_n 0, 1) := by decide +kernel
theorem dX5_pasts_30 : decode cX5_pasts 30 = .ok (.getfield 16, 3) := by decide +kernel
theorem dX5_pasts_33 : decode cX5_pasts 33 = .ok (.iload_n 1, 1) := by decide +kernel
theorem dX5_pasts_34 : decode cX5_pasts 34 = .ok (.iload 4, 2) := by decide +kernel
theorem dX5_pasts_36 : decode cX5_pasts 36 = .ok (.iastore, 1) := by decide +kernel
theorem dX5_pasts_37 : decode cX5_pasts 37 = .ok (.iload_n 3, 1) := by decide +kernel
theorem dX5_pasts_38 : decode cX5_pasts 38 = .ok (.aload_n 0, 1) := by decide +kernel
theorem dX5_pasts_39 : decode cX5_pasts 39 = .ok (.invokevirtual 232, 3) := by decide +kernel
theorem dX5_pasts_42 : decode cX5_pasts 42 = .ok (.ifCond .eq 10, 3) := by decide +kernel
theorem dX5_pasts_45 : decode cX5_pasts 45 = .ok (.iconst 1, 1) := by decide +kernel
theorem dX5_pasts_46 : decode cX5_pasts 46 = .ok (.iload 4, 2) := by decide +kernel
theorem dX5_pasts_48 : decode cX5_pasts 48 = .ok (.ishl, 1) := by decide +kernel
theorem dX5_pasts_49 : decode cX5_pasts 49 = .ok (.goto 4, 3) := by decide +kernel
theorem dX5_pasts_52 : decode cX5_pasts 52 = .ok (.iconst 0, 1) := by decide +kernel
theorem dX5_pasts_53 : decode cX5_pasts 53 = .ok (.ior, 1) := by decide +kernel
theorem dX5_pasts_54 : decode cX5_pasts 54 = .ok (.istore_n 3, 1) := by decide +kernel
theorem dX5_pasts_55 : decode cX5_pasts 55 = .ok (.iinc 4 1, 3) := by decide +kernel
theorem dX5_pasts_58 : decode cX5_pasts 58 = .ok (.goto (-36), 3) := by decide +kernel
theorem dX5_pasts_61 : decode cX5_pasts 61 = .ok (.aload_n 0, 1) := by decide +kernel
theorem dX5_pasts_62 : decode cX5_pasts 62 = .ok (.getfield 16, 3) := by decide +kernel
theorem dX5_pasts_65 : decode cX5_pasts 65 = .ok (.iload_n 1, 1) := by decide +kernel
theorem dX5_pasts_66 : decode cX5_pasts 66 = .ok (.iload_n 2, 1) := by decide +kernel
theorem dX5_pasts_67 : decode cX5_pasts 67 = .ok (.iastore, 1) := by decide +kernel
theorem dX5_pasts_68 : decode cX5_pasts 68 = .ok (.iload_n 3, 1) := by decide +kernel
theorem dX5_pasts_69 : decode cX5_pasts 69 = .ok (.ireturn, 1) := by decide +kernel
theorem dX5_kinds_0 : decode cX5_kinds 0 = .ok (.aload_n 0, 1) := by decide +kernel
theorem dX5_kinds_1 : decode cX5_kinds 1 = .ok (.iload_n 1, 1) := by decide +kernel
theorem dX5_kinds_2 : decode cX5_kinds 2 = .ok (.invokevirtual 162, 3) := by decide +kernel
theorem dX5_kinds_5 : decode cX5_kinds 5 = .ok (.ifCond .eq 5, 3) := by decide +kernel
theorem dX5_kinds_8 : decode cX5_kinds 8 = .ok (.iconst (-1), 1) := by decide +kernel
theorem dX5_kinds_9 : decode cX5_kinds 9 = .ok (.ireturn, 1) := by decide +kernel
theorem dX5_kinds_10 : decode cX5_kinds 10 = .ok (.aload_n 0, 1) := by decide +kernel
theorem dX5_kinds_11 : decode cX5_kinds 11 = .ok (.getfield 7, 3) := by decide +kernel
theorem dX5_kinds_14 : decode cX5_kinds 14 = .ok (.iload_n 1, 1) := by decide +kernel
theorem dX5_kinds_15 : decode cX5_kinds 15 = .ok (.iaload, 1) := by decide +kernel
theorem dX5_kinds_16 : decode cX5_kinds 16 = .ok (.istore_n 2, 1) := by decide +kernel
theorem dX5_kinds_17 : decode cX5_kinds 17 = .ok (.iconst 0, 1) := by decide +kernel
theorem dX5_kinds_18 : decode cX5_kinds 18 = .ok (.istore_n 3, 1) := by decide +kernel
theorem dX5_kinds_19 : decode cX5_kinds 19 = .ok (.iconst 0, 1) := by decide +kernel
theorem dX5_kinds_20 : decode cX5_kinds 20 = .ok (.istore 4, 2) := by decide +kernel
theorem dX5_kinds_22 : decode cX5_kinds 22 = .ok (.iload 4, 2) := by decide +kernel
theorem dX5_kinds_24 : decode cX5_kinds 24 = .ok (.iconst 3, 1) := by decide +kernel
theorem dX5_kinds_25 : decode cX5_kinds 25 = .ok (.if_icmp .ge 35, 3) := by decide +kernel
theorem dX5_kinds_28 : decode cX5_kinds 28 = .ok (.aload_n 0, 1) := by decide +kernel
theorem dX5_kinds_29 : decode cX5_kinds 29 = .ok (.getfield 7, 3) := by decide +kernel
theorem dX5_kinds_32 : decode cX5_kinds 32 = .ok (.iload_n 1, 1) := by decide +kernel
theorem dX5_kinds_33 : decode cX5_kinds 33 = .ok (.iload 4, 2) := by decide +kernel
theorem dX5_kinds_35 : decode cX5_kinds 35 = .ok (.iastore, 1) := by decide +kernel
theorem dX5_kinds_36 : decode cX5_kinds 36 = .ok (.iload_n 3, 1) := by decide +kernel
theorem dX5_kinds_37 : decode cX5_kinds 37 = .ok (.aload_n 0, 1) := by decide +kernel
theorem dX5_kinds_38 : decode cX5_kinds 38 = .ok (.invokevirtual 232, 3) := by decide +kernel
theorem dX5_kinds_41 : decode cX5_kinds 41 = .ok (.ifCond .eq 10, 3) := by decide +kernel
theorem dX5_kinds_44 : decode cX5_kinds 44 = .ok (.iconst 1, 1) := by decide +kernel
theorem dX5_kinds_45 : decode cX5_kinds 45 = .ok (.iload 4, 2) := by decide +kernel
theorem dX5_kinds_47 : decode cX5_kinds 47 = .ok (.ishl, 1) := by decide +kernel
theorem dX5_kinds_48 : decode cX5_kinds 48 = .ok (.goto 4, 3) := by decide +kernel
theorem dX5_kinds_51 : decode cX5_kinds 51 = .ok (.iconst 0, 1) := by decide +kernel
theorem dX5_kinds_52 : decode cX5_kinds 52 = .ok (.ior, 1) := by decide +kernel
theorem dX5_kinds_53 : decode cX5_kinds 53 = .ok (.istore_n 3, 1) := by decide +kernel
theorem dX5_kinds_54 : decode cX5_kinds 54 = .ok (.iinc 4 1, 3) := by decide +kernel
theorem dX5_kinds_57 : decode cX5_kinds 57 = .ok (.goto (-35), 3) := by decide +kernel
theorem dX5_kinds_60 : decode cX5_kinds 60 = .ok (.aload_n 0, 1) := by decide +kernel
theorem dX5_kinds_61 : decode cX5_kinds 61 = .ok (.getfield 7, 3) := by decide +kernel
theorem dX5_kinds_64 : decode cX5_kinds 64 = .ok (.iload_n 1, 1) := by decide +kernel
theorem dX5_kinds_65 : decode cX5_kinds 65 = .ok (.iload_n 2, 1) := by decide +kernel
theorem dX5_kinds_66 : decode cX5_kinds 66 = .ok (.iastore, 1) := by decide +kernel
theorem dX5_kinds_67 : decode cX5_kinds 67 = .ok (.iload_n 3, 1) := by decide +kernel
theorem dX5_kinds_68 : decode cX5_kinds 68 = .ok (.ireturn, 1) := by decide +kernel
theorem dX5_odds_0 : decode cX5_odds 0 = .ok (.aload_n 0, 1) := by decide +kernel
theorem dX5_odds_1 : decode cX5_odds 1 = .ok (.iload_n 1, 1) := by decide +kernel
theorem dX5_odds_2 : decode cX5_odds 2 = .ok (.invokevirtual 162, 3) := by decide +kernel
theorem dX5_odds_5 : decode cX5_odds 5 = .ok (.ifCond .ne 13, 3) := by decide +kernel
theorem dX5_odds_8 : decode cX5_odds 8 = .ok (.iload_n 2, 1) := by decide +kernel
theorem dX5_odds_9 : decode cX5_odds 9 = .ok (.i2l, 1) := by decide +kernel
theorem dX5_odds_10 : decode cX5_odds 10 = .ok (.lconst 0, 1) := by decide +kernel
theorem dX5_odds_11 : decode cX5_odds 11 = .ok (.lconst 1, 1) := by decide +kernel
theorem dX5_odds_12 : decode cX5_odds 12 = .ok (.invokestatic 83, 3) := by decide +kernel
theorem dX5_odds_15 : decode cX5_odds 15 = .ok (.ifCond .ne 7, 3) := by decide +kernel
theorem dX5_odds_18 : decode cX5_odds 18 = .ok (.invokestatic 76, 3) := by decide +kernel
theorem dX5_odds_21 : decode cX5_odds 21 = .ok (.lreturn, 1) := by decide +kernel
theorem dX5_odds_22 : decode cX5_odds 22 = .ok (.aload_n 0, 1) := by decide +kernel
theorem dX5_odds_23 : decode cX5_odds 23 = .ok (.getfield 13, 3) := by decide +kernel
theorem dX5_odds_26 : decode cX5_odds 26 = .ok (.iload_n 1, 1) := by decide +kernel
theorem dX5_odds_27 : decode cX5_odds 27 = .ok (.iaload, 1) := by decide +kernel
theorem dX5_odds_28 : decode cX5_odds 28 = .ok (.istore_n 3, 1) := by decide +kernel
theorem dX5_odds_29 : decode cX5_odds 29 = .ok (.lconst 0, 1) := by decide +kernel
theorem dX5_odds_30 : decode cX5_odds 30 = .ok (.lstore 4, 2) := by decide +kernel
theorem dX5_odds_32 : decode cX5_odds 32 = .ok (.iconst 0, 1) := by decide +kernel
theorem dX5_odds_33 : decode cX5_odds 33 = .ok (.istore 6, 2) := by decide +kernel
theorem dX5_odds_35 : decode cX5_odds 35 = .ok (.iload 6, 2) := by decide +kernel
theorem dX5_odds_37 : decode cX5_odds 37 = .ok (.bipush 8, 2) := by decide +kernel
theorem dX5_odds_39 : decode cX5_odds 39 = .ok (.if_icmp .ge 36, 3) := by decide +kernel
theorem dX5_odds_42 : decode cX5_odds 42 = .ok (.aload_n 0, 1) := by decide +kernel
theorem dX5_odds_43 : decode cX5_odds 43 = .ok (.getfield 13, 3) := by decide +kernel
theorem dX5_odds_46 : decode cX5_odds 46 = .ok (.iload_n 1, 1) := by decide +kernel
theorem dX5_odds_47 : decode cX5_odds 47 = .ok (.iload 6, 2) := by decide +kernel
theorem dX5_odds_49 : decode cX5_odds 49 = .ok (.iastore, 1) := by decide +kernel
theorem dX5_odds_50 : decode cX5_odds 50 = .ok (.lload 4, 2) := by decide +kernel
theorem dX5_odds_52 : decode cX5_odds 52 = .ok (.aload_n 0, 1) := by decide +kernel
theorem dX5_odds_53 : decode cX5_odds 53 = .ok (.iload_n 1, 1) := by decide +kernel
theorem dX5_odds_54 : decode cX5_odds 54 = .ok (.invokevirtual 165, 3) := by decide +kernel
theorem dX5_odds_57 : decode cX5_odds 57 = .ok (.iload_n 1, 1) := by decide +kernel
theorem dX5_odds_58 : decode cX5_odds 58 = .ok (.if_icmp .ne 7, 3) := by decide +kernel
theorem dX5_odds_61 : decode cX5_odds 61 = .ok (.lconst 1, 1) := by decide +kernel
theorem dX5_odds_62 : decode cX5_odds 62 = .ok (.goto 4, 3) := by decide +kernel
theorem dX5_odds_65 : decode cX5_odds 65 = .ok (.lconst 0, 1) := by decide +kernel
theorem dX5_odds_66 : decode cX5_odds 66 = .ok (.ladd, 1) := by decide +kernel
theorem dX5_odds_67 : decode cX5_odds 67 = .ok (.lstore 4, 2) := by decide +kernel
theorem dX5_odds_69 : decode cX5_odds 69 = .ok (.iinc 6 1, 3) := by decide +kernel
theorem dX5_odds_72 : decode cX5_odds 72 = .ok (.goto (-37), 3) := by decide +kernel
theorem dX5_odds_75 : decode cX5_odds 75 = .ok (.aload_n 0, 1) := by decide +kernel
theorem dX5_odds_76 : decode cX5_odds 76 = .ok (.getfield 13, 3) := by decide +kernel
theorem dX5_odds_79 : decode cX5_odds 79 = .ok (.iload_n 1, 1) := by decide +kernel
theorem dX5_odds_80 : decode cX5_odds 80 = .ok (.iload_n 3, 1) := by decide +kernel
theorem dX5_odds_81 : decode cX5_odds 81 = .ok (.iastore, 1) := by decide +kernel
theorem dX5_odds_82 : decode cX5_odds 82 = .ok (.lload 4, 2) := by decide +kernel
theorem dX5_odds_84 : decode cX5_odds 84 = .ok (.ldc2_w 177, 3) := by decide +kernel
theorem dX5_odds_87 : decode cX5_odds 87 = .ok (.iload_n 2, 1) := by decide +kernel
theorem dX5_odds_88 : decode cX5_odds 88 = .ok (.invokestatic 235, 3) := by decide +kernel
theorem dX5_odds_91 : decode cX5_odds 91 = .ok (.lreturn, 1) := by decide +kernel
theorem dX5_noSheet_0 : decode cX5_noSheet 0 = .ok (.iload_n 0, 1) := by decide +kernel
theorem dX5_noSheet_1 : decode cX5_noSheet 1 = .ok (.i2l, 1) := by decide +kernel
theorem dX5_noSheet_2 : decode cX5_noSheet 2 = .ok (.lconst 0, 1) := by decide +kernel
theorem dX5_noSheet_3 : decode cX5_noSheet 3 = .ok (.ldc2_w 170, 3) := by decide +kernel
theorem dX5_noSheet_6 : decode cX5_noSheet 6 = .ok (.invokestatic 83, 3) := by decide +kernel
theorem dX5_noSheet_9 : decode cX5_noSheet 9 = .ok (.ifCond .ne 7, 3) := by decide +kernel
theorem dX5_noSheet_12 : decode cX5_noSheet 12 = .ok (.iconst 1, 1) := by decide +kernel
theorem dX5_noSheet_13 : decode cX5_noSheet 13 = .ok (.goto 4, 3) := by decide +kernel
theorem dX5_noSheet_16 : decode cX5_noSheet 16 = .ok (.iconst 0, 1) := by decide +kernel
theorem dX5_noSheet_17 : decode cX5_noSheet 17 = .ok (.ireturn, 1) := by decide +kernel
theorem dX5_sheet_0 : decode cX5_sheet 0 = .ok (.iload_n 1, 1) := by decide +kernel
theorem dX5_sheet_1 : decode cX5_sheet 1 = .ok (.invokestatic 119, 3) := by decide +kernel
theorem dX5_sheet_4 : decode cX5_sheet 4 = .ok (.ifCond .eq 9, 3) := by decide +kernel
theorem dX5_sheet_7 : decode cX5_sheet 7 = .ok (.aload_n 0, 1) := by decide +kernel
theorem dX5_sheet_8 : decode cX5_sheet 8 = .ok (.iconst (-1), 1) := by decide +kernel
theorem dX5_sheet_9 : decode cX5_sheet 9 = .ok (.invokevirtual 123, 3) := by decide +kernel
theorem dX5_sheet_12 : decode cX5_sheet 12 = .ok (.ireturn, 1) := by decide +kernel
theorem dX5_sheet_13 : decode cX5_sheet 13 = .ok (.iload_n 2, 1) := by decide +kernel
theorem dX5_sheet_14 : decode cX5_sheet 14 = .ok (.i2l, 1) := by decide +kernel
theorem dX5_sheet_15 : decode cX5_sheet 15 = .ok (.lconst 0, 1) := by decide +kernel
theorem dX5_sheet_16 : decode cX5_sheet 16 = .ok (.ldc2_w 126, 3) := by decide +kernel
theorem dX5_sheet_19 : decode cX5_sheet 19 = .ok (.invokestatic 83, 3) := by decide +kernel
theorem dX5_sheet_22 : decode cX5_sheet 22 = .ok (.ifCond .eq 9, 3) := by decide +kernel
theorem dX5_sheet_25 : decode cX5_sheet 25 = .ok (.iload_n 3, 1) := by decide +kernel
theorem dX5_sheet_26 : decode cX5_sheet 26 = .ok (.bipush 60, 2) := by decide +kernel
theorem dX5_sheet_28 : decode cX5_sheet 28 = .ok (.if_icmp .le 10, 3) := by decide +kernel
theorem dX5_sheet_31 : decode cX5_sheet 31 = .ok (.aload_n 0, 1) := by decide +kernel
theorem dX5_sheet_32 : decode cX5_sheet 32 = .ok (.bipush (-2), 2) := by decide +kernel
theorem dX5_sheet_34 : decode cX5_sheet 34 = .ok (.invokevirtual 123, 3) := by decide +kernel
theorem dX5_sheet_37 : decode cX5_sheet 37 = .ok (.ireturn, 1) := by decide +kernel
theorem dX5_sheet_38 : decode cX5_sheet 38 = .ok (.iload_n 3, 1) := by decide +kernel
theorem dX5_sheet_39 : decode cX5_sheet 39 = .ok (.ifCond .ge 9, 3) := by decide +kernel
theorem dX5_sheet_42 : decode cX5_sheet 42 = .ok (.aload_n 0, 1) := by decide +kernel
theorem dX5_sheet_43 : decode cX5_sheet 43 = .ok (.iconst 4, 1) := by decide +kernel
theorem dX5_sheet_44 : decode cX5_sheet 44 = .ok (.invokevirtual 111, 3) := by decide +kernel
theorem dX5_sheet_47 : decode cX5_sheet 47 = .ok (.ireturn, 1) := by decide +kernel
theorem dX5_sheet_48 : decode cX5_sheet 48 = .ok (.aload_n 0, 1) := by decide +kernel
theorem dX5_sheet_49 : decode cX5_sheet 49 = .ok (.getfield 58, 3) := by decide +kernel
theorem dX5_sheet_52 : decode cX5_sheet 52 = .ok (.iload_n 1, 1) := by decide +kernel
theorem dX5_sheet_53 : decode cX5_sheet 53 = .ok (.iload_n 3, 1) := by decide +kernel
theorem dX5_sheet_54 : decode cX5_sheet 54 = .ok (.iastore, 1) := by decide +kernel
theorem dX5_sheet_55 : decode cX5_sheet 55 = .ok (.aload_n 0, 1) := by decide +kernel
theorem dX5_sheet_56 : decode cX5_sheet 56 = .ok (.getfield 61, 3) := by decide +kernel
theorem dX5_sheet_59 : decode cX5_sheet 59 = .ok (.iload_n 1, 1) := by decide +kernel
theorem dX5_sheet_60 : decode cX5_sheet 60 = .ok (.iload_n 2, 1) := by decide +kernel
theorem dX5_sheet_61 : decode cX5_sheet 61 = .ok (.iastore, 1) := by decide +kernel
theorem dX5_sheet_62 : decode cX5_sheet 62 = .ok (.iconst 0, 1) := by decide +kernel
theorem dX5_sheet_63 : decode cX5_sheet 63 = .ok (.istore 4, 2) := by decide +kernel
theorem dX5_sheet_65 : decode cX5_sheet 65 = .ok (.iload 4, 2) := by decide +kernel
theorem dX5_sheet_67 : decode cX5_sheet 67 = .ok (.iload_n 3, 1) := by decide +kernel
theorem dX5_sheet_68 : decode cX5_sheet 68 = .ok (.if_icmp .ge 22, 3) := by decide +kernel
theorem dX5_sheet_71 : decode cX5_sheet 71 = .ok (.aload_n 0, 1) := by decide +kernel
theorem dX5_sheet_72 : decode cX5_sheet 72 = .ok (.getfield 64, 3) := by decide +kernel
theorem dX5_sheet_75 : decode cX5_sheet 75 = .ok (.bipush 60, 2) := by decide +kernel
theorem dX5_sheet_77 : decode cX5_sheet 77 = .ok (.iload_n 1, 1) := by decide +kernel
theorem dX5_sheet_78 : decode cX5_sheet 78 = .ok (.imul, 1) := by decide +kernel
theorem dX5_sheet_79 : decode cX5_sheet 79 = .ok (.iload 4, 2) := by decide +kernel
theorem dX5_sheet_81 : decode cX5_sheet 81 = .ok (.iadd, 1) := by decide +kernel
theorem dX5_sheet_82 : decode cX5_sheet 82 = .ok (.iconst 0, 1) := by decide +kernel
theorem dX5_sheet_83 : decode cX5_sheet 83 = .ok (.iastore, 1) := by decide +kernel
theorem dX5_sheet_84 : decode cX5_sheet 84 = .ok (.iinc 4 1, 3) := by decide +kernel
theorem dX5_sheet_87 : decode cX5_sheet 87 = .ok (.goto (-22), 3) := by decide +kernel
theorem dX5_sheet_90 : decode cX5_sheet 90 = .ok (.aload_n 0, 1) := by decide +kernel
theorem dX5_sheet_91 : decode cX5_sheet 91 = .ok (.iconst 1, 1) := by decide +kernel
theorem dX5_sheet_92 : decode cX5_sheet 92 = .ok (.invokevirtual 123, 3) := by decide +kernel
theorem dX5_sheet_95 : decode cX5_sheet 95 = .ok (.ireturn, 1) := by decide +kernel
theorem dX5_lose_0 : decode cX5_lose 0 = .ok (.iload_n 1, 1) := by decide +kernel
theorem dX5_lose_1 : decode cX5_lose 1 = .ok (.invokestatic 119, 3) := by decide +kernel
theorem dX5_lose_4 : decode cX5_lose 4 = .ok (.ifCond .eq 5, 3) := by decide +kernel
theorem dX5_lose_7 : decode cX5_lose 7 = .ok (.iconst (-1), 1) := by decide +kernel
theorem dX5_lose_8 : decode cX5_lose 8 = .ok (.ireturn, 1) := by decide +kernel
theorem dX5_lose_9 : decode cX5_lose 9 = .ok (.aload_n 0, 1) := by decide +kernel
theorem dX5_lose_10 : decode cX5_lose 10 = .ok (.getfield 58, 3) := by decide +kernel
theorem dX5_lose_13 : decode cX5_lose 13 = .ok (.iload_n 1, 1) := by decide +kernel
theorem dX5_lose_14 : decode cX5_lose 14 = .ok (.iaload, 1) := by decide +kernel
theorem dX5_lose_15 : decode cX5_lose 15 = .ok (.ifCond .ge 7, 3) := by decide +kernel
theorem dX5_lose_18 : decode cX5_lose 18 = .ok (.iconst 0, 1) := by decide +kernel
theorem dX5_lose_19 : decode cX5_lose 19 = .ok (.goto 4, 3) := by decide +kernel
theorem dX5_lose_22 : decode cX5_lose 22 = .ok (.iconst 1, 1) := by decide +kernel
theorem dX5_lose_23 : decode cX5_lose 23 = .ok (.istore_n 2, 1) := by decide +kernel
theorem dX5_lose_24 : decode cX5_lose 24 = .ok (.aload_n 0, 1) := by decide +kernel
theorem dX5_lose_25 : decode cX5_lose 25 = .ok (.getfield 58, 3) := by decide +kernel
theorem dX5_lose_28 : decode cX5_lose 28 = .ok (.iload_n 1, 1) := by decide +kernel
theorem dX5_lose_29 : decode cX5_lose 29 = .ok (.iconst (-1), 1) := by decide +kernel
theorem dX5_lose_30 : decode cX5_lose 30 = .ok (.iastore, 1) := by decide +kernel
theorem dX5_lose_31 : decode cX5_lose 31 = .ok (.iload_n 2, 1) := by decide +kernel
theorem dX5_lose_32 : decode cX5_lose 32 = .ok (.ireturn, 1) := by decide +kernel
theorem dX5_noCell_0 : decode cX5_noCell 0 = .ok (.aload_n 0, 1) := by decide +kernel
theorem dX5_noCell_1 : decode cX5_noCell 1 = .ok (.getfield 58, 3) := by decide +kernel
theorem dX5_noCell_4 : decode cX5_noCell 4 = .ok (.iload_n 1, 1) := by decide +kernel
theorem dX5_noCell_5 : decode cX5_noCell 5 = .ok (.iaload, 1) := by decide +kernel
theorem dX5_noCell_6 : decode cX5_noCell 6 = .ok (.ifCond .ge 7, 3) := by decide +kernel
theorem dX5_noCell_9 : decode cX5_noCell 9 = .ok (.iconst 1, 1) := by decide +kernel
theorem dX5_noCell_10 : decode cX5_noCell 10 = .ok (.goto 26, 3) := by decide +kernel
theorem dX5_noCell_13 : decode cX5_noCell 13 = .ok (.iload_n 2, 1) := by decide +kernel
theorem dX5_noCell_14 : decode cX5_noCell 14 = .ok (.i2l, 1) := by decide +kernel
theorem dX5_noCell_15 : decode cX5_noCell 15 = .ok (.lconst 0, 1) := by decide +kernel
theorem dX5_noCell_16 : decode cX5_noCell 16 = .ok (.aload_n 0, 1) := by decide +kernel
theorem dX5_noCell_17 : decode cX5_noCell 17 = .ok (.getfield 58, 3) := by decide +kernel
theorem dX5_noCell_20 : decode cX5_noCell 20 = .ok (.iload_n 1, 1) := by decide +kernel
theorem dX5_noCell_21 : decode cX5_noCell 21 = .ok (.iaload, 1) := by decide +kernel
theorem dX5_noCell_22 : decode cX5_noCell 22 = .ok (.i2l, 1) := by decide +kernel
theorem dX5_noCell_23 : decode cX5_noCell 23 = .ok (.lconst 1, 1) := by decide +kernel
theorem dX5_noCell_24 : decode cX5_noCell 24 = .ok (.lsub, 1) := by decide +kernel
theorem dX5_noCell_25 : decode cX5_noCell 25 = .ok (.invokestatic 83, 3) := by decide +kernel
theorem dX5_noCell_28 : decode cX5_noCell 28 = .ok (.ifCond .eq 7, 3) := by decide +kernel
theorem dX5_noCell_31 : decode cX5_noCell 31 = .ok (.iconst 0, 1) := by decide +kernel
theorem dX5_noCell_32 : decode cX5_noCell 32 = .ok (.goto 4, 3) := by decide +kernel
theorem dX5_noCell_35 : decode cX5_noCell 35 = .ok (.iconst 3, 1) := by decide +kernel
theorem dX5_noCell_36 : decode cX5_noCell 36 = .ok (.ireturn, 1) := by decide +kernel
theorem dX5_put_0 : decode cX5_put 0 = .ok (.iload_n 1, 1) := by decide +kernel
theorem dX5_put_1 : decode cX5_put 1 = .ok (.invokestatic 119, 3) := by decide +kernel
theorem dX5_put_4 : decode cX5_put 4 = .ok (.ifCond .eq 9, 3) := by decide +kernel
theorem dX5_put_7 : decode cX5_put 7 = .ok (.aload_n 0, 1) := by decide +kernel
theorem dX5_put_8 : decode cX5_put 8 = .ok (.iconst (-1), 1) := by decide +kernel
theorem dX5_put_9 : decode cX5_put 9 = .ok (.invokevirtual 123, 3) := by decide +kernel
theorem dX5_put_12 : decode cX5_put 12 = .ok (.ireturn, 1) := by decide +kernel
theorem dX5_put_13 : decode cX5_put 13 = .ok (.aload_n 0, 1) := by decide +kernel
theorem dX5_put_14 : decode cX5_put 14 = .ok (.iload_n 1, 1) := by decide +kernel
theorem dX5_put_15 : decode cX5_put 15 = .ok (.iload_n 2, 1) := by decide +kernel
theorem dX5_put_16 : decode cX5_put 16 = .ok (.invokevirtual 239, 3) := by decide +kernel
theorem dX5_put_19 : decode cX5_put 19 = .ok (.ifCond .le 14, 3) := by decide +kernel
theorem dX5_put_22 : decode cX5_put 22 = .ok (.aload_n 0, 1) := by decide +kernel
theorem dX5_put_23 : decode cX5_put 23 = .ok (.aload_n 0, 1) := by decide +kernel
theorem dX5_put_24 : decode cX5_put 24 = .ok (.iload_n 1, 1) := by decide +kernel
theorem dX5_put_25 : decode cX5_put 25 = .ok (.iload_n 2, 1) := by decide +kernel
theorem dX5_put_26 : decode cX5_put 26 = .ok (.invokevirtual 239, 3) := by decide +kernel
theorem dX5_put_29 : decode cX5_put 29 = .ok (.invokevirtual 111, 3) := by decide +kernel
theorem dX5_put_32 : decode cX5_put 32 = .ok (.ireturn, 1) := by decide +kernel
theorem dX5_put_33 : decode cX5_put 33 = .ok (.aload_n 0, 1) := by decide +kernel
theorem dX5_put_34 : decode cX5_put 34 = .ok (.getfield 64, 3) := by decide +kernel
theorem dX5_put_37 : decode cX5_put 37 = .ok (.bipush 60, 2) := by decide +kernel
theorem dX5_put_39 : decode cX5_put 39 = .ok (.iload_n 1, 1) := by decide +kernel
theorem dX5_put_40 : decode cX5_put 40 = .ok (.imul, 1) := by decide +kernel
theorem dX5_put_41 : decode cX5_put 41 = .ok (.iload_n 2, 1) := by decide +kernel
theorem dX5_put_42 : decode cX5_put 42 = .ok (.iadd, 1) := by decide +kernel
theorem dX5_put_43 : decode cX5_put 43 = .ok (.aload_n 0, 1) := by decide +kernel
theorem dX5_put_44 : decode cX5_put 44 = .ok (.getfield 61, 3) := by decide +kernel
theorem dX5_put_47 : decode cX5_put 47 = .ok (.iload_n 1, 1) := by decide +kernel
theorem dX5_put_48 : decode cX5_put 48 = .ok (.iaload, 1) := by decide +kernel
theorem dX5_put_49 : decode cX5_put 49 = .ok (.ifCond .ne 8, 3) := by decide +kernel
theorem dX5_put_52 : decode cX5_put 52 = .ok (.iload_n 3, 1) := by decide +kernel
theorem dX5_put_53 : decode cX5_put 53 = .ok (.i2b, 1) := by decide +kernel
theorem dX5_put_54 : decode cX5_put 54 = .ok (.goto 19, 3) := by decide +kernel
theorem dX5_put_57 : decode cX5_put 57 = .ok (.aload_n 0, 1) := by decide +kernel
theorem dX5_put_58 : decode cX5_put 58 = .ok (.getfield 61, 3) := by decide +kernel
theorem dX5_put_61 : decode cX5_put 61 = .ok (.iload_n 1, 1) := by decide +kernel
theorem dX5_put_62 : decode cX5_put 62 = .ok (.iaload, 1) := by decide +kernel
theorem dX5_put_63 : decode cX5_put 63 = .ok (.iconst 1, 1) := by decide +kernel
theorem dX5_put_64 : decode cX5_put 64 = .ok (.if_icmp .ne 8, 3) := by decide +kernel
theorem dX5_put_67 : decode cX5_put 67 = .ok (.iload_n 3, 1) := by decide +kernel
theorem dX5_put_68 : decode cX5_put 68 = .ok (.i2s, 1) := by decide +kernel
theorem dX5_put_69 : decode cX5_put 69 = .ok (.goto 4, 3) := by decide +kernel
theorem dX5_put_72 : decode cX5_put 72 = .ok (.iload_n 3, 1) := by decide +kernel
theorem dX5_put_73 : decode cX5_put 73 = .ok (.iastore, 1) := by decide +kernel
theorem dX5_put_74 : decode cX5_put 74 = .ok (.aload_n 0, 1) := by decide +kernel
theorem dX5_put_75 : decode cX5_put 75 = .ok (.iconst 1, 1) := by decide +kernel
theorem dX5_put_76 : decode cX5_put 76 = .ok (.invokevirtual 123, 3) := by decide +kernel
theorem dX5_put_79 : decode cX5_put 79 = .ok (.ireturn, 1) := by decide +kernel
theorem dX5_cell_0 : decode cX5_cell 0 = .ok (.aload_n 0, 1) := by decide +kernel
theorem dX5_cell_1 : decode cX5_cell 1 = .ok (.iconst 0, 1) := by decide +kernel
theorem dX5_cell_2 : decode cX5_cell 2 = .ok (.putfield 72, 3) := by decide +kernel
theorem dX5_cell_5 : decode cX5_cell 5 = .ok (.iload_n 1, 1) := by decide +kernel
theorem dX5_cell_6 : decode cX5_cell 6 = .ok (.invokestatic 119, 3) := by decide +kernel
theorem dX5_cell_9 : decode cX5_cell 9 = .ok (.ifCond .ne 15, 3) := by decide +kernel
theorem dX5_cell_12 : decode cX5_cell 12 = .ok (.iload_n 3, 1) := by decide +kernel
theorem dX5_cell_13 : decode cX5_cell 13 = .ok (.i2l, 1) := by decide +kernel
theorem dX5_cell_14 : decode cX5_cell 14 = .ok (.lconst 0, 1) := by decide +kernel
theorem dX5_cell_15 : decode cX5_cell 15 = .ok (.ldc2_w 126, 3) := by decide +kernel
theorem dX5_cell_18 : decode cX5_cell 18 = .ok (.invokestatic 83, 3) := by decide +kernel
theorem dX5_cell_21 : decode cX5_cell 21 = .ok (.ifCond .ne 7, 3) := by decide +kernel
theorem dX5_cell_24 : decode cX5_cell 24 = .ok (.invokestatic 76, 3) := by decide +kernel
theorem dX5_cell_27 : decode cX5_cell 27 = .ok (.lreturn, 1) := by decide +kernel
theorem dX5_cell_28 : decode cX5_cell 28 = .ok (.aload_n 0, 1) := by decide +kernel
theorem dX5_cell_29 : decode cX5_cell 29 = .ok (.getfield 58, 3) := by decide +kernel
theorem dX5_cell_32 : decode cX5_cell 32 = .ok (.iload_n 1, 1) := by decide +kernel
theorem dX5_cell_33 : decode cX5_cell 33 = .ok (.iaload, 1) := by decide +kernel
theorem dX5_cell_34 : decode cX5_cell 34 = .ok (.ifCond .lt 19, 3) := by decide +kernel
theorem dX5_cell_37 : decode cX5_cell 37 = .ok (.aload_n 0, 1) := by decide +kernel
theorem dX5_cell_38 : decode cX5_cell 38 = .ok (.getfield 61, 3) := by decide +kernel
theorem dX5_cell_41 : decode cX5_cell 41 = .ok (.iload_n 1, 1) := by decide +kernel
theorem dX5_cell_42 : decode cX5_cell 42 = .ok (.iaload, 1) := by decide +kernel
theorem dX5_cell_43 : decode cX5_cell 43 = .ok (.iload_n 3, 1) := by decide +kernel
theorem dX5_cell_44 : decode cX5_cell 44 = .ok (.if_icmp .eq 9, 3) := by decide +kernel
theorem dX5_cell_47 : decode cX5_cell 47 = .ok (.aload_n 0, 1) := by decide +kernel
theorem dX5_cell_48 : decode cX5_cell 48 = .ok (.iconst 2, 1) := by decide +kernel
theorem dX5_cell_49 : decode cX5_cell 49 = .ok (.invokevirtual 242, 3) := by decide +kernel
theorem dX5_cell_52 : decode cX5_cell 52 = .ok (.lreturn, 1) := by decide +kernel
theorem dX5_cell_53 : decode cX5_cell 53 = .ok (.aload_n 0, 1) := by decide +kernel
theorem dX5_cell_54 : decode cX5_cell 54 = .ok (.iload_n 1, 1) := by decide +kernel
theorem dX5_cell_55 : decode cX5_cell 55 = .ok (.iload_n 2, 1) := by decide +kernel
theorem dX5_cell_56 : decode cX5_cell 56 = .ok (.invokevirtual 239, 3) := by decide +kernel
theorem dX5_cell_59 : decode cX5_cell 59 = .ok (.ifCond .le 16, 3) := by decide +kernel
theorem dX5_cell_62 : decode cX5_cell 62 = .ok (.aload_n 0, 1) := by decide +kernel
theorem dX5_cell_63 : decode cX5_cell 63 = .ok (.aload_n 0, 1) := by decide +kernel
theorem dX5_cell_64 : decode cX5_cell 64 = .ok (.iload_n 1, 1) := by decide +kernel
theorem dX5_cell_65 : decode cX5_cell 65 = .ok (.iload_n 2, 1) := by decide +kernel
theorem dX5_cell_66 : decode cX5_cell 66 = .ok (.invokevirtual 239, 3) := by decide +kernel
theorem dX5_cell_69 : decode cX5_cell 69 = .ok (.invokevirtual 242, 3) := by decide +kernel
theorem dX5_cell_72 : decode cX5_cell 72 = .ok (.goto 15, 3) := by decide +kernel
theorem dX5_cell_75 : decode cX5_cell 75 = .ok (.aload_n 0, 1) := by decide +kernel
theorem dX5_cell_76 : decode cX5_cell 76 = .ok (.getfield 64, 3) := by decide +kernel
theorem dX5_cell_79 : decode cX5_cell 79 = .ok (.bipush 60, 2) := by decide +kernel
theorem dX5_cell_81 : decode cX5_cell 81 = .ok (.iload_n 1, 1) := by decide +kernel
theorem dX5_cell_82 : decode cX5_cell 82 = .ok (.imul, 1) := by decide +kernel
theorem dX5_cell_83 : decode cX5_cell 83 = .ok (.iload_n 2, 1) := by decide +kernel
theorem dX5_cell_84 : decode cX5_cell 84 = .ok (.iadd, 1) := by decide +kernel
theorem dX5_cell_85 : decode cX5_cell 85 = .ok (.iaload, 1) := by decide +kernel
theorem dX5_cell_86 : decode cX5_cell 86 = .ok (.i2l, 1) := by decide +kernel
theorem dX5_cell_87 : decode cX5_cell 87 = .ok (.lreturn, 1) := by decide +kernel
theorem dX5_isBeyond_0 : decode cX5_isBeyond 0 = .ok (.iload_n 0, 1) := by decide +kernel
theorem dX5_isBeyond_1 : decode cX5_isBeyond 1 = .ok (.ifCond .lt 19, 3) := by decide +kernel
theorem dX5_isBeyond_4 : decode cX5_isBeyond 4 = .ok (.lload_n 1, 1) := by decide +kernel
theorem dX5_isBeyond_5 : decode cX5_isBeyond 5 = .ok (.lconst 0, 1) := by decide +kernel
theorem dX5_isBeyond_6 : decode cX5_isBeyond 6 = .ok (.lcmp, 1) := by decide +kernel
theorem dX5_isBeyond_7 : decode cX5_isBeyond 7 = .ok (.ifCond .lt 13, 3) := by decide +kernel
theorem dX5_isBeyond_10 : decode cX5_isBeyond 10 = .ok (.iload_n 0, 1) := by decide +kernel
theorem dX5_isBeyond_11 : decode cX5_isBeyond 11 = .ok (.i2l, 1) := by decide +kernel
theorem dX5_isBeyond_12 : decode cX5_isBeyond 12 = .ok (.lload_n 1, 1) := by decide +kernel
theorem dX5_isBeyond_13 : decode cX5_isBeyond 13 = .ok (.ladd, 1) := by decide +kernel
theorem dX5_isBeyond_14 : decode cX5_isBeyond 14 = .ok (.iload_n 3, 1) := by decide +kernel
theorem dX5_isBeyond_15 : decode cX5_isBeyond 15 = .ok (.i2l, 1) := by decide +kernel
theorem dX5_isBeyond_16 : decode cX5_isBeyond 16 = .ok (.lcmp, 1) := by decide +kernel
theorem dX5_isBeyond_17 : decode cX5_isBeyond 17 = .ok (.ifCond .le 7, 3) := by decide +kernel
theorem dX5_isBeyond_20 : decode cX5_isBeyond 20 = .ok (.iconst 1, 1) := by decide +kernel
theorem dX5_isBeyond_21 : decode cX5_isBeyond 21 = .ok (.goto 4, 3) := by decide +kernel
theorem dX5_isBeyond_24 : decode cX5_isBeyond 24 = .ok (.iconst 0, 1) := by decide +kernel
theorem dX5_isBeyond_25 : decode cX5_isBeyond 25 = .ok (.ireturn, 1) := by decide +kernel
theorem dX5_copy_0 : decode cX5_copy 0 = .ok (.iload_n 1, 1) := by decide +kernel
theorem dX5_copy_1 : decode cX5_copy 1 = .ok (.invokestatic 119, 3) := by decide +kernel
theorem dX5_copy_4 : decode cX5_copy 4 = .ok (.ifCond .ne 10, 3) := by decide +kernel
theorem dX5_copy_7 : decode cX5_copy 7 = .ok (.iload_n 3, 1) := by decide +kernel
theorem dX5_copy_8 : decode cX5_copy 8 = .ok (.invokestatic 119, 3) := by decide +kernel
theorem dX5_copy_11 : decode cX5_copy 11 = .ok (.ifCond .eq 9, 3) := by decide +kernel
theorem dX5_copy_14 : decode cX5_copy 14 = .ok (.aload_n 0, 1) := by decide +kernel
theorem dX5_copy_15 : decode cX5_copy 15 = .ok (.iconst (-1), 1) := by decide +kernel
theorem dX5_copy_16 : decode cX5_copy 16 = .ok (.invokevirtual 123, 3) := by decide +kernel
theorem dX5_copy_19 : decode cX5_copy 19 = .ok (.ireturn, 1) := by decide +kernel
theorem dX5_copy_20 : decode cX5_copy 20 = .ok (.aload_n 0, 1) := by decide +kernel
theorem dX5_copy_21 : decode cX5_copy 21 = .ok (.getfield 58, 3) := by decide +kernel
theorem dX5_copy_24 : decode cX5_copy 24 = .ok (.iload_n 1, 1) := by decide +kernel
theorem dX5_copy_25 : decode cX5_copy 25 = .ok (.iaload, 1) := by decide +kernel
theorem dX5_copy_26 : decode cX5_copy 26 = .ok (.ifCond .lt 12, 3) := by decide +kernel
theorem dX5_copy_29 : decode cX5_copy 29 = .ok (.aload_n 0, 1) := by decide +kernel
theorem dX5_copy_30 : decode cX5_copy 30 = .ok (.getfield 58, 3) := by decide +kernel
theorem dX5_copy_33 : decode cX5_copy 33 = .ok (.iload_n 3, 1) := by decide +kernel
theorem dX5_copy_34 : decode cX5_copy 34 = .ok (.iaload, 1) := by decide +kernel
theorem dX5_copy_35 : decode cX5_copy 35 = .ok (.ifCond .ge 9, 3) := by decide +kernel
theorem dX5_copy_38 : decode cX5_copy 38 = .ok (.aload_n 0, 1) := by decide +kernel
theorem dX5_copy_39 : decode cX5_copy 39 = .ok (.iconst 1, 1) := by decide +kernel
theorem dX5_copy_40 : decode cX5_copy 40 = .ok (.invokevirtual 111, 3) := by decide +kernel
theorem dX5_copy_43 : decode cX5_copy 43 = .ok (.ireturn, 1) := by decide +kernel
theorem dX5_copy_44 : decode cX5_copy 44 = .ok (.aload_n 0, 1) := by decide +kernel
theorem dX5_copy_45 : decode cX5_copy 45 = .ok (.getfield 61, 3) := by decide +kernel
theorem dX5_copy_48 : decode cX5_copy 48 = .ok (.iload_n 1, 1) := by decide +kernel
theorem dX5_copy_49 : decode cX5_copy 49 = .ok (.iaload, 1) := by decide +kernel
theorem dX5_copy_50 : decode cX5_copy 50 = .ok (.aload_n 0, 1) := by decide +kernel
theorem dX5_copy_51 : decode cX5_copy 51 = .ok (.getfield 61, 3) := by decide +kernel
theorem dX5_copy_54 : decode cX5_copy 54 = .ok (.iload_n 3, 1) := by decide +kernel
theorem dX5_copy_55 : decode cX5_copy 55 = .ok (.iaload, 1) := by decide +kernel
theorem dX5_copy_56 : decode cX5_copy 56 = .ok (.if_icmp .eq 9, 3) := by decide +kernel
theorem dX5_copy_59 : decode cX5_copy 59 = .ok (.aload_n 0, 1) := by decide +kernel
theorem dX5_copy_60 : decode cX5_copy 60 = .ok (.iconst 2, 1) := by decide +kernel
theorem dX5_copy_61 : decode cX5_copy 61 = .ok (.invokevirtual 111, 3) := by decide +kernel
theorem dX5_copy_64 : decode cX5_copy 64 = .ok (.ireturn, 1) := by decide +kernel
theorem dX5_copy_65 : decode cX5_copy 65 = .ok (.iload_n 2, 1) := by decide +kernel
theorem dX5_copy_66 : decode cX5_copy 66 = .ok (.iload 5, 2) := by decide +kernel
theorem dX5_copy_68 : decode cX5_copy 68 = .ok (.i2l, 1) := by decide +kernel
theorem dX5_copy_69 : decode cX5_copy 69 = .ok (.aload_n 0, 1) := by decide +kernel
theorem dX5_copy_70 : decode cX5_copy 70 = .ok (.getfield 58, 3) := by decide +kernel
theorem dX5_copy_73 : decode cX5_copy 73 = .ok (.iload_n 1, 1) := by decide +kernel
theorem dX5_copy_74 : decode cX5_copy 74 = .ok (.iaload, 1) := by decide +kernel
theorem dX5_copy_75 : decode cX5_copy 75 = .ok (.invokestatic 115, 3) := by decide +kernel
theorem dX5_copy_78 : decode cX5_copy 78 = .ok (.ifCond .ne 20, 3) := by decide +kernel
theorem dX5_copy_81 : decode cX5_copy 81 = .ok (.iload 4, 2) := by decide +kernel
theorem dX5_copy_83 : decode cX5_copy 83 = .ok (.iload 5, 2) := by decide +kernel
theorem dX5_copy_85 : decode cX5_copy 85 = .ok (.i2l, 1) := by decide +kernel
theorem dX5_copy_86 : decode cX5_copy 86 = .ok (.aload_n 0, 1) := by decide +kernel
theorem dX5_copy_87 : decode cX5_copy 87 = .ok (.getfield 58, 3) := by decide +kernel
theorem dX5_copy_90 : decode cX5_copy 90 = .ok (.iload_n 3, 1) := by decide +kernel
theorem dX5_copy_91 : decode cX5_copy 91 = .ok (.iaload, 1) := by decide +kernel
theorem dX5_copy_92 : decode cX5_copy 92 = .ok (.invokestatic 115, 3) := by decide +kernel
theorem dX5_copy_95 : decode cX5_copy 95 = .ok (.ifCond .eq 9, 3) := by decide +kernel
theorem dX5_copy_98 : decode cX5_copy 98 = .ok (.aload_n 0, 1) := by decide +kernel
theorem dX5_copy_99 : decode cX5_copy 99 = .ok (.iconst 3, 1) := by decide +kernel
theorem dX5_copy_100 : decode cX5_copy 100 = .ok (.invokevirtual 111, 3) := by decide +kernel
theorem dX5_copy_103 : decode cX5_copy 103 = .ok (.ireturn, 1) := by decide +kernel
theorem dX5_copy_104 : decode cX5_copy 104 = .ok (.iconst 0, 1) := by decide +kernel
theorem dX5_copy_105 : decode cX5_copy 105 = .ok (.istore 6, 2) := by decide +kernel
theorem dX5_copy_107 : decode cX5_copy 107 = .ok (.iload 6, 2) := by decide +kernel
theorem dX5_copy_109 : decode cX5_copy 109 = .ok (.iload 5, 2) := by decide +kernel
theorem dX5_copy_111 : decode cX5_copy 111 = .ok (.if_icmp .ge 30, 3) := by decide +kernel
theorem dX5_copy_114 : decode cX5_copy 114 = .ok (.aload_n 0, 1) := by decide +kernel
theorem dX5_copy_115 : decode cX5_copy 115 = .ok (.getfield 67, 3) := by decide +kernel
theorem dX5_copy_118 : decode cX5_copy 118 = .ok (.iload 6, 2) := by decide +kernel
theorem dX5_copy_120 : decode cX5_copy 120 = .ok (.aload_n 0, 1) := by decide +kernel
theorem dX5_copy_121 : decode cX5_copy 121 = .ok (.getfield 64, 3) := by decide +kernel
theorem dX5_copy_124 : decode cX5_copy 124 = .ok (.bipush 60, 2) := by decide +kernel
theorem dX5_copy_126 : decode cX5_copy 126 = .ok (.iload_n 1, 1) := by decide +kernel
theorem dX5_copy_127 : decode cX5_copy 127 = .ok (.imul, 1) := by decide +kernel
theorem dX5_copy_128 : decode cX5_copy 128 = .ok (.iload_n 2, 1) := by decide +kernel
theorem dX5_copy_129 : decode cX5_copy 129 = .ok (.iadd, 1) := by decide +kernel
theorem dX5_copy_130 : decode cX5_copy 130 = .ok (.iload 6, 2) := by decide +kernel
theorem dX5_copy_132 : decode cX5_copy 132 = .ok (.iadd, 1) := by decide +kernel
theorem dX5_copy_133 : decode cX5_copy 133 = .ok (.iaload, 1) := by decide +kernel
theorem dX5_copy_134 : decode cX5_copy 134 = .ok (.iastore, 1) := by decide +kernel
theorem dX5_copy_135 : decode cX5_copy 135 = .ok (.iinc 6 1, 3) := by decide +kernel
theorem dX5_copy_138 : decode cX5_copy 138 = .ok (.goto (-31), 3) := by decide +kernel
theorem dX5_copy_141 : decode cX5_copy 141 = .ok (.iconst 0, 1) := by decide +kernel
theorem dX5_copy_142 : decode cX5_copy 142 = .ok (.istore 6, 2) := by decide +kernel
theorem dX5_copy_144 : decode cX5_copy 144 = .ok (.iload 6, 2) := by decide +kernel
theorem dX5_copy_146 : decode cX5_copy 146 = .ok (.iload 5, 2) := by decide +kernel
theorem dX5_copy_148 : decode cX5_copy 148 = .ok (.if_icmp .ge 31, 3) := by decide +kernel
theorem dX5_copy_151 : decode cX5_copy 151 = .ok (.aload_n 0, 1) := by decide +kernel
theorem dX5_copy_152 : decode cX5_copy 152 = .ok (.getfield 64, 3) := by decide +kernel
theorem dX5_copy_155 : decode cX5_copy 155 = .ok (.bipush 60, 2) := by decide +kernel
theorem dX5_copy_157 : decode cX5_copy 157 = .ok (.iload_n 3, 1) := by decide +kernel
theorem dX5_copy_158 : decode cX5_copy 158 = .ok (.imul, 1) := by decide +kernel
theorem dX5_copy_159 : decode cX5_copy 159 = .ok (.iload 4, 2) := by decide +kernel
theorem dX5_copy_161 : decode cX5_copy 161 = .ok (.iadd, 1) := by decide +kernel
theorem dX5_copy_162 : decode cX5_copy 162 = .ok (.iload 6, 2) := by decide +kernel
theorem dX5_copy_164 : decode cX5_copy 164 = .ok (.iadd, 1) := by decide +kernel
theorem dX5_copy_165 : decode cX5_copy 165 = .ok (.aload_n 0, 1) := by decide +kernel
theorem dX5_copy_166 : decode cX5_copy 166 = .ok (.getfield 67, 3) := by decide +kernel
theorem dX5_copy_169 : decode cX5_copy 169 = .ok (.iload 6, 2) := by decide +kernel
theorem dX5_copy_171 : decode cX5_copy 171 = .ok (.iaload, 1) := by decide +kernel
theorem dX5_copy_172 : decode cX5_copy 172 = .ok (.iastore, 1) := by decide +kernel
theorem dX5_copy_173 : decode cX5_copy 173 = .ok (.iinc 6 1, 3) := by decide +kernel
theorem dX5_copy_176 : decode cX5_copy 176 = .ok (.goto (-32), 3) := by decide +kernel
theorem dX5_copy_179 : decode cX5_copy 179 = .ok (.aload_n 0, 1) := by decide +kernel
theorem dX5_copy_180 : decode cX5_copy 180 = .ok (.iload 5, 2) := by decide +kernel
theorem dX5_copy_182 : decode cX5_copy 182 = .ok (.invokevirtual 123, 3) := by decide +kernel
theorem dX5_copy_185 : decode cX5_copy 185 = .ok (.ireturn, 1) := by decide +kernel
theorem dX5_traced_0 : decode cX5_traced 0 = .ok (.aload_n 0, 1) := by decide +kernel
theorem dX5_traced_1 : decode cX5_traced 1 = .ok (.bipush 31, 2) := by decide +kernel
theorem dX5_traced_3 : decode cX5_traced 3 = .ok (.aload_n 0, 1) := by decide +kernel
theorem dX5_traced_4 : decode cX5_traced 4 = .ok (.getfield 246, 3) := by decide +kernel
theorem dX5_traced_7 : decode cX5_traced 7 = .ok (.imul, 1) := by decide +kernel
theorem dX5_traced_8 : decode cX5_traced 8 = .ok (.iload_n 1, 1) := by decide +kernel
theorem dX5_traced_9 : decode cX5_traced 9 = .ok (.iadd, 1) := by decide +kernel
theorem dX5_traced_10 : decode cX5_traced 10 = .ok (.putfield 246, 3) := by decide +kernel
theorem dX5_traced_13 : decode cX5_traced 13 = .ok (.return_, 1) := by decide +kernel
theorem dX5_tell_0 : decode cX5_tell 0 = .ok (.aload_n 0, 1) := by decide +kernel
theorem dX5_tell_1 : decode cX5_tell 1 = .ok (.iload_n 1, 1) := by decide +kernel
theorem dX5_tell_2 : decode cX5_tell 2 = .ok (.invokevirtual 162, 3) := by decide +kernel
theorem dX5_tell_5 : decode cX5_tell 5 = .ok (.ifCond .eq 5, 3) := by decide +kernel
theorem dX5_tell_8 : decode cX5_tell 8 = .ok (.iconst (-1), 1) := by decide +kernel
theorem dX5_tell_9 : decode cX5_tell 9 = .ok (.ireturn, 1) := by decide +kernel
theorem dX5_tell_10 : decode cX5_tell 10 = .ok (.aload_n 0, 1) := by decide +kernel
theorem dX5_tell_11 : decode cX5_tell 11 = .ok (.getfield 7, 3) := by decide +kernel
theorem dX5_tell_14 : decode cX5_tell 14 = .ok (.iload_n 1, 1) := by decide +kernel
theorem dX5_tell_15 : decode cX5_tell 15 = .ok (.iaload, 1) := by decide +kernel
theorem dX5_tell_16 : decode cX5_tell 16 = .ok (.istore_n 2, 1) := by decide +kernel
theorem dX5_tell_17 : decode cX5_tell 17 = .ok (.iload_n 2, 1) := by decide +kernel
theorem dX5_tell_18 : decode cX5_tell 18 = .ok (.iconst 2, 1) := by decide +kernel
theorem dX5_tell_19 : decode cX5_tell 19 = .ok (.if_icmp .ne 8, 3) := by decide +kernel
theorem dX5_tell_22 : decode cX5_tell 22 = .ok (.aload_n 0, 1) := by decide +kernel
theorem dX5_tell_23 : decode cX5_tell 23 = .ok (.iconst 3, 1) := by decide +kernel
theorem dX5_tell_24 : decode cX5_tell 24 = .ok (.invokevirtual 249, 3) := by decide +kernel
theorem dX5_tell_27 : decode cX5_tell 27 = .ok (.iload_n 2, 1) := by decide +kernel
theorem dX5_tell_28 : decode cX5_tell 28 = .ok (.ifCond .le 8, 3) := by decide +kernel
theorem dX5_tell_31 : decode cX5_tell 31 = .ok (.aload_n 0, 1) := by decide +kernel
theorem dX5_tell_32 : decode cX5_tell 32 = .ok (.iconst 2, 1) := by decide +kernel
theorem dX5_tell_33 : decode cX5_tell 33 = .ok (.invokevirtual 249, 3) := by decide +kernel
theorem dX5_tell_36 : decode cX5_tell 36 = .ok (.aload_n 0, 1) := by decide +kernel
theorem dX5_tell_37 : decode cX5_tell 37 = .ok (.iconst 1, 1) := by decide +kernel
theorem dX5_tell_38 : decode cX5_tell 38 = .ok (.invokevirtual 249, 3) := by decide +kernel
theorem dX5_tell_41 : decode cX5_tell 41 = .ok (.iload_n 2, 1) := by decide +kernel
theorem dX5_tell_42 : decode cX5_tell 42 = .ok (.iconst 2, 1) := by decide +kernel
theorem dX5_tell_43 : decode cX5_tell 43 = .ok (.if_icmp .ne 8, 3) := by decide +kernel
theorem dX5_tell_46 : decode cX5_tell 46 = .ok (.aload_n 0, 1) := by decide +kernel
theorem dX5_tell_47 : decode cX5_tell 47 = .ok (.iconst 1, 1) := by decide +kernel
theorem dX5_tell_48 : decode cX5_tell 48 = .ok (.invokevirtual 249, 3) := by decide +kernel
theorem dX5_tell_51 : decode cX5_tell 51 = .ok (.aload_n 0, 1) := by decide +kernel
theorem dX5_tell_52 : decode cX5_tell 52 = .ok (.getfield 13, 3) := by decide +kernel
theorem dX5_tell_55 : decode cX5_tell 55 = .ok (.iload_n 1, 1) := by decide +kernel
theorem dX5_tell_56 : decode cX5_tell 56 = .ok (.iaload, 1) := by decide +kernel
theorem dX5_tell_57 : decode cX5_tell 57 = .ok (.istore_n 3, 1) := by decide +kernel
theorem dX5_tell_58 : decode cX5_tell 58 = .ok (.iload_n 2, 1) := by decide +kernel
theorem dX5_tell_59 : decode cX5_tell 59 = .ok (.ifCond .ne 7, 3) := by decide +kernel
theorem dX5_tell_62 : decode cX5_tell 62 = .ok (.iload_n 3, 1) := by decide +kernel
theorem dX5_tell_63 : decode cX5_tell 63 = .ok (.goto 21, 3) := by decide +kernel
theorem dX5_tell_66 : decode cX5_tell 66 = .ok (.iload_n 2, 1) := by decide +kernel
theorem dX5_tell_67 : decode cX5_tell 67 = .ok (.iconst 1, 1) := by decide +kernel
theorem dX5_tell_68 : decode cX5_tell 68 = .ok (.if_icmp .ne 10, 3) := by decide +kernel
theorem dX5_tell_71 : decode cX5_tell 71 = .ok (.iload_n 3, 1) := by decide +kernel
theorem dX5_tell_72 : decode cX5_tell 72 = .ok (.bipush 100, 2) := by decide +kernel
theorem dX5_tell_74 : decode cX5_tell 74 = .ok (.iadd, 1) := by decide +kernel
theorem dX5_tell_75 : decode cX5_tell 75 = .ok (.goto 9, 3) := by decide +kernel
theorem dX5_tell_78 : decode cX5_tell 78 = .ok (.iconst 2, 1) := by decide +kernel
theorem dX5_tell_79 : decode cX5_tell 79 = .ok (.iload_n 3, 1) := by decide +kernel
theorem dX5_tell_80 : decode cX5_tell 80 = .ok (.imul, 1) := by decide +kernel
theorem dX5_tell_81 : decode cX5_tell 81 = .ok (.bipush 100, 2) := by decide +kernel
theorem dX5_tell_83 : decode cX5_tell 83 = .ok (.iadd, 1) := by decide +kernel
theorem dX5_tell_84 : decode cX5_tell 84 = .ok (.ireturn, 1) := by decide +kernel
theorem dX5_whistle_0 : decode cX5_whistle 0 = .ok (.aload_n 0, 1) := by decide +kernel
theorem dX5_whistle_1 : decode cX5_whistle 1 = .ok (.iload_n 1, 1) := by decide +kernel
theorem dX5_whistle_2 : decode cX5_whistle 2 = .ok (.invokevirtual 162, 3) := by decide +kernel
theorem dX5_whistle_5 : decode cX5_whistle 5 = .ok (.ifCond .eq 5, 3) := by decide +kernel
theorem dX5_whistle_8 : decode cX5_whistle 8 = .ok (.iconst (-1), 1) := by decide +kernel
theorem dX5_whistle_9 : decode cX5_whistle 9 = .ok (.ireturn, 1) := by decide +kernel
theorem dX5_whistle_10 : decode cX5_whistle 10 = .ok (.aload_n 0, 1) := by decide +kernel
theorem dX5_whistle_11 : decode cX5_whistle 11 = .ok (.aload_n 0, 1) := by decide +kernel
theorem dX5_whistle_12 : decode cX5_whistle 12 = .ok (.getfield 7, 3) := by decide +kernel
theorem dX5_whistle_15 : decode cX5_whistle 15 = .ok (.iload_n 1, 1) := by decide +kernel
theorem dX5_whistle_16 : decode cX5_whistle 16 = .ok (.iaload, 1) := by decide +kernel
theorem dX5_whistle_17 : decode cX5_whistle 17 = .ok (.iconst 2, 1) := by decide +kernel
theorem dX5_whistle_18 : decode cX5_whistle 18 = .ok (.if_icmp .ne 7, 3) := by decide +kernel
theorem dX5_whistle_21 : decode cX5_whistle 21 = .ok (.iconst 5, 1) := by decide +kernel
theorem dX5_whistle_22 : decode cX5_whistle 22 = .ok (.goto 4, 3) := by decide +kernel
theorem dX5_whistle_25 : decode cX5_whistle 25 = .ok (.iconst 4, 1) := by decide +kernel
theorem dX5_whistle_26 : decode cX5_whistle 26 = .ok (.invokevirtual 249, 3) := by decide +kernel
theorem dX5_whistle_29 : decode cX5_whistle 29 = .ok (.aload_n 0, 1) := by decide +kernel
theorem dX5_whistle_30 : decode cX5_whistle 30 = .ok (.getfield 7, 3) := by decide +kernel
theorem dX5_whistle_33 : decode cX5_whistle 33 = .ok (.iload_n 1, 1) := by decide +kernel
theorem dX5_whistle_34 : decode cX5_whistle 34 = .ok (.iaload, 1) := by decide +kernel
theorem dX5_whistle_35 : decode cX5_whistle 35 = .ok (.iconst 2, 1) := by decide +kernel
theorem dX5_whistle_36 : decode cX5_whistle 36 = .ok (.if_icmp .ne 8, 3) := by decide +kernel
theorem dX5_whistle_39 : decode cX5_whistle 39 = .ok (.bipush 70, 2) := by decide +kernel
theorem dX5_whistle_41 : decode cX5_whistle 41 = .ok (.goto 4, 3) := by decide +kernel
theorem dX5_whistle_44 : decode cX5_whistle 44 = .ok (.iload_n 1, 1) := by decide +kernel
theorem dX5_whistle_45 : decode cX5_whistle 45 = .ok (.ireturn, 1) := by decide +kernel
theorem dX5_as_0 : decode cX5_as 0 = .ok (.aload_n 0, 1) := by decide +kernel
theorem dX5_as_1 : decode cX5_as 1 = .ok (.iload_n 1, 1) := by decide +kernel
theorem dX5_as_2 : decode cX5_as 2 = .ok (.invokevirtual 162, 3) := by decide +kernel
theorem dX5_as_5 : decode cX5_as 5 = .ok (.ifCond .eq 9, 3) := by decide +kernel
theorem dX5_as_8 : decode cX5_as 8 = .ok (.aload_n 0, 1) := by decide +kernel
theorem dX5_as_9 : decode cX5_as 9 = .ok (.iconst (-1), 1) := by decide +kernel
theorem dX5_as_10 : decode cX5_as 10 = .ok (.invokevirtual 123, 3) := by decide +kernel
theorem dX5_as_13 : decode cX5_as 13 = .ok (.ireturn, 1) := by decide +kernel
theorem dX5_as_14 : decode cX5_as 14 = .ok (.iload_n 2, 1) := by decide +kernel
theorem dX5_as_15 : decode cX5_as 15 = .ok (.i2l, 1) := by decide +kernel
theorem dX5_as_16 : decode cX5_as 16 = .ok (.lconst 0, 1) := by decide +kernel
theorem dX5_as_17 : decode cX5_as 17 = .ok (.ldc2_w 126, 3) := by decide +kernel
theorem dX5_as_20 : decode cX5_as 20 = .ok (.invokestatic 83, 3) := by decide +kernel
theorem dX5_as_23 : decode cX5_as 23 = .ok (.ifCond .ne 10, 3) := by decide +kernel
theorem dX5_as_26 : decode cX5_as 26 = .ok (.aload_n 0, 1) := by decide +kernel
theorem dX5_as_27 : decode cX5_as 27 = .ok (.bipush (-2), 2) := by decide +kernel
theorem dX5_as_29 : decode cX5_as 29 = .ok (.invokevirtual 123, 3) := by decide +kernel
theorem dX5_as_32 : decode cX5_as 32 = .ok (.ireturn, 1) := by decide +kernel
theorem dX5_as_33 : decode cX5_as 33 = .ok (.aload_n 0, 1) := by decide +kernel
theorem dX5_as_34 : decode cX5_as 34 = .ok (.getfield 7, 3) := by decide +kernel
theorem dX5_as_37 : decode cX5_as 37 = .ok (.iload_n 1, 1) := by decide +kernel
theorem dX5_as_38 : decode cX5_as 38 = .ok (.iaload, 1) := by decide +kernel
theorem dX5_as_39 : decode cX5_as 39 = .ok (.iload_n 2, 1) := by decide +kernel
theorem dX5_as_40 : decode cX5_as 40 = .ok (.if_icmp .lt 11, 3) := by decide +kernel
theorem dX5_as_43 : decode cX5_as 43 = .ok (.aload_n 0, 1) := by decide +kernel
theorem dX5_as_44 : decode cX5_as 44 = .ok (.iconst 1, 1) := by decide +kernel
theorem dX5_as_45 : decode cX5_as 45 = .ok (.invokevirtual 123, 3) := by decide +kernel
theorem dX5_as_48 : decode cX5_as 48 = .ok (.goto 8, 3) := by decide +kernel
theorem dX5_as_51 : decode cX5_as 51 = .ok (.aload_n 0, 1) := by decide +kernel
theorem dX5_as_52 : decode cX5_as 52 = .ok (.iconst 2, 1) := by decide +kernel
theorem dX5_as_53 : decode cX5_as 53 = .ok (.invokevirtual 111, 3) := by decide +kernel
theorem dX5_as_56 : decode cX5_as 56 = .ok (.ireturn, 1) := by decide +kernel
theorem dX5_trace_0 : decode cX5_trace 0 = .ok (.aload_n 0, 1) := by decide +kernel
theorem dX5_trace_1 : decode cX5_trace 1 = .ok (.getfield 246, 3) := by decide +kernel
theorem dX5_trace_4 : decode cX5_trace 4 = .ok (.ireturn, 1) := by decide +kernel
theorem dX5_fault_0 : decode cX5_fault 0 = .ok (.aload_n 0, 1) := by decide +kernel
theorem dX5_fault_1 : decode cX5_fault 1 = .ok (.getfield 72, 3) := by decide +kernel
theorem dX5_fault_4 : decode cX5_fault 4 = .ok (.ireturn, 1) := by decide +kernel
theorem dX5_many_0 : decode cX5_many 0 = .ok (.iload_n 1, 1) := by decide +kernel
theorem dX5_many_1 : decode cX5_many 1 = .ok (.tableswitch 60 0 4 #[35, 40, 45, 50, 55], 35) := by decide +kernel
theorem dX5_many_36 : decode cX5_many 36 = .ok (.aload_n 0, 1) := by decide +kernel
theorem dX5_many_37 : decode cX5_many 37 = .ok (.getfield 80, 3) := by decide +kernel
theorem dX5_many_40 : decode cX5_many 40 = .ok (.ireturn, 1) := by decide +kernel
theorem dX5_many_41 : decode cX5_many 41 = .ok (.aload_n 0, 1) := by decide +kernel
theorem dX5_many_42 : decode cX5_many 42 = .ok (.getfield 135, 3) := by decide +kernel
theorem dX5_many_45 : decode cX5_many 45 = .ok (.ireturn, 1) := by decide +kernel
theorem dX5_many_46 : decode cX5_many 46 = .ok (.aload_n 0, 1) := by decide +kernel
theorem dX5_many_47 : decode cX5_many 47 = .ok (.getfield 138, 3) := by decide +kernel
theorem dX5_many_50 : decode cX5_many 50 = .ok (.ireturn, 1) := by decide +kernel
theorem dX5_many_51 : decode cX5_many 51 = .ok (.aload_n 0, 1) := by decide +kernel
theorem dX5_many_52 : decode cX5_many 52 = .ok (.getfield 141, 3) := by decide +kernel
theorem dX5_many_55 : decode cX5_many 55 = .ok (.ireturn, 1) := by decide +kernel
theorem dX5_many_56 : decode cX5_many 56 = .ok (.aload_n 0, 1) := by decide +kernel
theorem dX5_many_57 : decode cX5_many 57 = .ok (.getfield 144, 3) := by decide +kernel
theorem dX5_many_60 : decode cX5_many 60 = .ok (.ireturn, 1) := by decide +kernel
theorem dX5_many_61 : decode cX5_many 61 = .ok (.bipush (-2), 2) := by decide +kernel
theorem dX5_many_63 : decode cX5_many 63 = .ok (.ireturn, 1) := by decide +kernel
