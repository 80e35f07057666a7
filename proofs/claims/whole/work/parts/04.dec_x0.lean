theorem dX0_init_0 : decode cX0_init 0 = .ok (.aload_n 0, 1) := by decide +kernel
theorem dX0_init_1 : decode cX0_init 1 = .ok (.invokespecial 3, 3) := by decide +kernel
theorem dX0_init_4 : decode cX0_init 4 = .ok (.aload_n 0, 1) := by decide +kernel
theorem dX0_init_5 : decode cX0_init 5 = .ok (.bipush 6, 2) := by decide +kernel
theorem dX0_init_7 : decode cX0_init 7 = .ok (.newarray .int, 2) := by decide +kernel
theorem dX0_init_9 : decode cX0_init 9 = .ok (.putfield 9, 3) := by decide +kernel
theorem dX0_init_12 : decode cX0_init 12 = .ok (.aload_n 0, 1) := by decide +kernel
theorem dX0_init_13 : decode cX0_init 13 = .ok (.bipush 6, 2) := by decide +kernel
theorem dX0_init_15 : decode cX0_init 15 = .ok (.newarray .int, 2) := by decide +kernel
theorem dX0_init_17 : decode cX0_init 17 = .ok (.putfield 15, 3) := by decide +kernel
theorem dX0_init_20 : decode cX0_init 20 = .ok (.aload_n 0, 1) := by decide +kernel
theorem dX0_init_21 : decode cX0_init 21 = .ok (.bipush 6, 2) := by decide +kernel
theorem dX0_init_23 : decode cX0_init 23 = .ok (.newarray .int, 2) := by decide +kernel
theorem dX0_init_25 : decode cX0_init 25 = .ok (.putfield 18, 3) := by decide +kernel
theorem dX0_init_28 : decode cX0_init 28 = .ok (.aload_n 0, 1) := by decide +kernel
theorem dX0_init_29 : decode cX0_init 29 = .ok (.bipush 6, 2) := by decide +kernel
theorem dX0_init_31 : decode cX0_init 31 = .ok (.newarray .int, 2) := by decide +kernel
theorem dX0_init_33 : decode cX0_init 33 = .ok (.putfield 21, 3) := by decide +kernel
theorem dX0_init_36 : decode cX0_init 36 = .ok (.return_, 1) := by decide +kernel
theorem dX0_become_0 : decode cX0_become 0 = .ok (.aload_n 0, 1) := by decide +kernel
theorem dX0_become_1 : decode cX0_become 1 = .ok (.aload_n 1, 1) := by decide +kernel
theorem dX0_become_2 : decode cX0_become 2 = .ok (.getfield 24, 3) := by decide +kernel
theorem dX0_become_5 : decode cX0_become 5 = .ok (.putfield 24, 3) := by decide +kernel
theorem dX0_become_8 : decode cX0_become 8 = .ok (.aload_n 0, 1) := by decide +kernel
theorem dX0_become_9 : decode cX0_become 9 = .ok (.aload_n 1, 1) := by decide +kernel
theorem dX0_become_10 : decode cX0_become 10 = .ok (.getfield 28, 3) := by decide +kernel
theorem dX0_become_13 : decode cX0_become 13 = .ok (.putfield 28, 3) := by decide +kernel
theorem dX0_become_16 : decode cX0_become 16 = .ok (.aload_n 0, 1) := by decide +kernel
theorem dX0_become_17 : decode cX0_become 17 = .ok (.aload_n 1, 1) := by decide +kernel
theorem dX0_become_18 : decode cX0_become 18 = .ok (.getfield 31, 3) := by decide +kernel
theorem dX0_become_21 : decode cX0_become 21 = .ok (.putfield 31, 3) := by decide +kernel
theorem dX0_become_24 : decode cX0_become 24 = .ok (.aload_n 1, 1) := by decide +kernel
theorem dX0_become_25 : decode cX0_become 25 = .ok (.getfield 9, 3) := by decide +kernel
theorem dX0_become_28 : decode cX0_become 28 = .ok (.iconst 0, 1) := by decide +kernel
theorem dX0_become_29 : decode cX0_become 29 = .ok (.aload_n 0, 1) := by decide +kernel
theorem dX0_become_30 : decode cX0_become 30 = .ok (.getfield 9, 3) := by decide +kernel
theorem dX0_become_33 : decode cX0_become 33 = .ok (.iconst 0, 1) := by decide +kernel
theorem dX0_become_34 : decode cX0_become 34 = .ok (.bipush 6, 2) := by decide +kernel
theorem dX0_become_36 : decode cX0_become 36 = .ok (.invokestatic 34, 3) := by decide +kernel
theorem dX0_become_39 : decode cX0_become 39 = .ok (.aload_n 1, 1) := by decide +kernel
theorem dX0_become_40 : decode cX0_become 40 = .ok (.getfield 15, 3) := by decide +kernel
theorem dX0_become_43 : decode cX0_become 43 = .ok (.iconst 0, 1) := by decide +kernel
theorem dX0_become_44 : decode cX0_become 44 = .ok (.aload_n 0, 1) := by decide +kernel
theorem dX0_become_45 : decode cX0_become 45 = .ok (.getfield 15, 3) := by decide +kernel
theorem dX0_become_48 : decode cX0_become 48 = .ok (.iconst 0, 1) := by decide +kernel
theorem dX0_become_49 : decode cX0_become 49 = .ok (.bipush 6, 2) := by decide +kernel
theorem dX0_become_51 : decode cX0_become 51 = .ok (.invokestatic 34, 3) := by decide +kernel
theorem dX0_become_54 : decode cX0_become 54 = .ok (.aload_n 1, 1) := by decide +kernel
theorem dX0_become_55 : decode cX0_become 55 = .ok (.getfield 18, 3) := by decide +kernel
theorem dX0_become_58 : decode cX0_become 58 = .ok (.iconst 0, 1) := by decide +kernel
theorem dX0_become_59 : decode cX0_become 59 = .ok (.aload_n 0, 1) := by decide +kernel
theorem dX0_become_60 : decode cX0_become 60 = .ok (.getfield 18, 3) := by decide +kernel
theorem dX0_become_63 : decode cX0_become 63 = .ok (.iconst 0, 1) := by decide +kernel
theorem dX0_become_64 : decode cX0_become 64 = .ok (.bipush 6, 2) := by decide +kernel
theorem dX0_become_66 : decode cX0_become 66 = .ok (.invokestatic 34, 3) := by decide +kernel
theorem dX0_become_69 : decode cX0_become 69 = .ok (.aload_n 1, 1) := by decide +kernel
theorem dX0_become_70 : decode cX0_become 70 = .ok (.getfield 21, 3) := by decide +kernel
theorem dX0_become_73 : decode cX0_become 73 = .ok (.iconst 0, 1) := by decide +kernel
theorem dX0_become_74 : decode cX0_become 74 = .ok (.aload_n 0, 1) := by decide +kernel
theorem dX0_become_75 : decode cX0_become 75 = .ok (.getfield 21, 3) := by decide +kernel
theorem dX0_become_78 : decode cX0_become 78 = .ok (.iconst 0, 1) := by decide +kernel
theorem dX0_become_79 : decode cX0_become 79 = .ok (.bipush 6, 2) := by decide +kernel
theorem dX0_become_81 : decode cX0_become 81 = .ok (.invokestatic 34, 3) := by decide +kernel
theorem dX0_become_84 : decode cX0_become 84 = .ok (.return_, 1) := by decide +kernel
theorem dX0_scentOf_0 : decode cX0_scentOf 0 = .ok (.aload_n 0, 1) := by decide +kernel
theorem dX0_scentOf_1 : decode cX0_scentOf 1 = .ok (.getfield 15, 3) := by decide +kernel
theorem dX0_scentOf_4 : decode cX0_scentOf 4 = .ok (.iload_n 1, 1) := by decide +kernel
theorem dX0_scentOf_5 : decode cX0_scentOf 5 = .ok (.iaload, 1) := by decide +kernel
theorem dX0_scentOf_6 : decode cX0_scentOf 6 = .ok (.invokestatic 40, 3) := by decide +kernel
theorem dX0_scentOf_9 : decode cX0_scentOf 9 = .ok (.istore_n 2, 1) := by decide +kernel
theorem dX0_scentOf_10 : decode cX0_scentOf 10 = .ok (.aload_n 0, 1) := by decide +kernel
theorem dX0_scentOf_11 : decode cX0_scentOf 11 = .ok (.getfield 9, 3) := by decide +kernel
theorem dX0_scentOf_14 : decode cX0_scentOf 14 = .ok (.iload_n 1, 1) := by decide +kernel
theorem dX0_scentOf_15 : decode cX0_scentOf 15 = .ok (.iaload, 1) := by decide +kernel
theorem dX0_scentOf_16 : decode cX0_scentOf 16 = .ok (.lookupswitch 38 #[(1, 34), (2, 28)], 28) := by decide +kernel
theorem dX0_scentOf_44 : decode cX0_scentOf 44 = .ok (.iconst 2, 1) := by decide +kernel
theorem dX0_scentOf_45 : decode cX0_scentOf 45 = .ok (.iload_n 2, 1) := by decide +kernel
theorem dX0_scentOf_46 : decode cX0_scentOf 46 = .ok (.iconst 1, 1) := by decide +kernel
theorem dX0_scentOf_47 : decode cX0_scentOf 47 = .ok (.iadd, 1) := by decide +kernel
theorem dX0_scentOf_48 : decode cX0_scentOf 48 = .ok (.imul, 1) := by decide +kernel
theorem dX0_scentOf_49 : decode cX0_scentOf 49 = .ok (.ireturn, 1) := by decide +kernel
theorem dX0_scentOf_50 : decode cX0_scentOf 50 = .ok (.iload_n 2, 1) := by decide +kernel
theorem dX0_scentOf_51 : decode cX0_scentOf 51 = .ok (.iconst 1, 1) := by decide +kernel
theorem dX0_scentOf_52 : decode cX0_scentOf 52 = .ok (.iadd, 1) := by decide +kernel
theorem dX0_scentOf_53 : decode cX0_scentOf 53 = .ok (.ireturn, 1) := by decide +kernel
theorem dX0_scentOf_54 : decode cX0_scentOf 54 = .ok (.iload_n 2, 1) := by decide +kernel
theorem dX0_scentOf_55 : decode cX0_scentOf 55 = .ok (.ireturn, 1) := by decide +kernel
theorem dX0_distanceOf_0 : decode cX0_distanceOf 0 = .ok (.aload_n 0, 1) := by decide +kernel
theorem dX0_distanceOf_1 : decode cX0_distanceOf 1 = .ok (.getfield 21, 3) := by decide +kernel
theorem dX0_distanceOf_4 : decode cX0_distanceOf 4 = .ok (.iload_n 1, 1) := by decide +kernel
theorem dX0_distanceOf_5 : decode cX0_distanceOf 5 = .ok (.iaload, 1) := by decide +kernel
theorem dX0_distanceOf_6 : decode cX0_distanceOf 6 = .ok (.aload_n 0, 1) := by decide +kernel
theorem dX0_distanceOf_7 : decode cX0_distanceOf 7 = .ok (.getfield 24, 3) := by decide +kernel
theorem dX0_distanceOf_10 : decode cX0_distanceOf 10 = .ok (.isub, 1) := by decide +kernel
theorem dX0_distanceOf_11 : decode cX0_distanceOf 11 = .ok (.invokestatic 46, 3) := by decide +kernel
theorem dX0_distanceOf_14 : decode cX0_distanceOf 14 = .ok (.ireturn, 1) := by decide +kernel
theorem dX0_isSmelt_0 : decode cX0_isSmelt 0 = .ok (.aload_n 0, 1) := by decide +kernel
theorem dX0_isSmelt_1 : decode cX0_isSmelt 1 = .ok (.iload_n 1, 1) := by decide +kernel
theorem dX0_isSmelt_2 : decode cX0_isSmelt 2 = .ok (.invokevirtual 51, 3) := by decide +kernel
theorem dX0_isSmelt_5 : decode cX0_isSmelt 5 = .ok (.aload_n 0, 1) := by decide +kernel
theorem dX0_isSmelt_6 : decode cX0_isSmelt 6 = .ok (.iload_n 1, 1) := by decide +kernel
theorem dX0_isSmelt_7 : decode cX0_isSmelt 7 = .ok (.invokevirtual 54, 3) := by decide +kernel
theorem dX0_isSmelt_10 : decode cX0_isSmelt 10 = .ok (.if_icmp .gt 7, 3) := by decide +kernel
theorem dX0_isSmelt_13 : decode cX0_isSmelt 13 = .ok (.iconst 1, 1) := by decide +kernel
theorem dX0_isSmelt_14 : decode cX0_isSmelt 14 = .ok (.goto 4, 3) := by decide +kernel
theorem dX0_isSmelt_17 : decode cX0_isSmelt 17 = .ok (.iconst 0, 1) := by decide +kernel
theorem dX0_isSmelt_18 : decode cX0_isSmelt 18 = .ok (.ireturn, 1) := by decide +kernel
theorem dX0_goesTo_0 : decode cX0_goesTo 0 = .ok (.bipush (-9), 2) := by decide +kernel
theorem dX0_goesTo_2 : decode cX0_goesTo 2 = .ok (.istore_n 2, 1) := by decide +kernel
theorem dX0_goesTo_3 : decode cX0_goesTo 3 = .ok (.iconst 0, 1) := by decide +kernel
theorem dX0_goesTo_4 : decode cX0_goesTo 4 = .ok (.istore_n 3, 1) := by decide +kernel
theorem dX0_goesTo_5 : decode cX0_goesTo 5 = .ok (.iconst 0, 1) := by decide +kernel
theorem dX0_goesTo_6 : decode cX0_goesTo 6 = .ok (.istore 4, 2) := by decide +kernel
theorem dX0_goesTo_8 : decode cX0_goesTo 8 = .ok (.iconst 0, 1) := by decide +kernel
theorem dX0_goesTo_9 : decode cX0_goesTo 9 = .ok (.istore 5, 2) := by decide +kernel
theorem dX0_goesTo_11 : decode cX0_goesTo 11 = .ok (.iload 5, 2) := by decide +kernel
theorem dX0_goesTo_13 : decode cX0_goesTo 13 = .ok (.aload_n 0, 1) := by decide +kernel
theorem dX0_goesTo_14 : decode cX0_goesTo 14 = .ok (.getfield 31, 3) := by decide +kernel
theorem dX0_goesTo_17 : decode cX0_goesTo 17 = .ok (.if_icmp .ge 94, 3) := by decide +kernel
theorem dX0_goesTo_20 : decode cX0_goesTo 20 = .ok (.aload_n 0, 1) := by decide +kernel
theorem dX0_goesTo_21 : decode cX0_goesTo 21 = .ok (.getfield 15, 3) := by decide +kernel
theorem dX0_goesTo_24 : decode cX0_goesTo 24 = .ok (.iload 5, 2) := by decide +kernel
theorem dX0_goesTo_26 : decode cX0_goesTo 26 = .ok (.iaload, 1) := by decide +kernel
theorem dX0_goesTo_27 : decode cX0_goesTo 27 = .ok (.aload_n 0, 1) := by decide +kernel
theorem dX0_goesTo_28 : decode cX0_goesTo 28 = .ok (.getfield 18, 3) := by decide +kernel
theorem dX0_goesTo_31 : decode cX0_goesTo 31 = .ok (.iload_n 1, 1) := by decide +kernel
theorem dX0_goesTo_32 : decode cX0_goesTo 32 = .ok (.iaload, 1) := by decide +kernel
theorem dX0_goesTo_33 : decode cX0_goesTo 33 = .ok (.ixor, 1) := by decide +kernel
theorem dX0_goesTo_34 : decode cX0_goesTo 34 = .ok (.invokestatic 40, 3) := by decide +kernel
theorem dX0_goesTo_37 : decode cX0_goesTo 37 = .ok (.istore 6, 2) := by decide +kernel
theorem dX0_goesTo_39 : decode cX0_goesTo 39 = .ok (.aload_n 0, 1) := by decide +kernel
theorem dX0_goesTo_40 : decode cX0_goesTo 40 = .ok (.iload 5, 2) := by decide +kernel
theorem dX0_goesTo_42 : decode cX0_goesTo 42 = .ok (.invokevirtual 51, 3) := by decide +kernel
theorem dX0_goesTo_45 : decode cX0_goesTo 45 = .ok (.istore 7, 2) := by decide +kernel
theorem dX0_goesTo_47 : decode cX0_goesTo 47 = .ok (.iload 6, 2) := by decide +kernel
theorem dX0_goesTo_49 : decode cX0_goesTo 49 = .ok (.aload_n 0, 1) := by decide +kernel
theorem dX0_goesTo_50 : decode cX0_goesTo 50 = .ok (.getfield 28, 3) := by decide +kernel
theorem dX0_goesTo_53 : decode cX0_goesTo 53 = .ok (.if_icmp .gt 52, 3) := by decide +kernel
theorem dX0_goesTo_56 : decode cX0_goesTo 56 = .ok (.iload 7, 2) := by decide +kernel
theorem dX0_goesTo_58 : decode cX0_goesTo 58 = .ok (.aload_n 0, 1) := by decide +kernel
theorem dX0_goesTo_59 : decode cX0_goesTo 59 = .ok (.iload 5, 2) := by decide +kernel
theorem dX0_goesTo_61 : decode cX0_goesTo 61 = .ok (.invokevirtual 54, 3) := by decide +kernel
theorem dX0_goesTo_64 : decode cX0_goesTo 64 = .ok (.if_icmp .le 6, 3) := by decide +kernel
theorem dX0_goesTo_67 : decode cX0_goesTo 67 = .ok (.goto 38, 3) := by decide +kernel
theorem dX0_goesTo_70 : decode cX0_goesTo 70 = .ok (.iload_n 2, 1) := by decide +kernel
theorem dX0_goesTo_71 : decode cX0_goesTo 71 = .ok (.bipush (-9), 2) := by decide +kernel
theorem dX0_goesTo_73 : decode cX0_goesTo 73 = .ok (.if_icmp .eq 22, 3) := by decide +kernel
theorem dX0_goesTo_76 : decode cX0_goesTo 76 = .ok (.iload 6, 2) := by decide +kernel
theorem dX0_goesTo_78 : decode cX0_goesTo 78 = .ok (.iload_n 3, 1) := by decide +kernel
theorem dX0_goesTo_79 : decode cX0_goesTo 79 = .ok (.if_icmp .lt 16, 3) := by decide +kernel
theorem dX0_goesTo_82 : decode cX0_goesTo 82 = .ok (.iload 6, 2) := by decide +kernel
theorem dX0_goesTo_84 : decode cX0_goesTo 84 = .ok (.iload_n 3, 1) := by decide +kernel
theorem dX0_goesTo_85 : decode cX0_goesTo 85 = .ok (.if_icmp .ne 20, 3) := by decide +kernel
theorem dX0_goesTo_88 : decode cX0_goesTo 88 = .ok (.iload 7, 2) := by decide +kernel
theorem dX0_goesTo_90 : decode cX0_goesTo 90 = .ok (.iload 4, 2) := by decide +kernel
theorem dX0_goesTo_92 : decode cX0_goesTo 92 = .ok (.if_icmp .ge 13, 3) := by decide +kernel
theorem dX0_goesTo_95 : decode cX0_goesTo 95 = .ok (.iload 5, 2) := by decide +kernel
theorem dX0_goesTo_97 : decode cX0_goesTo 97 = .ok (.istore_n 2, 1) := by decide +kernel
theorem dX0_goesTo_98 : decode cX0_goesTo 98 = .ok (.iload 6, 2) := by decide +kernel
theorem dX0_goesTo_100 : decode cX0_goesTo 100 = .ok (.istore_n 3, 1) := by decide +kernel
theorem dX0_goesTo_101 : decode cX0_goesTo 101 = .ok (.iload 7, 2) := by decide +kernel
theorem dX0_goesTo_103 : decode cX0_goesTo 103 = .ok (.istore 4, 2) := by decide +kernel
theorem dX0_goesTo_105 : decode cX0_goesTo 105 = .ok (.iinc 5 1, 3) := by decide +kernel
theorem dX0_goesTo_108 : decode cX0_goesTo 108 = .ok (.goto (-97), 3) := by decide +kernel
theorem dX0_goesTo_111 : decode cX0_goesTo 111 = .ok (.iload_n 2, 1) := by decide +kernel
theorem dX0_goesTo_112 : decode cX0_goesTo 112 = .ok (.ireturn, 1) := by decide +kernel
theorem dX0_deliver_0 : decode cX0_deliver 0 = .ok (.aload_n 0, 1) := by decide +kernel
theorem dX0_deliver_1 : decode cX0_deliver 1 = .ok (.iload_n 1, 1) := by decide +kernel
theorem dX0_deliver_2 : decode cX0_deliver 2 = .ok (.invokevirtual 57, 3) := by decide +kernel
theorem dX0_deliver_5 : decode cX0_deliver 5 = .ok (.istore_n 2, 1) := by decide +kernel
theorem dX0_deliver_6 : decode cX0_deliver 6 = .ok (.iload_n 2, 1) := by decide +kernel
theorem dX0_deliver_7 : decode cX0_deliver 7 = .ok (.bipush (-9), 2) := by decide +kernel
theorem dX0_deliver_9 : decode cX0_deliver 9 = .ok (.if_icmp .eq 15, 3) := by decide +kernel
theorem dX0_deliver_12 : decode cX0_deliver 12 = .ok (.aload_n 0, 1) := by decide +kernel
theorem dX0_deliver_13 : decode cX0_deliver 13 = .ok (.getfield 18, 3) := by decide +kernel
theorem dX0_deliver_16 : decode cX0_deliver 16 = .ok (.iload_n 2, 1) := by decide +kernel
theorem dX0_deliver_17 : decode cX0_deliver 17 = .ok (.aload_n 0, 1) := by decide +kernel
theorem dX0_deliver_18 : decode cX0_deliver 18 = .ok (.getfield 15, 3) := by decide +kernel
theorem dX0_deliver_21 : decode cX0_deliver 21 = .ok (.iload_n 2, 1) := by decide +kernel
theorem dX0_deliver_22 : decode cX0_deliver 22 = .ok (.iaload, 1) := by decide +kernel
theorem dX0_deliver_23 : decode cX0_deliver 23 = .ok (.iastore, 1) := by decide +kernel
theorem dX0_deliver_24 : decode cX0_deliver 24 = .ok (.iload_n 2, 1) := by decide +kernel
theorem dX0_deliver_25 : decode cX0_deliver 25 = .ok (.ireturn, 1) := by decide +kernel
theorem dX0_whoseCome_0 : decode cX0_whoseCome 0 = .ok (.iconst 0, 1) := by decide +kernel
theorem dX0_whoseCome_1 : decode cX0_whoseCome 1 = .ok (.istore_n 1, 1) := by decide +kernel
theorem dX0_whoseCome_2 : decode cX0_whoseCome 2 = .ok (.iconst 0, 1) := by decide +kernel
theorem dX0_whoseCome_3 : decode cX0_whoseCome 3 = .ok (.istore_n 2, 1) := by decide +kernel
theorem dX0_whoseCome_4 : decode cX0_whoseCome 4 = .ok (.iload_n 2, 1) := by decide +kernel
theorem dX0_whoseCome_5 : decode cX0_whoseCome 5 = .ok (.aload_n 0, 1) := by decide +kernel
theorem dX0_whoseCome_6 : decode cX0_whoseCome 6 = .ok (.getfield 31, 3) := by decide +kernel
theorem dX0_whoseCome_9 : decode cX0_whoseCome 9 = .ok (.if_icmp .ge 24, 3) := by decide +kernel
theorem dX0_whoseCome_12 : decode cX0_whoseCome 12 = .ok (.aload_n 0, 1) := by decide +kernel
theorem dX0_whoseCome_13 : decode cX0_whoseCome 13 = .ok (.iload_n 2, 1) := by decide +kernel
theorem dX0_whoseCome_14 : decode cX0_whoseCome 14 = .ok (.invokevirtual 57, 3) := by decide +kernel
theorem dX0_whoseCome_17 : decode cX0_whoseCome 17 = .ok (.iload_n 2, 1) := by decide +kernel
theorem dX0_whoseCome_18 : decode cX0_whoseCome 18 = .ok (.if_icmp .ne 9, 3) := by decide +kernel
theorem dX0_whoseCome_21 : decode cX0_whoseCome 21 = .ok (.iload_n 1, 1) := by decide +kernel
theorem dX0_whoseCome_22 : decode cX0_whoseCome 22 = .ok (.iconst 1, 1) := by decide +kernel
theorem dX0_whoseCome_23 : decode cX0_whoseCome 23 = .ok (.iload_n 2, 1) := by decide +kernel
theorem dX0_whoseCome_24 : decode cX0_whoseCome 24 = .ok (.ishl, 1) := by decide +kernel
theorem dX0_whoseCome_25 : decode cX0_whoseCome 25 = .ok (.ior, 1) := by decide +kernel
theorem dX0_whoseCome_26 : decode cX0_whoseCome 26 = .ok (.istore_n 1, 1) := by decide +kernel
theorem dX0_whoseCome_27 : decode cX0_whoseCome 27 = .ok (.iinc 2 1, 3) := by decide +kernel
theorem dX0_whoseCome_30 : decode cX0_whoseCome 30 = .ok (.goto (-26), 3) := by decide +kernel
theorem dX0_whoseCome_33 : decode cX0_whoseCome 33 = .ok (.iload_n 1, 1) := by decide +kernel
theorem dX0_whoseCome_34 : decode cX0_whoseCome 34 = .ok (.ireturn, 1) := by decide +kernel
theorem dX0_whoGetOne_0 : decode cX0_whoGetOne 0 = .ok (.iconst 0, 1) := by decide +kernel
theorem dX0_whoGetOne_1 : decode cX0_whoGetOne 1 = .ok (.istore_n 1, 1) := by decide +kernel
theorem dX0_whoGetOne_2 : decode cX0_whoGetOne 2 = .ok (.iconst 0, 1) := by decide +kernel
theorem dX0_whoGetOne_3 : decode cX0_whoGetOne 3 = .ok (.istore_n 2, 1) := by decide +kernel
theorem dX0_whoGetOne_4 : decode cX0_whoGetOne 4 = .ok (.iload_n 2, 1) := by decide +kernel
theorem dX0_whoGetOne_5 : decode cX0_whoGetOne 5 = .ok (.aload_n 0, 1) := by decide +kernel
theorem dX0_whoGetOne_6 : decode cX0_whoGetOne 6 = .ok (.getfield 31, 3) := by decide +kernel
theorem dX0_whoGetOne_9 : decode cX0_whoGetOne 9 = .ok (.if_icmp .ge 19, 3) := by decide +kernel
theorem dX0_whoGetOne_12 : decode cX0_whoGetOne 12 = .ok (.iload_n 1, 1) := by decide +kernel
theorem dX0_whoGetOne_13 : decode cX0_whoGetOne 13 = .ok (.aload_n 0, 1) := by decide +kernel
theorem dX0_whoGetOne_14 : decode cX0_whoGetOne 14 = .ok (.iload_n 2, 1) := by decide +kernel
theorem dX0_whoGetOne_15 : decode cX0_whoGetOne 15 = .ok (.invokevirtual 57, 3) := by decide +kernel
theorem dX0_whoGetOne_18 : decode cX0_whoGetOne 18 = .ok (.invokestatic 60, 3) := by decide +kernel
theorem dX0_whoGetOne_21 : decode cX0_whoGetOne 21 = .ok (.istore_n 1, 1) := by decide +kernel
theorem dX0_whoGetOne_22 : decode cX0_whoGetOne 22 = .ok (.iinc 2 1, 3) := by decide +kernel
theorem dX0_whoGetOne_25 : decode cX0_whoGetOne 25 = .ok (.goto (-21), 3) := by decide +kernel
theorem dX0_whoGetOne_28 : decode cX0_whoGetOne 28 = .ok (.iload_n 1, 1) := by decide +kernel
theorem dX0_whoGetOne_29 : decode cX0_whoGetOne 29 = .ok (.ireturn, 1) := by decide +kernel
theorem dX1_init_0 : decode cX1_init 0 = .ok (.aload_n 0, 1) := by decide +kernel
theorem dX1_init_1 : decode cX1_init 1 = .ok (.invokespecial 3, 3) := by decide +kernel
theorem dX1_init_4 : decode cX1_init 4 = .ok (.aload_n 0, 1) := by decide +kernel
theorem dX1_init_5 : decode cX1_init 5 = .ok (.bipush 60, 2) := by decide +kernel
theorem dX1_init_7 : decode cX1_init 7 = .ok (.newarray .int, 2) := by decide +kernel
theorem dX1_init_9 : decode cX1_init 9 = .ok (.putfield 9, 3) := by decide +kernel
theorem dX1_init_12 : decode cX1_init 12 = .ok (.return_, 1) := by decide +kernel
theorem dX1_begin_0 : decode cX1_begin 0 = .ok (.aload_n 0, 1) := by decide +kernel
theorem dX1_begin_1 : decode cX1_begin 1 = .ok (.iconst 1, 1) := by decide +kernel
theorem dX1_begin_2 : decode cX1_begin 2 = .ok (.putfield 15, 3) := by decide +kernel
theorem dX1_begin_5 : decode cX1_begin 5 = .ok (.aload_n 0, 1) := by decide +kernel
theorem dX1_begin_6 : decode cX1_begin 6 = .ok (.iload_n 1, 1) := by decide +kernel
theorem dX1_begin_7 : decode cX1_begin 7 = .ok (.putfield 19, 3) := by decide +kernel
theorem dX1_begin_10 : decode cX1_begin 10 = .ok (.aload_n 0, 1) := by decide +kernel
theorem dX1_begin_11 : decode cX1_begin 11 = .ok (.iload_n 2, 1) := by decide +kernel
theorem dX1_begin_12 : decode cX1_begin 12 = .ok (.putfield 23, 3) := by decide +kernel
theorem dX1_begin_15 : decode cX1_begin 15 = .ok (.iconst 0, 1) := by decide +kernel
theorem dX1_begin_16 : decode cX1_begin 16 = .ok (.istore_n 3, 1) := by decide +kernel
theorem dX1_begin_17 : decode cX1_begin 17 = .ok (.iload_n 3, 1) := by decide +kernel
theorem dX1_begin_18 : decode cX1_begin 18 = .ok (.bipush 60, 2) := by decide +kernel
theorem dX1_begin_20 : decode cX1_begin 20 = .ok (.if_icmp .ge 16, 3) := by decide +kernel
theorem dX1_begin_23 : decode cX1_begin 23 = .ok (.aload_n 0, 1) := by decide +kernel
theorem dX1_begin_24 : decode cX1_begin 24 = .ok (.getfield 9, 3) := by decide +kernel
theorem dX1_begin_27 : decode cX1_begin 27 = .ok (.iload_n 3, 1) := by decide +kernel
theorem dX1_begin_28 : decode cX1_begin 28 = .ok (.iconst 0, 1) := by decide +kernel
theorem dX1_begin_29 : decode cX1_begin 29 = .ok (.iastore, 1) := by decide +kernel
theorem dX1_begin_30 : decode cX1_begin 30 = .ok (.iinc 3 1, 3) := by decide +kernel
theorem dX1_begin_33 : decode cX1_begin 33 = .ok (.goto (-16), 3) := by decide +kernel
theorem dX1_begin_36 : decode cX1_begin 36 = .ok (.return_, 1) := by decide +kernel
theorem dX1_faultAs_0 : decode cX1_faultAs 0 = .ok (.aload_n 0, 1) := by decide +kernel
theorem dX1_faultAs_1 : decode cX1_faultAs 1 = .ok (.getfield 15, 3) := by decide +kernel
theorem dX1_faultAs_4 : decode cX1_faultAs 4 = .ok (.ifCond .ne 5, 3) := by decide +kernel
theorem dX1_faultAs_7 : decode cX1_faultAs 7 = .ok (.iconst 1, 1) := by decide +kernel
theorem dX1_faultAs_8 : decode cX1_faultAs 8 = .ok (.ireturn, 1) := by decide +kernel
theorem dX1_faultAs_9 : decode cX1_faultAs 9 = .ok (.aload_n 0, 1) := by decide +kernel
theorem dX1_faultAs_10 : decode cX1_faultAs 10 = .ok (.getfield 19, 3) := by decide +kernel
theorem dX1_faultAs_13 : decode cX1_faultAs 13 = .ok (.iload_n 1, 1) := by decide +kernel
theorem dX1_faultAs_14 : decode cX1_faultAs 14 = .ok (.if_icmp .ne 7, 3) := by decide +kernel
theorem dX1_faultAs_17 : decode cX1_faultAs 17 = .ok (.iconst 0, 1) := by decide +kernel
theorem dX1_faultAs_18 : decode cX1_faultAs 18 = .ok (.goto 4, 3) := by decide +kernel
theorem dX1_faultAs_21 : decode cX1_faultAs 21 = .ok (.iconst 2, 1) := by decide +kernel
theorem dX1_faultAs_22 : decode cX1_faultAs 22 = .ok (.ireturn, 1) := by decide +kernel
theorem dX1_hasCell_0 : decode cX1_hasCell 0 = .ok (.iload_n 1, 1) := by decide +kernel
theorem dX1_hasCell_1 : decode cX1_hasCell 1 = .ok (.ifCond .lt 15, 3) := by decide +kernel
theorem dX1_hasCell_4 : decode cX1_hasCell 4 = .ok (.iload_n 1, 1) := by decide +kernel
theorem dX1_hasCell_5 : decode cX1_hasCell 5 = .ok (.aload_n 0, 1) := by decide +kernel
theorem dX1_hasCell_6 : decode cX1_hasCell 6 = .ok (.getfield 23, 3) := by decide +kernel
theorem dX1_hasCell_9 : decode cX1_hasCell 9 = .ok (.if_icmp .ge 7, 3) := by decide +kernel
theorem dX1_hasCell_12 : decode cX1_hasCell 12 = .ok (.iconst 1, 1) := by decide +kernel
theorem dX1_hasCell_13 : decode cX1_hasCell 13 = .ok (.goto 4, 3) := by decide +kernel
theorem dX1_hasCell_16 : decode cX1_hasCell 16 = .ok (.iconst 0, 1) := by decide +kernel
theorem dX1_hasCell_17 : decode cX1_hasCell 17 = .ok (.ireturn, 1) := by decide +kernel
theorem dX1_spans_0 : decode cX1_spans 0 = .ok (.iload_n 1, 1) := by decide +kernel
theorem dX1_spans_1 : decode cX1_spans 1 = .ok (.ifCond .lt 29, 3) := by decide +kernel
theorem dX1_spans_4 : decode cX1_spans 4 = .ok (.iload_n 1, 1) := by decide +kernel
theorem dX1_spans_5 : decode cX1_spans 5 = .ok (.aload_n 0, 1) := by decide +kernel
theorem dX1_spans_6 : decode cX1_spans 6 = .ok (.getfield 23, 3) := by decide +kernel
theorem dX1_spans_9 : decode cX1_spans 9 = .ok (.if_icmp .gt 21, 3) := by decide +kernel
theorem dX1_spans_12 : decode cX1_spans 12 = .ok (.iload_n 2, 1) := by decide +kernel
theorem dX1_spans_13 : decode cX1_spans 13 = .ok (.ifCond .lt 17, 3) := by decide +kernel
theorem dX1_spans_16 : decode cX1_spans 16 = .ok (.iload_n 2, 1) := by decide +kernel
theorem dX1_spans_17 : decode cX1_spans 17 = .ok (.aload_n 0, 1) := by decide +kernel
theorem dX1_spans_18 : decode cX1_spans 18 = .ok (.getfield 23, 3) := by decide +kernel
theorem dX1_spans_21 : decode cX1_spans 21 = .ok (.iload_n 1, 1) := by decide +kernel
theorem dX1_spans_22 : decode cX1_spans 22 = .ok (.isub, 1) := by decide +kernel
theorem dX1_spans_23 : decode cX1_spans 23 = .ok (.if_icmp .gt 7, 3) := by decide +kernel
theorem dX1_spans_26 : decode cX1_spans 26 = .ok (.iconst 1, 1) := by decide +kernel
theorem dX1_spans_27 : decode cX1_spans 27 = .ok (.goto 4, 3) := by decide +kernel
theorem dX1_spans_30 : decode cX1_spans 30 = .ok (.iconst 0, 1) := by decide +kernel
theorem dX1_spans_31 : decode cX1_spans 31 = .ok (.ireturn, 1) := by decide +kernel
theorem dX1_write_0 : decode cX1_write 0 = .ok (.aload_n 0, 1) := by decide +kernel
theorem dX1_write_1 : decode cX1_write 1 = .ok (.getfield 19, 3) := by decide +kernel
theorem dX1_write_4 : decode cX1_write 4 = .ok (.ifCond .ne 14, 3) := by decide +kernel
theorem dX1_write_7 : decode cX1_write 7 = .ok (.aload_n 0, 1) := by decide +kernel
theorem dX1_write_8 : decode cX1_write 8 = .ok (.getfield 9, 3) := by decide +kernel
theorem dX1_write_11 : decode cX1_write 11 = .ok (.iload_n 1, 1) := by decide +kernel
theorem dX1_write_12 : decode cX1_write 12 = .ok (.iload_n 2, 1) := by decide +kernel
theorem dX1_write_13 : decode cX1_write 13 = .ok (.i2b, 1) := by decide +kernel
theorem dX1_write_14 : decode cX1_write 14 = .ok (.iastore, 1) := by decide +kernel
theorem dX1_write_15 : decode cX1_write 15 = .ok (.goto 29, 3) := by decide +kernel
theorem dX1_write_18 : decode cX1_write 18 = .ok (.aload_n 0, 1) := by decide +kernel
theorem dX1_write_19 : decode cX1_write 19 = .ok (.getfield 19, 3) := by decide +kernel
theorem dX1_write_22 : decode cX1_write 22 = .ok (.iconst 1, 1) := by decide +kernel
theorem dX1_write_23 : decode cX1_write 23 = .ok (.if_icmp .ne 14, 3) := by decide +kernel
theorem dX1_write_26 : decode cX1_write 26 = .ok (.aload_n 0, 1) := by decide +kernel
theorem dX1_write_27 : decode cX1_write 27 = .ok (.getfield 9, 3) := by decide +kernel
theorem dX1_write_30 : decode cX1_write 30 = .ok (.iload_n 1, 1) := by decide +kernel
theorem dX1_write_31 : decode cX1_write 31 = .ok (.iload_n 2, 1) := by decide +kernel
theorem dX1_write_32 : decode cX1_write 32 = .ok (.i2s, 1) := by decide +kernel
theorem dX1_write_33 : decode cX1_write 33 = .ok (.iastore, 1) := by decide +kernel
theorem dX1_write_34 : decode cX1_write 34 = .ok (.goto 10, 3) := by decide +kernel
theorem dX1_write_37 : decode cX1_write 37 = .ok (.aload_n 0, 1) := by decide +kernel
theorem dX1_write_38 : decode cX1_write 38 = .ok (.getfield 9, 3) := by decide +kernel
theorem dX1_write_41 : decode cX1_write 41 = .ok (.iload_n 1, 1) := by decide +kernel
theorem dX1_write_42 : decode cX1_write 42 = .ok (.iload_n 2, 1) := by decide +kernel
theorem dX1_write_43 : decode cX1_write 43 = .ok (.iastore, 1) := by decide +kernel
theorem dX1_write_44 : decode cX1_write 44 = .ok (.return_, 1) := by decide +kernel
theorem dX2_init_0 : decode cX2_init 0 = .ok (.aload_n 0, 1) := by decide +kernel
theorem dX2_init_1 : decode cX2_init 1 = .ok (.invokespecial 3, 3) := by decide +kernel
theorem dX2_init_4 : decode cX2_init 4 = .ok (.return_, 1) := by decide +kernel
theorem dX2_clear_0 : decode cX2_clear 0 = .ok (.aload_n 0, 1) := by decide +kernel
theorem dX2_clear_1 : decode cX2_clear 1 = .ok (.iconst 0, 1) := by decide +kernel
theorem dX2_clear_2 : decode cX2_clear 2 = .ok (.putfield 9, 3) := by decide +kernel
theorem dX2_clear_5 : decode cX2_clear 5 = .ok (.aload_n 0, 1) := by decide +kernel
theorem dX2_clear_6 : decode cX2_clear 6 = .ok (.bipush (-9), 2) := by decide +kernel
theorem dX2_clear_8 : decode cX2_clear 8 = .ok (.putfield 15, 3) := by decide +kernel
theorem dX2_clear_11 : decode cX2_clear 11 = .ok (.aload_n 0, 1) := by decide +kernel
theorem dX2_clear_12 : decode cX2_clear 12 = .ok (.iconst 0, 1) := by decide +kernel
theorem dX2_clear_13 : decode cX2_clear 13 = .ok (.putfield 18, 3) := by decide +kernel
theorem dX2_clear_16 : decode cX2_clear 16 = .ok (.aload_n 0, 1) := by decide +kernel
theorem dX2_clear_17 : decode cX2_clear 17 = .ok (.iconst 0, 1) := by decide +kernel
theorem dX2_clear_18 : decode cX2_clear 18 = .ok (.putfield 21, 3) := by decide +kernel
theorem dX2_clear_21 : decode cX2_clear 21 = .ok (.return_, 1) := by decide +kernel
theorem dX2_add_0 : decode cX2_add 0 = .ok (.iload_n 3, 1) := by decide +kernel
theorem dX2_add_1 : decode cX2_add 1 = .ok (.iload_n 2, 1) := by decide +kernel
theorem dX2_add_2 : decode cX2_add 2 = .ok (.if_icmp .ne 16, 3) := by decide +kernel
theorem dX2_add_5 : decode cX2_add 5 = .ok (.aload_n 0, 1) := by decide +kernel
theorem dX2_add_6 : decode cX2_add 6 = .ok (.dup, 1) := by decide +kernel
theorem dX2_add_7 : decode cX2_add 7 = .ok (.getfield 9, 3) := by decide +kernel
theorem dX2_add_10 : decode cX2_add 10 = .ok (.iconst 1, 1) := by decide +kernel
theorem dX2_add_11 : decode cX2_add 11 = .ok (.iadd, 1) := by decide +kernel
theorem dX2_add_12 : decode cX2_add 12 = .ok (.putfield 9, 3) := by decide +kernel
theorem dX2_add_15 : decode cX2_add 15 = .ok (.goto 17, 3) := by decide +kernel
theorem dX2_add_18 : decode cX2_add 18 = .ok (.aload_n 0, 1) := by decide +kernel
theorem dX2_add_19 : decode cX2_add 19 = .ok (.getfield 15, 3) := by decide +kernel
theorem dX2_add_22 : decode cX2_add 22 = .ok (.bipush (-9), 2) := by decide +kernel
theorem dX2_add_24 : decode cX2_add 24 = .ok (.if_icmp .ne 8, 3) := by decide +kernel
theorem dX2_add_27 : decode cX2_add 27 = .ok (.aload_n 0, 1) := by decide +kernel
theorem dX2_add_28 : decode cX2_add 28 = .ok (.iload_n 1, 1) := by decide +kernel
theorem dX2_add_29 : decode cX2_add 29 = .ok (.putfield 15, 3) := by decide +kernel
theorem dX2_add_32 : decode cX2_add 32 = .ok (.iload_n 3, 1) := by decide +kernel
theorem dX2_add_33 : decode cX2_add 33 = .ok (.bipush (-9), 2) := by decide +kernel
theorem dX2_add_35 : decode cX2_add 35 = .ok (.if_icmp .ne 13, 3) := by decide +kernel
theorem dX2_add_38 : decode cX2_add 38 = .ok (.aload_n 0, 1) := by decide +kernel
theorem dX2_add_39 : decode cX2_add 39 = .ok (.dup, 1) := by decide +kernel
theorem dX2_add_40 : decode cX2_add 40 = .ok (.getfield 21, 3) := by decide +kernel
theorem dX2_add_43 : decode cX2_add 43 = .ok (.iconst 1, 1) := by decide +kernel
theorem dX2_add_44 : decode cX2_add 44 = .ok (.iadd, 1) := by decide +kernel
theorem dX2_add_45 : decode cX2_add 45 = .ok (.putfield 21, 3) := by decide +kernel
theorem dX2_add_48 : decode cX2_add 48 = .ok (.aload_n 0, 1) := by decide +kernel
theorem dX2_add_49 : decode cX2_add 49 = .ok (.aload_n 0, 1) := by decide +kernel
theorem dX2_add_50 : decode cX2_add 50 = .ok (.getfield 18, 3) := by decide +kernel
theorem dX2_add_53 : decode cX2_add 53 = .ok (.iload_n 3, 1) := by decide +kernel
theorem dX2_add_54 : decode cX2_add 54 = .ok (.invokestatic 24, 3) := by decide +kernel
theorem dX2_add_57 : decode cX2_add 57 = .ok (.putfield 18, 3) := by decide +kernel
theorem dX2_add_60 : decode cX2_add 60 = .ok (.return_, 1) := by decide +kernel
theorem dX3_firstFault_0 : decode cX3_firstFault 0 = .ok (.iconst 0, 1) := by decide +kernel
theorem dX3_firstFault_1 : decode cX3_firstFault 1 = .ok (.istore_n 3, 1) := by decide +kernel
theorem dX3_firstFault_2 : decode cX3_firstFault 2 = .ok (.iload_n 3, 1) := by decide +kernel
theorem dX3_firstFault_3 : decode cX3_firstFault 3 = .ok (.iload_n 2, 1) := by decide +kernel
theorem dX3_firstFault_4 : decode cX3_firstFault 4 = .ok (.if_icmp .ge 23, 3) := by decide +kernel
theorem dX3_firstFault_7 : decode cX3_firstFault 7 = .ok (.iload_n 3, 1) := by decide +kernel
theorem dX3_firstFault_8 : decode cX3_firstFault 8 = .ok (.aload_n 0, 1) := by decide +kernel
theorem dX3_firstFault_9 : decode cX3_firstFault 9 = .ok (.iload_n 1, 1) := by decide +kernel
theorem dX3_firstFault_10 : decode cX3_firstFault 10 = .ok (.iload_n 3, 1) := by decide +kernel
theorem dX3_firstFault_11 : decode cX3_firstFault 11 = .ok (.iadd, 1) := by decide +kernel
theorem dX3_firstFault_12 : decode cX3_firstFault 12 = .ok (.iaload, 1) := by decide +kernel
theorem dX3_firstFault_13 : decode cX3_firstFault 13 = .ok (.invokestatic 11, 3) := by decide +kernel
theorem dX3_firstFault_16 : decode cX3_firstFault 16 = .ok (.ifCond .ne 5, 3) := by decide +kernel
theorem dX3_firstFault_19 : decode cX3_firstFault 19 = .ok (.iload_n 3, 1) := by decide +kernel
theorem dX3_firstFault_20 : decode cX3_firstFault 20 = .ok (.ireturn, 1) := by decide +kernel
theorem dX3_firstFault_21 : decode cX3_firstFault 21 = .ok (.iinc 3 1, 3) := by decide +kernel
theorem dX3_firstFault_24 : decode cX3_firstFault 24 = .ok (.goto (-22), 3) := by decide +kernel
theorem dX3_firstFault_27 : decode cX3_firstFault 27 = .ok (.iload_n 2, 1) := by decide +kernel
theorem dX3_firstFault_28 : decode cX3_firstFault 28 = .ok (.bipush 13, 2) := by decide +kernel
theorem dX3_firstFault_30 : decode cX3_firstFault 30 = .ok (.if_icmp .lt 16, 3) := by decide +kernel
theorem dX3_firstFault_33 : decode cX3_firstFault 33 = .ok (.iload_n 2, 1) := by decide +kernel
theorem dX3_firstFault_34 : decode cX3_firstFault 34 = .ok (.iconst 3, 1) := by decide +kernel
theorem dX3_firstFault_35 : decode cX3_firstFault 35 = .ok (.isub, 1) := by decide +kernel
theorem dX3_firstFault_36 : decode cX3_firstFault 36 = .ok (.iconst 5, 1) := by decide +kernel
theorem dX3_firstFault_37 : decode cX3_firstFault 37 = .ok (.irem, 1) := by decide +kernel
theorem dX3_firstFault_38 : decode cX3_firstFault 38 = .ok (.ifCond .ne 8, 3) := by decide +kernel
theorem dX3_firstFault_41 : decode cX3_firstFault 41 = .ok (.bipush (-9), 2) := by decide +kernel
theorem dX3_firstFault_43 : decode cX3_firstFault 43 = .ok (.goto 4, 3) := by decide +kernel
theorem dX3_firstFault_46 : decode cX3_firstFault 46 = .ok (.iload_n 2, 1) := by decide +kernel
theorem dX3_firstFault_47 : decode cX3_firstFault 47 = .ok (.ireturn, 1) := by decide +kernel
theorem dX3_goesOnWith_0 : decode cX3_goesOnWith 0 = .ok (.iload_n 0, 1) := by decide +kernel
theorem dX3_goesOnWith_1 : decode cX3_goesOnWith 1 = .ok (.bipush 33, 2) := by decide +kernel
theorem dX3_goesOnWith_3 : decode cX3_goesOnWith 3 = .ok (.if_icmp .lt 5, 3) := by decide +kernel
theorem dX3_goesOnWith_6 : decode cX3_goesOnWith 6 = .ok (.iconst 0, 1) := by decide +kernel
theorem dX3_goesOnWith_7 : decode cX3_goesOnWith 7 = .ok (.ireturn, 1) := by decide +kernel
theorem dX3_goesOnWith_8 : decode cX3_goesOnWith 8 = .ok (.iload_n 0, 1) := by decide +kernel
theorem dX3_goesOnWith_9 : decode cX3_goesOnWith 9 = .ok (.iconst 3, 1) := by decide +kernel
theorem dX3_goesOnWith_10 : decode cX3_goesOnWith 10 = .ok (.if_icmp .ge 37, 3) := by decide +kernel
theorem dX3_goesOnWith_13 : decode cX3_goesOnWith 13 = .ok (.iload_n 0, 1) := by decide +kernel
theorem dX3_goesOnWith_14 : decode cX3_goesOnWith 14 = .ok (.ifCond .ne 17, 3) := by decide +kernel
theorem dX3_goesOnWith_17 : decode cX3_goesOnWith 17 = .ok (.iload_n 1, 1) := by decide +kernel
theorem dX3_goesOnWith_18 : decode cX3_goesOnWith 18 = .ok (.bipush 100, 2) := by decide +kernel
theorem dX3_goesOnWith_20 : decode cX3_goesOnWith 20 = .ok (.if_icmp .ne 7, 3) := by decide +kernel
theorem dX3_goesOnWith_23 : decode cX3_goesOnWith 23 = .ok (.iconst 1, 1) := by decide +kernel
theorem dX3_goesOnWith_24 : decode cX3_goesOnWith 24 = .ok (.goto 22, 3) := by decide +kernel
theorem dX3_goesOnWith_27 : decode cX3_goesOnWith 27 = .ok (.iconst 0, 1) := by decide +kernel
theorem dX3_goesOnWith_28 : decode cX3_goesOnWith 28 = .ok (.goto 18, 3) := by decide +kernel
theorem dX3_goesOnWith_31 : decode cX3_goesOnWith 31 = .ok (.iload_n 1, 1) := by decide +kernel
theorem dX3_goesOnWith_32 : decode cX3_goesOnWith 32 = .ok (.iload_n 0, 1) := by decide +kernel
theorem dX3_goesOnWith_33 : decode cX3_goesOnWith 33 = .ok (.iconst 1, 1) := by decide +kernel
theorem dX3_goesOnWith_34 : decode cX3_goesOnWith 34 = .ok (.if_icmp .ne 8, 3) := by decide +kernel
theorem dX3_goesOnWith_37 : decode cX3_goesOnWith 37 = .ok (.bipush 10, 2) := by decide +kernel
theorem dX3_goesOnWith_39 : decode cX3_goesOnWith 39 = .ok (.goto 4, 3) := by decide +kernel
theorem dX3_goesOnWith_42 : decode cX3_goesOnWith 42 = .ok (.iconst 4, 1) := by decide +kernel
theorem dX3_goesOnWith_43 : decode cX3_goesOnWith 43 = .ok (.invokestatic 15, 3) := by decide +kernel
theorem dX3_goesOnWith_46 : decode cX3_goesOnWith 46 = .ok (.ireturn, 1) := by decide +kernel
theorem dX3_goesOnWith_47 : decode cX3_goesOnWith 47 = .ok (.iload_n 0, 1) := by decide +kernel
theorem dX3_goesOnWith_48 : decode cX3_goesOnWith 48 = .ok (.iconst 3, 1) := by decide +kernel
theorem dX3_goesOnWith_49 : decode cX3_goesOnWith 49 = .ok (.isub, 1) := by decide +kernel
theorem dX3_goesOnWith_50 : decode cX3_goesOnWith 50 = .ok (.iconst 5, 1) := by decide +kernel
theorem dX3_goesOnWith_51 : decode cX3_goesOnWith 51 = .ok (.irem, 1) := by decide +kernel
theorem dX3_goesOnWith_52 : decode cX3_goesOnWith 52 = .ok (.tableswitch 79 0 4 #[36, 48, 79, 79, 72], 36) := by decide +kernel
theorem dX3_goesOnWith_88 : decode cX3_goesOnWith 88 = .ok (.iload_n 1, 1) := by decide +kernel
theorem dX3_goesOnWith_89 : decode cX3_goesOnWith 89 = .ok (.bipush 59, 2) := by decide +kernel
theorem dX3_goesOnWith_91 : decode cX3_goesOnWith 91 = .ok (.if_icmp .ne 7, 3) := by decide +kernel
theorem dX3_goesOnWith_94 : decode cX3_goesOnWith 94 = .ok (.iconst 1, 1) := by decide +kernel
theorem dX3_goesOnWith_95 : decode cX3_goesOnWith 95 = .ok (.goto 4, 3) := by decide +kernel
theorem dX3_goesOnWith_98 : decode cX3_goesOnWith 98 = .ok (.iconst 0, 1) := by decide +kernel
theorem dX3_goesOnWith_99 : decode cX3_goesOnWith 99 = .ok (.ireturn, 1) := by decide +kernel
theorem dX3_goesOnWith_100 : decode cX3_goesOnWith 100 = .ok (.iload_n 1, 1) := by decide +kernel
theorem dX3_goesOnWith_101 : decode cX3_goesOnWith 101 = .ok (.bipush 112, 2) := by decide +kernel
theorem dX3_goesOnWith_103 : decode cX3_goesOnWith 103 = .ok (.if_icmp .eq 15, 3) := by decide +kernel
theorem dX3_goesOnWith_106 : decode cX3_goesOnWith 106 = .ok (.iload_n 1, 1) := by decide +kernel
theorem dX3_goesOnWith_107 : decode cX3_goesOnWith 107 = .ok (.bipush 114, 2) := by decide +kernel
theorem dX3_goesOnWith_109 : decode cX3_goesOnWith 109 = .ok (.if_icmp .eq 9, 3) := by decide +kernel
theorem dX3_goesOnWith_112 : decode cX3_goesOnWith 112 = .ok (.iload_n 1, 1) := by decide +kernel
theorem dX3_goesOnWith_113 : decode cX3_goesOnWith 113 = .ok (.bipush 107, 2) := by decide +kernel
theorem dX3_goesOnWith_115 : decode cX3_goesOnWith 115 = .ok (.if_icmp .ne 7, 3) := by decide +kernel
theorem dX3_goesOnWith_118 : decode cX3_goesOnWith 118 = .ok (.iconst 1, 1) := by decide +kernel
theorem dX3_goesOnWith_119 : decode cX3_goesOnWith 119 = .ok (.goto 4, 3) := by decide +kernel
theorem dX3_goesOnWith_122 : decode cX3_goesOnWith 122 = .ok (.iconst 0, 1) := by decide +kernel
theorem dX3_goesOnWith_123 : decode cX3_goesOnWith 123 = .ok (.ireturn, 1) := by decide +kernel
theorem dX3_goesOnWith_124 : decode cX3_goesOnWith 124 = .ok (.iload_n 1, 1) := by decide +kernel
theorem dX3_goesOnWith_125 : decode cX3_goesOnWith 125 = .ok (.bipush 10, 2) := by decide +kernel
theorem dX3_goesOnWith_127 : decode cX3_goesOnWith 127 = .ok (.invokestatic 15, 3) := by decide +kernel
theorem dX3_goesOnWith_130 : decode cX3_goesOnWith 130 = .ok (.ireturn, 1) := by decide +kernel
theorem dX3_goesOnWith_131 : decode cX3_goesOnWith 131 = .ok (.iload_n 1, 1) := by decide +kernel
theorem dX3_goesOnWith_132 : decode cX3_goesOnWith 132 = .ok (.bipush 8, 2) := by decide +kernel
theorem dX3_goesOnWith_134 : decode cX3_goesOnWith 134 = .ok (.invokestatic 15, 3) := by decide +kernel
theorem dX3_goesOnWith_137 : decode cX3_goesOnWith 137 = .ok (.ireturn, 1) := by decide +kernel
theorem dX3_isDigitBelow_0 : decode cX3_isDigitBelow 0 = .ok (.iload_n 0, 1) := by decide +kernel
theorem dX3_isDigitBelow_1 : decode cX3_isDigitBelow 1 = .ok (.bipush 48, 2) := by decide +kernel
theorem dX3_isDigitBelow_3 : decode cX3_isDigitBelow 3 = .ok (.isub, 1) := by decide +kernel
theorem dX3_isDigitBelow_4 : decode cX3_isDigitBelow 4 = .ok (.iload_n 1, 1) := by decide +kernel
theorem dX3_isDigitBelow_5 : decode cX3_isDigitBelow 5 = .ok (.invokestatic 18, 3) := by decide +kernel
theorem dX3_isDigitBelow_8 : decode cX3_isDigitBelow 8 = .ok (.ireturn, 1) := by decide +kernel
theorem dX3_fill_0 : decode cX3_fill 0 = .ok (.aload_n 0, 1) := by decide +kernel
theorem dX3_fill_1 : decode cX3_fill 1 = .ok (.aload_n 1, 1) := by decide +kernel
theorem dX3_fill_2 : decode cX3_fill 2 = .ok (.iload_n 2, 1) := by decide +kernel
theorem dX3_fill_3 : decode cX3_fill 3 = .ok (.iconst 1, 1) := by decide +kernel
theorem dX3_fill_4 : decode cX3_fill 4 = .ok (.iadd, 1) := by decide +kernel
theorem dX3_fill_5 : decode cX3_fill 5 = .ok (.iaload, 1) := by decide +kernel
theorem dX3_fill_6 : decode cX3_fill 6 = .ok (.bipush 48, 2) := by decide +kernel
theorem dX3_fill_8 : decode cX3_fill 8 = .ok (.isub, 1) := by decide +kernel
theorem dX3_fill_9 : decode cX3_fill 9 = .ok (.putfield 21, 3) := by decide +kernel
theorem dX3_fill_12 : decode cX3_fill 12 = .ok (.aload_n 0, 1) := by decide +kernel
theorem dX3_fill_13 : decode cX3_fill 13 = .ok (.aload_n 1, 1) := by decide +kernel
theorem dX3_fill_14 : decode cX3_fill 14 = .ok (.iload_n 2, 1) := by decide +kernel
theorem dX3_fill_15 : decode cX3_fill 15 = .ok (.iconst 2, 1) := by decide +kernel
theorem dX3_fill_16 : decode cX3_fill 16 = .ok (.iadd, 1) := by decide +kernel
theorem dX3_fill_17 : decode cX3_fill 17 = .ok (.iaload, 1) := by decide +kernel
theorem dX3_fill_18 : decode cX3_fill 18 = .ok (.bipush 48, 2) := by decide +kernel
theorem dX3_fill_20 : decode cX3_fill 20 = .ok (.isub, 1) := by decide +kernel
theorem dX3_fill_21 : decode cX3_fill 21 = .ok (.putfield 27, 3) := by decide +kernel
theorem dX3_fill_24 : decode cX3_fill 24 = .ok (.aload_n 0, 1) := by decide +kernel
theorem dX3_fill_25 : decode cX3_fill 25 = .ok (.iload_n 3, 1) := by decide +kernel
theorem dX3_fill_26 : decode cX3_fill 26 = .ok (.iconst 3, 1) := by decide +kernel
theorem dX3_fill_27 : decode cX3_fill 27 = .ok (.isub, 1) := by decide +kernel
theorem dX3_fill_28 : decode cX3_fill 28 = .ok (.iconst 5, 1) := by decide +kernel
theorem dX3_fill_29 : decode cX3_fill 29 = .ok (.idiv, 1) := by decide +kernel
theorem dX3_fill_30 : decode cX3_fill 30 = .ok (.putfield 30, 3) := by decide +kernel
theorem dX3_fill_33 : decode cX3_fill 33 = .ok (.iconst 0, 1) := by decide +kernel
theorem dX3_fill_34 : decode cX3_fill 34 = .ok (.istore 4, 2) := by decide +kernel
theorem dX3_fill_36 : decode cX3_fill 36 = .ok (.iload 4, 2) := by decide +kernel
theorem dX3_fill_38 : decode cX3_fill 38 = .ok (.aload_n 0, 1) := by decide +kernel
theorem dX3_fill_39 : decode cX3_fill 39 = .ok (.getfield 30, 3) := by decide +kernel
theorem dX3_fill_42 : decode cX3_fill 42 = .ok (.if_icmp .ge 83, 3) := by decide +kernel
theorem dX3_fill_45 : decode cX3_fill 45 = .ok (.iload_n 2, 1) := by decide +kernel
theorem dX3_fill_46 : decode cX3_fill 46 = .ok (.iconst 3, 1) := by decide +kernel
theorem dX3_fill_47 : decode cX3_fill 47 = .ok (.iadd, 1) := by decide +kernel
theorem dX3_fill_48 : decode cX3_fill 48 = .ok (.iconst 5, 1) := by decide +kernel
theorem dX3_fill_49 : decode cX3_fill 49 = .ok (.iload 4, 2) := by decide +kernel
theorem dX3_fill_51 : decode cX3_fill 51 = .ok (.imul, 1) := by decide +kernel
theorem dX3_fill_52 : decode cX3_fill 52 = .ok (.iadd, 1) := by decide +kernel
theorem dX3_fill_53 : decode cX3_fill 53 = .ok (.istore 5, 2) := by decide +kernel
theorem dX3_fill_55 : decode cX3_fill 55 = .ok (.aload_n 0, 1) := by decide +kernel
theorem dX3_fill_56 : decode cX3_fill 56 = .ok (.getfield 33, 3) := by decide +kernel
theorem dX3_fill_59 : decode cX3_fill 59 = .ok (.iload 4, 2) := by decide +kernel
theorem dX3_fill_61 : decode cX3_fill 61 = .ok (.aload_n 1, 1) := by decide +kernel
theorem dX3_fill_62 : decode cX3_fill 62 = .ok (.iload 5, 2) := by decide +kernel
theorem dX3_fill_64 : decode cX3_fill 64 = .ok (.iconst 1, 1) := by decide +kernel
theorem dX3_fill_65 : decode cX3_fill 65 = .ok (.iadd, 1) := by decide +kernel
theorem dX3_fill_66 : decode cX3_fill 66 = .ok (.iaload, 1) := by decide +kernel
theorem dX3_fill_67 : decode cX3_fill 67 = .ok (.invokestatic 37, 3) := by decide +kernel
theorem dX3_fill_70 : decode cX3_fill 70 = .ok (.iastore, 1) := by decide +kernel
theorem dX3_fill_71 : decode cX3_fill 71 = .ok (.aload_n 0, 1) := by decide +kernel
theorem dX3_fill_72 : decode cX3_fill 72 = .ok (.getfield 41, 3) := by decide +kernel
theorem dX3_fill_75 : decode cX3_fill 75 = .ok (.iload 4, 2) := by decide +kernel
theorem dX3_fill_77 : decode cX3_fill 77 = .ok (.aload_n 1, 1) := by decide +kernel
theorem dX3_fill_78 : decode cX3_fill 78 = .ok (.iload 5, 2) := by decide +kernel
theorem dX3_fill_80 : decode cX3_fill 80 = .ok (.iconst 2, 1) := by decide +kernel
theorem dX3_fill_81 : decode cX3_fill 81 = .ok (.iadd, 1) := by decide +kernel
theorem dX3_fill_82 : decode cX3_fill 82 = .ok (.iaload, 1) := by decide +kernel
theorem dX3_fill_83 : decode cX3_fill 83 = .ok (.bipush 48, 2) := by decide +kernel
theorem dX3_fill_85 : decode cX3_fill 85 = .ok (.isub, 1) := by decide +kernel
theorem dX3_fill_86 : decode cX3_fill 86 = .ok (.iastore, 1) := by decide +kernel
theorem dX3_fill_87 : decode cX3_fill 87 = .ok (.aload_n 0, 1) := by decide +kernel
theorem dX3_fill_88 : decode cX3_fill 88 = .ok (.getfield 44, 3) := by decide +kernel
theorem dX3_fill_91 : decode cX3_fill 91 = .ok (.iload 4, 2) := by decide +kernel
theorem dX3_fill_93 : decode cX3_fill 93 = .ok (.aload_n 1, 1) := by decide +kernel
theorem dX3_fill_94 : decode cX3_fill 94 = .ok (.iload 5, 2) := by decide +kernel
theorem dX3_fill_96 : decode cX3_fill 96 = .ok (.iconst 3, 1) := by decide +kernel
theorem dX3_fill_97 : decode cX3_fill 97 = .ok (.iadd, 1) := by decide +kernel
theorem dX3_fill_98 : decode cX3_fill 98 = .ok (.iaload, 1) := by decide +kernel
theorem dX3_fill_99 : decode cX3_fill 99 = .ok (.bipush 48, 2) := by decide +kernel
theorem dX3_fill_101 : decode cX3_fill 101 = .ok (.isub, 1) := by decide +kernel
theorem dX3_fill_102 : decode cX3_fill 102 = .ok (.iastore, 1) := by decide +kernel
theorem dX3_fill_103 : decode cX3_fill 103 = .ok (.aload_n 0, 1) := by decide +kernel
theorem dX3_fill_104 : decode cX3_fill 104 = .ok (.getfield 47, 3) := by decide +kernel
theorem dX3_fill_107 : decode cX3_fill 107 = .ok (.iload 4, 2) := by decide +kernel
theorem dX3_fill_109 : decode cX3_fill 109 = .ok (.aload_n 1, 1) := by decide +kernel
theorem dX3_fill_110 : decode cX3_fill 110 = .ok (.iload 5, 2) := by decide +kernel
theorem dX3_fill_112 : decode cX3_fill 112 = .ok (.iconst 4, 1) := by decide +kernel
theorem dX3_fill_113 : decode cX3_fill 113 = .ok (.iadd, 1) := by decide +kernel
theorem dX3_fill_114 : decode cX3_fill 114 = .ok (.iaload, 1) := by decide +kernel
theorem dX3_fill_115 : decode cX3_fill 115 = .ok (.bipush 48, 2) := by decide +kernel
theorem dX3_fill_117 : decode cX3_fill 117 = .ok (.isub, 1) := by decide +kernel
theorem dX3_fill_118 : decode cX3_fill 118 = .ok (.iastore, 1) := by decide +kernel
theorem dX3_fill_119 : decode cX3_fill 119 = .ok (.iinc 4 1, 3) := by decide +kernel
theorem dX3_fill_122 : decode cX3_fill 122 = .ok (.goto (-86), 3) := by decide +kernel
theorem dX3_fill_125 : decode cX3_fill 125 = .ok (.return_, 1) := by decide +kernel
theorem dX3_kindOf_0 : decode cX3_kindOf 0 = .ok (.iload_n 0, 1) := by decide +kernel
theorem dX3_kindOf_1 : decode cX3_kindOf 1 = .ok (.bipush 107, 2) := by decide +kernel
theorem dX3_kindOf_3 : decode cX3_kindOf 3 = .ok (.if_icmp .ne 5, 3) := by decide +kernel
theorem dX3_kindOf_6 : decode cX3_kindOf 6 = .ok (.iconst 2, 1) := by decide +kernel
theorem dX3_kindOf_7 : decode cX3_kindOf 7 = .ok (.ireturn, 1) := by decide +kernel
theorem dX3_kindOf_8 : decode cX3_kindOf 8 = .ok (.iload_n 0, 1) := by decide +kernel
theorem dX3_kindOf_9 : decode cX3_kindOf 9 = .ok (.bipush 114, 2) := by decide +kernel
theorem dX3_kindOf_11 : decode cX3_kindOf 11 = .ok (.if_icmp .ne 7, 3) := by decide +kernel
theorem dX3_kindOf_14 : decode cX3_kindOf 14 = .ok (.iconst 1, 1) := by decide +kernel
theorem dX3_kindOf_15 : decode cX3_kindOf 15 = .ok (.goto 4, 3) := by decide +kernel
theorem dX3_kindOf_18 : decode cX3_kindOf 18 = .ok (.iconst 0, 1) := by decide +kernel
theorem dX3_kindOf_19 : decode cX3_kindOf 19 = .ok (.ireturn, 1) := by decide +kernel
theorem dJ6_bitCount_0f7a4_0 : decode cJ6_bitCount_0f7a4 0 = .ok (.iload_n 0, 1) := by decide +kernel
theorem dJ6_bitCount_0f7a4_1 : decode cJ6_bitCount_0f7a4 1 = .ok (.iload_n 0, 1) := by decide +kernel
theorem dJ6_bitCount_0f7a4_2 : decode cJ6_bitCount_0f7a4 2 = .ok (.iconst 1, 1) := by decide +kernel
theorem dJ6_bitCount_0f7a4_3 : decode cJ6_bitCount_0f7a4 3 = .ok (.iushr, 1) := by decide +kernel
theorem dJ6_bitCount_0f7a4_4 : decode cJ6_bitCount_0f7a4 4 = .ok (.ldc_w 265, 3) := by decide +kernel
theorem dJ6_bitCount_0f7a4_7 : decode cJ6_bitCount_0f7a4 7 = .ok (.iand, 1) := by decide +kernel
theorem dJ6_bitCount_0f7a4_8 : decode cJ6_bitCount_0f7a4 8 = .ok (.isub, 1) := by decide +kernel
theorem dJ6_bitCount_0f7a4_9 : decode cJ6_bitCount_0f7a4 9 = .ok (.istore_n 0, 1) := by decide +kernel
theorem dJ6_bitCount_0f7a4_10 : decode cJ6_bitCount_0f7a4 10 = .ok (.iload_n 0, 1) := by decide +kernel
theorem dJ6_bitCount_0f7a4_11 : decode cJ6_bitCount_0f7a4 11 = .ok (.ldc_w 266, 3) := by decide +kernel
theorem dJ6_bitCount_0f7a4_14 : decode cJ6_bitCount_0f7a4 14 = .ok (.iand, 1) := by decide +kernel
theorem dJ6_bitCount_0f7a4_15 : decode cJ6_bitCount_0f7a4 15 = .ok (.iload_n 0, 1) := by decide +kernel
theorem dJ6_bitCount_0f7a4_16 : decode cJ6_bitCount_0f7a4 16 = .ok (.iconst 2, 1) := by decide +kernel
theorem dJ6_bitCount_0f7a4_17 : decode cJ6_bitCount_0f7a4 17 = .ok (.iushr, 1) := by decide +kernel
theorem dJ6_bitCount_0f7a4_18 : decode cJ6_bitCount_0f7a4 18 = .ok (.ldc_w 266, 3) := by decide +kernel
theorem dJ6_bitCount_0f7a4_21 : decode cJ6_bitCount_0f7a4 21 = .ok (.iand, 1) := by decide +kernel
theorem dJ6_bitCount_0f7a4_22 : decode cJ6_bitCount_0f7a4 22 = .ok (.iadd, 1) := by decide +kernel
theorem dJ6_bitCount_0f7a4_23 : decode cJ6_bitCount_0f7a4 23 = .ok (.istore_n 0, 1) := by decide +kernel
theorem dJ6_bitCount_0f7a4_24 : decode cJ6_bitCount_0f7a4 24 = .ok (.iload_n 0, 1) := by decide +kernel
theorem dJ6_bitCount_0f7a4_25 : decode cJ6_bitCount_0f7a4 25 = .ok (.iload_n 0, 1) := by decide +kernel
theorem dJ6_bitCount_0f7a4_26 : decode cJ6_bitCount_0f7a4 26 = .ok (.iconst 4, 1) := by decide +kernel
theorem dJ6_bitCount_0f7a4_27 : decode cJ6_bitCount_0f7a4 27 = .ok (.iushr, 1) := by decide +kernel
theorem dJ6_bitCount_0f7a4_28 : decode cJ6_bitCount_0f7a4 28 = .ok (.iadd, 1) := by decide +kernel
theorem dJ6_bitCount_0f7a4_29 : decode cJ6_bitCount_0f7a4 29 = .ok (.ldc_w 267, 3) := by decide +kernel
theorem dJ6_bitCount_0f7a4_32 : decode cJ6_bitCount_0f7a4 32 = .ok (.iand, 1) := by decide +kernel
theorem dJ6_bitCount_0f7a4_33 : decode cJ6_bitCount_0f7a4 33 = .ok (.istore_n 0, 1) := by decide +kernel
theorem dJ6_bitCount_0f7a4_34 : decode cJ6_bitCount_0f7a4 34 = .ok (.iload_n 0, 1) := by decide +kernel
theorem dJ6_bitCount_0f7a4_35 : decode cJ6_bitCount_0f7a4 35 = .ok (.iload_n 0, 1) := by decide +kernel
theorem dJ6_bitCount_0f7a4_36 : decode cJ6_bitCount_0f7a4 36 = .ok (.bipush 8, 2) := by decide +kernel
theorem dJ6_bitCount_0f7a4_38 : decode cJ6_bitCount_0f7a4 38 = .ok (.iushr, 1) := by decide +kernel
theorem dJ6_bitCount_0f7a4_39 : decode cJ6_bitCount_0f7a4 39 = .ok (.iadd, 1) := by decide +kernel
theorem dJ6_bitCount_0f7a4_40 : decode cJ6_bitCount_0f7a4 40 = .ok (.istore_n 0, 1) := by decide +kernel
theorem dJ6_bitCount_0f7a4_41 : decode cJ6_bitCount_0f7a4 41 = .ok (.iload_n 0, 1) := by decide +kernel
theorem dJ6_bitCount_0f7a4_42 : decode cJ6_bitCount_0f7a4 42 = .ok (.iload_n 0, 1) := by decide +kernel
theorem dJ6_bitCount_0f7a4_43 : decode cJ6_bitCount_0f7a4 43 = .ok (.bipush 16, 2) := by decide +kernel
theorem dJ6_bitCount_0f7a4_45 : decode cJ6_bitCount_0f7a4 45 = .ok (.iushr, 1) := by decide +kernel
theorem dJ6_bitCount_0f7a4_46 : decode cJ6_bitCount_0f7a4 46 = .ok (.iadd, 1) := by decide +kernel
theorem dJ6_bitCount_0f7a4_47 : decode cJ6_bitCount_0f7a4 47 = .ok (.istore_n 0, 1) := by decide +kernel
theorem dJ6_bitCount_0f7a4_48 : decode cJ6_bitCount_0f7a4 48 = .ok (.iload_n 0, 1) := by decide +kernel
theorem dJ6_bitCount_0f7a4_49 : decode cJ6_bitCount_0f7a4 49 = .ok (.bipush 63, 2) := by decide +kernel
theorem dJ6_bitCount_0f7a4_51 : decode cJ6_bitCount_0f7a4 51 = .ok (.iand, 1) := by decide +kernel
theorem dJ6_bitCount_0f7a4_52 : decode cJ6_bitCount_0f7a4 52 = .ok (.ireturn, 1) := by decide +kernel
