theorem dX4_init_0 : decode cX4_init 0 = .ok (.aload_n 0, 1) := by decide +kernel
theorem dX4_init_1 : decode cX4_init 1 = .ok (.invokespecial 3, 3) := by decide +kernel
theorem dX4_init_4 : decode cX4_init 4 = .ok (.aload_n 0, 1) := by decide +kernel
theorem dX4_init_5 : decode cX4_init 5 = .ok (.new 9, 3) := by decide +kernel
theorem dX4_init_8 : decode cX4_init 8 = .ok (.dup, 1) := by decide +kernel
theorem dX4_init_9 : decode cX4_init 9 = .ok (.invokespecial 11, 3) := by decide +kernel
theorem dX4_init_12 : decode cX4_init 12 = .ok (.putfield 12, 3) := by decide +kernel
theorem dX4_init_15 : decode cX4_init 15 = .ok (.aload_n 0, 1) := by decide +kernel
theorem dX4_init_16 : decode cX4_init 16 = .ok (.new 9, 3) := by decide +kernel
theorem dX4_init_19 : decode cX4_init 19 = .ok (.dup, 1) := by decide +kernel
theorem dX4_init_20 : decode cX4_init 20 = .ok (.invokespecial 11, 3) := by decide +kernel
theorem dX4_init_23 : decode cX4_init 23 = .ok (.putfield 18, 3) := by decide +kernel
theorem dX4_init_26 : decode cX4_init 26 = .ok (.aload_n 0, 1) := by decide +kernel
theorem dX4_init_27 : decode cX4_init 27 = .ok (.iconst 4, 1) := by decide +kernel
theorem dX4_init_28 : decode cX4_init 28 = .ok (.anewarray 21, 3) := by decide +kernel
theorem dX4_init_31 : decode cX4_init 31 = .ok (.putfield 23, 3) := by decide +kernel
theorem dX4_init_34 : decode cX4_init 34 = .ok (.iconst 0, 1) := by decide +kernel
theorem dX4_init_35 : decode cX4_init 35 = .ok (.istore_n 1, 1) := by decide +kernel
theorem dX4_init_36 : decode cX4_init 36 = .ok (.iload_n 1, 1) := by decide +kernel
theorem dX4_init_37 : decode cX4_init 37 = .ok (.iconst 4, 1) := by decide +kernel
theorem dX4_init_38 : decode cX4_init 38 = .ok (.if_icmp .ge 22, 3) := by decide +kernel
theorem dX4_init_41 : decode cX4_init 41 = .ok (.aload_n 0, 1) := by decide +kernel
theorem dX4_init_42 : decode cX4_init 42 = .ok (.getfield 23, 3) := by decide +kernel
theorem dX4_init_45 : decode cX4_init 45 = .ok (.iload_n 1, 1) := by decide +kernel
theorem dX4_init_46 : decode cX4_init 46 = .ok (.new 21, 3) := by decide +kernel
theorem dX4_init_49 : decode cX4_init 49 = .ok (.dup, 1) := by decide +kernel
theorem dX4_init_50 : decode cX4_init 50 = .ok (.invokespecial 27, 3) := by decide +kernel
theorem dX4_init_53 : decode cX4_init 53 = .ok (.aastore, 1) := by decide +kernel
theorem dX4_init_54 : decode cX4_init 54 = .ok (.iinc 1 1, 3) := by decide +kernel
theorem dX4_init_57 : decode cX4_init 57 = .ok (.goto (-21), 3) := by decide +kernel
theorem dX4_init_60 : decode cX4_init 60 = .ok (.aload_n 0, 1) := by decide +kernel
theorem dX4_init_61 : decode cX4_init 61 = .ok (.new 28, 3) := by decide +kernel
theorem dX4_init_64 : decode cX4_init 64 = .ok (.dup, 1) := by decide +kernel
theorem dX4_init_65 : decode cX4_init 65 = .ok (.invokespecial 30, 3) := by decide +kernel
theorem dX4_init_68 : decode cX4_init 68 = .ok (.putfield 31, 3) := by decide +kernel
theorem dX4_init_71 : decode cX4_init 71 = .ok (.aload_n 0, 1) := by decide +kernel
theorem dX4_init_72 : decode cX4_init 72 = .ok (.bipush 8, 2) := by decide +kernel
theorem dX4_init_74 : decode cX4_init 74 = .ok (.newarray .int, 2) := by decide +kernel
theorem dX4_init_76 : decode cX4_init 76 = .ok (.putfield 35, 3) := by decide +kernel
theorem dX4_init_79 : decode cX4_init 79 = .ok (.aload_n 0, 1) := by decide +kernel
theorem dX4_init_80 : decode cX4_init 80 = .ok (.bipush 8, 2) := by decide +kernel
theorem dX4_init_82 : decode cX4_init 82 = .ok (.newarray .int, 2) := by decide +kernel
theorem dX4_init_84 : decode cX4_init 84 = .ok (.putfield 39, 3) := by decide +kernel
theorem dX4_init_87 : decode cX4_init 87 = .ok (.aload_n 0, 1) := by decide +kernel
theorem dX4_init_88 : decode cX4_init 88 = .ok (.bipush 6, 2) := by decide +kernel
theorem dX4_init_90 : decode cX4_init 90 = .ok (.newarray .int, 2) := by decide +kernel
theorem dX4_init_92 : decode cX4_init 92 = .ok (.putfield 42, 3) := by decide +kernel
theorem dX4_init_95 : decode cX4_init 95 = .ok (.aload_n 0, 1) := by decide +kernel
theorem dX4_init_96 : decode cX4_init 96 = .ok (.bipush 6, 2) := by decide +kernel
theorem dX4_init_98 : decode cX4_init 98 = .ok (.newarray .int, 2) := by decide +kernel
theorem dX4_init_100 : decode cX4_init 100 = .ok (.putfield 45, 3) := by decide +kernel
theorem dX4_init_103 : decode cX4_init 103 = .ok (.aload_n 0, 1) := by decide +kernel
theorem dX4_init_104 : decode cX4_init 104 = .ok (.bipush 6, 2) := by decide +kernel
theorem dX4_init_106 : decode cX4_init 106 = .ok (.newarray .int, 2) := by decide +kernel
theorem dX4_init_108 : decode cX4_init 108 = .ok (.putfield 48, 3) := by decide +kernel
theorem dX4_init_111 : decode cX4_init 111 = .ok (.return_, 1) := by decide +kernel
theorem dX4_moor_0 : decode cX4_moor 0 = .ok (.aload_n 0, 1) := by decide +kernel
theorem dX4_moor_1 : decode cX4_moor 1 = .ok (.iconst 0, 1) := by decide +kernel
theorem dX4_moor_2 : decode cX4_moor 2 = .ok (.putfield 51, 3) := by decide +kernel
theorem dX4_moor_5 : decode cX4_moor 5 = .ok (.iload_n 1, 1) := by decide +kernel
theorem dX4_moor_6 : decode cX4_moor 6 = .ok (.invokestatic 55, 3) := by decide +kernel
theorem dX4_moor_9 : decode cX4_moor 9 = .ok (.ifCond .ne 5, 3) := by decide +kernel
theorem dX4_moor_12 : decode cX4_moor 12 = .ok (.iconst (-1), 1) := by decide +kernel
theorem dX4_moor_13 : decode cX4_moor 13 = .ok (.ireturn, 1) := by decide +kernel
theorem dX4_moor_14 : decode cX4_moor 14 = .ok (.iload_n 2, 1) := by decide +kernel
theorem dX4_moor_15 : decode cX4_moor 15 = .ok (.iconst 3, 1) := by decide +kernel
theorem dX4_moor_16 : decode cX4_moor 16 = .ok (.invokestatic 59, 3) := by decide +kernel
theorem dX4_moor_19 : decode cX4_moor 19 = .ok (.ifCond .ne 6, 3) := by decide +kernel
theorem dX4_moor_22 : decode cX4_moor 22 = .ok (.bipush (-2), 2) := by decide +kernel
theorem dX4_moor_24 : decode cX4_moor 24 = .ok (.ireturn, 1) := by decide +kernel
theorem dX4_moor_25 : decode cX4_moor 25 = .ok (.aload_n 0, 1) := by decide +kernel
theorem dX4_moor_26 : decode cX4_moor 26 = .ok (.getfield 23, 3) := by decide +kernel
theorem dX4_moor_29 : decode cX4_moor 29 = .ok (.iload_n 1, 1) := by decide +kernel
theorem dX4_moor_30 : decode cX4_moor 30 = .ok (.aaload, 1) := by decide +kernel
theorem dX4_moor_31 : decode cX4_moor 31 = .ok (.astore 5, 2) := by decide +kernel
theorem dX4_moor_33 : decode cX4_moor 33 = .ok (.aload 5, 2) := by decide +kernel
theorem dX4_moor_35 : decode cX4_moor 35 = .ok (.iload_n 2, 1) := by decide +kernel
theorem dX4_moor_36 : decode cX4_moor 36 = .ok (.invokevirtual 63, 3) := by decide +kernel
theorem dX4_moor_39 : decode cX4_moor 39 = .ok (.istore 6, 2) := by decide +kernel
theorem dX4_moor_41 : decode cX4_moor 41 = .ok (.iload 6, 2) := by decide +kernel
theorem dX4_moor_43 : decode cX4_moor 43 = .ok (.ifCond .ne 11, 3) := by decide +kernel
theorem dX4_moor_46 : decode cX4_moor 46 = .ok (.iload 4, 2) := by decide +kernel
theorem dX4_moor_48 : decode cX4_moor 48 = .ok (.ifCond .ge 6, 3) := by decide +kernel
theorem dX4_moor_51 : decode cX4_moor 51 = .ok (.iconst 4, 1) := by decide +kernel
theorem dX4_moor_52 : decode cX4_moor 52 = .ok (.istore 6, 2) := by decide +kernel
theorem dX4_moor_54 : decode cX4_moor 54 = .ok (.iload 6, 2) := by decide +kernel
theorem dX4_moor_56 : decode cX4_moor 56 = .ok (.ifCond .ne 17, 3) := by decide +kernel
theorem dX4_moor_59 : decode cX4_moor 59 = .ok (.aload 5, 2) := by decide +kernel
theorem dX4_moor_61 : decode cX4_moor 61 = .ok (.iload_n 3, 1) := by decide +kernel
theorem dX4_moor_62 : decode cX4_moor 62 = .ok (.iload 4, 2) := by decide +kernel
theorem dX4_moor_64 : decode cX4_moor 64 = .ok (.invokevirtual 67, 3) := by decide +kernel
theorem dX4_moor_67 : decode cX4_moor 67 = .ok (.ifCond .ne 6, 3) := by decide +kernel
theorem dX4_moor_70 : decode cX4_moor 70 = .ok (.iconst 3, 1) := by decide +kernel
theorem dX4_moor_71 : decode cX4_moor 71 = .ok (.istore 6, 2) := by decide +kernel
theorem dX4_moor_73 : decode cX4_moor 73 = .ok (.iload 6, 2) := by decide +kernel
theorem dX4_moor_75 : decode cX4_moor 75 = .ok (.ifCond .eq 10, 3) := by decide +kernel
theorem dX4_moor_78 : decode cX4_moor 78 = .ok (.aload_n 0, 1) := by decide +kernel
theorem dX4_moor_79 : decode cX4_moor 79 = .ok (.iload 6, 2) := by decide +kernel
theorem dX4_moor_81 : decode cX4_moor 81 = .ok (.invokevirtual 70, 3) := by decide +kernel
theorem dX4_moor_84 : decode cX4_moor 84 = .ok (.ireturn, 1) := by decide +kernel
theorem dX4_moor_85 : decode cX4_moor 85 = .ok (.aload 5, 2) := by decide +kernel
theorem dX4_moor_87 : decode cX4_moor 87 = .ok (.getfield 73, 3) := by decide +kernel
theorem dX4_moor_90 : decode cX4_moor 90 = .ok (.iload_n 3, 1) := by decide +kernel
theorem dX4_moor_91 : decode cX4_moor 91 = .ok (.iload 4, 2) := by decide +kernel
theorem dX4_moor_93 : decode cX4_moor 93 = .ok (.invokestatic 76, 3) := by decide +kernel
theorem dX4_moor_96 : decode cX4_moor 96 = .ok (.istore 7, 2) := by decide +kernel
theorem dX4_moor_98 : decode cX4_moor 98 = .ok (.iload 7, 2) := by decide +kernel
theorem dX4_moor_100 : decode cX4_moor 100 = .ok (.bipush (-9), 2) := by decide +kernel
theorem dX4_moor_102 : decode cX4_moor 102 = .ok (.if_icmp .eq 9, 3) := by decide +kernel
theorem dX4_moor_105 : decode cX4_moor 105 = .ok (.bipush (-100), 2) := by decide +kernel
theorem dX4_moor_107 : decode cX4_moor 107 = .ok (.iload 7, 2) := by decide +kernel
theorem dX4_moor_109 : decode cX4_moor 109 = .ok (.isub, 1) := by decide +kernel
theorem dX4_moor_110 : decode cX4_moor 110 = .ok (.ireturn, 1) := by decide +kernel
theorem dX4_moor_111 : decode cX4_moor 111 = .ok (.aload_n 0, 1) := by decide +kernel
theorem dX4_moor_112 : decode cX4_moor 112 = .ok (.getfield 12, 3) := by decide +kernel
theorem dX4_moor_115 : decode cX4_moor 115 = .ok (.aload 5, 2) := by decide +kernel
theorem dX4_moor_117 : decode cX4_moor 117 = .ok (.getfield 73, 3) := by decide +kernel
theorem dX4_moor_120 : decode cX4_moor 120 = .ok (.iload_n 3, 1) := by decide +kernel
theorem dX4_moor_121 : decode cX4_moor 121 = .ok (.iload 4, 2) := by decide +kernel
theorem dX4_moor_123 : decode cX4_moor 123 = .ok (.invokestatic 82, 3) := by decide +kernel
theorem dX4_moor_126 : decode cX4_moor 126 = .ok (.aload_n 0, 1) := by decide +kernel
theorem dX4_moor_127 : decode cX4_moor 127 = .ok (.iconst 0, 1) := by decide +kernel
theorem dX4_moor_128 : decode cX4_moor 128 = .ok (.putfield 86, 3) := by decide +kernel
theorem dX4_moor_131 : decode cX4_moor 131 = .ok (.aload_n 0, 1) := by decide +kernel
theorem dX4_moor_132 : decode cX4_moor 132 = .ok (.iconst 0, 1) := by decide +kernel
theorem dX4_moor_133 : decode cX4_moor 133 = .ok (.putfield 89, 3) := by decide +kernel
theorem dX4_moor_136 : decode cX4_moor 136 = .ok (.aload_n 0, 1) := by decide +kernel
theorem dX4_moor_137 : decode cX4_moor 137 = .ok (.getfield 12, 3) := by decide +kernel
theorem dX4_moor_140 : decode cX4_moor 140 = .ok (.getfield 92, 3) := by decide +kernel
theorem dX4_moor_143 : decode cX4_moor 143 = .ok (.ireturn, 1) := by decide +kernel
theorem dX4_ofPerson_0 : decode cX4_ofPerson 0 = .ok (.aload_n 0, 1) := by decide +kernel
theorem dX4_ofPerson_1 : decode cX4_ofPerson 1 = .ok (.iload_n 1, 1) := by decide +kernel
theorem dX4_ofPerson_2 : decode cX4_ofPerson 2 = .ok (.invokevirtual 95, 3) := by decide +kernel
theorem dX4_ofPerson_5 : decode cX4_ofPerson 5 = .ok (.ifCond .ne 5, 3) := by decide +kernel
theorem dX4_ofPerson_8 : decode cX4_ofPerson 8 = .ok (.iconst (-1), 1) := by decide +kernel
theorem dX4_ofPerson_9 : decode cX4_ofPerson 9 = .ok (.ireturn, 1) := by decide +kernel
theorem dX4_ofPerson_10 : decode cX4_ofPerson 10 = .ok (.iload_n 2, 1) := by decide +kernel
theorem dX4_ofPerson_11 : decode cX4_ofPerson 11 = .ok (.tableswitch 116 0 6 #[41, 51, 61, 71, 81, 90, 107], 41) := by decide +kernel
theorem dX4_ofPerson_52 : decode cX4_ofPerson 52 = .ok (.aload_n 0, 1) := by decide +kernel
theorem dX4_ofPerson_53 : decode cX4_ofPerson 53 = .ok (.getfield 12, 3) := by decide +kernel
theorem dX4_ofPerson_56 : decode cX4_ofPerson 56 = .ok (.getfield 98, 3) := by decide +kernel
theorem dX4_ofPerson_59 : decode cX4_ofPerson 59 = .ok (.iload_n 1, 1) := by decide +kernel
theorem dX4_ofPerson_60 : decode cX4_ofPerson 60 = .ok (.iaload, 1) := by decide +kernel
theorem dX4_ofPerson_61 : decode cX4_ofPerson 61 = .ok (.ireturn, 1) := by decide +kernel
theorem dX4_ofPerson_62 : decode cX4_ofPerson 62 = .ok (.aload_n 0, 1) := by decide +kernel
theorem dX4_ofPerson_63 : decode cX4_ofPerson 63 = .ok (.getfield 12, 3) := by decide +kernel
theorem dX4_ofPerson_66 : decode cX4_ofPerson 66 = .ok (.getfield 101, 3) := by decide +kernel
theorem dX4_ofPerson_69 : decode cX4_ofPerson 69 = .ok (.iload_n 1, 1) := by decide +kernel
theorem dX4_ofPerson_70 : decode cX4_ofPerson 70 = .ok (.iaload, 1) := by decide +kernel
theorem dX4_ofPerson_71 : decode cX4_ofPerson 71 = .ok (.ireturn, 1) := by decide +kernel
theorem dX4_ofPerson_72 : decode cX4_ofPerson 72 = .ok (.aload_n 0, 1) := by decide +kernel
theorem dX4_ofPerson_73 : decode cX4_ofPerson 73 = .ok (.getfield 12, 3) := by decide +kernel
theorem dX4_ofPerson_76 : decode cX4_ofPerson 76 = .ok (.getfield 104, 3) := by decide +kernel
theorem dX4_ofPerson_79 : decode cX4_ofPerson 79 = .ok (.iload_n 1, 1) := by decide +kernel
theorem dX4_ofPerson_80 : decode cX4_ofPerson 80 = .ok (.iaload, 1) := by decide +kernel
theorem dX4_ofPerson_81 : decode cX4_ofPerson 81 = .ok (.ireturn, 1) := by decide +kernel
theorem dX4_ofPerson_82 : decode cX4_ofPerson 82 = .ok (.aload_n 0, 1) := by decide +kernel
theorem dX4_ofPerson_83 : decode cX4_ofPerson 83 = .ok (.getfield 12, 3) := by decide +kernel
theorem dX4_ofPerson_86 : decode cX4_ofPerson 86 = .ok (.getfield 107, 3) := by decide +kernel
theorem dX4_ofPerson_89 : decode cX4_ofPerson 89 = .ok (.iload_n 1, 1) := by decide +kernel
theorem dX4_ofPerson_90 : decode cX4_ofPerson 90 = .ok (.iaload, 1) := by decide +kernel
theorem dX4_ofPerson_91 : decode cX4_ofPerson 91 = .ok (.ireturn, 1) := by decide +kernel
theorem dX4_ofPerson_92 : decode cX4_ofPerson 92 = .ok (.aload_n 0, 1) := by decide +kernel
theorem dX4_ofPerson_93 : decode cX4_ofPerson 93 = .ok (.getfield 12, 3) := by decide +kernel
theorem dX4_ofPerson_96 : decode cX4_ofPerson 96 = .ok (.iload_n 1, 1) := by decide +kernel
theorem dX4_ofPerson_97 : decode cX4_ofPerson 97 = .ok (.invokevirtual 110, 3) := by decide +kernel
theorem dX4_ofPerson_100 : decode cX4_ofPerson 100 = .ok (.ireturn, 1) := by decide +kernel
theorem dX4_ofPerson_101 : decode cX4_ofPerson 101 = .ok (.aload_n 0, 1) := by decide +kernel
theorem dX4_ofPerson_102 : decode cX4_ofPerson 102 = .ok (.getfield 12, 3) := by decide +kernel
theorem dX4_ofPerson_105 : decode cX4_ofPerson 105 = .ok (.iload_n 1, 1) := by decide +kernel
theorem dX4_ofPerson_106 : decode cX4_ofPerson 106 = .ok (.invokevirtual 113, 3) := by decide +kernel
theorem dX4_ofPerson_109 : decode cX4_ofPerson 109 = .ok (.ifCond .eq 7, 3) := by decide +kernel
theorem dX4_ofPerson_112 : decode cX4_ofPerson 112 = .ok (.iconst 1, 1) := by decide +kernel
theorem dX4_ofPerson_113 : decode cX4_ofPerson 113 = .ok (.goto 4, 3) := by decide +kernel
theorem dX4_ofPerson_116 : decode cX4_ofPerson 116 = .ok (.iconst 0, 1) := by decide +kernel
theorem dX4_ofPerson_117 : decode cX4_ofPerson 117 = .ok (.ireturn, 1) := by decide +kernel
theorem dX4_ofPerson_118 : decode cX4_ofPerson 118 = .ok (.aload_n 0, 1) := by decide +kernel
theorem dX4_ofPerson_119 : decode cX4_ofPerson 119 = .ok (.getfield 12, 3) := by decide +kernel
theorem dX4_ofPerson_122 : decode cX4_ofPerson 122 = .ok (.iload_n 1, 1) := by decide +kernel
theorem dX4_ofPerson_123 : decode cX4_ofPerson 123 = .ok (.invokevirtual 116, 3) := by decide +kernel
theorem dX4_ofPerson_126 : decode cX4_ofPerson 126 = .ok (.ireturn, 1) := by decide +kernel
theorem dX4_ofPerson_127 : decode cX4_ofPerson 127 = .ok (.bipush (-2), 2) := by decide +kernel
theorem dX4_ofPerson_129 : decode cX4_ofPerson 129 = .ok (.ireturn, 1) := by decide +kernel
theorem dX4_post_0 : decode cX4_post 0 = .ok (.aload_n 0, 1) := by decide +kernel
theorem dX4_post_1 : decode cX4_post 1 = .ok (.invokevirtual 119, 3) := by decide +kernel
theorem dX4_post_4 : decode cX4_post 4 = .ok (.ifCond .eq 6, 3) := by decide +kernel
theorem dX4_post_7 : decode cX4_post 7 = .ok (.bipush (-3), 2) := by decide +kernel
theorem dX4_post_9 : decode cX4_post 9 = .ok (.ireturn, 1) := by decide +kernel
theorem dX4_post_10 : decode cX4_post 10 = .ok (.iload_n 1, 1) := by decide +kernel
theorem dX4_post_11 : decode cX4_post 11 = .ok (.bipush 10, 2) := by decide +kernel
theorem dX4_post_13 : decode cX4_post 13 = .ok (.invokestatic 59, 3) := by decide +kernel
theorem dX4_post_16 : decode cX4_post 16 = .ok (.ifCond .ne 6, 3) := by decide +kernel
theorem dX4_post_19 : decode cX4_post 19 = .ok (.bipush (-2), 2) := by decide +kernel
theorem dX4_post_21 : decode cX4_post 21 = .ok (.ireturn, 1) := by decide +kernel
theorem dX4_post_22 : decode cX4_post 22 = .ok (.aload_n 0, 1) := by decide +kernel
theorem dX4_post_23 : decode cX4_post 23 = .ok (.getfield 12, 3) := by decide +kernel
theorem dX4_post_26 : decode cX4_post 26 = .ok (.getfield 123, 3) := by decide +kernel
theorem dX4_post_29 : decode cX4_post 29 = .ok (.istore_n 2, 1) := by decide +kernel
theorem dX4_post_30 : decode cX4_post 30 = .ok (.aload_n 0, 1) := by decide +kernel
theorem dX4_post_31 : decode cX4_post 31 = .ok (.getfield 12, 3) := by decide +kernel
theorem dX4_post_34 : decode cX4_post 34 = .ok (.iload_n 1, 1) := by decide +kernel
theorem dX4_post_35 : decode cX4_post 35 = .ok (.putfield 123, 3) := by decide +kernel
theorem dX4_post_38 : decode cX4_post 38 = .ok (.iload_n 2, 1) := by decide +kernel
theorem dX4_post_39 : decode cX4_post 39 = .ok (.ireturn, 1) := by decide +kernel
theorem dX4_lax_0 : decode cX4_lax 0 = .ok (.aload_n 0, 1) := by decide +kernel
theorem dX4_lax_1 : decode cX4_lax 1 = .ok (.invokevirtual 119, 3) := by decide +kernel
theorem dX4_lax_4 : decode cX4_lax 4 = .ok (.ifCond .eq 6, 3) := by decide +kernel
theorem dX4_lax_7 : decode cX4_lax 7 = .ok (.bipush (-3), 2) := by decide +kernel
theorem dX4_lax_9 : decode cX4_lax 9 = .ok (.ireturn, 1) := by decide +kernel
theorem dX4_lax_10 : decode cX4_lax 10 = .ok (.iload_n 1, 1) := by decide +kernel
theorem dX4_lax_11 : decode cX4_lax 11 = .ok (.iconst 4, 1) := by decide +kernel
theorem dX4_lax_12 : decode cX4_lax 12 = .ok (.invokestatic 59, 3) := by decide +kernel
theorem dX4_lax_15 : decode cX4_lax 15 = .ok (.ifCond .ne 6, 3) := by decide +kernel
theorem dX4_lax_18 : decode cX4_lax 18 = .ok (.bipush (-2), 2) := by decide +kernel
theorem dX4_lax_20 : decode cX4_lax 20 = .ok (.ireturn, 1) := by decide +kernel
theorem dX4_lax_21 : decode cX4_lax 21 = .ok (.aload_n 0, 1) := by decide +kernel
theorem dX4_lax_22 : decode cX4_lax 22 = .ok (.getfield 12, 3) := by decide +kernel
theorem dX4_lax_25 : decode cX4_lax 25 = .ok (.getfield 126, 3) := by decide +kernel
theorem dX4_lax_28 : decode cX4_lax 28 = .ok (.istore_n 2, 1) := by decide +kernel
theorem dX4_lax_29 : decode cX4_lax 29 = .ok (.aload_n 0, 1) := by decide +kernel
theorem dX4_lax_30 : decode cX4_lax 30 = .ok (.getfield 12, 3) := by decide +kernel
theorem dX4_lax_33 : decode cX4_lax 33 = .ok (.iload_n 1, 1) := by decide +kernel
theorem dX4_lax_34 : decode cX4_lax 34 = .ok (.putfield 126, 3) := by decide +kernel
theorem dX4_lax_37 : decode cX4_lax 37 = .ok (.iload_n 2, 1) := by decide +kernel
theorem dX4_lax_38 : decode cX4_lax 38 = .ok (.ireturn, 1) := by decide +kernel
theorem dX4_bathe_0 : decode cX4_bathe 0 = .ok (.aload_n 0, 1) := by decide +kernel
theorem dX4_bathe_1 : decode cX4_bathe 1 = .ok (.aload_n 0, 1) := by decide +kernel
theorem dX4_bathe_2 : decode cX4_bathe 2 = .ok (.getfield 12, 3) := by decide +kernel
theorem dX4_bathe_5 : decode cX4_bathe 5 = .ok (.getfield 101, 3) := by decide +kernel
theorem dX4_bathe_8 : decode cX4_bathe 8 = .ok (.iload_n 1, 1) := by decide +kernel
theorem dX4_bathe_9 : decode cX4_bathe 9 = .ok (.iload_n 2, 1) := by decide +kernel
theorem dX4_bathe_10 : decode cX4_bathe 10 = .ok (.bipush 8, 2) := by decide +kernel
theorem dX4_bathe_12 : decode cX4_bathe 12 = .ok (.invokevirtual 129, 3) := by decide +kernel
theorem dX4_bathe_15 : decode cX4_bathe 15 = .ok (.ireturn, 1) := by decide +kernel
theorem dX4_moves_0 : decode cX4_moves 0 = .ok (.aload_n 0, 1) := by decide +kernel
theorem dX4_moves_1 : decode cX4_moves 1 = .ok (.aload_n 0, 1) := by decide +kernel
theorem dX4_moves_2 : decode cX4_moves 2 = .ok (.getfield 12, 3) := by decide +kernel
theorem dX4_moves_5 : decode cX4_moves 5 = .ok (.getfield 107, 3) := by decide +kernel
theorem dX4_moves_8 : decode cX4_moves 8 = .ok (.iload_n 1, 1) := by decide +kernel
theorem dX4_moves_9 : decode cX4_moves 9 = .ok (.iload_n 2, 1) := by decide +kernel
theorem dX4_moves_10 : decode cX4_moves 10 = .ok (.bipush 10, 2) := by decide +kernel
theorem dX4_moves_12 : decode cX4_moves 12 = .ok (.invokevirtual 129, 3) := by decide +kernel
theorem dX4_moves_15 : decode cX4_moves 15 = .ok (.ireturn, 1) := by decide +kernel
theorem dX4_send_0 : decode cX4_send 0 = .ok (.aload_n 0, 1) := by decide +kernel
theorem dX4_send_1 : decode cX4_send 1 = .ok (.iload_n 1, 1) := by decide +kernel
theorem dX4_send_2 : decode cX4_send 2 = .ok (.invokevirtual 95, 3) := by decide +kernel
theorem dX4_send_5 : decode cX4_send 5 = .ok (.ifCond .ne 5, 3) := by decide +kernel
theorem dX4_send_8 : decode cX4_send 8 = .ok (.iconst (-1), 1) := by decide +kernel
theorem dX4_send_9 : decode cX4_send 9 = .ok (.ireturn, 1) := by decide +kernel
theorem dX4_send_10 : decode cX4_send 10 = .ok (.aload_n 0, 1) := by decide +kernel
theorem dX4_send_11 : decode cX4_send 11 = .ok (.dup, 1) := by decide +kernel
theorem dX4_send_12 : decode cX4_send 12 = .ok (.getfield 89, 3) := by decide +kernel
theorem dX4_send_15 : decode cX4_send 15 = .ok (.iconst 1, 1) := by decide +kernel
theorem dX4_send_16 : decode cX4_send 16 = .ok (.iadd, 1) := by decide +kernel
theorem dX4_send_17 : decode cX4_send 17 = .ok (.putfield 89, 3) := by decide +kernel
theorem dX4_send_20 : decode cX4_send 20 = .ok (.aload_n 0, 1) := by decide +kernel
theorem dX4_send_21 : decode cX4_send 21 = .ok (.getfield 12, 3) := by decide +kernel
theorem dX4_send_24 : decode cX4_send 24 = .ok (.iload_n 1, 1) := by decide +kernel
theorem dX4_send_25 : decode cX4_send 25 = .ok (.invokevirtual 133, 3) := by decide +kernel
theorem dX4_send_28 : decode cX4_send 28 = .ok (.ireturn, 1) := by decide +kernel
theorem dX4_comes_0 : decode cX4_comes 0 = .ok (.aload_n 0, 1) := by decide +kernel
theorem dX4_comes_1 : decode cX4_comes 1 = .ok (.invokevirtual 119, 3) := by decide +kernel
theorem dX4_comes_4 : decode cX4_comes 4 = .ok (.ifCond .eq 6, 3) := by decide +kernel
theorem dX4_comes_7 : decode cX4_comes 7 = .ok (.bipush (-3), 2) := by decide +kernel
theorem dX4_comes_9 : decode cX4_comes 9 = .ok (.ireturn, 1) := by decide +kernel
theorem dX4_comes_10 : decode cX4_comes 10 = .ok (.iload_n 1, 1) := by decide +kernel
theorem dX4_comes_11 : decode cX4_comes 11 = .ok (.lookupswitch 41 #[(0, 25), (1, 33)], 25) := by decide +kernel
theorem dX4_comes_36 : decode cX4_comes 36 = .ok (.aload_n 0, 1) := by decide +kernel
theorem dX4_comes_37 : decode cX4_comes 37 = .ok (.getfield 12, 3) := by decide +kernel
theorem dX4_comes_40 : decode cX4_comes 40 = .ok (.invokevirtual 136, 3) := by decide +kernel
theorem dX4_comes_43 : decode cX4_comes 43 = .ok (.ireturn, 1) := by decide +kernel
theorem dX4_comes_44 : decode cX4_comes 44 = .ok (.aload_n 0, 1) := by decide +kernel
theorem dX4_comes_45 : decode cX4_comes 45 = .ok (.getfield 12, 3) := by decide +kernel
theorem dX4_comes_48 : decode cX4_comes 48 = .ok (.invokevirtual 140, 3) := by decide +kernel
theorem dX4_comes_51 : decode cX4_comes 51 = .ok (.ireturn, 1) := by decide +kernel
theorem dX4_comes_52 : decode cX4_comes 52 = .ok (.bipush (-2), 2) := by decide +kernel
theorem dX4_comes_54 : decode cX4_comes 54 = .ok (.ireturn, 1) := by decide +kernel
theorem dX4_round_0 : decode cX4_round 0 = .ok (.aload_n 0, 1) := by decide +kernel
theorem dX4_round_1 : decode cX4_round 1 = .ok (.iconst 0, 1) := by decide +kernel
theorem dX4_round_2 : decode cX4_round 2 = .ok (.putfield 51, 3) := by decide +kernel
theorem dX4_round_5 : decode cX4_round 5 = .ok (.iload_n 1, 1) := by decide +kernel
theorem dX4_round_6 : decode cX4_round 6 = .ok (.invokestatic 55, 3) := by decide +kernel
theorem dX4_round_9 : decode cX4_round 9 = .ok (.ifCond .ne 5, 3) := by decide +kernel
theorem dX4_round_12 : decode cX4_round 12 = .ok (.iconst (-1), 1) := by decide +kernel
theorem dX4_round_13 : decode cX4_round 13 = .ok (.ireturn, 1) := by decide +kernel
theorem dX4_round_14 : decode cX4_round 14 = .ok (.iload_n 2, 1) := by decide +kernel
theorem dX4_round_15 : decode cX4_round 15 = .ok (.iconst 3, 1) := by decide +kernel
theorem dX4_round_16 : decode cX4_round 16 = .ok (.invokestatic 59, 3) := by decide +kernel
theorem dX4_round_19 : decode cX4_round 19 = .ok (.ifCond .eq 21, 3) := by decide +kernel
theorem dX4_round_22 : decode cX4_round 22 = .ok (.iload 4, 2) := by decide +kernel
theorem dX4_round_24 : decode cX4_round 24 = .ok (.bipush 21, 2) := by decide +kernel
theorem dX4_round_26 : decode cX4_round 26 = .ok (.invokestatic 59, 3) := by decide +kernel
theorem dX4_round_29 : decode cX4_round 29 = .ok (.ifCond .eq 11, 3) := by decide +kernel
theorem dX4_round_32 : decode cX4_round 32 = .ok (.iload 5, 2) := by decide +kernel
theorem dX4_round_34 : decode cX4_round 34 = .ok (.invokestatic 143, 3) := by decide +kernel
theorem dX4_round_37 : decode cX4_round 37 = .ok (.ifCond .ne 6, 3) := by decide +kernel
theorem dX4_round_40 : decode cX4_round 40 = .ok (.bipush (-2), 2) := by decide +kernel
theorem dX4_round_42 : decode cX4_round 42 = .ok (.ireturn, 1) := by decide +kernel
theorem dX4_round_43 : decode cX4_round 43 = .ok (.aload_n 0, 1) := by decide +kernel
theorem dX4_round_44 : decode cX4_round 44 = .ok (.invokevirtual 119, 3) := by decide +kernel
theorem dX4_round_47 : decode cX4_round 47 = .ok (.ifCond .eq 6, 3) := by decide +kernel
theorem dX4_round_50 : decode cX4_round 50 = .ok (.bipush (-3), 2) := by decide +kernel
theorem dX4_round_52 : decode cX4_round 52 = .ok (.ireturn, 1) := by decide +kernel
theorem dX4_round_53 : decode cX4_round 53 = .ok (.aload_n 0, 1) := by decide +kernel
theorem dX4_round_54 : decode cX4_round 54 = .ok (.getfield 23, 3) := by decide +kernel
theorem dX4_round_57 : decode cX4_round 57 = .ok (.iload_n 1, 1) := by decide +kernel
theorem dX4_round_58 : decode cX4_round 58 = .ok (.aaload, 1) := by decide +kernel
theorem dX4_round_59 : decode cX4_round 59 = .ok (.astore 6, 2) := by decide +kernel
theorem dX4_round_61 : decode cX4_round 61 = .ok (.aload 6, 2) := by decide +kernel
theorem dX4_round_63 : decode cX4_round 63 = .ok (.iload_n 2, 1) := by decide +kernel
theorem dX4_round_64 : decode cX4_round 64 = .ok (.invokevirtual 63, 3) := by decide +kernel
theorem dX4_round_67 : decode cX4_round 67 = .ok (.istore 7, 2) := by decide +kernel
theorem dX4_round_69 : decode cX4_round 69 = .ok (.iload 7, 2) := by decide +kernel
theorem dX4_round_71 : decode cX4_round 71 = .ok (.ifCond .ne 19, 3) := by decide +kernel
theorem dX4_round_74 : decode cX4_round 74 = .ok (.aload 6, 2) := by decide +kernel
theorem dX4_round_76 : decode cX4_round 76 = .ok (.iload_n 3, 1) := by decide +kernel
theorem dX4_round_77 : decode cX4_round 77 = .ok (.iconst 2, 1) := by decide +kernel
theorem dX4_round_78 : decode cX4_round 78 = .ok (.iload 4, 2) := by decide +kernel
theorem dX4_round_80 : decode cX4_round 80 = .ok (.imul, 1) := by decide +kernel
theorem dX4_round_81 : decode cX4_round 81 = .ok (.invokevirtual 67, 3) := by decide +kernel
theorem dX4_round_84 : decode cX4_round 84 = .ok (.ifCond .ne 6, 3) := by decide +kernel
theorem dX4_round_87 : decode cX4_round 87 = .ok (.iconst 3, 1) := by decide +kernel
theorem dX4_round_88 : decode cX4_round 88 = .ok (.istore 7, 2) := by decide +kernel
theorem dX4_round_90 : decode cX4_round 90 = .ok (.iload 7, 2) := by decide +kernel
theorem dX4_round_92 : decode cX4_round 92 = .ok (.ifCond .eq 10, 3) := by decide +kernel
theorem dX4_round_95 : decode cX4_round 95 = .ok (.aload_n 0, 1) := by decide +kernel
theorem dX4_round_96 : decode cX4_round 96 = .ok (.iload 7, 2) := by decide +kernel
theorem dX4_round_98 : decode cX4_round 98 = .ok (.invokevirtual 70, 3) := by decide +kernel
theorem dX4_round_101 : decode cX4_round 101 = .ok (.ireturn, 1) := by decide +kernel
theorem dX4_round_102 : decode cX4_round 102 = .ok (.aload_n 0, 1) := by decide +kernel
theorem dX4_round_103 : decode cX4_round 103 = .ok (.aload 6, 2) := by decide +kernel
theorem dX4_round_105 : decode cX4_round 105 = .ok (.getfield 73, 3) := by decide +kernel
theorem dX4_round_108 : decode cX4_round 108 = .ok (.iload_n 3, 1) := by decide +kernel
theorem dX4_round_109 : decode cX4_round 109 = .ok (.iload 4, 2) := by decide +kernel
theorem dX4_round_111 : decode cX4_round 111 = .ok (.invokevirtual 146, 3) := by decide +kernel
theorem dX4_round_114 : decode cX4_round 114 = .ok (.istore 8, 2) := by decide +kernel
theorem dX4_round_116 : decode cX4_round 116 = .ok (.iload 8, 2) := by decide +kernel
theorem dX4_round_118 : decode cX4_round 118 = .ok (.ifCond .eq 6, 3) := by decide +kernel
theorem dX4_round_121 : decode cX4_round 121 = .ok (.iload 8, 2) := by decide +kernel
theorem dX4_round_123 : decode cX4_round 123 = .ok (.ireturn, 1) := by decide +kernel
theorem dX4_round_124 : decode cX4_round 124 = .ok (.aload_n 0, 1) := by decide +kernel
theorem dX4_round_125 : decode cX4_round 125 = .ok (.aload 6, 2) := by decide +kernel
theorem dX4_round_127 : decode cX4_round 127 = .ok (.getfield 73, 3) := by decide +kernel
theorem dX4_round_130 : decode cX4_round 130 = .ok (.iload_n 3, 1) := by decide +kernel
theorem dX4_round_131 : decode cX4_round 131 = .ok (.iload 4, 2) := by decide +kernel
theorem dX4_round_133 : decode cX4_round 133 = .ok (.invokevirtual 149, 3) := by decide +kernel
theorem dX4_round_136 : decode cX4_round 136 = .ok (.aload_n 0, 1) := by decide +kernel
theorem dX4_round_137 : decode cX4_round 137 = .ok (.iload 5, 2) := by decide +kernel
theorem dX4_round_139 : decode cX4_round 139 = .ok (.invokevirtual 153, 3) := by decide +kernel
theorem dX4_round_142 : decode cX4_round 142 = .ok (.ireturn, 1) := by decide +kernel
theorem dX4_strict_0 : decode cX4_strict 0 = .ok (.aload_n 0, 1) := by decide +kernel
theorem dX4_strict_1 : decode cX4_strict 1 = .ok (.iload_n 1, 1) := by decide +kernel
theorem dX4_strict_2 : decode cX4_strict 2 = .ok (.invokevirtual 95, 3) := by decide +kernel
theorem dX4_strict_5 : decode cX4_strict 5 = .ok (.ifCond .ne 5, 3) := by decide +kernel
theorem dX4_strict_8 : decode cX4_strict 8 = .ok (.iconst (-1), 1) := by decide +kernel
theorem dX4_strict_9 : decode cX4_strict 9 = .ok (.ireturn, 1) := by decide +kernel
theorem dX4_strict_10 : decode cX4_strict 10 = .ok (.aload_n 0, 1) := by decide +kernel
theorem dX4_strict_11 : decode cX4_strict 11 = .ok (.getfield 18, 3) := by decide +kernel
theorem dX4_strict_14 : decode cX4_strict 14 = .ok (.aload_n 0, 1) := by decide +kernel
theorem dX4_strict_15 : decode cX4_strict 15 = .ok (.getfield 12, 3) := by decide +kernel
theorem dX4_strict_18 : decode cX4_strict 18 = .ok (.invokevirtual 156, 3) := by decide +kernel
theorem dX4_strict_21 : decode cX4_strict 21 = .ok (.iconst 0, 1) := by decide +kernel
theorem dX4_strict_22 : decode cX4_strict 22 = .ok (.istore_n 2, 1) := by decide +kernel
theorem dX4_strict_23 : decode cX4_strict 23 = .ok (.iload_n 2, 1) := by decide +kernel
theorem dX4_strict_24 : decode cX4_strict 24 = .ok (.iconst 4, 1) := by decide +kernel
theorem dX4_strict_25 : decode cX4_strict 25 = .ok (.if_icmp .ge 31, 3) := by decide +kernel
theorem dX4_strict_28 : decode cX4_strict 28 = .ok (.aload_n 0, 1) := by decide +kernel
theorem dX4_strict_29 : decode cX4_strict 29 = .ok (.getfield 18, 3) := by decide +kernel
theorem dX4_strict_32 : decode cX4_strict 32 = .ok (.iload_n 2, 1) := by decide +kernel
theorem dX4_strict_33 : decode cX4_strict 33 = .ok (.putfield 126, 3) := by decide +kernel
theorem dX4_strict_36 : decode cX4_strict 36 = .ok (.aload_n 0, 1) := by decide +kernel
theorem dX4_strict_37 : decode cX4_strict 37 = .ok (.getfield 18, 3) := by decide +kernel
theorem dX4_strict_40 : decode cX4_strict 40 = .ok (.iload_n 1, 1) := by decide +kernel
theorem dX4_strict_41 : decode cX4_strict 41 = .ok (.invokevirtual 116, 3) := by decide +kernel
theorem dX4_strict_44 : decode cX4_strict 44 = .ok (.iload_n 1, 1) := by decide +kernel
theorem dX4_strict_45 : decode cX4_strict 45 = .ok (.if_icmp .ne 5, 3) := by decide +kernel
theorem dX4_strict_48 : decode cX4_strict 48 = .ok (.iload_n 2, 1) := by decide +kernel
theorem dX4_strict_49 : decode cX4_strict 49 = .ok (.ireturn, 1) := by decide +kernel
theorem dX4_strict_50 : decode cX4_strict 50 = .ok (.iinc 2 1, 3) := by decide +kernel
theorem dX4_strict_53 : decode cX4_strict 53 = .ok (.goto (-30), 3) := by decide +kernel
theorem dX4_strict_56 : decode cX4_strict 56 = .ok (.bipush (-9), 2) := by decide +kernel
theorem dX4_strict_58 : decode cX4_strict 58 = .ok (.ireturn, 1) := by decide +kernel
theorem dX4_site_0 : decode cX4_site 0 = .ok (.aload_n 0, 1) := by decide +kernel
theorem dX4_site_1 : decode cX4_site 1 = .ok (.invokevirtual 119, 3) := by decide +kernel
theorem dX4_site_4 : decode cX4_site 4 = .ok (.ifCond .eq 6, 3) := by decide +kernel
theorem dX4_site_7 : decode cX4_site 7 = .ok (.bipush (-3), 2) := by decide +kernel
theorem dX4_site_9 : decode cX4_site 9 = .ok (.ireturn, 1) := by decide +kernel
theorem dX4_site_10 : decode cX4_site 10 = .ok (.iload_n 1, 1) := by decide +kernel
theorem dX4_site_11 : decode cX4_site 11 = .ok (.iconst 2, 1) := by decide +kernel
theorem dX4_site_12 : decode cX4_site 12 = .ok (.invokestatic 59, 3) := by decide +kernel
theorem dX4_site_15 : decode cX4_site 15 = .ok (.ifCond .ne 6, 3) := by decide +kernel
theorem dX4_site_18 : decode cX4_site 18 = .ok (.bipush (-2), 2) := by decide +kernel
theorem dX4_site_20 : decode cX4_site 20 = .ok (.ireturn, 1) := by decide +kernel
theorem dX4_site_21 : decode cX4_site 21 = .ok (.aload_n 0, 1) := by decide +kernel
theorem dX4_site_22 : decode cX4_site 22 = .ok (.getfield 18, 3) := by decide +kernel
theorem dX4_site_25 : decode cX4_site 25 = .ok (.aload_n 0, 1) := by decide +kernel
theorem dX4_site_26 : decode cX4_site 26 = .ok (.getfield 12, 3) := by decide +kernel
theorem dX4_site_29 : decode cX4_site 29 = .ok (.invokevirtual 156, 3) := by decide +kernel
theorem dX4_site_32 : decode cX4_site 32 = .ok (.iconst 0, 1) := by decide +kernel
theorem dX4_site_33 : decode cX4_site 33 = .ok (.istore_n 2, 1) := by decide +kernel
theorem dX4_site_34 : decode cX4_site 34 = .ok (.iconst (-1), 1) := by decide +kernel
theorem dX4_site_35 : decode cX4_site 35 = .ok (.istore_n 3, 1) := by decide +kernel
theorem dX4_site_36 : decode cX4_site 36 = .ok (.iconst 0, 1) := by decide +kernel
theorem dX4_site_37 : decode cX4_site 37 = .ok (.istore 4, 2) := by decide +kernel
theorem dX4_site_39 : decode cX4_site 39 = .ok (.iload 4, 2) := by decide +kernel
theorem dX4_site_41 : decode cX4_site 41 = .ok (.bipush 10, 2) := by decide +kernel
theorem dX4_site_43 : decode cX4_site 43 = .ok (.if_icmp .ge 42, 3) := by decide +kernel
theorem dX4_site_46 : decode cX4_site 46 = .ok (.aload_n 0, 1) := by decide +kernel
theorem dX4_site_47 : decode cX4_site 47 = .ok (.getfield 18, 3) := by decide +kernel
theorem dX4_site_50 : decode cX4_site 50 = .ok (.iload 4, 2) := by decide +kernel
theorem dX4_site_52 : decode cX4_site 52 = .ok (.putfield 123, 3) := by decide +kernel
theorem dX4_site_55 : decode cX4_site 55 = .ok (.aload_n 0, 1) := by decide +kernel
theorem dX4_site_56 : decode cX4_site 56 = .ok (.getfield 18, 3) := by decide +kernel
theorem dX4_site_59 : decode cX4_site 59 = .ok (.invokevirtual 136, 3) := by decide +kernel
theorem dX4_site_62 : decode cX4_site 62 = .ok (.invokestatic 160, 3) := by decide +kernel
theorem dX4_site_65 : decode cX4_site 65 = .ok (.istore 5, 2) := by decide +kernel
theorem dX4_site_67 : decode cX4_site 67 = .ok (.iload 5, 2) := by decide +kernel
theorem dX4_site_69 : decode cX4_site 69 = .ok (.iload_n 3, 1) := by decide +kernel
theorem dX4_site_70 : decode cX4_site 70 = .ok (.if_icmp .le 9, 3) := by decide +kernel
theorem dX4_site_73 : decode cX4_site 73 = .ok (.iload 5, 2) := by decide +kernel
theorem dX4_site_75 : decode cX4_site 75 = .ok (.istore_n 3, 1) := by decide +kernel
theorem dX4_site_76 : decode cX4_site 76 = .ok (.iload 4, 2) := by decide +kernel
theorem dX4_site_78 : decode cX4_site 78 = .ok (.istore_n 2, 1) := by decide +kernel
theorem dX4_site_79 : decode cX4_site 79 = .ok (.iinc 4 1, 3) := by decide +kernel
theorem dX4_site_82 : decode cX4_site 82 = .ok (.goto (-43), 3) := by decide +kernel
theorem dX4_site_85 : decode cX4_site 85 = .ok (.iload_n 1, 1) := by decide +kernel
theorem dX4_site_86 : decode cX4_site 86 = .ok (.ifCond .ne 7, 3) := by decide +kernel
theorem dX4_site_89 : decode cX4_site 89 = .ok (.iload_n 2, 1) := by decide +kernel
theorem dX4_site_90 : decode cX4_site 90 = .ok (.goto 4, 3) := by decide +kernel
theorem dX4_site_93 : decode cX4_site 93 = .ok (.iload_n 3, 1) := by decide +kernel
theorem dX4_site_94 : decode cX4_site 94 = .ok (.ireturn, 1) := by decide +kernel
theorem dX4_order_0 : decode cX4_order 0 = .ok (.aload_n 0, 1) := by decide +kernel
theorem dX4_order_1 : decode cX4_order 1 = .ok (.invokevirtual 119, 3) := by decide +kernel
theorem dX4_order_4 : decode cX4_order 4 = .ok (.ifCond .eq 6, 3) := by decide +kernel
theorem dX4_order_7 : decode cX4_order 7 = .ok (.bipush (-3), 2) := by decide +kernel
theorem dX4_order_9 : decode cX4_order 9 = .ok (.ireturn, 1) := by decide +kernel
theorem dX4_order_10 : decode cX4_order 10 = .ok (.iload_n 1, 1) := by decide +kernel
theorem dX4_order_11 : decode cX4_order 11 = .ok (.iconst (-1), 1) := by decide +kernel
theorem dX4_order_12 : decode cX4_order 12 = .ok (.if_icmp .lt 9, 3) := by decide +kernel
theorem dX4_order_15 : decode cX4_order 15 = .ok (.iload_n 1, 1) := by decide +kernel
theorem dX4_order_16 : decode cX4_order 16 = .ok (.bipush 6, 2) := by decide +kernel
theorem dX4_order_18 : decode cX4_order 18 = .ok (.if_icmp .lt 6, 3) := by decide +kernel
theorem dX4_order_21 : decode cX4_order 21 = .ok (.bipush (-2), 2) := by decide +kernel
theorem dX4_order_23 : decode cX4_order 23 = .ok (.ireturn, 1) := by decide +kernel
theorem dX4_order_24 : decode cX4_order 24 = .ok (.iload_n 1, 1) := by decide +kernel
theorem dX4_order_25 : decode cX4_order 25 = .ok (.aload_n 0, 1) := by decide +kernel
theorem dX4_order_26 : decode cX4_order 26 = .ok (.getfield 12, 3) := by decide +kernel
theorem dX4_order_29 : decode cX4_order 29 = .ok (.getfield 92, 3) := by decide +kernel
theorem dX4_order_32 : decode cX4_order 32 = .ok (.if_icmp .lt 6, 3) := by decide +kernel
theorem dX4_order_35 : decode cX4_order 35 = .ok (.bipush (-9), 2) := by decide +kernel
theorem dX4_order_37 : decode cX4_order 37 = .ok (.ireturn, 1) := by decide +kernel
theorem dX4_order_38 : decode cX4_order 38 = .ok (.aload_n 0, 1) := by decide +kernel
theorem dX4_order_39 : decode cX4_order 39 = .ok (.invokevirtual 165, 3) := by decide +kernel
theorem dX4_order_42 : decode cX4_order 42 = .ok (.istore_n 2, 1) := by decide +kernel
theorem dX4_order_43 : decode cX4_order 43 = .ok (.iload_n 1, 1) := by decide +kernel
theorem dX4_order_44 : decode cX4_order 44 = .ok (.ifCond .ge 7, 3) := by decide +kernel
theorem dX4_order_47 : decode cX4_order 47 = .ok (.iload_n 2, 1) := by decide +kernel
theorem dX4_order_48 : decode cX4_order 48 = .ok (.goto 9, 3) := by decide +kernel
theorem dX4_order_51 : decode cX4_order 51 = .ok (.aload_n 0, 1) := by decide +kernel
theorem dX4_order_52 : decode cX4_order 52 = .ok (.getfield 48, 3) := by decide +kernel
theorem dX4_order_55 : decode cX4_order 55 = .ok (.iload_n 1, 1) := by decide +kernel
theorem dX4_order_56 : decode cX4_order 56 = .ok (.iaload, 1) := by decide +kernel
theorem dX4_order_57 : decode cX4_order 57 = .ok (.ireturn, 1) := by decide +kernel
theorem dX4_ahead_0 : decode cX4_ahead 0 = .ok (.aload_n 0, 1) := by decide +kernel
theorem dX4_ahead_1 : decode cX4_ahead 1 = .ok (.iload_n 1, 1) := by decide +kernel
theorem dX4_ahead_2 : decode cX4_ahead 2 = .ok (.invokevirtual 95, 3) := by decide +kernel
theorem dX4_ahead_5 : decode cX4_ahead 5 = .ok (.ifCond .ne 5, 3) := by decide +kernel
theorem dX4_ahead_8 : decode cX4_ahead 8 = .ok (.iconst (-1), 1) := by decide +kernel
theorem dX4_ahead_9 : decode cX4_ahead 9 = .ok (.ireturn, 1) := by decide +kernel
theorem dX4_ahead_10 : decode cX4_ahead 10 = .ok (.aload_n 0, 1) := by decide +kernel
theorem dX4_ahead_11 : decode cX4_ahead 11 = .ok (.getfield 12, 3) := by decide +kernel
theorem dX4_ahead_14 : decode cX4_ahead 14 = .ok (.iload_n 1, 1) := by decide +kernel
theorem dX4_ahead_15 : decode cX4_ahead 15 = .ok (.invokevirtual 116, 3) := by decide +kernel
theorem dX4_ahead_18 : decode cX4_ahead 18 = .ok (.iload_n 1, 1) := by decide +kernel
theorem dX4_ahead_19 : decode cX4_ahead 19 = .ok (.if_icmp .ne 5, 3) := by decide +kernel
theorem dX4_ahead_22 : decode cX4_ahead 22 = .ok (.iconst 0, 1) := by decide +kernel
theorem dX4_ahead_23 : decode cX4_ahead 23 = .ok (.ireturn, 1) := by decide +kernel
theorem dX4_ahead_24 : decode cX4_ahead 24 = .ok (.aload_n 0, 1) := by decide +kernel
theorem dX4_ahead_25 : decode cX4_ahead 25 = .ok (.getfield 12, 3) := by decide +kernel
theorem dX4_ahead_28 : decode cX4_ahead 28 = .ok (.invokevirtual 140, 3) := by decide +kernel
theorem dX4_ahead_31 : decode cX4_ahead 31 = .ok (.iload_n 1, 1) := by decide +kernel
theorem dX4_ahead_32 : decode cX4_ahead 32 = .ok (.invokestatic 168, 3) := by decide +kernel
theorem dX4_ahead_35 : decode cX4_ahead 35 = .ok (.ifCond .eq 7, 3) := by decide +kernel
theorem dX4_ahead_38 : decode cX4_ahead 38 = .ok (.iconst 1, 1) := by decide +kernel
theorem dX4_ahead_39 : decode cX4_ahead 39 = .ok (.goto 5, 3) := by decide +kernel
theorem dX4_ahead_42 : decode cX4_ahead 42 = .ok (.bipush (-9), 2) := by decide +kernel
theorem dX4_ahead_44 : decode cX4_ahead 44 = .ok (.ireturn, 1) := by decide +kernel
theorem dX4_reading_0 : decode cX4_reading 0 = .ok (.aload_n 0, 1) := by decide +kernel
theorem dX4_reading_1 : decode cX4_reading 1 = .ok (.iload_n 1, 1) := by decide +kernel
theorem dX4_reading_2 : decode cX4_reading 2 = .ok (.invokevirtual 95, 3) := by decide +kernel
theorem dX4_reading_5 : decode cX4_reading 5 = .ok (.ifCond .ne 5, 3) := by decide +kernel
theorem dX4_reading_8 : decode cX4_reading 8 = .ok (.iconst (-1), 1) := by decide +kernel
theorem dX4_reading_9 : decode cX4_reading 9 = .ok (.ireturn, 1) := by decide +kernel
theorem dX4_reading_10 : decode cX4_reading 10 = .ok (.aload_n 0, 1) := by decide +kernel
theorem dX4_reading_11 : decode cX4_reading 11 = .ok (.iload_n 2, 1) := by decide +kernel
theorem dX4_reading_12 : decode cX4_reading 12 = .ok (.invokevirtual 95, 3) := by decide +kernel
theorem dX4_reading_15 : decode cX4_reading 15 = .ok (.ifCond .ne 11, 3) := by decide +kernel
theorem dX4_reading_18 : decode cX4_reading 18 = .ok (.iload_n 2, 1) := by decide +kernel
theorem dX4_reading_19 : decode cX4_reading 19 = .ok (.bipush (-9), 2) := by decide +kernel
theorem dX4_reading_21 : decode cX4_reading 21 = .ok (.if_icmp .eq 5, 3) := by decide +kernel
theorem dX4_reading_24 : decode cX4_reading 24 = .ok (.iconst (-1), 1) := by decide +kernel
theorem dX4_reading_25 : decode cX4_reading 25 = .ok (.ireturn, 1) := by decide +kernel
theorem dX4_reading_26 : decode cX4_reading 26 = .ok (.aload_n 0, 1) := by decide +kernel
theorem dX4_reading_27 : decode cX4_reading 27 = .ok (.getfield 86, 3) := by decide +kernel
theorem dX4_reading_30 : decode cX4_reading 30 = .ok (.bipush 8, 2) := by decide +kernel
theorem dX4_reading_32 : decode cX4_reading 32 = .ok (.if_icmp .lt 6, 3) := by decide +kernel
theorem dX4_reading_35 : decode cX4_reading 35 = .ok (.bipush (-4), 2) := by decide +kernel
theorem dX4_reading_37 : decode cX4_reading 37 = .ok (.ireturn, 1) := by decide +kernel
theorem dX4_reading_38 : decode cX4_reading 38 = .ok (.aload_n 0, 1) := by decide +kernel
theorem dX4_reading_39 : decode cX4_reading 39 = .ok (.getfield 35, 3) := by decide +kernel
theorem dX4_reading_42 : decode cX4_reading 42 = .ok (.aload_n 0, 1) := by decide +kernel
theorem dX4_reading_43 : decode cX4_reading 43 = .ok (.getfield 86, 3) := by decide +kernel
theorem dX4_reading_46 : decode cX4_reading 46 = .ok (.iload_n 1, 1) := by decide +kernel
theorem dX4_reading_47 : decode cX4_reading 47 = .ok (.iastore, 1) := by decide +kernel
theorem dX4_reading_48 : decode cX4_reading 48 = .ok (.aload_n 0, 1) := by decide +kernel
theorem dX4_reading_49 : decode cX4_reading 49 = .ok (.getfield 39, 3) := by decide +kernel
theorem dX4_reading_52 : decode cX4_reading 52 = .ok (.aload_n 0, 1) := by decide +kernel
theorem dX4_reading_53 : decode cX4_reading 53 = .ok (.getfield 86, 3) := by decide +kernel
theorem dX4_reading_56 : decode cX4_reading 56 = .ok (.iload_n 2, 1) := by decide +kernel
theorem dX4_reading_57 : decode cX4_reading 57 = .ok (.iastore, 1) := by decide +kernel
theorem dX4_reading_58 : decode cX4_reading 58 = .ok (.aload_n 0, 1) := by decide +kernel
theorem dX4_reading_59 : decode cX4_reading 59 = .ok (.dup, 1) := by decide +kernel
theorem dX4_reading_60 : decode cX4_reading 60 = .ok (.getfield 86, 3) := by decide +kernel
theorem dX4_reading_63 : decode cX4_reading 63 = .ok (.iconst 1, 1) := by decide +kernel
theorem dX4_reading_64 : decode cX4_reading 64 = .ok (.iadd, 1) := by decide +kernel
theorem dX4_reading_65 : decode cX4_reading 65 = .ok (.putfield 86, 3) := by decide +kernel
theorem dX4_reading_68 : decode cX4_reading 68 = .ok (.aload_n 0, 1) := by decide +kernel
theorem dX4_reading_69 : decode cX4_reading 69 = .ok (.getfield 86, 3) := by decide +kernel
theorem dX4_reading_72 : decode cX4_reading 72 = .ok (.iconst 1, 1) := by decide +kernel
theorem dX4_reading_73 : decode cX4_reading 73 = .ok (.isub, 1) := by decide +kernel
theorem dX4_reading_74 : decode cX4_reading 74 = .ok (.ireturn, 1) := by decide +kernel
theorem dX4_back_0 : decode cX4_back 0 = .ok (.iload_n 1, 1) := by decide +kernel
theorem dX4_back_1 : decode cX4_back 1 = .ok (.ifCond .lt 11, 3) := by decide +kernel
theorem dX4_back_4 : decode cX4_back 4 = .ok (.iload_n 1, 1) := by decide +kernel
theorem dX4_back_5 : decode cX4_back 5 = .ok (.aload_n 0, 1) := by decide +kernel
theorem dX4_back_6 : decode cX4_back 6 = .ok (.getfield 86, 3) := by decide +kernel
theorem dX4_back_9 : decode cX4_back 9 = .ok (.if_icmp .le 6, 3) := by decide +kernel
theorem dX4_back_12 : decode cX4_back 12 = .ok (.bipush (-2), 2) := by decide +kernel
theorem dX4_back_14 : decode cX4_back 14 = .ok (.ireturn, 1) := by decide +kernel
theorem dX4_back_15 : decode cX4_back 15 = .ok (.aload_n 0, 1) := by decide +kernel
theorem dX4_back_16 : decode cX4_back 16 = .ok (.dup, 1) := by decide +kernel
theorem dX4_back_17 : decode cX4_back 17 = .ok (.getfield 86, 3) := by decide +kernel
theorem dX4_back_20 : decode cX4_back 20 = .ok (.iload_n 1, 1) := by decide +kernel
theorem dX4_back_21 : decode cX4_back 21 = .ok (.isub, 1) := by decide +kernel
theorem dX4_back_22 : decode cX4_back 22 = .ok (.putfield 86, 3) := by decide +kernel
theorem dX4_back_25 : decode cX4_back 25 = .ok (.aload_n 0, 1) := by decide +kernel
theorem dX4_back_26 : decode cX4_back 26 = .ok (.getfield 86, 3) := by decide +kernel
theorem dX4_back_29 : decode cX4_back 29 = .ok (.ireturn, 1) := by decide +kernel
theorem dX4_smells_0 : decode cX4_smells 0 = .ok (.aload_n 0, 1) := by decide +kernel
theorem dX4_smells_1 : decode cX4_smells 1 = .ok (.aload_n 0, 1) := by decide +kernel
theorem dX4_smells_2 : decode cX4_smells 2 = .ok (.getfield 18, 3) := by decide +kernel
theorem dX4_smells_5 : decode cX4_smells 5 = .ok (.getfield 101, 3) := by decide +kernel
theorem dX4_smells_8 : decode cX4_smells 8 = .ok (.iload_n 1, 1) := by decide +kernel
theorem dX4_smells_9 : decode cX4_smells 9 = .ok (.bipush 8, 2) := by decide +kernel
theorem dX4_smells_11 : decode cX4_smells 11 = .ok (.invokevirtual 171, 3) := by decide +kernel
theorem dX4_smells_14 : decode cX4_smells 14 = .ok (.ireturn, 1) := by decide +kernel
theorem dX4_pasts_0 : decode cX4_pasts 0 = .ok (.aload_n 0, 1) := by decide +kernel
theorem dX4_pasts_1 : decode cX4_pasts 1 = .ok (.aload_n 0, 1) := by decide +kernel
theorem dX4_pasts_2 : decode cX4_pasts 2 = .ok (.getfield 18, 3) := by decide +kernel
theorem dX4_pasts_5 : decode cX4_pasts 5 = .ok (.getfield 104, 3) := by decide +kernel
theorem dX4_pasts_8 : decode cX4_pasts 8 = .ok (.iload_n 1, 1) := by decide +kernel
theorem dX4_pasts_9 : decode cX4_pasts 9 = .ok (.bipush 8, 2) := by decide +kernel
theorem dX4_pasts_11 : decode cX4_pasts 11 = .ok (.invokevirtual 171, 3) := by decide +kernel
theorem dX4_pasts_14 : decode cX4_pasts 14 = .ok (.ireturn, 1) := by decide +kernel
theorem dX4_kinds_0 : decode cX4_kinds 0 = .ok (.aload_n 0, 1) := by decide +kernel
theorem dX4_kinds_1 : decode cX4_kinds 1 = .ok (.aload_n 0, 1) := by decide +kernel
theorem dX4_kinds_2 : decode cX4_kinds 2 = .ok (.getfield 18, 3) := by decide +kernel
theorem dX4_kinds_5 : decode cX4_kinds 5 = .ok (.getfield 98, 3) := by decide +kernel
theorem dX4_kinds_8 : decode cX4_kinds 8 = .ok (.iload_n 1, 1) := by decide +kernel
theorem dX4_kinds_9 : decode cX4_kinds 9 = .ok (.iconst 3, 1) := by decide +kernel
theorem dX4_kinds_10 : decode cX4_kinds 10 = .ok (.invokevirtual 171, 3) := by decide +kernel
theorem dX4_kinds_13 : decode cX4_kinds 13 = .ok (.ireturn, 1) := by decide +kernel
theorem dX4_odds_0 : decode cX4_odds 0 = .ok (.aload_n 0, 1) := by decide +kernel
theorem dX4_odds_1 : decode cX4_odds 1 = .ok (.iload_n 1, 1) := by decide +kernel
theorem dX4_odds_2 : decode cX4_odds 2 = .ok (.invokevirtual 95, 3) := by decide +kernel
theorem dX4_odds_5 : decode cX4_odds 5 = .ok (.ifCond .eq 11, 3) := by decide +kernel
theorem dX4_odds_8 : decode cX4_odds 8 = .ok (.iload_n 2, 1) := by decide +kernel
theorem dX4_odds_9 : decode cX4_odds 9 = .ok (.iconst 2, 1) := by decide +kernel
theorem dX4_odds_10 : decode cX4_odds 10 = .ok (.invokestatic 59, 3) := by decide +kernel
theorem dX4_odds_13 : decode cX4_odds 13 = .ok (.ifCond .ne 7, 3) := by decide +kernel
theorem dX4_odds_16 : decode cX4_odds 16 = .ok (.ldc2_w 174, 3) := by decide +kernel
theorem dX4_odds_19 : decode cX4_odds 19 = .ok (.lreturn, 1) := by decide +kernel
theorem dX4_odds_20 : decode cX4_odds 20 = .ok (.aload_n 0, 1) := by decide +kernel
theorem dX4_odds_21 : decode cX4_odds 21 = .ok (.iload_n 1, 1) := by decide +kernel
theorem dX4_odds_22 : decode cX4_odds 22 = .ok (.invokevirtual 176, 3) := by decide +kernel
theorem dX4_odds_25 : decode cX4_odds 25 = .ok (.istore_n 3, 1) := by decide +kernel
theorem dX4_odds_26 : decode cX4_odds 26 = .ok (.bipush 8, 2) := by decide +kernel
theorem dX4_odds_28 : decode cX4_odds 28 = .ok (.istore 4, 2) := by decide +kernel
theorem dX4_odds_30 : decode cX4_odds 30 = .ok (.iload 4, 2) := by decide +kernel
theorem dX4_odds_32 : decode cX4_odds 32 = .ok (.iconst 1, 1) := by decide +kernel
theorem dX4_odds_33 : decode cX4_odds 33 = .ok (.if_icmp .le 22, 3) := by decide +kernel
theorem dX4_odds_36 : decode cX4_odds 36 = .ok (.iload_n 3, 1) := by decide +kernel
theorem dX4_odds_37 : decode cX4_odds 37 = .ok (.iconst 2, 1) := by decide +kernel
theorem dX4_odds_38 : decode cX4_odds 38 = .ok (.irem, 1) := by decide +kernel
theorem dX4_odds_39 : decode cX4_odds 39 = .ok (.ifCond .ne 16, 3) := by decide +kernel
theorem dX4_odds_42 : decode cX4_odds 42 = .ok (.iload_n 3, 1) := by decide +kernel
theorem dX4_odds_43 : decode cX4_odds 43 = .ok (.iconst 2, 1) := by decide +kernel
theorem dX4_odds_44 : decode cX4_odds 44 = .ok (.idiv, 1) := by decide +kernel
theorem dX4_odds_45 : decode cX4_odds 45 = .ok (.istore_n 3, 1) := by decide +kernel
theorem dX4_odds_46 : decode cX4_odds 46 = .ok (.iload 4, 2) := by decide +kernel
theorem dX4_odds_48 : decode cX4_odds 48 = .ok (.iconst 2, 1) := by decide +kernel
theorem dX4_odds_49 : decode cX4_odds 49 = .ok (.idiv, 1) := by decide +kernel
theorem dX4_odds_50 : decode cX4_odds 50 = .ok (.istore 4, 2) := by decide +kernel
theorem dX4_odds_52 : decode cX4_odds 52 = .ok (.goto (-22), 3) := by decide +kernel
theorem dX4_odds_55 : decode cX4_odds 55 = .ok (.iload_n 2, 1) := by decide +kernel
theorem dX4_odds_56 : decode cX4_odds 56 = .ok (.ifCond .ne 8, 3) := by decide +kernel
theorem dX4_odds_59 : decode cX4_odds 59 = .ok (.iload_n 3, 1) := by decide +kernel
theorem dX4_odds_60 : decode cX4_odds 60 = .ok (.i2l, 1) := by decide +kernel
theorem dX4_odds_61 : decode cX4_odds 61 = .ok (.goto 6, 3) := by decide +kernel
theorem dX4_odds_64 : decode cX4_odds 64 = .ok (.iload 4, 2) := by decide +kernel
theorem dX4_odds_66 : decode cX4_odds 66 = .ok (.i2l, 1) := by decide +kernel
theorem dX4_odds_67 : decode cX4_odds 67 = .ok (.lreturn, 1) := by decide +kernel
theorem dX4_sheet_0 : decode cX4_sheet 0 = .ok (.aload_n 0, 1) := by decide +kernel
theorem dX4_sheet_1 : decode cX4_sheet 1 = .ok (.iconst 0, 1) := by decide +kernel
theorem dX4_sheet_2 : decode cX4_sheet 2 = .ok (.putfield 51, 3) := by decide +kernel
theorem dX4_sheet_5 : decode cX4_sheet 5 = .ok (.iload_n 1, 1) := by decide +kernel
theorem dX4_sheet_6 : decode cX4_sheet 6 = .ok (.invokestatic 55, 3) := by decide +kernel
theorem dX4_sheet_9 : decode cX4_sheet 9 = .ok (.ifCond .ne 5, 3) := by decide +kernel
theorem dX4_sheet_12 : decode cX4_sheet 12 = .ok (.iconst (-1), 1) := by decide +kernel
theorem dX4_sheet_13 : decode cX4_sheet 13 = .ok (.ireturn, 1) := by decide +kernel
theorem dX4_sheet_14 : decode cX4_sheet 14 = .ok (.iload_n 2, 1) := by decide +kernel
theorem dX4_sheet_15 : decode cX4_sheet 15 = .ok (.iconst 3, 1) := by decide +kernel
theorem dX4_sheet_16 : decode cX4_sheet 16 = .ok (.invokestatic 59, 3) := by decide +kernel
theorem dX4_sheet_19 : decode cX4_sheet 19 = .ok (.ifCond .eq 9, 3) := by decide +kernel
theorem dX4_sheet_22 : decode cX4_sheet 22 = .ok (.iload_n 3, 1) := by decide +kernel
theorem dX4_sheet_23 : decode cX4_sheet 23 = .ok (.bipush 60, 2) := by decide +kernel
theorem dX4_sheet_25 : decode cX4_sheet 25 = .ok (.if_icmp .le 6, 3) := by decide +kernel
theorem dX4_sheet_28 : decode cX4_sheet 28 = .ok (.bipush (-2), 2) := by decide +kernel
theorem dX4_sheet_30 : decode cX4_sheet 30 = .ok (.ireturn, 1) := by decide +kernel
theorem dX4_sheet_31 : decode cX4_sheet 31 = .ok (.iload_n 3, 1) := by decide +kernel
theorem dX4_sheet_32 : decode cX4_sheet 32 = .ok (.ifCond .ge 9, 3) := by decide +kernel
theorem dX4_sheet_35 : decode cX4_sheet 35 = .ok (.aload_n 0, 1) := by decide +kernel
theorem dX4_sheet_36 : decode cX4_sheet 36 = .ok (.iconst 4, 1) := by decide +kernel
theorem dX4_sheet_37 : decode cX4_sheet 37 = .ok (.invokevirtual 70, 3) := by decide +kernel
theorem dX4_sheet_40 : decode cX4_sheet 40 = .ok (.ireturn, 1) := by decide +kernel
theorem dX4_sheet_41 : decode cX4_sheet 41 = .ok (.aload_n 0, 1) := by decide +kernel
theorem dX4_sheet_42 : decode cX4_sheet 42 = .ok (.getfield 23, 3) := by decide +kernel
theorem dX4_sheet_45 : decode cX4_sheet 45 = .ok (.iload_n 1, 1) := by decide +kernel
theorem dX4_sheet_46 : decode cX4_sheet 46 = .ok (.aaload, 1) := by decide +kernel
theorem dX4_sheet_47 : decode cX4_sheet 47 = .ok (.iload_n 2, 1) := by decide +kernel
theorem dX4_sheet_48 : decode cX4_sheet 48 = .ok (.iload_n 3, 1) := by decide +kernel
theorem dX4_sheet_49 : decode cX4_sheet 49 = .ok (.invokevirtual 179, 3) := by decide +kernel
theorem dX4_sheet_52 : decode cX4_sheet 52 = .ok (.iconst 1, 1) := by decide +kernel
theorem dX4_sheet_53 : decode cX4_sheet 53 = .ok (.ireturn, 1) := by decide +kernel
theorem dX4_lose_0 : decode cX4_lose 0 = .ok (.iload_n 1, 1) := by decide +kernel
theorem dX4_lose_1 : decode cX4_lose 1 = .ok (.invokestatic 55, 3) := by decide +kernel
theorem dX4_lose_4 : decode cX4_lose 4 = .ok (.ifCond .ne 5, 3) := by decide +kernel
theorem dX4_lose_7 : decode cX4_lose 7 = .ok (.iconst (-1), 1) := by decide +kernel
theorem dX4_lose_8 : decode cX4_lose 8 = .ok (.ireturn, 1) := by decide +kernel
theorem dX4_lose_9 : decode cX4_lose 9 = .ok (.aload_n 0, 1) := by decide +kernel
theorem dX4_lose_10 : decode cX4_lose 10 = .ok (.getfield 23, 3) := by decide +kernel
theorem dX4_lose_13 : decode cX4_lose 13 = .ok (.iload_n 1, 1) := by decide +kernel
theorem dX4_lose_14 : decode cX4_lose 14 = .ok (.aaload, 1) := by decide +kernel
theorem dX4_lose_15 : decode cX4_lose 15 = .ok (.getfield 183, 3) := by decide +kernel
theorem dX4_lose_18 : decode cX4_lose 18 = .ok (.istore_n 2, 1) := by decide +kernel
theorem dX4_lose_19 : decode cX4_lose 19 = .ok (.aload_n 0, 1) := by decide +kernel
theorem dX4_lose_20 : decode cX4_lose 20 = .ok (.getfield 23, 3) := by decide +kernel
theorem dX4_lose_23 : decode cX4_lose 23 = .ok (.iload_n 1, 1) := by decide +kernel
theorem dX4_lose_24 : decode cX4_lose 24 = .ok (.aaload, 1) := by decide +kernel
theorem dX4_lose_25 : decode cX4_lose 25 = .ok (.iconst 0, 1) := by decide +kernel
theorem dX4_lose_26 : decode cX4_lose 26 = .ok (.putfield 183, 3) := by decide +kernel
theorem dX4_lose_29 : decode cX4_lose 29 = .ok (.iload_n 2, 1) := by decide +kernel
theorem dX4_lose_30 : decode cX4_lose 30 = .ok (.ifCond .eq 7, 3) := by decide +kernel
theorem dX4_lose_33 : decode cX4_lose 33 = .ok (.iconst 1, 1) := by decide +kernel
theorem dX4_lose_34 : decode cX4_lose 34 = .ok (.goto 4, 3) := by decide +kernel
theorem dX4_lose_37 : decode cX4_lose 37 = .ok (.iconst 0, 1) := by decide +kernel
theorem dX4_lose_38 : decode cX4_lose 38 = .ok (.ireturn, 1) := by decide +kernel
theorem dX4_put_0 : decode cX4_put 0 = .ok (.aload_n 0, 1) := by decide +kernel
theorem dX4_put_1 : decode cX4_put 1 = .ok (.iconst 0, 1) := by decide +kernel
theorem dX4_put_2 : decode cX4_put 2 = .ok (.putfield 51, 3) := by decide +kernel
theorem dX4_put_5 : decode cX4_put 5 = .ok (.iload_n 1, 1) := by decide +kernel
theorem dX4_put_6 : decode cX4_put 6 = .ok (.invokestatic 55, 3) := by decide +kernel
theorem dX4_put_9 : decode cX4_put 9 = .ok (.ifCond .ne 5, 3) := by decide +kernel
theorem dX4_put_12 : decode cX4_put 12 = .ok (.iconst (-1), 1) := by decide +kernel
theorem dX4_put_13 : decode cX4_put 13 = .ok (.ireturn, 1) := by decide +kernel
theorem dX4_put_14 : decode cX4_put 14 = .ok (.aload_n 0, 1) := by decide +kernel
theorem dX4_put_15 : decode cX4_put 15 = .ok (.getfield 23, 3) := by decide +kernel
theorem dX4_put_18 : decode cX4_put 18 = .ok (.iload_n 1, 1) := by decide +kernel
theorem dX4_put_19 : decode cX4_put 19 = .ok (.aaload, 1) := by decide +kernel
theorem dX4_put_20 : decode cX4_put 20 = .ok (.astore 4, 2) := by decide +kernel
theorem dX4_put_22 : decode cX4_put 22 = .ok (.aload 4, 2) := by decide +kernel
theorem dX4_put_24 : decode cX4_put 24 = .ok (.getfield 183, 3) := by decide +kernel
theorem dX4_put_27 : decode cX4_put 27 = .ok (.ifCond .ne 9, 3) := by decide +kernel
theorem dX4_put_30 : decode cX4_put 30 = .ok (.aload_n 0, 1) := by decide +kernel
theorem dX4_put_31 : decode cX4_put 31 = .ok (.iconst 1, 1) := by decide +kernel
theorem dX4_put_32 : decode cX4_put 32 = .ok (.invokevirtual 70, 3) := by decide +kernel
theorem dX4_put_35 : decode cX4_put 35 = .ok (.ireturn, 1) := by decide +kernel
theorem dX4_put_36 : decode cX4_put 36 = .ok (.aload 4, 2) := by decide +kernel
theorem dX4_put_38 : decode cX4_put 38 = .ok (.iload_n 2, 1) := by decide +kernel
theorem dX4_put_39 : decode cX4_put 39 = .ok (.invokevirtual 187, 3) := by decide +kernel
theorem dX4_put_42 : decode cX4_put 42 = .ok (.ifCond .ne 9, 3) := by decide +kernel
theorem dX4_put_45 : decode cX4_put 45 = .ok (.aload_n 0, 1) := by decide +kernel
theorem dX4_put_46 : decode cX4_put 46 = .ok (.iconst 3, 1) := by decide +kernel
theorem dX4_put_47 : decode cX4_put 47 = .ok (.invokevirtual 70, 3) := by decide +kernel
theorem dX4_put_50 : decode cX4_put 50 = .ok (.ireturn, 1) := by decide +kernel
theorem dX4_put_51 : decode cX4_put 51 = .ok (.aload 4, 2) := by decide +kernel
theorem dX4_put_53 : decode cX4_put 53 = .ok (.iload_n 2, 1) := by decide +kernel
theorem dX4_put_54 : decode cX4_put 54 = .ok (.iload_n 3, 1) := by decide +kernel
theorem dX4_put_55 : decode cX4_put 55 = .ok (.invokevirtual 190, 3) := by decide +kernel
theorem dX4_put_58 : decode cX4_put 58 = .ok (.iconst 1, 1) := by decide +kernel
theorem dX4_put_59 : decode cX4_put 59 = .ok (.ireturn, 1) := by decide +kernel
theorem dX4_cell_0 : decode cX4_cell 0 = .ok (.aload_n 0, 1) := by decide +kernel
theorem dX4_cell_1 : decode cX4_cell 1 = .ok (.iconst 0, 1) := by decide +kernel
theorem dX4_cell_2 : decode cX4_cell 2 = .ok (.putfield 51, 3) := by decide +kernel
theorem dX4_cell_5 : decode cX4_cell 5 = .ok (.iload_n 1, 1) := by decide +kernel
theorem dX4_cell_6 : decode cX4_cell 6 = .ok (.invokestatic 55, 3) := by decide +kernel
theorem dX4_cell_9 : decode cX4_cell 9 = .ok (.ifCond .eq 11, 3) := by decide +kernel
theorem dX4_cell_12 : decode cX4_cell 12 = .ok (.iload_n 3, 1) := by decide +kernel
theorem dX4_cell_13 : decode cX4_cell 13 = .ok (.iconst 3, 1) := by decide +kernel
theorem dX4_cell_14 : decode cX4_cell 14 = .ok (.invokestatic 59, 3) := by decide +kernel
theorem dX4_cell_17 : decode cX4_cell 17 = .ok (.ifCond .ne 7, 3) := by decide +kernel
theorem dX4_cell_20 : decode cX4_cell 20 = .ok (.ldc2_w 174, 3) := by decide +kernel
theorem dX4_cell_23 : decode cX4_cell 23 = .ok (.lreturn, 1) := by decide +kernel
theorem dX4_cell_24 : decode cX4_cell 24 = .ok (.aload_n 0, 1) := by decide +kernel
theorem dX4_cell_25 : decode cX4_cell 25 = .ok (.getfield 23, 3) := by decide +kernel
theorem dX4_cell_28 : decode cX4_cell 28 = .ok (.iload_n 1, 1) := by decide +kernel
theorem dX4_cell_29 : decode cX4_cell 29 = .ok (.aaload, 1) := by decide +kernel
theorem dX4_cell_30 : decode cX4_cell 30 = .ok (.astore 4, 2) := by decide +kernel
theorem dX4_cell_32 : decode cX4_cell 32 = .ok (.aload_n 0, 1) := by decide +kernel
theorem dX4_cell_33 : decode cX4_cell 33 = .ok (.aload 4, 2) := by decide +kernel
theorem dX4_cell_35 : decode cX4_cell 35 = .ok (.iload_n 3, 1) := by decide +kernel
theorem dX4_cell_36 : decode cX4_cell 36 = .ok (.invokevirtual 63, 3) := by decide +kernel
theorem dX4_cell_39 : decode cX4_cell 39 = .ok (.putfield 51, 3) := by decide +kernel
theorem dX4_cell_42 : decode cX4_cell 42 = .ok (.aload_n 0, 1) := by decide +kernel
theorem dX4_cell_43 : decode cX4_cell 43 = .ok (.getfield 51, 3) := by decide +kernel
theorem dX4_cell_46 : decode cX4_cell 46 = .ok (.ifCond .ne 17, 3) := by decide +kernel
theorem dX4_cell_49 : decode cX4_cell 49 = .ok (.aload 4, 2) := by decide +kernel
theorem dX4_cell_51 : decode cX4_cell 51 = .ok (.iload_n 2, 1) := by decide +kernel
theorem dX4_cell_52 : decode cX4_cell 52 = .ok (.invokevirtual 187, 3) := by decide +kernel
theorem dX4_cell_55 : decode cX4_cell 55 = .ok (.ifCond .ne 8, 3) := by decide +kernel
theorem dX4_cell_58 : decode cX4_cell 58 = .ok (.aload_n 0, 1) := by decide +kernel
theorem dX4_cell_59 : decode cX4_cell 59 = .ok (.iconst 3, 1) := by decide +kernel
theorem dX4_cell_60 : decode cX4_cell 60 = .ok (.putfield 51, 3) := by decide +kernel
theorem dX4_cell_63 : decode cX4_cell 63 = .ok (.aload_n 0, 1) := by decide +kernel
theorem dX4_cell_64 : decode cX4_cell 64 = .ok (.getfield 51, 3) := by decide +kernel
theorem dX4_cell_67 : decode cX4_cell 67 = .ok (.ifCond .ne 14, 3) := by decide +kernel
theorem dX4_cell_70 : decode cX4_cell 70 = .ok (.aload 4, 2) := by decide +kernel
theorem dX4_cell_72 : decode cX4_cell 72 = .ok (.getfield 73, 3) := by decide +kernel
theorem dX4_cell_75 : decode cX4_cell 75 = .ok (.iload_n 2, 1) := by decide +kernel
theorem dX4_cell_76 : decode cX4_cell 76 = .ok (.iaload, 1) := by decide +kernel
theorem dX4_cell_77 : decode cX4_cell 77 = .ok (.i2l, 1) := by decide +kernel
theorem dX4_cell_78 : decode cX4_cell 78 = .ok (.goto 6, 3) := by decide +kernel
theorem dX4_cell_81 : decode cX4_cell 81 = .ok (.ldc2_w 174, 3) := by decide +kernel
theorem dX4_cell_84 : decode cX4_cell 84 = .ok (.lreturn, 1) := by decide +kernel
theorem dX4_copy_0 : decode cX4_copy 0 = .ok (.aload_n 0, 1) := by decide +kernel
theorem dX4_copy_1 : decode cX4_copy 1 = .ok (.iconst 0, 1) := by decide +kernel
theorem dX4_copy_2 : decode cX4_copy 2 = .ok (.putfield 51, 3) := by decide +kernel
theorem dX4_copy_5 : decode cX4_copy 5 = .ok (.iload_n 1, 1) := by decide +kernel
theorem dX4_copy_6 : decode cX4_copy 6 = .ok (.invokestatic 55, 3) := by decide +kernel
theorem dX4_copy_9 : decode cX4_copy 9 = .ok (.ifCond .eq 10, 3) := by decide +kernel
theorem dX4_copy_12 : decode cX4_copy 12 = .ok (.iload_n 3, 1) := by decide +kernel
theorem dX4_copy_13 : decode cX4_copy 13 = .ok (.invokestatic 55, 3) := by decide +kernel
theorem dX4_copy_16 : decode cX4_copy 16 = .ok (.ifCond .ne 5, 3) := by decide +kernel
theorem dX4_copy_19 : decode cX4_copy 19 = .ok (.iconst (-1), 1) := by decide +kernel
theorem dX4_copy_20 : decode cX4_copy 20 = .ok (.ireturn, 1) := by decide +kernel
theorem dX4_copy_21 : decode cX4_copy 21 = .ok (.aload_n 0, 1) := by decide +kernel
theorem dX4_copy_22 : decode cX4_copy 22 = .ok (.getfield 23, 3) := by decide +kernel
theorem dX4_copy_25 : decode cX4_copy 25 = .ok (.iload_n 1, 1) := by decide +kernel
theorem dX4_copy_26 : decode cX4_copy 26 = .ok (.aaload, 1) := by decide +kernel
theorem dX4_copy_27 : decode cX4_copy 27 = .ok (.astore 6, 2) := by decide +kernel
theorem dX4_copy_29 : decode cX4_copy 29 = .ok (.aload_n 0, 1) := by decide +kernel
theorem dX4_copy_30 : decode cX4_copy 30 = .ok (.getfield 23, 3) := by decide +kernel
theorem dX4_copy_33 : decode cX4_copy 33 = .ok (.iload_n 3, 1) := by decide +kernel
theorem dX4_copy_34 : decode cX4_copy 34 = .ok (.aaload, 1) := by decide +kernel
theorem dX4_copy_35 : decode cX4_copy 35 = .ok (.astore 7, 2) := by decide +kernel
theorem dX4_copy_37 : decode cX4_copy 37 = .ok (.aload 6, 2) := by decide +kernel
theorem dX4_copy_39 : decode cX4_copy 39 = .ok (.getfield 183, 3) := by decide +kernel
theorem dX4_copy_42 : decode cX4_copy 42 = .ok (.ifCond .eq 11, 3) := by decide +kernel
theorem dX4_copy_45 : decode cX4_copy 45 = .ok (.aload 7, 2) := by decide +kernel
theorem dX4_copy_47 : decode cX4_copy 47 = .ok (.getfield 183, 3) := by decide +kernel
theorem dX4_copy_50 : decode cX4_copy 50 = .ok (.ifCond .ne 9, 3) := by decide +kernel
theorem dX4_copy_53 : decode cX4_copy 53 = .ok (.aload_n 0, 1) := by decide +kernel
theorem dX4_copy_54 : decode cX4_copy 54 = .ok (.iconst 1, 1) := by decide +kernel
theorem dX4_copy_55 : decode cX4_copy 55 = .ok (.invokevirtual 70, 3) := by decide +kernel
theorem dX4_copy_58 : decode cX4_copy 58 = .ok (.ireturn, 1) := by decide +kernel
theorem dX4_copy_59 : decode cX4_copy 59 = .ok (.aload 6, 2) := by decide +kernel
theorem dX4_copy_61 : decode cX4_copy 61 = .ok (.getfield 193, 3) := by decide +kernel
theorem dX4_copy_64 : decode cX4_copy 64 = .ok (.aload 7, 2) := by decide +kernel
theorem dX4_copy_66 : decode cX4_copy 66 = .ok (.getfield 193, 3) := by decide +kernel
theorem dX4_copy_69 : decode cX4_copy 69 = .ok (.if_icmp .eq 9, 3) := by decide +kernel
theorem dX4_copy_72 : decode cX4_copy 72 = .ok (.aload_n 0, 1) := by decide +kernel
theorem dX4_copy_73 : decode cX4_copy 73 = .ok (.iconst 2, 1) := by decide +kernel
theorem dX4_copy_74 : decode cX4_copy 74 = .ok (.invokevirtual 70, 3) := by decide +kernel
theorem dX4_copy_77 : decode cX4_copy 77 = .ok (.ireturn, 1) := by decide +kernel
theorem dX4_copy_78 : decode cX4_copy 78 = .ok (.aload 6, 2) := by decide +kernel
theorem dX4_copy_80 : decode cX4_copy 80 = .ok (.iload_n 2, 1) := by decide +kernel
theorem dX4_copy_81 : decode cX4_copy 81 = .ok (.iload 5, 2) := by decide +kernel
theorem dX4_copy_83 : decode cX4_copy 83 = .ok (.invokevirtual 67, 3) := by decide +kernel
theorem dX4_copy_86 : decode cX4_copy 86 = .ok (.ifCond .eq 15, 3) := by decide +kernel
theorem dX4_copy_89 : decode cX4_copy 89 = .ok (.aload 7, 2) := by decide +kernel
theorem dX4_copy_91 : decode cX4_copy 91 = .ok (.iload 4, 2) := by decide +kernel
theorem dX4_copy_93 : decode cX4_copy 93 = .ok (.iload 5, 2) := by decide +kernel
theorem dX4_copy_95 : decode cX4_copy 95 = .ok (.invokevirtual 67, 3) := by decide +kernel
theorem dX4_copy_98 : decode cX4_copy 98 = .ok (.ifCond .ne 9, 3) := by decide +kernel
theorem dX4_copy_101 : decode cX4_copy 101 = .ok (.aload_n 0, 1) := by decide +kernel
theorem dX4_copy_102 : decode cX4_copy 102 = .ok (.iconst 3, 1) := by decide +kernel
theorem dX4_copy_103 : decode cX4_copy 103 = .ok (.invokevirtual 70, 3) := by decide +kernel
theorem dX4_copy_106 : decode cX4_copy 106 = .ok (.ireturn, 1) := by decide +kernel
theorem dX4_copy_107 : decode cX4_copy 107 = .ok (.aload 6, 2) := by decide +kernel
theorem dX4_copy_109 : decode cX4_copy 109 = .ok (.getfield 73, 3) := by decide +kernel
theorem dX4_copy_112 : decode cX4_copy 112 = .ok (.iload_n 2, 1) := by decide +kernel
theorem dX4_copy_113 : decode cX4_copy 113 = .ok (.aload 7, 2) := by decide +kernel
theorem dX4_copy_115 : decode cX4_copy 115 = .ok (.getfield 73, 3) := by decide +kernel
theorem dX4_copy_118 : decode cX4_copy 118 = .ok (.iload 4, 2) := by decide +kernel
theorem dX4_copy_120 : decode cX4_copy 120 = .ok (.iload 5, 2) := by decide +kernel
theorem dX4_copy_122 : decode cX4_copy 122 = .ok (.invokestatic 196, 3) := by decide +kernel
theorem dX4_copy_125 : decode cX4_copy 125 = .ok (.iload 5, 2) := by decide +kernel
theorem dX4_copy_127 : decode cX4_copy 127 = .ok (.ireturn, 1) := by decide +kernel
theorem dX4_tell_0 : decode cX4_tell 0 = .ok (.aload_n 0, 1) := by decide +kernel
theorem dX4_tell_1 : decode cX4_tell 1 = .ok (.iload_n 1, 1) := by decide +kernel
theorem dX4_tell_2 : decode cX4_tell 2 = .ok (.invokevirtual 95, 3) := by decide +kernel
theorem dX4_tell_5 : decode cX4_tell 5 = .ok (.ifCond .ne 5, 3) := by decide +kernel
theorem dX4_tell_8 : decode cX4_tell 8 = .ok (.iconst (-1), 1) := by decide +kernel
theorem dX4_tell_9 : decode cX4_tell 9 = .ok (.ireturn, 1) := by decide +kernel
theorem dX4_tell_10 : decode cX4_tell 10 = .ok (.aload_n 0, 1) := by decide +kernel
theorem dX4_tell_11 : decode cX4_tell 11 = .ok (.getfield 12, 3) := by decide +kernel
theorem dX4_tell_14 : decode cX4_tell 14 = .ok (.getfield 98, 3) := by decide +kernel
theorem dX4_tell_17 : decode cX4_tell 17 = .ok (.iload_n 1, 1) := by decide +kernel
theorem dX4_tell_18 : decode cX4_tell 18 = .ok (.iaload, 1) := by decide +kernel
theorem dX4_tell_19 : decode cX4_tell 19 = .ok (.lookupswitch 37 #[(1, 31), (2, 25)], 25) := by decide +kernel
theorem dX4_tell_44 : decode cX4_tell 44 = .ok (.aload_n 0, 1) := by decide +kernel
theorem dX4_tell_45 : decode cX4_tell 45 = .ok (.iload_n 1, 1) := by decide +kernel
theorem dX4_tell_46 : decode cX4_tell 46 = .ok (.invokevirtual 202, 3) := by decide +kernel
theorem dX4_tell_49 : decode cX4_tell 49 = .ok (.ireturn, 1) := by decide +kernel
theorem dX4_tell_50 : decode cX4_tell 50 = .ok (.aload_n 0, 1) := by decide +kernel
theorem dX4_tell_51 : decode cX4_tell 51 = .ok (.iload_n 1, 1) := by decide +kernel
theorem dX4_tell_52 : decode cX4_tell 52 = .ok (.invokevirtual 205, 3) := by decide +kernel
theorem dX4_tell_55 : decode cX4_tell 55 = .ok (.ireturn, 1) := by decide +kernel
theorem dX4_tell_56 : decode cX4_tell 56 = .ok (.aload_n 0, 1) := by decide +kernel
theorem dX4_tell_57 : decode cX4_tell 57 = .ok (.iload_n 1, 1) := by decide +kernel
theorem dX4_tell_58 : decode cX4_tell 58 = .ok (.invokevirtual 208, 3) := by decide +kernel
theorem dX4_tell_61 : decode cX4_tell 61 = .ok (.ireturn, 1) := by decide +kernel
theorem dX4_whistle_0 : decode cX4_whistle 0 = .ok (.aload_n 0, 1) := by decide +kernel
theorem dX4_whistle_1 : decode cX4_whistle 1 = .ok (.iload_n 1, 1) := by decide +kernel
theorem dX4_whistle_2 : decode cX4_whistle 2 = .ok (.invokevirtual 95, 3) := by decide +kernel
theorem dX4_whistle_5 : decode cX4_whistle 5 = .ok (.ifCond .ne 5, 3) := by decide +kernel
theorem dX4_whistle_8 : decode cX4_whistle 8 = .ok (.iconst (-1), 1) := by decide +kernel
theorem dX4_whistle_9 : decode cX4_whistle 9 = .ok (.ireturn, 1) := by decide +kernel
theorem dX4_whistle_10 : decode cX4_whistle 10 = .ok (.aload_n 0, 1) := by decide +kernel
theorem dX4_whistle_11 : decode cX4_whistle 11 = .ok (.getfield 12, 3) := by decide +kernel
theorem dX4_whistle_14 : decode cX4_whistle 14 = .ok (.getfield 98, 3) := by decide +kernel
theorem dX4_whistle_17 : decode cX4_whistle 17 = .ok (.iload_n 1, 1) := by decide +kernel
theorem dX4_whistle_18 : decode cX4_whistle 18 = .ok (.iaload, 1) := by decide +kernel
theorem dX4_whistle_19 : decode cX4_whistle 19 = .ok (.iconst 2, 1) := by decide +kernel
theorem dX4_whistle_20 : decode cX4_whistle 20 = .ok (.if_icmp .ne 11, 3) := by decide +kernel
theorem dX4_whistle_23 : decode cX4_whistle 23 = .ok (.aload_n 0, 1) := by decide +kernel
theorem dX4_whistle_24 : decode cX4_whistle 24 = .ok (.iconst 5, 1) := by decide +kernel
theorem dX4_whistle_25 : decode cX4_whistle 25 = .ok (.invokevirtual 211, 3) := by decide +kernel
theorem dX4_whistle_28 : decode cX4_whistle 28 = .ok (.bipush 70, 2) := by decide +kernel
theorem dX4_whistle_30 : decode cX4_whistle 30 = .ok (.ireturn, 1) := by decide +kernel
theorem dX4_whistle_31 : decode cX4_whistle 31 = .ok (.aload_n 0, 1) := by decide +kernel
theorem dX4_whistle_32 : decode cX4_whistle 32 = .ok (.iconst 4, 1) := by decide +kernel
theorem dX4_whistle_33 : decode cX4_whistle 33 = .ok (.invokevirtual 211, 3) := by decide +kernel
theorem dX4_whistle_36 : decode cX4_whistle 36 = .ok (.iload_n 1, 1) := by decide +kernel
theorem dX4_whistle_37 : decode cX4_whistle 37 = .ok (.ireturn, 1) := by decide +kernel
theorem dX4_as_0 : decode cX4_as 0 = .ok (.aload_n 0, 1) := by decide +kernel
theorem dX4_as_1 : decode cX4_as 1 = .ok (.iconst 0, 1) := by decide +kernel
theorem dX4_as_2 : decode cX4_as 2 = .ok (.putfield 51, 3) := by decide +kernel
theorem dX4_as_5 : decode cX4_as 5 = .ok (.aload_n 0, 1) := by decide +kernel
theorem dX4_as_6 : decode cX4_as 6 = .ok (.iload_n 1, 1) := by decide +kernel
theorem dX4_as_7 : decode cX4_as 7 = .ok (.invokevirtual 95, 3) := by decide +kernel
theorem dX4_as_10 : decode cX4_as 10 = .ok (.ifCond .ne 5, 3) := by decide +kernel
theorem dX4_as_13 : decode cX4_as 13 = .ok (.iconst (-1), 1) := by decide +kernel
theorem dX4_as_14 : decode cX4_as 14 = .ok (.ireturn, 1) := by decide +kernel
theorem dX4_as_15 : decode cX4_as 15 = .ok (.iload_n 2, 1) := by decide +kernel
theorem dX4_as_16 : decode cX4_as 16 = .ok (.iconst 3, 1) := by decide +kernel
theorem dX4_as_17 : decode cX4_as 17 = .ok (.invokestatic 59, 3) := by decide +kernel
theorem dX4_as_20 : decode cX4_as 20 = .ok (.ifCond .ne 6, 3) := by decide +kernel
theorem dX4_as_23 : decode cX4_as 23 = .ok (.bipush (-2), 2) := by decide +kernel
theorem dX4_as_25 : decode cX4_as 25 = .ok (.ireturn, 1) := by decide +kernel
theorem dX4_as_26 : decode cX4_as 26 = .ok (.iload_n 2, 1) := by decide +kernel
theorem dX4_as_27 : decode cX4_as 27 = .ok (.aload_n 0, 1) := by decide +kernel
theorem dX4_as_28 : decode cX4_as 28 = .ok (.getfield 12, 3) := by decide +kernel
theorem dX4_as_31 : decode cX4_as 31 = .ok (.getfield 98, 3) := by decide +kernel
theorem dX4_as_34 : decode cX4_as 34 = .ok (.iload_n 1, 1) := by decide +kernel
theorem dX4_as_35 : decode cX4_as 35 = .ok (.iaload, 1) := by decide +kernel
theorem dX4_as_36 : decode cX4_as 36 = .ok (.if_icmp .gt 7, 3) := by decide +kernel
theorem dX4_as_39 : decode cX4_as 39 = .ok (.iconst 1, 1) := by decide +kernel
theorem dX4_as_40 : decode cX4_as 40 = .ok (.goto 8, 3) := by decide +kernel
theorem dX4_as_43 : decode cX4_as 43 = .ok (.aload_n 0, 1) := by decide +kernel
theorem dX4_as_44 : decode cX4_as 44 = .ok (.iconst 2, 1) := by decide +kernel
theorem dX4_as_45 : decode cX4_as 45 = .ok (.invokevirtual 70, 3) := by decide +kernel
theorem dX4_as_48 : decode cX4_as 48 = .ok (.ireturn, 1) := by decide +kernel
theorem dX4_trace_0 : decode cX4_trace 0 = .ok (.aload_n 0, 1) := by decide +kernel
theorem dX4_trace_1 : decode cX4_trace 1 = .ok (.getfield 215, 3) := by decide +kernel
theorem dX4_trace_4 : decode cX4_trace 4 = .ok (.ireturn, 1) := by decide +kernel
theorem dX4_fault_0 : decode cX4_fault 0 = .ok (.aload_n 0, 1) := by decide +kernel
theorem dX4_fault_1 : decode cX4_fault 1 = .ok (.getfield 51, 3) := by decide +kernel
theorem dX4_fault_4 : decode cX4_fault 4 = .ok (.ireturn, 1) := by decide +kernel
theorem dX4_many_0 : decode cX4_many 0 = .ok (.iload_n 1, 1) := by decide +kernel
theorem dX4_many_1 : decode cX4_many 1 = .ok (.tableswitch 69 0 4 #[35, 43, 51, 59, 64], 35) := by decide +kernel
theorem dX4_many_36 : decode cX4_many 36 = .ok (.aload_n 0, 1) := by decide +kernel
theorem dX4_many_37 : decode cX4_many 37 = .ok (.getfield 12, 3) := by decide +kernel
theorem dX4_many_40 : decode cX4_many 40 = .ok (.getfield 92, 3) := by decide +kernel
theorem dX4_many_43 : decode cX4_many 43 = .ok (.ireturn, 1) := by decide +kernel
theorem dX4_many_44 : decode cX4_many 44 = .ok (.aload_n 0, 1) := by decide +kernel
theorem dX4_many_45 : decode cX4_many 45 = .ok (.getfield 12, 3) := by decide +kernel
theorem dX4_many_48 : decode cX4_many 48 = .ok (.getfield 123, 3) := by decide +kernel
theorem dX4_many_51 : decode cX4_many 51 = .ok (.ireturn, 1) := by decide +kernel
theorem dX4_many_52 : decode cX4_many 52 = .ok (.aload_n 0, 1) := by decide +kernel
theorem dX4_many_53 : decode cX4_many 53 = .ok (.getfield 12, 3) := by decide +kernel
theorem dX4_many_56 : decode cX4_many 56 = .ok (.getfield 126, 3) := by decide +kernel
theorem dX4_many_59 : decode cX4_many 59 = .ok (.ireturn, 1) := by decide +kernel
theorem dX4_many_60 : decode cX4_many 60 = .ok (.aload_n 0, 1) := by decide +kernel
theorem dX4_many_61 : decode cX4_many 61 = .ok (.getfield 89, 3) := by decide +kernel
theorem dX4_many_64 : decode cX4_many 64 = .ok (.ireturn, 1) := by decide +kernel
theorem dX4_many_65 : decode cX4_many 65 = .ok (.aload_n 0, 1) := by decide +kernel
theorem dX4_many_66 : decode cX4_many 66 = .ok (.getfield 86, 3) := by decide +kernel
theorem dX4_many_69 : decode cX4_many 69 = .ok (.ireturn, 1) := by decide +kernel
theorem dX4_many_70 : decode cX4_many 70 = .ok (.bipush (-2), 2) := by decide +kernel
theorem dX4_many_72 : decode cX4_many 72 = .ok (.ireturn, 1) := by decide +kernel
theorem dX4_isBelow_0 : decode cX4_isBelow 0 = .ok (.iload_n 0, 1) := by decide +kernel
theorem dX4_isBelow_1 : decode cX4_isBelow 1 = .ok (.ifCond .lt 12, 3) := by decide +kernel
theorem dX4_isBelow_4 : decode cX4_isBelow 4 = .ok (.iload_n 0, 1) := by decide +kernel
theorem dX4_isBelow_5 : decode cX4_isBelow 5 = .ok (.iload_n 1, 1) := by decide +kernel
theorem dX4_isBelow_6 : decode cX4_isBelow 6 = .ok (.if_icmp .ge 7, 3) := by decide +kernel
theorem dX4_isBelow_9 : decode cX4_isBelow 9 = .ok (.iconst 1, 1) := by decide +kernel
theorem dX4_isBelow_10 : decode cX4_isBelow 10 = .ok (.goto 4, 3) := by decide +kernel
theorem dX4_isBelow_13 : decode cX4_isBelow 13 = .ok (.iconst 0, 1) := by decide +kernel
theorem dX4_isBelow_14 : decode cX4_isBelow 14 = .ok (.ireturn, 1) := by decide +kernel
theorem dX4_isSheet_0 : decode cX4_isSheet 0 = .ok (.iload_n 0, 1) := by decide +kernel
theorem dX4_isSheet_1 : decode cX4_isSheet 1 = .ok (.iconst 4, 1) := by decide +kernel
theorem dX4_isSheet_2 : decode cX4_isSheet 2 = .ok (.invokestatic 59, 3) := by decide +kernel
theorem dX4_isSheet_5 : decode cX4_isSheet 5 = .ok (.ireturn, 1) := by decide +kernel
theorem dX4_contains_0 : decode cX4_contains 0 = .ok (.iload_n 0, 1) := by decide +kernel
theorem dX4_contains_1 : decode cX4_contains 1 = .ok (.iload_n 1, 1) := by decide +kernel
theorem dX4_contains_2 : decode cX4_contains 2 = .ok (.ishr, 1) := by decide +kernel
theorem dX4_contains_3 : decode cX4_contains 3 = .ok (.iconst 1, 1) := by decide +kernel
theorem dX4_contains_4 : decode cX4_contains 4 = .ok (.iand, 1) := by decide +kernel
theorem dX4_contains_5 : decode cX4_contains 5 = .ok (.ifCond .eq 7, 3) := by decide +kernel
theorem dX4_contains_8 : decode cX4_contains 8 = .ok (.iconst 1, 1) := by decide +kernel
theorem dX4_contains_9 : decode cX4_contains 9 = .ok (.goto 4, 3) := by decide +kernel
theorem dX4_contains_12 : decode cX4_contains 12 = .ok (.iconst 0, 1) := by decide +kernel
theorem dX4_contains_13 : decode cX4_contains 13 = .ok (.ireturn, 1) := by decide +kernel
theorem dX4_withOne_0 : decode cX4_withOne 0 = .ok (.iload_n 1, 1) := by decide +kernel
theorem dX4_withOne_1 : decode cX4_withOne 1 = .ok (.bipush (-9), 2) := by decide +kernel
theorem dX4_withOne_3 : decode cX4_withOne 3 = .ok (.if_icmp .ne 7, 3) := by decide +kernel
theorem dX4_withOne_6 : decode cX4_withOne 6 = .ok (.iload_n 0, 1) := by decide +kernel
theorem dX4_withOne_7 : decode cX4_withOne 7 = .ok (.goto 8, 3) := by decide +kernel
theorem dX4_withOne_10 : decode cX4_withOne 10 = .ok (.iload_n 0, 1) := by decide +kernel
theorem dX4_withOne_11 : decode cX4_withOne 11 = .ok (.iconst 1, 1) := by decide +kernel
theorem dX4_withOne_12 : decode cX4_withOne 12 = .ok (.iload_n 1, 1) := by decide +kernel
theorem dX4_withOne_13 : decode cX4_withOne 13 = .ok (.ishl, 1) := by decide +kernel
theorem dX4_withOne_14 : decode cX4_withOne 14 = .ok (.ior, 1) := by decide +kernel
theorem dX4_withOne_15 : decode cX4_withOne 15 = .ok (.ireturn, 1) := by decide +kernel
theorem dX4_isPerson_0 : decode cX4_isPerson 0 = .ok (.iload_n 1, 1) := by decide +kernel
theorem dX4_isPerson_1 : decode cX4_isPerson 1 = .ok (.aload_n 0, 1) := by decide +kernel
theorem dX4_isPerson_2 : decode cX4_isPerson 2 = .ok (.getfield 12, 3) := by decide +kernel
theorem dX4_isPerson_5 : decode cX4_isPerson 5 = .ok (.getfield 92, 3) := by decide +kernel
theorem dX4_isPerson_8 : decode cX4_isPerson 8 = .ok (.invokestatic 59, 3) := by decide +kernel
theorem dX4_isPerson_11 : decode cX4_isPerson 11 = .ok (.ireturn, 1) := by decide +kernel
theorem dX4_hasNoMoor_0 : decode cX4_hasNoMoor 0 = .ok (.aload_n 0, 1) := by decide +kernel
theorem dX4_hasNoMoor_1 : decode cX4_hasNoMoor 1 = .ok (.getfield 12, 3) := by decide +kernel
theorem dX4_hasNoMoor_4 : decode cX4_hasNoMoor 4 = .ok (.getfield 92, 3) := by decide +kernel
theorem dX4_hasNoMoor_7 : decode cX4_hasNoMoor 7 = .ok (.ifCond .ne 7, 3) := by decide +kernel
theorem dX4_hasNoMoor_10 : decode cX4_hasNoMoor 10 = .ok (.iconst 1, 1) := by decide +kernel
theorem dX4_hasNoMoor_11 : decode cX4_hasNoMoor 11 = .ok (.goto 4, 3) := by decide +kernel
theorem dX4_hasNoMoor_14 : decode cX4_hasNoMoor 14 = .ok (.iconst 0, 1) := by decide +kernel
theorem dX4_hasNoMoor_15 : decode cX4_hasNoMoor 15 = .ok (.ireturn, 1) := by decide +kernel
theorem dX4_faulted_0 : decode cX4_faulted 0 = .ok (.aload_n 0, 1) := by decide +kernel
theorem dX4_faulted_1 : decode cX4_faulted 1 = .ok (.iload_n 1, 1) := by decide +kernel
theorem dX4_faulted_2 : decode cX4_faulted 2 = .ok (.putfield 51, 3) := by decide +kernel
theorem dX4_faulted_5 : decode cX4_faulted 5 = .ok (.bipush (-10), 2) := by decide +kernel
theorem dX4_faulted_7 : decode cX4_faulted 7 = .ok (.iload_n 1, 1) := by decide +kernel
theorem dX4_faulted_8 : decode cX4_faulted 8 = .ok (.isub, 1) := by decide +kernel
theorem dX4_faulted_9 : decode cX4_faulted 9 = .ok (.ireturn, 1) := by decide +kernel
theorem dX4_becomes_0 : decode cX4_becomes 0 = .ok (.aload_n 0, 1) := by decide +kernel
theorem dX4_becomes_1 : decode cX4_becomes 1 = .ok (.iload_n 2, 1) := by decide +kernel
theorem dX4_becomes_2 : decode cX4_becomes 2 = .ok (.invokevirtual 95, 3) := by decide +kernel
theorem dX4_becomes_5 : decode cX4_becomes 5 = .ok (.ifCond .ne 5, 3) := by decide +kernel
theorem dX4_becomes_8 : decode cX4_becomes 8 = .ok (.iconst (-1), 1) := by decide +kernel
theorem dX4_becomes_9 : decode cX4_becomes 9 = .ok (.ireturn, 1) := by decide +kernel
theorem dX4_becomes_10 : decode cX4_becomes 10 = .ok (.iload_n 3, 1) := by decide +kernel
theorem dX4_becomes_11 : decode cX4_becomes 11 = .ok (.iload 4, 2) := by decide +kernel
theorem dX4_becomes_13 : decode cX4_becomes 13 = .ok (.invokestatic 59, 3) := by decide +kernel
theorem dX4_becomes_16 : decode cX4_becomes 16 = .ok (.ifCond .ne 6, 3) := by decide +kernel
theorem dX4_becomes_19 : decode cX4_becomes 19 = .ok (.bipush (-2), 2) := by decide +kernel
theorem dX4_becomes_21 : decode cX4_becomes 21 = .ok (.ireturn, 1) := by decide +kernel
theorem dX4_becomes_22 : decode cX4_becomes 22 = .ok (.aload_n 1, 1) := by decide +kernel
theorem dX4_becomes_23 : decode cX4_becomes 23 = .ok (.iload_n 2, 1) := by decide +kernel
theorem dX4_becomes_24 : decode cX4_becomes 24 = .ok (.iaload, 1) := by decide +kernel
theorem dX4_becomes_25 : decode cX4_becomes 25 = .ok (.istore 5, 2) := by decide +kernel
theorem dX4_becomes_27 : decode cX4_becomes 27 = .ok (.aload_n 1, 1) := by decide +kernel
theorem dX4_becomes_28 : decode cX4_becomes 28 = .ok (.iload_n 2, 1) := by decide +kernel
theorem dX4_becomes_29 : decode cX4_becomes 29 = .ok (.iload_n 3, 1) := by decide +kernel
theorem dX4_becomes_30 : decode cX4_becomes 30 = .ok (.iastore, 1) := by decide +kernel
theorem dX4_becomes_31 : decode cX4_becomes 31 = .ok (.iload 5, 2) := by decide +kernel
theorem dX4_becomes_33 : decode cX4_becomes 33 = .ok (.ireturn, 1) := by decide +kernel
theorem dX4_isOfRound_0 : decode cX4_isOfRound 0 = .ok (.iload_n 0, 1) := by decide +kernel
theorem dX4_isOfRound_1 : decode cX4_isOfRound 1 = .ok (.iconst 4, 1) := by decide +kernel
theorem dX4_isOfRound_2 : decode cX4_isOfRound 2 = .ok (.invokestatic 59, 3) := by decide +kernel
theorem dX4_isOfRound_5 : decode cX4_isOfRound 5 = .ok (.ifCond .ne 15, 3) := by decide +kernel
theorem dX4_isOfRound_8 : decode cX4_isOfRound 8 = .ok (.iload_n 0, 1) := by decide +kernel
theorem dX4_isOfRound_9 : decode cX4_isOfRound 9 = .ok (.bipush 10, 2) := by decide +kernel
theorem dX4_isOfRound_11 : decode cX4_isOfRound 11 = .ok (.isub, 1) := by decide +kernel
theorem dX4_isOfRound_12 : decode cX4_isOfRound 12 = .ok (.bipush 6, 2) := by decide +kernel
theorem dX4_isOfRound_14 : decode cX4_isOfRound 14 = .ok (.invokestatic 59, 3) := by decide +kernel
theorem dX4_isOfRound_17 : decode cX4_isOfRound 17 = .ok (.ifCond .eq 7, 3) := by decide +kernel
theorem dX4_isOfRound_20 : decode cX4_isOfRound 20 = .ok (.iconst 1, 1) := by decide +kernel
theorem dX4_isOfRound_21 : decode cX4_isOfRound 21 = .ok (.goto 4, 3) := by decide +kernel
theorem dX4_isOfRound_24 : decode cX4_isOfRound 24 = .ok (.iconst 0, 1) := by decide +kernel
theorem dX4_isOfRound_25 : decode cX4_isOfRound 25 = .ok (.ireturn, 1) := by decide +kernel
theorem dX4_refusalOfPairs_0 : decode cX4_refusalOfPairs 0 = .ok (.iconst 0, 1) := by decide +kernel
theorem dX4_refusalOfPairs_1 : decode cX4_refusalOfPairs 1 = .ok (.istore 4, 2) := by decide +kernel
theorem dX4_refusalOfPairs_3 : decode cX4_refusalOfPairs 3 = .ok (.iload 4, 2) := by decide +kernel
theorem dX4_refusalOfPairs_5 : decode cX4_refusalOfPairs 5 = .ok (.iload_n 3, 1) := by decide +kernel
theorem dX4_refusalOfPairs_6 : decode cX4_refusalOfPairs 6 = .ok (.if_icmp .ge 64, 3) := by decide +kernel
theorem dX4_refusalOfPairs_9 : decode cX4_refusalOfPairs 9 = .ok (.aload_n 1, 1) := by decide +kernel
theorem dX4_refusalOfPairs_10 : decode cX4_refusalOfPairs 10 = .ok (.iload_n 2, 1) := by decide +kernel
theorem dX4_refusalOfPairs_11 : decode cX4_refusalOfPairs 11 = .ok (.iconst 2, 1) := by decide +kernel
theorem dX4_refusalOfPairs_12 : decode cX4_refusalOfPairs 12 = .ok (.iload 4, 2) := by decide +kernel
theorem dX4_refusalOfPairs_14 : decode cX4_refusalOfPairs 14 = .ok (.imul, 1) := by decide +kernel
theorem dX4_refusalOfPairs_15 : decode cX4_refusalOfPairs 15 = .ok (.iadd, 1) := by decide +kernel
theorem dX4_refusalOfPairs_16 : decode cX4_refusalOfPairs 16 = .ok (.iconst 1, 1) := by decide +kernel
theorem dX4_refusalOfPairs_17 : decode cX4_refusalOfPairs 17 = .ok (.iadd, 1) := by decide +kernel
theorem dX4_refusalOfPairs_18 : decode cX4_refusalOfPairs 18 = .ok (.iaload, 1) := by decide +kernel
theorem dX4_refusalOfPairs_19 : decode cX4_refusalOfPairs 19 = .ok (.istore 5, 2) := by decide +kernel
theorem dX4_refusalOfPairs_21 : decode cX4_refusalOfPairs 21 = .ok (.iload 5, 2) := by decide +kernel
theorem dX4_refusalOfPairs_23 : decode cX4_refusalOfPairs 23 = .ok (.bipush 9, 2) := by decide +kernel
theorem dX4_refusalOfPairs_25 : decode cX4_refusalOfPairs 25 = .ok (.invokestatic 59, 3) := by decide +kernel
theorem dX4_refusalOfPairs_28 : decode cX4_refusalOfPairs 28 = .ok (.ifCond .ne 19, 3) := by decide +kernel
theorem dX4_refusalOfPairs_31 : decode cX4_refusalOfPairs 31 = .ok (.iload 5, 2) := by decide +kernel
theorem dX4_refusalOfPairs_33 : decode cX4_refusalOfPairs 33 = .ok (.bipush 10, 2) := by decide +kernel
theorem dX4_refusalOfPairs_35 : decode cX4_refusalOfPairs 35 = .ok (.isub, 1) := by decide +kernel
theorem dX4_refusalOfPairs_36 : decode cX4_refusalOfPairs 36 = .ok (.bipush 10, 2) := by decide +kernel
theorem dX4_refusalOfPairs_38 : decode cX4_refusalOfPairs 38 = .ok (.invokestatic 59, 3) := by decide +kernel
theorem dX4_refusalOfPairs_41 : decode cX4_refusalOfPairs 41 = .ok (.ifCond .ne 6, 3) := by decide +kernel
theorem dX4_refusalOfPairs_44 : decode cX4_refusalOfPairs 44 = .ok (.bipush (-2), 2) := by decide +kernel
theorem dX4_refusalOfPairs_46 : decode cX4_refusalOfPairs 46 = .ok (.ireturn, 1) := by decide +kernel
theorem dX4_refusalOfPairs_47 : decode cX4_refusalOfPairs 47 = .ok (.aload_n 0, 1) := by decide +kernel
theorem dX4_refusalOfPairs_48 : decode cX4_refusalOfPairs 48 = .ok (.aload_n 1, 1) := by decide +kernel
theorem dX4_refusalOfPairs_49 : decode cX4_refusalOfPairs 49 = .ok (.iload_n 2, 1) := by decide +kernel
theorem dX4_refusalOfPairs_50 : decode cX4_refusalOfPairs 50 = .ok (.iconst 2, 1) := by decide +kernel
theorem dX4_refusalOfPairs_51 : decode cX4_refusalOfPairs 51 = .ok (.iload 4, 2) := by decide +kernel
theorem dX4_refusalOfPairs_53 : decode cX4_refusalOfPairs 53 = .ok (.imul, 1) := by decide +kernel
theorem dX4_refusalOfPairs_54 : decode cX4_refusalOfPairs 54 = .ok (.iadd, 1) := by decide +kernel
theorem dX4_refusalOfPairs_55 : decode cX4_refusalOfPairs 55 = .ok (.iaload, 1) := by decide +kernel
theorem dX4_refusalOfPairs_56 : decode cX4_refusalOfPairs 56 = .ok (.invokevirtual 95, 3) := by decide +kernel
theorem dX4_refusalOfPairs_59 : decode cX4_refusalOfPairs 59 = .ok (.ifCond .ne 5, 3) := by decide +kernel
theorem dX4_refusalOfPairs_62 : decode cX4_refusalOfPairs 62 = .ok (.iconst (-1), 1) := by decide +kernel
theorem dX4_refusalOfPairs_63 : decode cX4_refusalOfPairs 63 = .ok (.ireturn, 1) := by decide +kernel
theorem dX4_refusalOfPairs_64 : decode cX4_refusalOfPairs 64 = .ok (.iinc 4 1, 3) := by decide +kernel
theorem dX4_refusalOfPairs_67 : decode cX4_refusalOfPairs 67 = .ok (.goto (-64), 3) := by decide +kernel
theorem dX4_refusalOfPairs_70 : decode cX4_refusalOfPairs 70 = .ok (.iconst 0, 1) := by decide +kernel
theorem dX4_refusalOfPairs_71 : decode cX4_refusalOfPairs 71 = .ok (.ireturn, 1) := by decide +kernel
theorem dX4_play_0 : decode cX4_play 0 = .ok (.aload_n 0, 1) := by decide +kernel
theorem dX4_play_1 : decode cX4_play 1 = .ok (.getfield 18, 3) := by decide +kernel
theorem dX4_play_4 : decode cX4_play 4 = .ok (.aload_n 0, 1) := by decide +kernel
theorem dX4_play_5 : decode cX4_play 5 = .ok (.getfield 12, 3) := by decide +kernel
theorem dX4_play_8 : decode cX4_play 8 = .ok (.invokevirtual 156, 3) := by decide +kernel
theorem dX4_play_11 : decode cX4_play 11 = .ok (.aload_n 0, 1) := by decide +kernel
theorem dX4_play_12 : decode cX4_play 12 = .ok (.getfield 31, 3) := by decide +kernel
theorem dX4_play_15 : decode cX4_play 15 = .ok (.invokevirtual 218, 3) := by decide +kernel
theorem dX4_play_18 : decode cX4_play 18 = .ok (.iconst 0, 1) := by decide +kernel
theorem dX4_play_19 : decode cX4_play 19 = .ok (.istore 4, 2) := by decide +kernel
theorem dX4_play_21 : decode cX4_play 21 = .ok (.iload 4, 2) := by decide +kernel
theorem dX4_play_23 : decode cX4_play 23 = .ok (.iload_n 3, 1) := by decide +kernel
theorem dX4_play_24 : decode cX4_play 24 = .ok (.if_icmp .ge 98, 3) := by decide +kernel
theorem dX4_play_27 : decode cX4_play 27 = .ok (.aload_n 1, 1) := by decide +kernel
theorem dX4_play_28 : decode cX4_play 28 = .ok (.iload_n 2, 1) := by decide +kernel
theorem dX4_play_29 : decode cX4_play 29 = .ok (.iconst 2, 1) := by decide +kernel
theorem dX4_play_30 : decode cX4_play 30 = .ok (.iload 4, 2) := by decide +kernel
theorem dX4_play_32 : decode cX4_play 32 = .ok (.imul, 1) := by decide +kernel
theorem dX4_play_33 : decode cX4_play 33 = .ok (.iadd, 1) := by decide +kernel
theorem dX4_play_34 : decode cX4_play 34 = .ok (.iaload, 1) := by decide +kernel
theorem dX4_play_35 : decode cX4_play 35 = .ok (.istore 5, 2) := by decide +kernel
theorem dX4_play_37 : decode cX4_play 37 = .ok (.aload_n 1, 1) := by decide +kernel
theorem dX4_play_38 : decode cX4_play 38 = .ok (.iload_n 2, 1) := by decide +kernel
theorem dX4_play_39 : decode cX4_play 39 = .ok (.iconst 2, 1) := by decide +kernel
theorem dX4_play_40 : decode cX4_play 40 = .ok (.iload 4, 2) := by decide +kernel
theorem dX4_play_42 : decode cX4_play 42 = .ok (.imul, 1) := by decide +kernel
theorem dX4_play_43 : decode cX4_play 43 = .ok (.iadd, 1) := by decide +kernel
theorem dX4_play_44 : decode cX4_play 44 = .ok (.iconst 1, 1) := by decide +kernel
theorem dX4_play_45 : decode cX4_play 45 = .ok (.iadd, 1) := by decide +kernel
theorem dX4_play_46 : decode cX4_play 46 = .ok (.iaload, 1) := by decide +kernel
theorem dX4_play_47 : decode cX4_play 47 = .ok (.istore 6, 2) := by decide +kernel
theorem dX4_play_49 : decode cX4_play 49 = .ok (.iload 6, 2) := by decide +kernel
theorem dX4_play_51 : decode cX4_play 51 = .ok (.bipush 8, 2) := by decide +kernel
theorem dX4_play_53 : decode cX4_play 53 = .ok (.if_icmp .ge 18, 3) := by decide +kernel
theorem dX4_play_56 : decode cX4_play 56 = .ok (.aload_n 0, 1) := by decide +kernel
theorem dX4_play_57 : decode cX4_play 57 = .ok (.getfield 18, 3) := by decide +kernel
theorem dX4_play_60 : decode cX4_play 60 = .ok (.getfield 101, 3) := by decide +kernel
theorem dX4_play_63 : decode cX4_play 63 = .ok (.iload 5, 2) := by decide +kernel
theorem dX4_play_65 : decode cX4_play 65 = .ok (.iload 6, 2) := by decide +kernel
theorem dX4_play_67 : decode cX4_play 67 = .ok (.iastore, 1) := by decide +kernel
theorem dX4_play_68 : decode cX4_play 68 = .ok (.goto 48, 3) := by decide +kernel
theorem dX4_play_71 : decode cX4_play 71 = .ok (.iload 6, 2) := by decide +kernel
theorem dX4_play_73 : decode cX4_play 73 = .ok (.bipush 8, 2) := by decide +kernel
theorem dX4_play_75 : decode cX4_play 75 = .ok (.if_icmp .ne 26, 3) := by decide +kernel
theorem dX4_play_78 : decode cX4_play 78 = .ok (.aload_n 0, 1) := by decide +kernel
theorem dX4_play_79 : decode cX4_play 79 = .ok (.getfield 31, 3) := by decide +kernel
theorem dX4_play_82 : decode cX4_play 82 = .ok (.iload 4, 2) := by decide +kernel
theorem dX4_play_84 : decode cX4_play 84 = .ok (.iload 5, 2) := by decide +kernel
theorem dX4_play_86 : decode cX4_play 86 = .ok (.aload_n 0, 1) := by decide +kernel
theorem dX4_play_87 : decode cX4_play 87 = .ok (.getfield 18, 3) := by decide +kernel
theorem dX4_play_90 : decode cX4_play 90 = .ok (.iload 5, 2) := by decide +kernel
theorem dX4_play_92 : decode cX4_play 92 = .ok (.invokevirtual 133, 3) := by decide +kernel
theorem dX4_play_95 : decode cX4_play 95 = .ok (.invokevirtual 221, 3) := by decide +kernel
theorem dX4_play_98 : decode cX4_play 98 = .ok (.goto 18, 3) := by decide +kernel
theorem dX4_play_101 : decode cX4_play 101 = .ok (.aload_n 0, 1) := by decide +kernel
theorem dX4_play_102 : decode cX4_play 102 = .ok (.getfield 18, 3) := by decide +kernel
theorem dX4_play_105 : decode cX4_play 105 = .ok (.getfield 107, 3) := by decide +kernel
theorem dX4_play_108 : decode cX4_play 108 = .ok (.iload 5, 2) := by decide +kernel
theorem dX4_play_110 : decode cX4_play 110 = .ok (.iload 6, 2) := by decide +kernel
theorem dX4_play_112 : decode cX4_play 112 = .ok (.bipush 10, 2) := by decide +kernel
theorem dX4_play_114 : decode cX4_play 114 = .ok (.isub, 1) := by decide +kernel
theorem dX4_play_115 : decode cX4_play 115 = .ok (.iastore, 1) := by decide +kernel
theorem dX4_play_116 : decode cX4_play 116 = .ok (.iinc 4 1, 3) := by decide +kernel
theorem dX4_play_119 : decode cX4_play 119 = .ok (.goto (-98), 3) := by decide +kernel
theorem dX4_play_122 : decode cX4_play 122 = .ok (.return_, 1) := by decide +kernel
theorem dX4_ofRound_0 : decode cX4_ofRound 0 = .ok (.iload_n 1, 1) := by decide +kernel
theorem dX4_ofRound_1 : decode cX4_ofRound 1 = .ok (.tableswitch 63 0 3 #[31, 39, 47, 55], 31) := by decide +kernel
theorem dX4_ofRound_32 : decode cX4_ofRound 32 = .ok (.aload_n 0, 1) := by decide +kernel
theorem dX4_ofRound_33 : decode cX4_ofRound 33 = .ok (.getfield 31, 3) := by decide +kernel
theorem dX4_ofRound_36 : decode cX4_ofRound 36 = .ok (.getfield 225, 3) := by decide +kernel
theorem dX4_ofRound_39 : decode cX4_ofRound 39 = .ok (.ireturn, 1) := by decide +kernel
theorem dX4_ofRound_40 : decode cX4_ofRound 40 = .ok (.aload_n 0, 1) := by decide +kernel
theorem dX4_ofRound_41 : decode cX4_ofRound 41 = .ok (.getfield 31, 3) := by decide +kernel
theorem dX4_ofRound_44 : decode cX4_ofRound 44 = .ok (.getfield 228, 3) := by decide +kernel
theorem dX4_ofRound_47 : decode cX4_ofRound 47 = .ok (.ireturn, 1) := by decide +kernel
theorem dX4_ofRound_48 : decode cX4_ofRound 48 = .ok (.aload_n 0, 1) := by decide +kernel
theorem dX4_ofRound_49 : decode cX4_ofRound 49 = .ok (.getfield 31, 3) := by decide +kernel
theorem dX4_ofRound_52 : decode cX4_ofRound 52 = .ok (.getfield 231, 3) := by decide +kernel
theorem dX4_ofRound_55 : decode cX4_ofRound 55 = .ok (.ireturn, 1) := by decide +kernel
theorem dX4_ofRound_56 : decode cX4_ofRound 56 = .ok (.aload_n 0, 1) := by decide +kernel
theorem dX4_ofRound_57 : decode cX4_ofRound 57 = .ok (.getfield 31, 3) := by decide +kernel
theorem dX4_ofRound_60 : decode cX4_ofRound 60 = .ok (.getfield 234, 3) := by decide +kernel
theorem dX4_ofRound_63 : decode cX4_ofRound 63 = .ok (.ireturn, 1) := by decide +kernel
theorem dX4_ofRound_64 : decode cX4_ofRound 64 = .ok (.aload_n 0, 1) := by decide +kernel
theorem dX4_ofRound_65 : decode cX4_ofRound 65 = .ok (.iload_n 1, 1) := by decide +kernel
theorem dX4_ofRound_66 : decode cX4_ofRound 66 = .ok (.bipush 10, 2) := by decide +kernel
theorem dX4_ofRound_68 : decode cX4_ofRound 68 = .ok (.isub, 1) := by decide +kernel
theorem dX4_ofRound_69 : decode cX4_ofRound 69 = .ok (.invokevirtual 95, 3) := by decide +kernel
theorem dX4_ofRound_72 : decode cX4_ofRound 72 = .ok (.ifCond .eq 18, 3) := by decide +kernel
theorem dX4_ofRound_75 : decode cX4_ofRound 75 = .ok (.aload_n 0, 1) := by decide +kernel
theorem dX4_ofRound_76 : decode cX4_ofRound 76 = .ok (.getfield 18, 3) := by decide +kernel
theorem dX4_ofRound_79 : decode cX4_ofRound 79 = .ok (.getfield 104, 3) := by decide +kernel
theorem dX4_ofRound_82 : decode cX4_ofRound 82 = .ok (.iload_n 1, 1) := by decide +kernel
theorem dX4_ofRound_83 : decode cX4_ofRound 83 = .ok (.bipush 10, 2) := by decide +kernel
theorem dX4_ofRound_85 : decode cX4_ofRound 85 = .ok (.isub, 1) := by decide +kernel
theorem dX4_ofRound_86 : decode cX4_ofRound 86 = .ok (.iaload, 1) := by decide +kernel
theorem dX4_ofRound_87 : decode cX4_ofRound 87 = .ok (.goto 5, 3) := by decide +kernel
theorem dX4_ofRound_90 : decode cX4_ofRound 90 = .ok (.bipush (-9), 2) := by decide +kernel
theorem dX4_ofRound_92 : decode cX4_ofRound 92 = .ok (.ireturn, 1) := by decide +kernel
theorem dX4_findBestOrder_0 : decode cX4_findBestOrder 0 = .ok (.iconst 0, 1) := by decide +kernel
theorem dX4_findBestOrder_1 : decode cX4_findBestOrder 1 = .ok (.istore_n 1, 1) := by decide +kernel
theorem dX4_findBestOrder_2 : decode cX4_findBestOrder 2 = .ok (.iload_n 1, 1) := by decide +kernel
theorem dX4_findBestOrder_3 : decode cX4_findBestOrder 3 = .ok (.aload_n 0, 1) := by decide +kernel
theorem dX4_findBestOrder_4 : decode cX4_findBestOrder 4 = .ok (.getfield 12, 3) := by decide +kernel
theorem dX4_findBestOrder_7 : decode cX4_findBestOrder 7 = .ok (.getfield 92, 3) := by decide +kernel
theorem dX4_findBestOrder_10 : decode cX4_findBestOrder 10 = .ok (.if_icmp .ge 30, 3) := by decide +kernel
theorem dX4_findBestOrder_13 : decode cX4_findBestOrder 13 = .ok (.aload_n 0, 1) := by decide +kernel
theorem dX4_findBestOrder_14 : decode cX4_findBestOrder 14 = .ok (.getfield 45, 3) := by decide +kernel
theorem dX4_findBestOrder_17 : decode cX4_findBestOrder 17 = .ok (.iload_n 1, 1) := by decide +kernel
theorem dX4_findBestOrder_18 : decode cX4_findBestOrder 18 = .ok (.iload_n 1, 1) := by decide +kernel
theorem dX4_findBestOrder_19 : decode cX4_findBestOrder 19 = .ok (.iastore, 1) := by decide +kernel
theorem dX4_findBestOrder_20 : decode cX4_findBestOrder 20 = .ok (.aload_n 0, 1) := by decide +kernel
theorem dX4_findBestOrder_21 : decode cX4_findBestOrder 21 = .ok (.getfield 42, 3) := by decide +kernel
theorem dX4_findBestOrder_24 : decode cX4_findBestOrder 24 = .ok (.iload_n 1, 1) := by decide +kernel
theorem dX4_findBestOrder_25 : decode cX4_findBestOrder 25 = .ok (.aload_n 0, 1) := by decide +kernel
theorem dX4_findBestOrder_26 : decode cX4_findBestOrder 26 = .ok (.getfield 12, 3) := by decide +kernel
theorem dX4_findBestOrder_29 : decode cX4_findBestOrder 29 = .ok (.iload_n 1, 1) := by decide +kernel
theorem dX4_findBestOrder_30 : decode cX4_findBestOrder 30 = .ok (.invokevirtual 116, 3) := by decide +kernel
theorem dX4_findBestOrder_33 : decode cX4_findBestOrder 33 = .ok (.iastore, 1) := by decide +kernel
theorem dX4_findBestOrder_34 : decode cX4_findBestOrder 34 = .ok (.iinc 1 1, 3) := by decide +kernel
theorem dX4_findBestOrder_37 : decode cX4_findBestOrder 37 = .ok (.goto (-35), 3) := by decide +kernel
theorem dX4_findBestOrder_40 : decode cX4_findBestOrder 40 = .ok (.iconst (-1), 1) := by decide +kernel
theorem dX4_findBestOrder_41 : decode cX4_findBestOrder 41 = .ok (.istore_n 1, 1) := by decide +kernel
theorem dX4_findBestOrder_42 : decode cX4_findBestOrder 42 = .ok (.iconst 0, 1) := by decide +kernel
theorem dX4_findBestOrder_43 : decode cX4_findBestOrder 43 = .ok (.istore_n 2, 1) := by decide +kernel
theorem dX4_findBestOrder_44 : decode cX4_findBestOrder 44 = .ok (.iload_n 2, 1) := by decide +kernel
theorem dX4_findBestOrder_45 : decode cX4_findBestOrder 45 = .ok (.sipush 720, 3) := by decide +kernel
theorem dX4_findBestOrder_48 : decode cX4_findBestOrder 48 = .ok (.if_icmp .ge 67, 3) := by decide +kernel
theorem dX4_findBestOrder_51 : decode cX4_findBestOrder 51 = .ok (.iload_n 1, 1) := by decide +kernel
theorem dX4_findBestOrder_52 : decode cX4_findBestOrder 52 = .ok (.aload_n 0, 1) := by decide +kernel
theorem dX4_findBestOrder_53 : decode cX4_findBestOrder 53 = .ok (.getfield 12, 3) := by decide +kernel
theorem dX4_findBestOrder_56 : decode cX4_findBestOrder 56 = .ok (.getfield 92, 3) := by decide +kernel
theorem dX4_findBestOrder_59 : decode cX4_findBestOrder 59 = .ok (.if_icmp .ge 56, 3) := by decide +kernel
theorem dX4_findBestOrder_62 : decode cX4_findBestOrder 62 = .ok (.aload_n 0, 1) := by decide +kernel
theorem dX4_findBestOrder_63 : decode cX4_findBestOrder 63 = .ok (.invokevirtual 237, 3) := by decide +kernel
theorem dX4_findBestOrder_66 : decode cX4_findBestOrder 66 = .ok (.istore_n 3, 1) := by decide +kernel
theorem dX4_findBestOrder_67 : decode cX4_findBestOrder 67 = .ok (.iload_n 3, 1) := by decide +kernel
theorem dX4_findBestOrder_68 : decode cX4_findBestOrder 68 = .ok (.iload_n 1, 1) := by decide +kernel
theorem dX4_findBestOrder_69 : decode cX4_findBestOrder 69 = .ok (.if_icmp .le 20, 3) := by decide +kernel
theorem dX4_findBestOrder_72 : decode cX4_findBestOrder 72 = .ok (.iload_n 3, 1) := by decide +kernel
theorem dX4_findBestOrder_73 : decode cX4_findBestOrder 73 = .ok (.istore_n 1, 1) := by decide +kernel
theorem dX4_findBestOrder_74 : decode cX4_findBestOrder 74 = .ok (.aload_n 0, 1) := by decide +kernel
theorem dX4_findBestOrder_75 : decode cX4_findBestOrder 75 = .ok (.getfield 45, 3) := by decide +kernel
theorem dX4_findBestOrder_78 : decode cX4_findBestOrder 78 = .ok (.iconst 0, 1) := by decide +kernel
theorem dX4_findBestOrder_79 : decode cX4_findBestOrder 79 = .ok (.aload_n 0, 1) := by decide +kernel
theorem dX4_findBestOrder_80 : decode cX4_findBestOrder 80 = .ok (.getfield 48, 3) := by decide +kernel
theorem dX4_findBestOrder_83 : decode cX4_findBestOrder 83 = .ok (.iconst 0, 1) := by decide +kernel
theorem dX4_findBestOrder_84 : decode cX4_findBestOrder 84 = .ok (.bipush 6, 2) := by decide +kernel
theorem dX4_findBestOrder_86 : decode cX4_findBestOrder 86 = .ok (.invokestatic 196, 3) := by decide +kernel
theorem dX4_findBestOrder_89 : decode cX4_findBestOrder 89 = .ok (.aload_n 0, 1) := by decide +kernel
theorem dX4_findBestOrder_90 : decode cX4_findBestOrder 90 = .ok (.getfield 45, 3) := by decide +kernel
theorem dX4_findBestOrder_93 : decode cX4_findBestOrder 93 = .ok (.aload_n 0, 1) := by decide +kernel
theorem dX4_findBestOrder_94 : decode cX4_findBestOrder 94 = .ok (.getfield 12, 3) := by decide +kernel
theorem dX4_findBestOrder_97 : decode cX4_findBestOrder 97 = .ok (.getfield 92, 3) := by decide +kernel
theorem dX4_findBestOrder_100 : decode cX4_findBestOrder 100 = .ok (.invokestatic 240, 3) := by decide +kernel
theorem dX4_findBestOrder_103 : decode cX4_findBestOrder 103 = .ok (.ifCond .ne 6, 3) := by decide +kernel
theorem dX4_findBestOrder_106 : decode cX4_findBestOrder 106 = .ok (.goto 9, 3) := by decide +kernel
theorem dX4_findBestOrder_109 : decode cX4_findBestOrder 109 = .ok (.iinc 2 1, 3) := by decide +kernel
theorem dX4_findBestOrder_112 : decode cX4_findBestOrder 112 = .ok (.goto (-68), 3) := by decide +kernel
theorem dX4_findBestOrder_115 : decode cX4_findBestOrder 115 = .ok (.iload_n 1, 1) := by decide +kernel
theorem dX4_findBestOrder_116 : decode cX4_findBestOrder 116 = .ok (.ireturn, 1) := by decide +kernel
theorem dX4_comingInTriedOrder_0 : decode cX4_comingInTriedOrder 0 = .ok (.iconst 0, 1) := by decide +kernel
theorem dX4_comingInTriedOrder_1 : decode cX4_comingInTriedOrder 1 = .ok (.istore_n 1, 1) := by decide +kernel
theorem dX4_comingInTriedOrder_2 : decode cX4_comingInTriedOrder 2 = .ok (.iconst 0, 1) := by decide +kernel
theorem dX4_comingInTriedOrder_3 : decode cX4_comingInTriedOrder 3 = .ok (.istore_n 2, 1) := by decide +kernel
theorem dX4_comingInTriedOrder_4 : decode cX4_comingInTriedOrder 4 = .ok (.iconst 0, 1) := by decide +kernel
theorem dX4_comingInTriedOrder_5 : decode cX4_comingInTriedOrder 5 = .ok (.istore_n 3, 1) := by decide +kernel
theorem dX4_comingInTriedOrder_6 : decode cX4_comingInTriedOrder 6 = .ok (.iload_n 3, 1) := by decide +kernel
theorem dX4_comingInTriedOrder_7 : decode cX4_comingInTriedOrder 7 = .ok (.aload_n 0, 1) := by decide +kernel
theorem dX4_comingInTriedOrder_8 : decode cX4_comingInTriedOrder 8 = .ok (.getfield 12, 3) := by decide +kernel
theorem dX4_comingInTriedOrder_11 : decode cX4_comingInTriedOrder 11 = .ok (.getfield 92, 3) := by decide +kernel
theorem dX4_comingInTriedOrder_14 : decode cX4_comingInTriedOrder 14 = .ok (.if_icmp .ge 57, 3) := by decide +kernel
theorem dX4_comingInTriedOrder_17 : decode cX4_comingInTriedOrder 17 = .ok (.aload_n 0, 1) := by decide +kernel
theorem dX4_comingInTriedOrder_18 : decode cX4_comingInTriedOrder 18 = .ok (.getfield 45, 3) := by decide +kernel
theorem dX4_comingInTriedOrder_21 : decode cX4_comingInTriedOrder 21 = .ok (.iload_n 3, 1) := by decide +kernel
theorem dX4_comingInTriedOrder_22 : decode cX4_comingInTriedOrder 22 = .ok (.iaload, 1) := by decide +kernel
theorem dX4_comingInTriedOrder_23 : decode cX4_comingInTriedOrder 23 = .ok (.istore 4, 2) := by decide +kernel
theorem dX4_comingInTriedOrder_25 : decode cX4_comingInTriedOrder 25 = .ok (.iload_n 1, 1) := by decide +kernel
theorem dX4_comingInTriedOrder_26 : decode cX4_comingInTriedOrder 26 = .ok (.iload 4, 2) := by decide +kernel
theorem dX4_comingInTriedOrder_28 : decode cX4_comingInTriedOrder 28 = .ok (.invokestatic 168, 3) := by decide +kernel
theorem dX4_comingInTriedOrder_31 : decode cX4_comingInTriedOrder 31 = .ok (.ifCond .eq 8, 3) := by decide +kernel
theorem dX4_comingInTriedOrder_34 : decode cX4_comingInTriedOrder 34 = .ok (.iload 4, 2) := by decide +kernel
theorem dX4_comingInTriedOrder_36 : decode cX4_comingInTriedOrder 36 = .ok (.goto 10, 3) := by decide +kernel
theorem dX4_comingInTriedOrder_39 : decode cX4_comingInTriedOrder 39 = .ok (.aload_n 0, 1) := by decide +kernel
theorem dX4_comingInTriedOrder_40 : decode cX4_comingInTriedOrder 40 = .ok (.getfield 42, 3) := by decide +kernel
theorem dX4_comingInTriedOrder_43 : decode cX4_comingInTriedOrder 43 = .ok (.iload 4, 2) := by decide +kernel
theorem dX4_comingInTriedOrder_45 : decode cX4_comingInTriedOrder 45 = .ok (.iaload, 1) := by decide +kernel
theorem dX4_comingInTriedOrder_46 : decode cX4_comingInTriedOrder 46 = .ok (.istore 5, 2) := by decide +kernel
theorem dX4_comingInTriedOrder_48 : decode cX4_comingInTriedOrder 48 = .ok (.iload 5, 2) := by decide +kernel
theorem dX4_comingInTriedOrder_50 : decode cX4_comingInTriedOrder 50 = .ok (.iload 4, 2) := by decide +kernel
theorem dX4_comingInTriedOrder_52 : decode cX4_comingInTriedOrder 52 = .ok (.if_icmp .ne 6, 3) := by decide +kernel
theorem dX4_comingInTriedOrder_55 : decode cX4_comingInTriedOrder 55 = .ok (.iinc 2 1, 3) := by decide +kernel
theorem dX4_comingInTriedOrder_58 : decode cX4_comingInTriedOrder 58 = .ok (.iload_n 1, 1) := by decide +kernel
theorem dX4_comingInTriedOrder_59 : decode cX4_comingInTriedOrder 59 = .ok (.iload 5, 2) := by decide +kernel
theorem dX4_comingInTriedOrder_61 : decode cX4_comingInTriedOrder 61 = .ok (.invokestatic 244, 3) := by decide +kernel
theorem dX4_comingInTriedOrder_64 : decode cX4_comingInTriedOrder 64 = .ok (.istore_n 1, 1) := by decide +kernel
theorem dX4_comingInTriedOrder_65 : decode cX4_comingInTriedOrder 65 = .ok (.iinc 3 1, 3) := by decide +kernel
theorem dX4_comingInTriedOrder_68 : decode cX4_comingInTriedOrder 68 = .ok (.goto (-62), 3) := by decide +kernel
theorem dX4_comingInTriedOrder_71 : decode cX4_comingInTriedOrder 71 = .ok (.iload_n 2, 1) := by decide +kernel
theorem dX4_comingInTriedOrder_72 : decode cX4_comingInTriedOrder 72 = .ok (.ireturn, 1) := by decide +kernel
theorem dX4_stepToNextRow_0 : decode cX4_stepToNextRow 0 = .ok (.iload_n 1, 1) := by decide +kernel
theorem dX4_stepToNextRow_1 : decode cX4_stepToNextRow 1 = .ok (.iconst 2, 1) := by decide +kernel
theorem dX4_stepToNextRow_2 : decode cX4_stepToNextRow 2 = .ok (.isub, 1) := by decide +kernel
theorem dX4_stepToNextRow_3 : decode cX4_stepToNextRow 3 = .ok (.istore_n 2, 1) := by decide +kernel
theorem dX4_stepToNextRow_4 : decode cX4_stepToNextRow 4 = .ok (.iload_n 2, 1) := by decide +kernel
theorem dX4_stepToNextRow_5 : decode cX4_stepToNextRow 5 = .ok (.ifCond .lt 20, 3) := by decide +kernel
theorem dX4_stepToNextRow_8 : decode cX4_stepToNextRow 8 = .ok (.aload_n 0, 1) := by decide +kernel
theorem dX4_stepToNextRow_9 : decode cX4_stepToNextRow 9 = .ok (.iload_n 2, 1) := by decide +kernel
theorem dX4_stepToNextRow_10 : decode cX4_stepToNextRow 10 = .ok (.iaload, 1) := by decide +kernel
theorem dX4_stepToNextRow_11 : decode cX4_stepToNextRow 11 = .ok (.aload_n 0, 1) := by decide +kernel
theorem dX4_stepToNextRow_12 : decode cX4_stepToNextRow 12 = .ok (.iload_n 2, 1) := by decide +kernel
theorem dX4_stepToNextRow_13 : decode cX4_stepToNextRow 13 = .ok (.iconst 1, 1) := by decide +kernel
theorem dX4_stepToNextRow_14 : decode cX4_stepToNextRow 14 = .ok (.iadd, 1) := by decide +kernel
theorem dX4_stepToNextRow_15 : decode cX4_stepToNextRow 15 = .ok (.iaload, 1) := by decide +kernel
theorem dX4_stepToNextRow_16 : decode cX4_stepToNextRow 16 = .ok (.if_icmp .le 9, 3) := by decide +kernel
theorem dX4_stepToNextRow_19 : decode cX4_stepToNextRow 19 = .ok (.iinc 2 (-1), 3) := by decide +kernel
theorem dX4_stepToNextRow_22 : decode cX4_stepToNextRow 22 = .ok (.goto (-18), 3) := by decide +kernel
theorem dX4_stepToNextRow_25 : decode cX4_stepToNextRow 25 = .ok (.iload_n 2, 1) := by decide +kernel
theorem dX4_stepToNextRow_26 : decode cX4_stepToNextRow 26 = .ok (.ifCond .ge 5, 3) := by decide +kernel
theorem dX4_stepToNextRow_29 : decode cX4_stepToNextRow 29 = .ok (.iconst 0, 1) := by decide +kernel
theorem dX4_stepToNextRow_30 : decode cX4_stepToNextRow 30 = .ok (.ireturn, 1) := by decide +kernel
theorem dX4_stepToNextRow_31 : decode cX4_stepToNextRow 31 = .ok (.iload_n 1, 1) := by decide +kernel
theorem dX4_stepToNextRow_32 : decode cX4_stepToNextRow 32 = .ok (.iconst 1, 1) := by decide +kernel
theorem dX4_stepToNextRow_33 : decode cX4_stepToNextRow 33 = .ok (.isub, 1) := by decide +kernel
theorem dX4_stepToNextRow_34 : decode cX4_stepToNextRow 34 = .ok (.istore_n 3, 1) := by decide +kernel
theorem dX4_stepToNextRow_35 : decode cX4_stepToNextRow 35 = .ok (.iload_n 3, 1) := by decide +kernel
theorem dX4_stepToNextRow_36 : decode cX4_stepToNextRow 36 = .ok (.iload_n 2, 1) := by decide +kernel
theorem dX4_stepToNextRow_37 : decode cX4_stepToNextRow 37 = .ok (.iconst 1, 1) := by decide +kernel
theorem dX4_stepToNextRow_38 : decode cX4_stepToNextRow 38 = .ok (.iadd, 1) := by decide +kernel
theorem dX4_stepToNextRow_39 : decode cX4_stepToNextRow 39 = .ok (.if_icmp .le 18, 3) := by decide +kernel
theorem dX4_stepToNextRow_42 : decode cX4_stepToNextRow 42 = .ok (.aload_n 0, 1) := by decide +kernel
theorem dX4_stepToNextRow_43 : decode cX4_stepToNextRow 43 = .ok (.iload_n 3, 1) := by decide +kernel
theorem dX4_stepToNextRow_44 : decode cX4_stepToNextRow 44 = .ok (.iaload, 1) := by decide +kernel
theorem dX4_stepToNextRow_45 : decode cX4_stepToNextRow 45 = .ok (.aload_n 0, 1) := by decide +kernel
theorem dX4_stepToNextRow_46 : decode cX4_stepToNextRow 46 = .ok (.iload_n 2, 1) := by decide +kernel
theorem dX4_stepToNextRow_47 : decode cX4_stepToNextRow 47 = .ok (.iaload, 1) := by decide +kernel
theorem dX4_stepToNextRow_48 : decode cX4_stepToNextRow 48 = .ok (.if_icmp .ge 9, 3) := by decide +kernel
theorem dX4_stepToNextRow_51 : decode cX4_stepToNextRow 51 = .ok (.iinc 3 (-1), 3) := by decide +kernel
theorem dX4_stepToNextRow_54 : decode cX4_stepToNextRow 54 = .ok (.goto (-19), 3) := by decide +kernel
theorem dX4_stepToNextRow_57 : decode cX4_stepToNextRow 57 = .ok (.aload_n 0, 1) := by decide +kernel
theorem dX4_stepToNextRow_58 : decode cX4_stepToNextRow 58 = .ok (.iload_n 2, 1) := by decide +kernel
theorem dX4_stepToNextRow_59 : decode cX4_stepToNextRow 59 = .ok (.iload_n 3, 1) := by decide +kernel
theorem dX4_stepToNextRow_60 : decode cX4_stepToNextRow 60 = .ok (.invokestatic 248, 3) := by decide +kernel
theorem dX4_stepToNextRow_63 : decode cX4_stepToNextRow 63 = .ok (.iload_n 2, 1) := by decide +kernel
theorem dX4_stepToNextRow_64 : decode cX4_stepToNextRow 64 = .ok (.iconst 1, 1) := by decide +kernel
theorem dX4_stepToNextRow_65 : decode cX4_stepToNextRow 65 = .ok (.iadd, 1) := by decide +kernel
theorem dX4_stepToNextRow_66 : decode cX4_stepToNextRow 66 = .ok (.istore 4, 2) := by decide +kernel
theorem dX4_stepToNextRow_68 : decode cX4_stepToNextRow 68 = .ok (.iload_n 1, 1) := by decide +kernel
theorem dX4_stepToNextRow_69 : decode cX4_stepToNextRow 69 = .ok (.iconst 1, 1) := by decide +kernel
theorem dX4_stepToNextRow_70 : decode cX4_stepToNextRow 70 = .ok (.isub, 1) := by decide +kernel
theorem dX4_stepToNextRow_71 : decode cX4_stepToNextRow 71 = .ok (.istore 5, 2) := by decide +kernel
theorem dX4_stepToNextRow_73 : decode cX4_stepToNextRow 73 = .ok (.iload 4, 2) := by decide +kernel
theorem dX4_stepToNextRow_75 : decode cX4_stepToNextRow 75 = .ok (.iload 5, 2) := by decide +kernel
theorem dX4_stepToNextRow_77 : decode cX4_stepToNextRow 77 = .ok (.if_icmp .ge 20, 3) := by decide +kernel
theorem dX4_stepToNextRow_80 : decode cX4_stepToNextRow 80 = .ok (.aload_n 0, 1) := by decide +kernel
theorem dX4_stepToNextRow_81 : decode cX4_stepToNextRow 81 = .ok (.iload 4, 2) := by decide +kernel
theorem dX4_stepToNextRow_83 : decode cX4_stepToNextRow 83 = .ok (.iload 5, 2) := by decide +kernel
theorem dX4_stepToNextRow_85 : decode cX4_stepToNextRow 85 = .ok (.invokestatic 248, 3) := by decide +kernel
theorem dX4_stepToNextRow_88 : decode cX4_stepToNextRow 88 = .ok (.iinc 4 1, 3) := by decide +kernel
theorem dX4_stepToNextRow_91 : decode cX4_stepToNextRow 91 = .ok (.iinc 5 (-1), 3) := by decide +kernel
theorem dX4_stepToNextRow_94 : decode cX4_stepToNextRow 94 = .ok (.goto (-21), 3) := by decide +kernel
theorem dX4_stepToNextRow_97 : decode cX4_stepToNextRow 97 = .ok (.iconst 1, 1) := by decide +kernel
theorem dX4_stepToNextRow_98 : decode cX4_stepToNextRow 98 = .ok (.ireturn, 1) := by decide +kernel
theorem dX4_swap_0 : decode cX4_swap 0 = .ok (.aload_n 0, 1) := by decide +kernel
theorem dX4_swap_1 : decode cX4_swap 1 = .ok (.iload_n 1, 1) := by decide +kernel
theorem dX4_swap_2 : decode cX4_swap 2 = .ok (.iaload, 1) := by decide +kernel
theorem dX4_swap_3 : decode cX4_swap 3 = .ok (.istore_n 3, 1) := by decide +kernel
theorem dX4_swap_4 : decode cX4_swap 4 = .ok (.aload_n 0, 1) := by decide +kernel
theorem dX4_swap_5 : decode cX4_swap 5 = .ok (.iload_n 1, 1) := by decide +kernel
theorem dX4_swap_6 : decode cX4_swap 6 = .ok (.aload_n 0, 1) := by decide +kernel
theorem dX4_swap_7 : decode cX4_swap 7 = .ok (.iload_n 2, 1) := by decide +kernel
theorem dX4_swap_8 : decode cX4_swap 8 = .ok (.iaload, 1) := by decide +kernel
theorem dX4_swap_9 : decode cX4_swap 9 = .ok (.iastore, 1) := by decide +kernel
theorem dX4_swap_10 : decode cX4_swap 10 = .ok (.aload_n 0, 1) := by decide +kernel
theorem dX4_swap_11 : decode cX4_swap 11 = .ok (.iload_n 2, 1) := by decide +kernel
theorem dX4_swap_12 : decode cX4_swap 12 = .ok (.iload_n 3, 1) := by decide +kernel
theorem dX4_swap_13 : decode cX4_swap 13 = .ok (.iastore, 1) := by decide +kernel
theorem dX4_swap_14 : decode cX4_swap 14 = .ok (.return_, 1) := by decide +kernel
theorem dX4_bySuchReadings_0 : decode cX4_bySuchReadings 0 = .ok (.aload_n 0, 1) := by decide +kernel
theorem dX4_bySuchReadings_1 : decode cX4_bySuchReadings 1 = .ok (.iload_n 2, 1) := by decide +kernel
theorem dX4_bySuchReadings_2 : decode cX4_bySuchReadings 2 = .ok (.invokevirtual 95, 3) := by decide +kernel
theorem dX4_bySuchReadings_5 : decode cX4_bySuchReadings 5 = .ok (.ifCond .ne 5, 3) := by decide +kernel
theorem dX4_bySuchReadings_8 : decode cX4_bySuchReadings 8 = .ok (.iconst (-1), 1) := by decide +kernel
theorem dX4_bySuchReadings_9 : decode cX4_bySuchReadings 9 = .ok (.ireturn, 1) := by decide +kernel
theorem dX4_bySuchReadings_10 : decode cX4_bySuchReadings 10 = .ok (.aload_n 0, 1) := by decide +kernel
theorem dX4_bySuchReadings_11 : decode cX4_bySuchReadings 11 = .ok (.getfield 18, 3) := by decide +kernel
theorem dX4_bySuchReadings_14 : decode cX4_bySuchReadings 14 = .ok (.aload_n 0, 1) := by decide +kernel
theorem dX4_bySuchReadings_15 : decode cX4_bySuchReadings 15 = .ok (.getfield 12, 3) := by decide +kernel
theorem dX4_bySuchReadings_18 : decode cX4_bySuchReadings 18 = .ok (.invokevirtual 156, 3) := by decide +kernel
theorem dX4_bySuchReadings_21 : decode cX4_bySuchReadings 21 = .ok (.iconst 0, 1) := by decide +kernel
theorem dX4_bySuchReadings_22 : decode cX4_bySuchReadings 22 = .ok (.istore 4, 2) := by decide +kernel
theorem dX4_bySuchReadings_24 : decode cX4_bySuchReadings 24 = .ok (.iconst 0, 1) := by decide +kernel
theorem dX4_bySuchReadings_25 : decode cX4_bySuchReadings 25 = .ok (.istore 5, 2) := by decide +kernel
theorem dX4_bySuchReadings_27 : decode cX4_bySuchReadings 27 = .ok (.iload 5, 2) := by decide +kernel
theorem dX4_bySuchReadings_29 : decode cX4_bySuchReadings 29 = .ok (.iload_n 3, 1) := by decide +kernel
theorem dX4_bySuchReadings_30 : decode cX4_bySuchReadings 30 = .ok (.if_icmp .ge 30, 3) := by decide +kernel
theorem dX4_bySuchReadings_33 : decode cX4_bySuchReadings 33 = .ok (.aload_n 1, 1) := by decide +kernel
theorem dX4_bySuchReadings_34 : decode cX4_bySuchReadings 34 = .ok (.iload_n 2, 1) := by decide +kernel
theorem dX4_bySuchReadings_35 : decode cX4_bySuchReadings 35 = .ok (.iload 5, 2) := by decide +kernel
theorem dX4_bySuchReadings_37 : decode cX4_bySuchReadings 37 = .ok (.iastore, 1) := by decide +kernel
theorem dX4_bySuchReadings_38 : decode cX4_bySuchReadings 38 = .ok (.aload_n 0, 1) := by decide +kernel
theorem dX4_bySuchReadings_39 : decode cX4_bySuchReadings 39 = .ok (.invokevirtual 251, 3) := by decide +kernel
theorem dX4_bySuchReadings_42 : decode cX4_bySuchReadings 42 = .ok (.ifCond .eq 12, 3) := by decide +kernel
theorem dX4_bySuchReadings_45 : decode cX4_bySuchReadings 45 = .ok (.iload 4, 2) := by decide +kernel
theorem dX4_bySuchReadings_47 : decode cX4_bySuchReadings 47 = .ok (.iconst 1, 1) := by decide +kernel
theorem dX4_bySuchReadings_48 : decode cX4_bySuchReadings 48 = .ok (.iload 5, 2) := by decide +kernel
theorem dX4_bySuchReadings_50 : decode cX4_bySuchReadings 50 = .ok (.ishl, 1) := by decide +kernel
theorem dX4_bySuchReadings_51 : decode cX4_bySuchReadings 51 = .ok (.ior, 1) := by decide +kernel
theorem dX4_bySuchReadings_52 : decode cX4_bySuchReadings 52 = .ok (.istore 4, 2) := by decide +kernel
theorem dX4_bySuchReadings_54 : decode cX4_bySuchReadings 54 = .ok (.iinc 5 1, 3) := by decide +kernel
theorem dX4_bySuchReadings_57 : decode cX4_bySuchReadings 57 = .ok (.goto (-30), 3) := by decide +kernel
theorem dX4_bySuchReadings_60 : decode cX4_bySuchReadings 60 = .ok (.iload 4, 2) := by decide +kernel
theorem dX4_bySuchReadings_62 : decode cX4_bySuchReadings 62 = .ok (.ireturn, 1) := by decide +kernel
theorem dX4_readingsHoldInDraft_0 : decode cX4_readingsHoldInDraft 0 = .ok (.iconst 0, 1) := by decide +kernel
theorem dX4_readingsHoldInDraft_1 : decode cX4_readingsHoldInDraft 1 = .ok (.istore_n 1, 1) := by decide +kernel
theorem dX4_readingsHoldInDraft_2 : decode cX4_readingsHoldInDraft 2 = .ok (.iload_n 1, 1) := by decide +kernel
theorem dX4_readingsHoldInDraft_3 : decode cX4_readingsHoldInDraft 3 = .ok (.aload_n 0, 1) := by decide +kernel
theorem dX4_readingsHoldInDraft_4 : decode cX4_readingsHoldInDraft 4 = .ok (.getfield 86, 3) := by decide +kernel
theorem dX4_readingsHoldInDraft_7 : decode cX4_readingsHoldInDraft 7 = .ok (.if_icmp .ge 33, 3) := by decide +kernel
theorem dX4_readingsHoldInDraft_10 : decode cX4_readingsHoldInDraft 10 = .ok (.aload_n 0, 1) := by decide +kernel
theorem dX4_readingsHoldInDraft_11 : decode cX4_readingsHoldInDraft 11 = .ok (.getfield 18, 3) := by decide +kernel
theorem dX4_readingsHoldInDraft_14 : decode cX4_readingsHoldInDraft 14 = .ok (.aload_n 0, 1) := by decide +kernel
theorem dX4_readingsHoldInDraft_15 : decode cX4_readingsHoldInDraft 15 = .ok (.getfield 35, 3) := by decide +kernel
theorem dX4_readingsHoldInDraft_18 : decode cX4_readingsHoldInDraft 18 = .ok (.iload_n 1, 1) := by decide +kernel
theorem dX4_readingsHoldInDraft_19 : decode cX4_readingsHoldInDraft 19 = .ok (.iaload, 1) := by decide +kernel
theorem dX4_readingsHoldInDraft_20 : decode cX4_readingsHoldInDraft 20 = .ok (.invokevirtual 116, 3) := by decide +kernel
theorem dX4_readingsHoldInDraft_23 : decode cX4_readingsHoldInDraft 23 = .ok (.aload_n 0, 1) := by decide +kernel
theorem dX4_readingsHoldInDraft_24 : decode cX4_readingsHoldInDraft 24 = .ok (.getfield 39, 3) := by decide +kernel
theorem dX4_readingsHoldInDraft_27 : decode cX4_readingsHoldInDraft 27 = .ok (.iload_n 1, 1) := by decide +kernel
theorem dX4_readingsHoldInDraft_28 : decode cX4_readingsHoldInDraft 28 = .ok (.iaload, 1) := by decide +kernel
theorem dX4_readingsHoldInDraft_29 : decode cX4_readingsHoldInDraft 29 = .ok (.if_icmp .eq 5, 3) := by decide +kernel
theorem dX4_readingsHoldInDraft_32 : decode cX4_readingsHoldInDraft 32 = .ok (.iconst 0, 1) := by decide +kernel
theorem dX4_readingsHoldInDraft_33 : decode cX4_readingsHoldInDraft 33 = .ok (.ireturn, 1) := by decide +kernel
theorem dX4_readingsHoldInDraft_34 : decode cX4_readingsHoldInDraft 34 = .ok (.iinc 1 1, 3) := by decide +kernel
theorem dX4_readingsHoldInDraft_37 : decode cX4_readingsHoldInDraft 37 = .ok (.goto (-35), 3) := by decide +kernel
theorem dX4_readingsHoldInDraft_40 : decode cX4_readingsHoldInDraft 40 = .ok (.iconst 1, 1) := by decide +kernel
theorem dX4_readingsHoldInDraft_41 : decode cX4_readingsHoldInDraft 41 = .ok (.ireturn, 1) := by decide +kernel
theorem dX4_smellsByWhichItComes_0 : decode cX4_smellsByWhichItComes 0 = .ok (.aload_n 0, 1) := by decide +kernel
theorem dX4_smellsByWhichItComes_1 : decode cX4_smellsByWhichItComes 1 = .ok (.getfield 18, 3) := by decide +kernel
theorem dX4_smellsByWhichItComes_4 : decode cX4_smellsByWhichItComes 4 = .ok (.aload_n 0, 1) := by decide +kernel
theorem dX4_smellsByWhichItComes_5 : decode cX4_smellsByWhichItComes 5 = .ok (.getfield 12, 3) := by decide +kernel
theorem dX4_smellsByWhichItComes_8 : decode cX4_smellsByWhichItComes 8 = .ok (.invokevirtual 156, 3) := by decide +kernel
theorem dX4_smellsByWhichItComes_11 : decode cX4_smellsByWhichItComes 11 = .ok (.iconst 0, 1) := by decide +kernel
theorem dX4_smellsByWhichItComes_12 : decode cX4_smellsByWhichItComes 12 = .ok (.istore_n 2, 1) := by decide +kernel
theorem dX4_smellsByWhichItComes_13 : decode cX4_smellsByWhichItComes 13 = .ok (.iconst 0, 1) := by decide +kernel
theorem dX4_smellsByWhichItComes_14 : decode cX4_smellsByWhichItComes 14 = .ok (.istore_n 3, 1) := by decide +kernel
theorem dX4_smellsByWhichItComes_15 : decode cX4_smellsByWhichItComes 15 = .ok (.iload_n 3, 1) := by decide +kernel
theorem dX4_smellsByWhichItComes_16 : decode cX4_smellsByWhichItComes 16 = .ok (.bipush 8, 2) := by decide +kernel
theorem dX4_smellsByWhichItComes_18 : decode cX4_smellsByWhichItComes 18 = .ok (.if_icmp .ge 34, 3) := by decide +kernel
theorem dX4_smellsByWhichItComes_21 : decode cX4_smellsByWhichItComes 21 = .ok (.aload_n 0, 1) := by decide +kernel
theorem dX4_smellsByWhichItComes_22 : decode cX4_smellsByWhichItComes 22 = .ok (.getfield 18, 3) := by decide +kernel
theorem dX4_smellsByWhichItComes_25 : decode cX4_smellsByWhichItComes 25 = .ok (.getfield 101, 3) := by decide +kernel
theorem dX4_smellsByWhichItComes_28 : decode cX4_smellsByWhichItComes 28 = .ok (.iload_n 1, 1) := by decide +kernel
theorem dX4_smellsByWhichItComes_29 : decode cX4_smellsByWhichItComes 29 = .ok (.iload_n 3, 1) := by decide +kernel
theorem dX4_smellsByWhichItComes_30 : decode cX4_smellsByWhichItComes 30 = .ok (.iastore, 1) := by decide +kernel
theorem dX4_smellsByWhichItComes_31 : decode cX4_smellsByWhichItComes 31 = .ok (.aload_n 0, 1) := by decide +kernel
theorem dX4_smellsByWhichItComes_32 : decode cX4_smellsByWhichItComes 32 = .ok (.getfield 18, 3) := by decide +kernel
theorem dX4_smellsByWhichItComes_35 : decode cX4_smellsByWhichItComes 35 = .ok (.iload_n 1, 1) := by decide +kernel
theorem dX4_smellsByWhichItComes_36 : decode cX4_smellsByWhichItComes 36 = .ok (.invokevirtual 116, 3) := by decide +kernel
theorem dX4_smellsByWhichItComes_39 : decode cX4_smellsByWhichItComes 39 = .ok (.iload_n 1, 1) := by decide +kernel
theorem dX4_smellsByWhichItComes_40 : decode cX4_smellsByWhichItComes 40 = .ok (.if_icmp .ne 6, 3) := by decide +kernel
theorem dX4_smellsByWhichItComes_43 : decode cX4_smellsByWhichItComes 43 = .ok (.iinc 2 1, 3) := by decide +kernel
theorem dX4_smellsByWhichItComes_46 : decode cX4_smellsByWhichItComes 46 = .ok (.iinc 3 1, 3) := by decide +kernel
theorem dX4_smellsByWhichItComes_49 : decode cX4_smellsByWhichItComes 49 = .ok (.goto (-34), 3) := by decide +kernel
theorem dX4_smellsByWhichItComes_52 : decode cX4_smellsByWhichItComes 52 = .ok (.iload_n 2, 1) := by decide +kernel
theorem dX4_smellsByWhichItComes_53 : decode cX4_smellsByWhichItComes 53 = .ok (.ireturn, 1) := by decide +kernel
theorem dX4_begins_0 : decode cX4_begins 0 = .ok (.aload_n 0, 1) := by decide +kernel
theorem dX4_begins_1 : decode cX4_begins 1 = .ok (.bipush 31, 2) := by decide +kernel
theorem dX4_begins_3 : decode cX4_begins 3 = .ok (.aload_n 0, 1) := by decide +kernel
theorem dX4_begins_4 : decode cX4_begins 4 = .ok (.getfield 215, 3) := by decide +kernel
theorem dX4_begins_7 : decode cX4_begins 7 = .ok (.imul, 1) := by decide +kernel
theorem dX4_begins_8 : decode cX4_begins 8 = .ok (.iload_n 1, 1) := by decide +kernel
theorem dX4_begins_9 : decode cX4_begins 9 = .ok (.iadd, 1) := by decide +kernel
theorem dX4_begins_10 : decode cX4_begins 10 = .ok (.putfield 215, 3) := by decide +kernel
theorem dX4_begins_13 : decode cX4_begins 13 = .ok (.return_, 1) := by decide +kernel
theorem dX4_toldByPlain_0 : decode cX4_toldByPlain 0 = .ok (.aload_n 0, 1) := by decide +kernel
theorem dX4_toldByPlain_1 : decode cX4_toldByPlain 1 = .ok (.iconst 1, 1) := by decide +kernel
theorem dX4_toldByPlain_2 : decode cX4_toldByPlain 2 = .ok (.invokevirtual 211, 3) := by decide +kernel
theorem dX4_toldByPlain_5 : decode cX4_toldByPlain 5 = .ok (.aload_n 0, 1) := by decide +kernel
theorem dX4_toldByPlain_6 : decode cX4_toldByPlain 6 = .ok (.getfield 12, 3) := by decide +kernel
theorem dX4_toldByPlain_9 : decode cX4_toldByPlain 9 = .ok (.getfield 101, 3) := by decide +kernel
theorem dX4_toldByPlain_12 : decode cX4_toldByPlain 12 = .ok (.iload_n 1, 1) := by decide +kernel
theorem dX4_toldByPlain_13 : decode cX4_toldByPlain 13 = .ok (.iaload, 1) := by decide +kernel
theorem dX4_toldByPlain_14 : decode cX4_toldByPlain 14 = .ok (.ireturn, 1) := by decide +kernel
theorem dX4_toldByRank_0 : decode cX4_toldByRank 0 = .ok (.aload_n 0, 1) := by decide +kernel
theorem dX4_toldByRank_1 : decode cX4_toldByRank 1 = .ok (.iconst 2, 1) := by decide +kernel
theorem dX4_toldByRank_2 : decode cX4_toldByRank 2 = .ok (.invokevirtual 211, 3) := by decide +kernel
theorem dX4_toldByRank_5 : decode cX4_toldByRank 5 = .ok (.aload_n 0, 1) := by decide +kernel
theorem dX4_toldByRank_6 : decode cX4_toldByRank 6 = .ok (.iload_n 1, 1) := by decide +kernel
theorem dX4_toldByRank_7 : decode cX4_toldByRank 7 = .ok (.invokevirtual 208, 3) := by decide +kernel
theorem dX4_toldByRank_10 : decode cX4_toldByRank 10 = .ok (.bipush 100, 2) := by decide +kernel
theorem dX4_toldByRank_12 : decode cX4_toldByRank 12 = .ok (.iadd, 1) := by decide +kernel
theorem dX4_toldByRank_13 : decode cX4_toldByRank 13 = .ok (.ireturn, 1) := by decide +kernel
theorem dX4_toldByReeking_0 : decode cX4_toldByReeking 0 = .ok (.aload_n 0, 1) := by decide +kernel
theorem dX4_toldByReeking_1 : decode cX4_toldByReeking 1 = .ok (.iconst 3, 1) := by decide +kernel
theorem dX4_toldByReeking_2 : decode cX4_toldByReeking 2 = .ok (.invokevirtual 211, 3) := by decide +kernel
theorem dX4_toldByReeking_5 : decode cX4_toldByReeking 5 = .ok (.aload_n 0, 1) := by decide +kernel
theorem dX4_toldByReeking_6 : decode cX4_toldByReeking 6 = .ok (.iload_n 1, 1) := by decide +kernel
theorem dX4_toldByReeking_7 : decode cX4_toldByReeking 7 = .ok (.invokevirtual 205, 3) := by decide +kernel
theorem dX4_toldByReeking_10 : decode cX4_toldByReeking 10 = .ok (.istore_n 2, 1) := by decide +kernel
theorem dX4_toldByReeking_11 : decode cX4_toldByReeking 11 = .ok (.iload_n 2, 1) := by decide +kernel
theorem dX4_toldByReeking_12 : decode cX4_toldByReeking 12 = .ok (.aload_n 0, 1) := by decide +kernel
theorem dX4_toldByReeking_13 : decode cX4_toldByReeking 13 = .ok (.iload_n 1, 1) := by decide +kernel
theorem dX4_toldByReeking_14 : decode cX4_toldByReeking 14 = .ok (.invokevirtual 208, 3) := by decide +kernel
theorem dX4_toldByReeking_17 : decode cX4_toldByReeking 17 = .ok (.iadd, 1) := by decide +kernel
theorem dX4_toldByReeking_18 : decode cX4_toldByReeking 18 = .ok (.ireturn, 1) := by decide +kernel
