theorem dX3_init_0 : decode cX3_init 0 = .ok (.aload_n 0, 1) := by decide +kernel
theorem dX3_init_1 : decode cX3_init 1 = .ok (.invokespecial 3, 3) := by decide +kernel
theorem dX3_init_4 : decode cX3_init 4 = .ok (.aload_n 0, 1) := by decide +kernel
theorem dX3_init_5 : decode cX3_init 5 = .ok (.bipush (-2), 2) := by decide +kernel
theorem dX3_init_7 : decode cX3_init 7 = .ok (.putfield 9, 3) := by decide +kernel
theorem dX3_init_10 : decode cX3_init 10 = .ok (.aload_n 0, 1) := by decide +kernel
theorem dX3_init_11 : decode cX3_init 11 = .ok (.new 15, 3) := by decide +kernel
theorem dX3_init_14 : decode cX3_init 14 = .ok (.dup, 1) := by decide +kernel
theorem dX3_init_15 : decode cX3_init 15 = .ok (.invokespecial 17, 3) := by decide +kernel
theorem dX3_init_18 : decode cX3_init 18 = .ok (.putfield 18, 3) := by decide +kernel
theorem dX3_init_21 : decode cX3_init 21 = .ok (.aload_n 0, 1) := by decide +kernel
theorem dX3_init_22 : decode cX3_init 22 = .ok (.new 22, 3) := by decide +kernel
theorem dX3_init_25 : decode cX3_init 25 = .ok (.dup, 1) := by decide +kernel
theorem dX3_init_26 : decode cX3_init 26 = .ok (.invokespecial 24, 3) := by decide +kernel
theorem dX3_init_29 : decode cX3_init 29 = .ok (.putfield 25, 3) := by decide +kernel
theorem dX3_init_32 : decode cX3_init 32 = .ok (.aload_n 0, 1) := by decide +kernel
theorem dX3_init_33 : decode cX3_init 33 = .ok (.sipush 1200, 3) := by decide +kernel
theorem dX3_init_36 : decode cX3_init 36 = .ok (.anewarray 29, 3) := by decide +kernel
theorem dX3_init_39 : decode cX3_init 39 = .ok (.putfield 31, 3) := by decide +kernel
theorem dX3_init_42 : decode cX3_init 42 = .ok (.aload_n 0, 1) := by decide +kernel
theorem dX3_init_43 : decode cX3_init 43 = .ok (.sipush 1200, 3) := by decide +kernel
theorem dX3_init_46 : decode cX3_init 46 = .ok (.newarray .long, 2) := by decide +kernel
theorem dX3_init_48 : decode cX3_init 48 = .ok (.putfield 35, 3) := by decide +kernel
theorem dX3_init_51 : decode cX3_init 51 = .ok (.aload_n 0, 1) := by decide +kernel
theorem dX3_init_52 : decode cX3_init 52 = .ok (.sipush 1200, 3) := by decide +kernel
theorem dX3_init_55 : decode cX3_init 55 = .ok (.newarray .int, 2) := by decide +kernel
theorem dX3_init_57 : decode cX3_init 57 = .ok (.putfield 39, 3) := by decide +kernel
theorem dX3_init_60 : decode cX3_init 60 = .ok (.aload_n 0, 1) := by decide +kernel
theorem dX3_init_61 : decode cX3_init 61 = .ok (.sipush 1200, 3) := by decide +kernel
theorem dX3_init_64 : decode cX3_init 64 = .ok (.newarray .int, 2) := by decide +kernel
theorem dX3_init_66 : decode cX3_init 66 = .ok (.putfield 43, 3) := by decide +kernel
theorem dX3_init_69 : decode cX3_init 69 = .ok (.return_, 1) := by decide +kernel
theorem dX3_isKeyword_0 : decode cX3_isKeyword 0 = .ok (.aload_n 0, 1) := by decide +kernel
theorem dX3_isKeyword_1 : decode cX3_isKeyword 1 = .ok (.getfield 25, 3) := by decide +kernel
theorem dX3_isKeyword_4 : decode cX3_isKeyword 4 = .ok (.lload_n 1, 1) := by decide +kernel
theorem dX3_isKeyword_5 : decode cX3_isKeyword 5 = .ok (.invokevirtual 46, 3) := by decide +kernel
theorem dX3_isKeyword_8 : decode cX3_isKeyword 8 = .ok (.iconst 2, 1) := by decide +kernel
theorem dX3_isKeyword_9 : decode cX3_isKeyword 9 = .ok (.if_icmp .eq 7, 3) := by decide +kernel
theorem dX3_isKeyword_12 : decode cX3_isKeyword 12 = .ok (.iconst 1, 1) := by decide +kernel
theorem dX3_isKeyword_13 : decode cX3_isKeyword 13 = .ok (.goto 4, 3) := by decide +kernel
theorem dX3_isKeyword_16 : decode cX3_isKeyword 16 = .ok (.iconst 0, 1) := by decide +kernel
theorem dX3_isKeyword_17 : decode cX3_isKeyword 17 = .ok (.ireturn, 1) := by decide +kernel
theorem dX3_start_0 : decode cX3_start 0 = .ok (.aload_n 0, 1) := by decide +kernel
theorem dX3_start_1 : decode cX3_start 1 = .ok (.getfield 25, 3) := by decide +kernel
theorem dX3_start_4 : decode cX3_start 4 = .ok (.aload_n 1, 1) := by decide +kernel
theorem dX3_start_5 : decode cX3_start 5 = .ok (.iload_n 2, 1) := by decide +kernel
theorem dX3_start_6 : decode cX3_start 6 = .ok (.invokevirtual 50, 3) := by decide +kernel
theorem dX3_start_9 : decode cX3_start 9 = .ok (.aload_n 0, 1) := by decide +kernel
theorem dX3_start_10 : decode cX3_start 10 = .ok (.bipush (-2), 2) := by decide +kernel
theorem dX3_start_12 : decode cX3_start 12 = .ok (.putfield 9, 3) := by decide +kernel
theorem dX3_start_15 : decode cX3_start 15 = .ok (.aload_n 0, 1) := by decide +kernel
theorem dX3_start_16 : decode cX3_start 16 = .ok (.bipush (-2), 2) := by decide +kernel
theorem dX3_start_18 : decode cX3_start 18 = .ok (.putfield 54, 3) := by decide +kernel
theorem dX3_start_21 : decode cX3_start 21 = .ok (.aload_n 0, 1) := by decide +kernel
theorem dX3_start_22 : decode cX3_start 22 = .ok (.iconst 0, 1) := by decide +kernel
theorem dX3_start_23 : decode cX3_start 23 = .ok (.putfield 57, 3) := by decide +kernel
theorem dX3_start_26 : decode cX3_start 26 = .ok (.return_, 1) := by decide +kernel
theorem dX3_readHead_0 : decode cX3_readHead 0 = .ok (.aload_n 0, 1) := by decide +kernel
theorem dX3_readHead_1 : decode cX3_readHead 1 = .ok (.getfield 18, 3) := by decide +kernel
theorem dX3_readHead_4 : decode cX3_readHead 4 = .ok (.invokevirtual 60, 3) := by decide +kernel
theorem dX3_readHead_7 : decode cX3_readHead 7 = .ok (.aload_n 0, 1) := by decide +kernel
theorem dX3_readHead_8 : decode cX3_readHead 8 = .ok (.iconst 4, 1) := by decide +kernel
theorem dX3_readHead_9 : decode cX3_readHead 9 = .ok (.invokevirtual 63, 3) := by decide +kernel
theorem dX3_readHead_12 : decode cX3_readHead 12 = .ok (.ifCond .ne 5, 3) := by decide +kernel
theorem dX3_readHead_15 : decode cX3_readHead 15 = .ok (.iconst 0, 1) := by decide +kernel
theorem dX3_readHead_16 : decode cX3_readHead 16 = .ok (.ireturn, 1) := by decide +kernel
theorem dX3_readHead_17 : decode cX3_readHead 17 = .ok (.aload_n 0, 1) := by decide +kernel
theorem dX3_readHead_18 : decode cX3_readHead 18 = .ok (.getfield 18, 3) := by decide +kernel
theorem dX3_readHead_21 : decode cX3_readHead 21 = .ok (.aload_n 0, 1) := by decide +kernel
theorem dX3_readHead_22 : decode cX3_readHead 22 = .ok (.bipush 14, 2) := by decide +kernel
theorem dX3_readHead_24 : decode cX3_readHead 24 = .ok (.bipush 60, 2) := by decide +kernel
theorem dX3_readHead_26 : decode cX3_readHead 26 = .ok (.invokevirtual 67, 3) := by decide +kernel
theorem dX3_readHead_29 : decode cX3_readHead 29 = .ok (.putfield 71, 3) := by decide +kernel
theorem dX3_readHead_32 : decode cX3_readHead 32 = .ok (.aload_n 0, 1) := by decide +kernel
theorem dX3_readHead_33 : decode cX3_readHead 33 = .ok (.getfield 18, 3) := by decide +kernel
theorem dX3_readHead_36 : decode cX3_readHead 36 = .ok (.getfield 71, 3) := by decide +kernel
theorem dX3_readHead_39 : decode cX3_readHead 39 = .ok (.ifCond .ge 5, 3) := by decide +kernel
theorem dX3_readHead_42 : decode cX3_readHead 42 = .ok (.iconst 0, 1) := by decide +kernel
theorem dX3_readHead_43 : decode cX3_readHead 43 = .ok (.ireturn, 1) := by decide +kernel
theorem dX3_readHead_44 : decode cX3_readHead 44 = .ok (.aload_n 0, 1) := by decide +kernel
theorem dX3_readHead_45 : decode cX3_readHead 45 = .ok (.getfield 18, 3) := by decide +kernel
theorem dX3_readHead_48 : decode cX3_readHead 48 = .ok (.aload_n 0, 1) := by decide +kernel
theorem dX3_readHead_49 : decode cX3_readHead 49 = .ok (.bipush 14, 2) := by decide +kernel
theorem dX3_readHead_51 : decode cX3_readHead 51 = .ok (.bipush 60, 2) := by decide +kernel
theorem dX3_readHead_53 : decode cX3_readHead 53 = .ok (.invokevirtual 67, 3) := by decide +kernel
theorem dX3_readHead_56 : decode cX3_readHead 56 = .ok (.putfield 74, 3) := by decide +kernel
theorem dX3_readHead_59 : decode cX3_readHead 59 = .ok (.aload_n 0, 1) := by decide +kernel
theorem dX3_readHead_60 : decode cX3_readHead 60 = .ok (.getfield 18, 3) := by decide +kernel
theorem dX3_readHead_63 : decode cX3_readHead 63 = .ok (.getfield 74, 3) := by decide +kernel
theorem dX3_readHead_66 : decode cX3_readHead 66 = .ok (.ifCond .ge 5, 3) := by decide +kernel
theorem dX3_readHead_69 : decode cX3_readHead 69 = .ok (.iconst 0, 1) := by decide +kernel
theorem dX3_readHead_70 : decode cX3_readHead 70 = .ok (.ireturn, 1) := by decide +kernel
theorem dX3_readHead_71 : decode cX3_readHead 71 = .ok (.aload_n 0, 1) := by decide +kernel
theorem dX3_readHead_72 : decode cX3_readHead 72 = .ok (.getfield 18, 3) := by decide +kernel
theorem dX3_readHead_75 : decode cX3_readHead 75 = .ok (.aload_n 0, 1) := by decide +kernel
theorem dX3_readHead_76 : decode cX3_readHead 76 = .ok (.iconst 1, 1) := by decide +kernel
theorem dX3_readHead_77 : decode cX3_readHead 77 = .ok (.bipush 60, 2) := by decide +kernel
theorem dX3_readHead_79 : decode cX3_readHead 79 = .ok (.invokevirtual 67, 3) := by decide +kernel
theorem dX3_readHead_82 : decode cX3_readHead 82 = .ok (.putfield 77, 3) := by decide +kernel
theorem dX3_readHead_85 : decode cX3_readHead 85 = .ok (.aload_n 0, 1) := by decide +kernel
theorem dX3_readHead_86 : decode cX3_readHead 86 = .ok (.getfield 18, 3) := by decide +kernel
theorem dX3_readHead_89 : decode cX3_readHead 89 = .ok (.getfield 77, 3) := by decide +kernel
theorem dX3_readHead_92 : decode cX3_readHead 92 = .ok (.ifCond .lt 16, 3) := by decide +kernel
theorem dX3_readHead_95 : decode cX3_readHead 95 = .ok (.aload_n 0, 1) := by decide +kernel
theorem dX3_readHead_96 : decode cX3_readHead 96 = .ok (.bipush 59, 2) := by decide +kernel
theorem dX3_readHead_98 : decode cX3_readHead 98 = .ok (.invokevirtual 63, 3) := by decide +kernel
theorem dX3_readHead_101 : decode cX3_readHead 101 = .ok (.ifCond .eq 7, 3) := by decide +kernel
theorem dX3_readHead_104 : decode cX3_readHead 104 = .ok (.iconst 1, 1) := by decide +kernel
theorem dX3_readHead_105 : decode cX3_readHead 105 = .ok (.goto 4, 3) := by decide +kernel
theorem dX3_readHead_108 : decode cX3_readHead 108 = .ok (.iconst 0, 1) := by decide +kernel
theorem dX3_readHead_109 : decode cX3_readHead 109 = .ok (.ireturn, 1) := by decide +kernel
theorem dX3_readNodes_0 : decode cX3_readNodes 0 = .ok (.iload_n 1, 1) := by decide +kernel
theorem dX3_readNodes_1 : decode cX3_readNodes 1 = .ok (.istore_n 2, 1) := by decide +kernel
theorem dX3_readNodes_2 : decode cX3_readNodes 2 = .ok (.iconst 0, 1) := by decide +kernel
theorem dX3_readNodes_3 : decode cX3_readNodes 3 = .ok (.istore_n 3, 1) := by decide +kernel
theorem dX3_readNodes_4 : decode cX3_readNodes 4 = .ok (.iload_n 3, 1) := by decide +kernel
theorem dX3_readNodes_5 : decode cX3_readNodes 5 = .ok (.sipush 1200, 3) := by decide +kernel
theorem dX3_readNodes_8 : decode cX3_readNodes 8 = .ok (.if_icmp .gt 124, 3) := by decide +kernel
theorem dX3_readNodes_11 : decode cX3_readNodes 11 = .ok (.aload_n 0, 1) := by decide +kernel
theorem dX3_readNodes_12 : decode cX3_readNodes 12 = .ok (.getfield 25, 3) := by decide +kernel
theorem dX3_readNodes_15 : decode cX3_readNodes 15 = .ok (.getfield 80, 3) := by decide +kernel
theorem dX3_readNodes_18 : decode cX3_readNodes 18 = .ok (.istore 4, 2) := by decide +kernel
theorem dX3_readNodes_20 : decode cX3_readNodes 20 = .ok (.iload 4, 2) := by decide +kernel
theorem dX3_readNodes_22 : decode cX3_readNodes 22 = .ok (.ifCond .ne 10, 3) := by decide +kernel
theorem dX3_readNodes_25 : decode cX3_readNodes 25 = .ok (.iload_n 2, 1) := by decide +kernel
theorem dX3_readNodes_26 : decode cX3_readNodes 26 = .ok (.iload_n 1, 1) := by decide +kernel
theorem dX3_readNodes_27 : decode cX3_readNodes 27 = .ok (.if_icmp .ne 5, 3) := by decide +kernel
theorem dX3_readNodes_30 : decode cX3_readNodes 30 = .ok (.iconst 1, 1) := by decide +kernel
theorem dX3_readNodes_31 : decode cX3_readNodes 31 = .ok (.ireturn, 1) := by decide +kernel
theorem dX3_readNodes_32 : decode cX3_readNodes 32 = .ok (.iload 4, 2) := by decide +kernel
theorem dX3_readNodes_34 : decode cX3_readNodes 34 = .ok (.iconst 5, 1) := by decide +kernel
theorem dX3_readNodes_35 : decode cX3_readNodes 35 = .ok (.if_icmp .ne 15, 3) := by decide +kernel
theorem dX3_readNodes_38 : decode cX3_readNodes 38 = .ok (.aload_n 0, 1) := by decide +kernel
theorem dX3_readNodes_39 : decode cX3_readNodes 39 = .ok (.iload_n 2, 1) := by decide +kernel
theorem dX3_readNodes_40 : decode cX3_readNodes 40 = .ok (.invokevirtual 83, 3) := by decide +kernel
theorem dX3_readNodes_43 : decode cX3_readNodes 43 = .ok (.istore_n 2, 1) := by decide +kernel
theorem dX3_readNodes_44 : decode cX3_readNodes 44 = .ok (.iload_n 2, 1) := by decide +kernel
theorem dX3_readNodes_45 : decode cX3_readNodes 45 = .ok (.ifCond .ge 81, 3) := by decide +kernel
theorem dX3_readNodes_48 : decode cX3_readNodes 48 = .ok (.iconst 0, 1) := by decide +kernel
theorem dX3_readNodes_49 : decode cX3_readNodes 49 = .ok (.ireturn, 1) := by decide +kernel
theorem dX3_readNodes_50 : decode cX3_readNodes 50 = .ok (.iload 4, 2) := by decide +kernel
theorem dX3_readNodes_52 : decode cX3_readNodes 52 = .ok (.bipush 8, 2) := by decide +kernel
theorem dX3_readNodes_54 : decode cX3_readNodes 54 = .ok (.if_icmp .lt 20, 3) := by decide +kernel
theorem dX3_readNodes_57 : decode cX3_readNodes 57 = .ok (.iload 4, 2) := by decide +kernel
theorem dX3_readNodes_59 : decode cX3_readNodes 59 = .ok (.bipush 10, 2) := by decide +kernel
theorem dX3_readNodes_61 : decode cX3_readNodes 61 = .ok (.if_icmp .gt 13, 3) := by decide +kernel
theorem dX3_readNodes_64 : decode cX3_readNodes 64 = .ok (.aload_n 0, 1) := by decide +kernel
theorem dX3_readNodes_65 : decode cX3_readNodes 65 = .ok (.iload_n 2, 1) := by decide +kernel
theorem dX3_readNodes_66 : decode cX3_readNodes 66 = .ok (.invokevirtual 87, 3) := by decide +kernel
theorem dX3_readNodes_69 : decode cX3_readNodes 69 = .ok (.ifCond .ne 57, 3) := by decide +kernel
theorem dX3_readNodes_72 : decode cX3_readNodes 72 = .ok (.iconst 0, 1) := by decide +kernel
theorem dX3_readNodes_73 : decode cX3_readNodes 73 = .ok (.ireturn, 1) := by decide +kernel
theorem dX3_readNodes_74 : decode cX3_readNodes 74 = .ok (.iload 4, 2) := by decide +kernel
theorem dX3_readNodes_76 : decode cX3_readNodes 76 = .ok (.bipush 125, 2) := by decide +kernel
theorem dX3_readNodes_78 : decode cX3_readNodes 78 = .ok (.if_icmp .ne 43, 3) := by decide +kernel
theorem dX3_readNodes_81 : decode cX3_readNodes 81 = .ok (.iload_n 2, 1) := by decide +kernel
theorem dX3_readNodes_82 : decode cX3_readNodes 82 = .ok (.iload_n 1, 1) := by decide +kernel
theorem dX3_readNodes_83 : decode cX3_readNodes 83 = .ok (.if_icmp .eq 38, 3) := by decide +kernel
theorem dX3_readNodes_86 : decode cX3_readNodes 86 = .ok (.aload_n 0, 1) := by decide +kernel
theorem dX3_readNodes_87 : decode cX3_readNodes 87 = .ok (.getfield 18, 3) := by decide +kernel
theorem dX3_readNodes_90 : decode cX3_readNodes 90 = .ok (.iload_n 2, 1) := by decide +kernel
theorem dX3_readNodes_91 : decode cX3_readNodes 91 = .ok (.invokevirtual 90, 3) := by decide +kernel
theorem dX3_readNodes_94 : decode cX3_readNodes 94 = .ok (.astore 5, 2) := by decide +kernel
theorem dX3_readNodes_96 : decode cX3_readNodes 96 = .ok (.aload 5, 2) := by decide +kernel
theorem dX3_readNodes_98 : decode cX3_readNodes 98 = .ok (.ifnonnull 7, 3) := by decide +kernel
theorem dX3_readNodes_101 : decode cX3_readNodes 101 = .ok (.iload_n 1, 1) := by decide +kernel
theorem dX3_readNodes_102 : decode cX3_readNodes 102 = .ok (.goto 8, 3) := by decide +kernel
theorem dX3_readNodes_105 : decode cX3_readNodes 105 = .ok (.aload 5, 2) := by decide +kernel
theorem dX3_readNodes_107 : decode cX3_readNodes 107 = .ok (.getfield 94, 3) := by decide +kernel
theorem dX3_readNodes_110 : decode cX3_readNodes 110 = .ok (.istore_n 2, 1) := by decide +kernel
theorem dX3_readNodes_111 : decode cX3_readNodes 111 = .ok (.aload_n 0, 1) := by decide +kernel
theorem dX3_readNodes_112 : decode cX3_readNodes 112 = .ok (.getfield 25, 3) := by decide +kernel
theorem dX3_readNodes_115 : decode cX3_readNodes 115 = .ok (.invokevirtual 99, 3) := by decide +kernel
theorem dX3_readNodes_118 : decode cX3_readNodes 118 = .ok (.goto 8, 3) := by decide +kernel
theorem dX3_readNodes_121 : decode cX3_readNodes 121 = .ok (.aload_n 0, 1) := by decide +kernel
theorem dX3_readNodes_122 : decode cX3_readNodes 122 = .ok (.invokevirtual 102, 3) := by decide +kernel
theorem dX3_readNodes_125 : decode cX3_readNodes 125 = .ok (.ireturn, 1) := by decide +kernel
theorem dX3_readNodes_126 : decode cX3_readNodes 126 = .ok (.iinc 3 1, 3) := by decide +kernel
theorem dX3_readNodes_129 : decode cX3_readNodes 129 = .ok (.goto (-125), 3) := by decide +kernel
theorem dX3_readNodes_132 : decode cX3_readNodes 132 = .ok (.aload_n 0, 1) := by decide +kernel
theorem dX3_readNodes_133 : decode cX3_readNodes 133 = .ok (.invokevirtual 102, 3) := by decide +kernel
theorem dX3_readNodes_136 : decode cX3_readNodes 136 = .ok (.ireturn, 1) := by decide +kernel
theorem dX3_readCondition_0 : decode cX3_readCondition 0 = .ok (.aload_n 2, 1) := by decide +kernel
theorem dX3_readCondition_1 : decode cX3_readCondition 1 = .ok (.aconst_null, 1) := by decide +kernel
theorem dX3_readCondition_2 : decode cX3_readCondition 2 = .ok (.putfield 106, 3) := by decide +kernel
theorem dX3_readCondition_5 : decode cX3_readCondition 5 = .ok (.aload_n 2, 1) := by decide +kernel
theorem dX3_readCondition_6 : decode cX3_readCondition 6 = .ok (.iconst 0, 1) := by decide +kernel
theorem dX3_readCondition_7 : decode cX3_readCondition 7 = .ok (.putfield 110, 3) := by decide +kernel
theorem dX3_readCondition_10 : decode cX3_readCondition 10 = .ok (.aload_n 2, 1) := by decide +kernel
theorem dX3_readCondition_11 : decode cX3_readCondition 11 = .ok (.iconst 0, 1) := by decide +kernel
theorem dX3_readCondition_12 : decode cX3_readCondition 12 = .ok (.putfield 111, 3) := by decide +kernel
theorem dX3_readCondition_15 : decode cX3_readCondition 15 = .ok (.aload_n 0, 1) := by decide +kernel
theorem dX3_readCondition_16 : decode cX3_readCondition 16 = .ok (.getfield 25, 3) := by decide +kernel
theorem dX3_readCondition_19 : decode cX3_readCondition 19 = .ok (.getfield 80, 3) := by decide +kernel
theorem dX3_readCondition_22 : decode cX3_readCondition 22 = .ok (.ifCond .eq 20, 3) := by decide +kernel
theorem dX3_readCondition_25 : decode cX3_readCondition 25 = .ok (.aload_n 0, 1) := by decide +kernel
theorem dX3_readCondition_26 : decode cX3_readCondition 26 = .ok (.iload_n 1, 1) := by decide +kernel
theorem dX3_readCondition_27 : decode cX3_readCondition 27 = .ok (.aload_n 2, 1) := by decide +kernel
theorem dX3_readCondition_28 : decode cX3_readCondition 28 = .ok (.invokevirtual 114, 3) := by decide +kernel
theorem dX3_readCondition_31 : decode cX3_readCondition 31 = .ok (.ifCond .eq 15, 3) := by decide +kernel
theorem dX3_readCondition_34 : decode cX3_readCondition 34 = .ok (.aload_n 0, 1) := by decide +kernel
theorem dX3_readCondition_35 : decode cX3_readCondition 35 = .ok (.iconst 0, 1) := by decide +kernel
theorem dX3_readCondition_36 : decode cX3_readCondition 36 = .ok (.invokevirtual 63, 3) := by decide +kernel
theorem dX3_readCondition_39 : decode cX3_readCondition 39 = .ok (.ifCond .eq 7, 3) := by decide +kernel
theorem dX3_readCondition_42 : decode cX3_readCondition 42 = .ok (.iconst 1, 1) := by decide +kernel
theorem dX3_readCondition_43 : decode cX3_readCondition 43 = .ok (.goto 4, 3) := by decide +kernel
theorem dX3_readCondition_46 : decode cX3_readCondition 46 = .ok (.iconst 0, 1) := by decide +kernel
theorem dX3_readCondition_47 : decode cX3_readCondition 47 = .ok (.ireturn, 1) := by decide +kernel
theorem dX3_settle_0 : decode cX3_settle 0 = .ok (.iconst 0, 1) := by decide +kernel
theorem dX3_settle_1 : decode cX3_settle 1 = .ok (.istore_n 1, 1) := by decide +kernel
theorem dX3_settle_2 : decode cX3_settle 2 = .ok (.iload_n 1, 1) := by decide +kernel
theorem dX3_settle_3 : decode cX3_settle 3 = .ok (.aload_n 0, 1) := by decide +kernel
theorem dX3_settle_4 : decode cX3_settle 4 = .ok (.getfield 57, 3) := by decide +kernel
theorem dX3_settle_7 : decode cX3_settle 7 = .ok (.if_icmp .ge 72, 3) := by decide +kernel
theorem dX3_settle_10 : decode cX3_settle 10 = .ok (.iload_n 1, 1) := by decide +kernel
theorem dX3_settle_11 : decode cX3_settle 11 = .ok (.sipush 1200, 3) := by decide +kernel
theorem dX3_settle_14 : decode cX3_settle 14 = .ok (.if_icmp .ge 65, 3) := by decide +kernel
theorem dX3_settle_17 : decode cX3_settle 17 = .ok (.aload_n 0, 1) := by decide +kernel
theorem dX3_settle_18 : decode cX3_settle 18 = .ok (.getfield 18, 3) := by decide +kernel
theorem dX3_settle_21 : decode cX3_settle 21 = .ok (.aload_n 0, 1) := by decide +kernel
theorem dX3_settle_22 : decode cX3_settle 22 = .ok (.getfield 35, 3) := by decide +kernel
theorem dX3_settle_25 : decode cX3_settle 25 = .ok (.iload_n 1, 1) := by decide +kernel
theorem dX3_settle_26 : decode cX3_settle 26 = .ok (.laload, 1) := by decide +kernel
theorem dX3_settle_27 : decode cX3_settle 27 = .ok (.invokevirtual 117, 3) := by decide +kernel
theorem dX3_settle_30 : decode cX3_settle 30 = .ok (.istore_n 2, 1) := by decide +kernel
theorem dX3_settle_31 : decode cX3_settle 31 = .ok (.aload_n 0, 1) := by decide +kernel
theorem dX3_settle_32 : decode cX3_settle 32 = .ok (.getfield 18, 3) := by decide +kernel
theorem dX3_settle_35 : decode cX3_settle 35 = .ok (.iload_n 2, 1) := by decide +kernel
theorem dX3_settle_36 : decode cX3_settle 36 = .ok (.invokevirtual 120, 3) := by decide +kernel
theorem dX3_settle_39 : decode cX3_settle 39 = .ok (.ifnull 12, 3) := by decide +kernel
theorem dX3_settle_42 : decode cX3_settle 42 = .ok (.aload_n 0, 1) := by decide +kernel
theorem dX3_settle_43 : decode cX3_settle 43 = .ok (.getfield 31, 3) := by decide +kernel
theorem dX3_settle_46 : decode cX3_settle 46 = .ok (.iload_n 1, 1) := by decide +kernel
theorem dX3_settle_47 : decode cX3_settle 47 = .ok (.aaload, 1) := by decide +kernel
theorem dX3_settle_48 : decode cX3_settle 48 = .ok (.ifnonnull 15, 3) := by decide +kernel
theorem dX3_settle_51 : decode cX3_settle 51 = .ok (.aload_n 0, 1) := by decide +kernel
theorem dX3_settle_52 : decode cX3_settle 52 = .ok (.aload_n 0, 1) := by decide +kernel
theorem dX3_settle_53 : decode cX3_settle 53 = .ok (.getfield 39, 3) := by decide +kernel
theorem dX3_settle_56 : decode cX3_settle 56 = .ok (.iload_n 1, 1) := by decide +kernel
theorem dX3_settle_57 : decode cX3_settle 57 = .ok (.iaload, 1) := by decide +kernel
theorem dX3_settle_58 : decode cX3_settle 58 = .ok (.putfield 9, 3) := by decide +kernel
theorem dX3_settle_61 : decode cX3_settle 61 = .ok (.iconst 0, 1) := by decide +kernel
theorem dX3_settle_62 : decode cX3_settle 62 = .ok (.ireturn, 1) := by decide +kernel
theorem dX3_settle_63 : decode cX3_settle 63 = .ok (.aload_n 0, 1) := by decide +kernel
theorem dX3_settle_64 : decode cX3_settle 64 = .ok (.getfield 31, 3) := by decide +kernel
theorem dX3_settle_67 : decode cX3_settle 67 = .ok (.iload_n 1, 1) := by decide +kernel
theorem dX3_settle_68 : decode cX3_settle 68 = .ok (.aaload, 1) := by decide +kernel
theorem dX3_settle_69 : decode cX3_settle 69 = .ok (.iload_n 2, 1) := by decide +kernel
theorem dX3_settle_70 : decode cX3_settle 70 = .ok (.putfield 123, 3) := by decide +kernel
theorem dX3_settle_73 : decode cX3_settle 73 = .ok (.iinc 1 1, 3) := by decide +kernel
theorem dX3_settle_76 : decode cX3_settle 76 = .ok (.goto (-74), 3) := by decide +kernel
theorem dX3_settle_79 : decode cX3_settle 79 = .ok (.iconst 0, 1) := by decide +kernel
theorem dX3_settle_80 : decode cX3_settle 80 = .ok (.istore_n 1, 1) := by decide +kernel
theorem dX3_settle_81 : decode cX3_settle 81 = .ok (.iload_n 1, 1) := by decide +kernel
theorem dX3_settle_82 : decode cX3_settle 82 = .ok (.aload_n 0, 1) := by decide +kernel
theorem dX3_settle_83 : decode cX3_settle 83 = .ok (.getfield 57, 3) := by decide +kernel
theorem dX3_settle_86 : decode cX3_settle 86 = .ok (.if_icmp .ge 103, 3) := by decide +kernel
theorem dX3_settle_89 : decode cX3_settle 89 = .ok (.iload_n 1, 1) := by decide +kernel
theorem dX3_settle_90 : decode cX3_settle 90 = .ok (.sipush 1200, 3) := by decide +kernel
theorem dX3_settle_93 : decode cX3_settle 93 = .ok (.if_icmp .ge 96, 3) := by decide +kernel
theorem dX3_settle_96 : decode cX3_settle 96 = .ok (.aload_n 0, 1) := by decide +kernel
theorem dX3_settle_97 : decode cX3_settle 97 = .ok (.getfield 31, 3) := by decide +kernel
theorem dX3_settle_100 : decode cX3_settle 100 = .ok (.iload_n 1, 1) := by decide +kernel
theorem dX3_settle_101 : decode cX3_settle 101 = .ok (.aaload, 1) := by decide +kernel
theorem dX3_settle_102 : decode cX3_settle 102 = .ok (.ifnonnull 8, 3) := by decide +kernel
theorem dX3_settle_105 : decode cX3_settle 105 = .ok (.bipush (-2), 2) := by decide +kernel
theorem dX3_settle_107 : decode cX3_settle 107 = .ok (.goto 12, 3) := by decide +kernel
theorem dX3_settle_110 : decode cX3_settle 110 = .ok (.aload_n 0, 1) := by decide +kernel
theorem dX3_settle_111 : decode cX3_settle 111 = .ok (.getfield 31, 3) := by decide +kernel
theorem dX3_settle_114 : decode cX3_settle 114 = .ok (.iload_n 1, 1) := by decide +kernel
theorem dX3_settle_115 : decode cX3_settle 115 = .ok (.aaload, 1) := by decide +kernel
theorem dX3_settle_116 : decode cX3_settle 116 = .ok (.getfield 123, 3) := by decide +kernel
theorem dX3_settle_119 : decode cX3_settle 119 = .ok (.istore_n 2, 1) := by decide +kernel
theorem dX3_settle_120 : decode cX3_settle 120 = .ok (.aload_n 0, 1) := by decide +kernel
theorem dX3_settle_121 : decode cX3_settle 121 = .ok (.getfield 18, 3) := by decide +kernel
theorem dX3_settle_124 : decode cX3_settle 124 = .ok (.aload_n 0, 1) := by decide +kernel
theorem dX3_settle_125 : decode cX3_settle 125 = .ok (.getfield 43, 3) := by decide +kernel
theorem dX3_settle_128 : decode cX3_settle 128 = .ok (.iload_n 1, 1) := by decide +kernel
theorem dX3_settle_129 : decode cX3_settle 129 = .ok (.iaload, 1) := by decide +kernel
theorem dX3_settle_130 : decode cX3_settle 130 = .ok (.invokevirtual 125, 3) := by decide +kernel
theorem dX3_settle_133 : decode cX3_settle 133 = .ok (.astore_n 3, 1) := by decide +kernel
theorem dX3_settle_134 : decode cX3_settle 134 = .ok (.aload_n 3, 1) := by decide +kernel
theorem dX3_settle_135 : decode cX3_settle 135 = .ok (.ifnull 24, 3) := by decide +kernel
theorem dX3_settle_138 : decode cX3_settle 138 = .ok (.iload_n 2, 1) := by decide +kernel
theorem dX3_settle_139 : decode cX3_settle 139 = .ok (.ifCond .lt 20, 3) := by decide +kernel
theorem dX3_settle_142 : decode cX3_settle 142 = .ok (.aload_n 0, 1) := by decide +kernel
theorem dX3_settle_143 : decode cX3_settle 143 = .ok (.getfield 18, 3) := by decide +kernel
theorem dX3_settle_146 : decode cX3_settle 146 = .ok (.aload_n 0, 1) := by decide +kernel
theorem dX3_settle_147 : decode cX3_settle 147 = .ok (.getfield 43, 3) := by decide +kernel
theorem dX3_settle_150 : decode cX3_settle 150 = .ok (.iload_n 1, 1) := by decide +kernel
theorem dX3_settle_151 : decode cX3_settle 151 = .ok (.iaload, 1) := by decide +kernel
theorem dX3_settle_152 : decode cX3_settle 152 = .ok (.iload_n 2, 1) := by decide +kernel
theorem dX3_settle_153 : decode cX3_settle 153 = .ok (.invokevirtual 128, 3) := by decide +kernel
theorem dX3_settle_156 : decode cX3_settle 156 = .ok (.ifCond .eq 15, 3) := by decide +kernel
theorem dX3_settle_159 : decode cX3_settle 159 = .ok (.aload_n 0, 1) := by decide +kernel
theorem dX3_settle_160 : decode cX3_settle 160 = .ok (.aload_n 0, 1) := by decide +kernel
theorem dX3_settle_161 : decode cX3_settle 161 = .ok (.getfield 39, 3) := by decide +kernel
theorem dX3_settle_164 : decode cX3_settle 164 = .ok (.iload_n 1, 1) := by decide +kernel
theorem dX3_settle_165 : decode cX3_settle 165 = .ok (.iaload, 1) := by decide +kernel
theorem dX3_settle_166 : decode cX3_settle 166 = .ok (.putfield 9, 3) := by decide +kernel
theorem dX3_settle_169 : decode cX3_settle 169 = .ok (.iconst 0, 1) := by decide +kernel
theorem dX3_settle_170 : decode cX3_settle 170 = .ok (.ireturn, 1) := by decide +kernel
theorem dX3_settle_171 : decode cX3_settle 171 = .ok (.aload_n 3, 1) := by decide +kernel
theorem dX3_settle_172 : decode cX3_settle 172 = .ok (.dup, 1) := by decide +kernel
theorem dX3_settle_173 : decode cX3_settle 173 = .ok (.getfield 111, 3) := by decide +kernel
theorem dX3_settle_176 : decode cX3_settle 176 = .ok (.iconst 1, 1) := by decide +kernel
theorem dX3_settle_177 : decode cX3_settle 177 = .ok (.iload_n 2, 1) := by decide +kernel
theorem dX3_settle_178 : decode cX3_settle 178 = .ok (.ishl, 1) := by decide +kernel
theorem dX3_settle_179 : decode cX3_settle 179 = .ok (.ior, 1) := by decide +kernel
theorem dX3_settle_180 : decode cX3_settle 180 = .ok (.putfield 111, 3) := by decide +kernel
theorem dX3_settle_183 : decode cX3_settle 183 = .ok (.iinc 1 1, 3) := by decide +kernel
theorem dX3_settle_186 : decode cX3_settle 186 = .ok (.goto (-105), 3) := by decide +kernel
theorem dX3_settle_189 : decode cX3_settle 189 = .ok (.iconst 1, 1) := by decide +kernel
theorem dX3_settle_190 : decode cX3_settle 190 = .ok (.ireturn, 1) := by decide +kernel
theorem dX3_fail_0 : decode cX3_fail 0 = .ok (.aload_n 0, 1) := by decide +kernel
theorem dX3_fail_1 : decode cX3_fail 1 = .ok (.aload_n 0, 1) := by decide +kernel
theorem dX3_fail_2 : decode cX3_fail 2 = .ok (.getfield 25, 3) := by decide +kernel
theorem dX3_fail_5 : decode cX3_fail 5 = .ok (.getfield 132, 3) := by decide +kernel
theorem dX3_fail_8 : decode cX3_fail 8 = .ok (.putfield 9, 3) := by decide +kernel
theorem dX3_fail_11 : decode cX3_fail 11 = .ok (.iconst 0, 1) := by decide +kernel
theorem dX3_fail_12 : decode cX3_fail 12 = .ok (.ireturn, 1) := by decide +kernel
theorem dX3_take_0 : decode cX3_take 0 = .ok (.aload_n 0, 1) := by decide +kernel
theorem dX3_take_1 : decode cX3_take 1 = .ok (.getfield 25, 3) := by decide +kernel
theorem dX3_take_4 : decode cX3_take 4 = .ok (.getfield 80, 3) := by decide +kernel
theorem dX3_take_7 : decode cX3_take 7 = .ok (.iload_n 1, 1) := by decide +kernel
theorem dX3_take_8 : decode cX3_take 8 = .ok (.if_icmp .eq 8, 3) := by decide +kernel
theorem dX3_take_11 : decode cX3_take 11 = .ok (.aload_n 0, 1) := by decide +kernel
theorem dX3_take_12 : decode cX3_take 12 = .ok (.invokevirtual 102, 3) := by decide +kernel
theorem dX3_take_15 : decode cX3_take 15 = .ok (.ireturn, 1) := by decide +kernel
theorem dX3_take_16 : decode cX3_take 16 = .ok (.aload_n 0, 1) := by decide +kernel
theorem dX3_take_17 : decode cX3_take 17 = .ok (.getfield 25, 3) := by decide +kernel
theorem dX3_take_20 : decode cX3_take 20 = .ok (.invokevirtual 99, 3) := by decide +kernel
theorem dX3_take_23 : decode cX3_take 23 = .ok (.iconst 1, 1) := by decide +kernel
theorem dX3_take_24 : decode cX3_take 24 = .ok (.ireturn, 1) := by decide +kernel
theorem dX3_takeInt_0 : decode cX3_takeInt 0 = .ok (.aload_n 0, 1) := by decide +kernel
theorem dX3_takeInt_1 : decode cX3_takeInt 1 = .ok (.getfield 25, 3) := by decide +kernel
theorem dX3_takeInt_4 : decode cX3_takeInt 4 = .ok (.getfield 135, 3) := by decide +kernel
theorem dX3_takeInt_7 : decode cX3_takeInt 7 = .ok (.lstore_n 3, 1) := by decide +kernel
theorem dX3_takeInt_8 : decode cX3_takeInt 8 = .ok (.aload_n 0, 1) := by decide +kernel
theorem dX3_takeInt_9 : decode cX3_takeInt 9 = .ok (.getfield 25, 3) := by decide +kernel
theorem dX3_takeInt_12 : decode cX3_takeInt 12 = .ok (.getfield 80, 3) := by decide +kernel
theorem dX3_takeInt_15 : decode cX3_takeInt 15 = .ok (.iconst 3, 1) := by decide +kernel
theorem dX3_takeInt_16 : decode cX3_takeInt 16 = .ok (.if_icmp .ne 17, 3) := by decide +kernel
theorem dX3_takeInt_19 : decode cX3_takeInt 19 = .ok (.lload_n 3, 1) := by decide +kernel
theorem dX3_takeInt_20 : decode cX3_takeInt 20 = .ok (.iload_n 1, 1) := by decide +kernel
theorem dX3_takeInt_21 : decode cX3_takeInt 21 = .ok (.i2l, 1) := by decide +kernel
theorem dX3_takeInt_22 : decode cX3_takeInt 22 = .ok (.lcmp, 1) := by decide +kernel
theorem dX3_takeInt_23 : decode cX3_takeInt 23 = .ok (.ifCond .lt 10, 3) := by decide +kernel
theorem dX3_takeInt_26 : decode cX3_takeInt 26 = .ok (.lload_n 3, 1) := by decide +kernel
theorem dX3_takeInt_27 : decode cX3_takeInt 27 = .ok (.iload_n 2, 1) := by decide +kernel
theorem dX3_takeInt_28 : decode cX3_takeInt 28 = .ok (.i2l, 1) := by decide +kernel
theorem dX3_takeInt_29 : decode cX3_takeInt 29 = .ok (.lcmp, 1) := by decide +kernel
theorem dX3_takeInt_30 : decode cX3_takeInt 30 = .ok (.ifCond .le 10, 3) := by decide +kernel
theorem dX3_takeInt_33 : decode cX3_takeInt 33 = .ok (.aload_n 0, 1) := by decide +kernel
theorem dX3_takeInt_34 : decode cX3_takeInt 34 = .ok (.invokevirtual 102, 3) := by decide +kernel
theorem dX3_takeInt_37 : decode cX3_takeInt 37 = .ok (.pop, 1) := by decide +kernel
theorem dX3_takeInt_38 : decode cX3_takeInt 38 = .ok (.iconst (-1), 1) := by decide +kernel
theorem dX3_takeInt_39 : decode cX3_takeInt 39 = .ok (.ireturn, 1) := by decide +kernel
theorem dX3_takeInt_40 : decode cX3_takeInt 40 = .ok (.aload_n 0, 1) := by decide +kernel
theorem dX3_takeInt_41 : decode cX3_takeInt 41 = .ok (.getfield 25, 3) := by decide +kernel
theorem dX3_takeInt_44 : decode cX3_takeInt 44 = .ok (.invokevirtual 99, 3) := by decide +kernel
theorem dX3_takeInt_47 : decode cX3_takeInt 47 = .ok (.lload_n 3, 1) := by decide +kernel
theorem dX3_takeInt_48 : decode cX3_takeInt 48 = .ok (.l2i, 1) := by decide +kernel
theorem dX3_takeInt_49 : decode cX3_takeInt 49 = .ok (.ireturn, 1) := by decide +kernel
theorem dX3_takeNewName_0 : decode cX3_takeNewName 0 = .ok (.aload_n 0, 1) := by decide +kernel
theorem dX3_takeNewName_1 : decode cX3_takeNewName 1 = .ok (.getfield 25, 3) := by decide +kernel
theorem dX3_takeNewName_4 : decode cX3_takeNewName 4 = .ok (.getfield 135, 3) := by decide +kernel
theorem dX3_takeNewName_7 : decode cX3_takeNewName 7 = .ok (.lstore_n 1, 1) := by decide +kernel
theorem dX3_takeNewName_8 : decode cX3_takeNewName 8 = .ok (.aload_n 0, 1) := by decide +kernel
theorem dX3_takeNewName_9 : decode cX3_takeNewName 9 = .ok (.getfield 25, 3) := by decide +kernel
theorem dX3_takeNewName_12 : decode cX3_takeNewName 12 = .ok (.getfield 80, 3) := by decide +kernel
theorem dX3_takeNewName_15 : decode cX3_takeNewName 15 = .ok (.iconst 2, 1) := by decide +kernel
theorem dX3_takeNewName_16 : decode cX3_takeNewName 16 = .ok (.if_icmp .ne 14, 3) := by decide +kernel
theorem dX3_takeNewName_19 : decode cX3_takeNewName 19 = .ok (.aload_n 0, 1) := by decide +kernel
theorem dX3_takeNewName_20 : decode cX3_takeNewName 20 = .ok (.getfield 18, 3) := by decide +kernel
theorem dX3_takeNewName_23 : decode cX3_takeNewName 23 = .ok (.lload_n 1, 1) := by decide +kernel
theorem dX3_takeNewName_24 : decode cX3_takeNewName 24 = .ok (.invokevirtual 117, 3) := by decide +kernel
theorem dX3_takeNewName_27 : decode cX3_takeNewName 27 = .ok (.ifCond .lt 10, 3) := by decide +kernel
theorem dX3_takeNewName_30 : decode cX3_takeNewName 30 = .ok (.aload_n 0, 1) := by decide +kernel
theorem dX3_takeNewName_31 : decode cX3_takeNewName 31 = .ok (.invokevirtual 102, 3) := by decide +kernel
theorem dX3_takeNewName_34 : decode cX3_takeNewName 34 = .ok (.pop, 1) := by decide +kernel
theorem dX3_takeNewName_35 : decode cX3_takeNewName 35 = .ok (.lconst 0, 1) := by decide +kernel
theorem dX3_takeNewName_36 : decode cX3_takeNewName 36 = .ok (.lreturn, 1) := by decide +kernel
theorem dX3_takeNewName_37 : decode cX3_takeNewName 37 = .ok (.aload_n 0, 1) := by decide +kernel
theorem dX3_takeNewName_38 : decode cX3_takeNewName 38 = .ok (.getfield 25, 3) := by decide +kernel
theorem dX3_takeNewName_41 : decode cX3_takeNewName 41 = .ok (.invokevirtual 99, 3) := by decide +kernel
theorem dX3_takeNewName_44 : decode cX3_takeNewName 44 = .ok (.lload_n 1, 1) := by decide +kernel
theorem dX3_takeNewName_45 : decode cX3_takeNewName 45 = .ok (.lreturn, 1) := by decide +kernel
theorem dX3_groupHead_0 : decode cX3_groupHead 0 = .ok (.aload_n 0, 1) := by decide +kernel
theorem dX3_groupHead_1 : decode cX3_groupHead 1 = .ok (.getfield 18, 3) := by decide +kernel
theorem dX3_groupHead_4 : decode cX3_groupHead 4 = .ok (.getfield 139, 3) := by decide +kernel
theorem dX3_groupHead_7 : decode cX3_groupHead 7 = .ok (.istore_n 2, 1) := by decide +kernel
theorem dX3_groupHead_8 : decode cX3_groupHead 8 = .ok (.iload_n 2, 1) := by decide +kernel
theorem dX3_groupHead_9 : decode cX3_groupHead 9 = .ok (.bipush 8, 2) := by decide +kernel
theorem dX3_groupHead_11 : decode cX3_groupHead 11 = .ok (.if_icmp .ge 15, 3) := by decide +kernel
theorem dX3_groupHead_14 : decode cX3_groupHead 14 = .ok (.aload_n 0, 1) := by decide +kernel
theorem dX3_groupHead_15 : decode cX3_groupHead 15 = .ok (.getfield 18, 3) := by decide +kernel
theorem dX3_groupHead_18 : decode cX3_groupHead 18 = .ok (.iload_n 1, 1) := by decide +kernel
theorem dX3_groupHead_19 : decode cX3_groupHead 19 = .ok (.invokevirtual 142, 3) := by decide +kernel
theorem dX3_groupHead_22 : decode cX3_groupHead 22 = .ok (.iconst 4, 1) := by decide +kernel
theorem dX3_groupHead_23 : decode cX3_groupHead 23 = .ok (.if_icmp .lt 10, 3) := by decide +kernel
theorem dX3_groupHead_26 : decode cX3_groupHead 26 = .ok (.aload_n 0, 1) := by decide +kernel
theorem dX3_groupHead_27 : decode cX3_groupHead 27 = .ok (.invokevirtual 102, 3) := by decide +kernel
theorem dX3_groupHead_30 : decode cX3_groupHead 30 = .ok (.pop, 1) := by decide +kernel
theorem dX3_groupHead_31 : decode cX3_groupHead 31 = .ok (.iconst (-1), 1) := by decide +kernel
theorem dX3_groupHead_32 : decode cX3_groupHead 32 = .ok (.ireturn, 1) := by decide +kernel
theorem dX3_groupHead_33 : decode cX3_groupHead 33 = .ok (.aload_n 0, 1) := by decide +kernel
theorem dX3_groupHead_34 : decode cX3_groupHead 34 = .ok (.getfield 25, 3) := by decide +kernel
theorem dX3_groupHead_37 : decode cX3_groupHead 37 = .ok (.invokevirtual 99, 3) := by decide +kernel
theorem dX3_groupHead_40 : decode cX3_groupHead 40 = .ok (.aload_n 0, 1) := by decide +kernel
theorem dX3_groupHead_41 : decode cX3_groupHead 41 = .ok (.invokevirtual 145, 3) := by decide +kernel
theorem dX3_groupHead_44 : decode cX3_groupHead 44 = .ok (.lstore_n 3, 1) := by decide +kernel
theorem dX3_groupHead_45 : decode cX3_groupHead 45 = .ok (.lload_n 3, 1) := by decide +kernel
theorem dX3_groupHead_46 : decode cX3_groupHead 46 = .ok (.lconst 0, 1) := by decide +kernel
theorem dX3_groupHead_47 : decode cX3_groupHead 47 = .ok (.lcmp, 1) := by decide +kernel
theorem dX3_groupHead_48 : decode cX3_groupHead 48 = .ok (.ifCond .ne 7, 3) := by decide +kernel
theorem dX3_groupHead_51 : decode cX3_groupHead 51 = .ok (.aconst_null, 1) := by decide +kernel
theorem dX3_groupHead_52 : decode cX3_groupHead 52 = .ok (.goto 15, 3) := by decide +kernel
theorem dX3_groupHead_55 : decode cX3_groupHead 55 = .ok (.aload_n 0, 1) := by decide +kernel
theorem dX3_groupHead_56 : decode cX3_groupHead 56 = .ok (.getfield 18, 3) := by decide +kernel
theorem dX3_groupHead_59 : decode cX3_groupHead 59 = .ok (.bipush 24, 2) := by decide +kernel
theorem dX3_groupHead_61 : decode cX3_groupHead 61 = .ok (.iload_n 2, 1) := by decide +kernel
theorem dX3_groupHead_62 : decode cX3_groupHead 62 = .ok (.iadd, 1) := by decide +kernel
theorem dX3_groupHead_63 : decode cX3_groupHead 63 = .ok (.iload_n 1, 1) := by decide +kernel
theorem dX3_groupHead_64 : decode cX3_groupHead 64 = .ok (.invokevirtual 149, 3) := by decide +kernel
theorem dX3_groupHead_67 : decode cX3_groupHead 67 = .ok (.astore 5, 2) := by decide +kernel
theorem dX3_groupHead_69 : decode cX3_groupHead 69 = .ok (.aload 5, 2) := by decide +kernel
theorem dX3_groupHead_71 : decode cX3_groupHead 71 = .ok (.ifnonnull 5, 3) := by decide +kernel
theorem dX3_groupHead_74 : decode cX3_groupHead 74 = .ok (.iconst (-1), 1) := by decide +kernel
theorem dX3_groupHead_75 : decode cX3_groupHead 75 = .ok (.ireturn, 1) := by decide +kernel
theorem dX3_groupHead_76 : decode cX3_groupHead 76 = .ok (.aload_n 0, 1) := by decide +kernel
theorem dX3_groupHead_77 : decode cX3_groupHead 77 = .ok (.getfield 18, 3) := by decide +kernel
theorem dX3_groupHead_80 : decode cX3_groupHead 80 = .ok (.iload_n 2, 1) := by decide +kernel
theorem dX3_groupHead_81 : decode cX3_groupHead 81 = .ok (.iconst 1, 1) := by decide +kernel
theorem dX3_groupHead_82 : decode cX3_groupHead 82 = .ok (.iadd, 1) := by decide +kernel
theorem dX3_groupHead_83 : decode cX3_groupHead 83 = .ok (.putfield 139, 3) := by decide +kernel
theorem dX3_groupHead_86 : decode cX3_groupHead 86 = .ok (.aload 5, 2) := by decide +kernel
theorem dX3_groupHead_88 : decode cX3_groupHead 88 = .ok (.lload_n 3, 1) := by decide +kernel
theorem dX3_groupHead_89 : decode cX3_groupHead 89 = .ok (.putfield 153, 3) := by decide +kernel
theorem dX3_groupHead_92 : decode cX3_groupHead 92 = .ok (.aload 5, 2) := by decide +kernel
theorem dX3_groupHead_94 : decode cX3_groupHead 94 = .ok (.iconst 3, 1) := by decide +kernel
theorem dX3_groupHead_95 : decode cX3_groupHead 95 = .ok (.putfield 156, 3) := by decide +kernel
theorem dX3_groupHead_98 : decode cX3_groupHead 98 = .ok (.aload_n 0, 1) := by decide +kernel
theorem dX3_groupHead_99 : decode cX3_groupHead 99 = .ok (.getfield 25, 3) := by decide +kernel
theorem dX3_groupHead_102 : decode cX3_groupHead 102 = .ok (.getfield 80, 3) := by decide +kernel
theorem dX3_groupHead_105 : decode cX3_groupHead 105 = .ok (.bipush 6, 2) := by decide +kernel
theorem dX3_groupHead_107 : decode cX3_groupHead 107 = .ok (.if_icmp .ne 25, 3) := by decide +kernel
theorem dX3_groupHead_110 : decode cX3_groupHead 110 = .ok (.aload_n 0, 1) := by decide +kernel
theorem dX3_groupHead_111 : decode cX3_groupHead 111 = .ok (.getfield 25, 3) := by decide +kernel
theorem dX3_groupHead_114 : decode cX3_groupHead 114 = .ok (.invokevirtual 99, 3) := by decide +kernel
theorem dX3_groupHead_117 : decode cX3_groupHead 117 = .ok (.aload_n 0, 1) := by decide +kernel
theorem dX3_groupHead_118 : decode cX3_groupHead 118 = .ok (.bipush 24, 2) := by decide +kernel
theorem dX3_groupHead_120 : decode cX3_groupHead 120 = .ok (.iload_n 2, 1) := by decide +kernel
theorem dX3_groupHead_121 : decode cX3_groupHead 121 = .ok (.iadd, 1) := by decide +kernel
theorem dX3_groupHead_122 : decode cX3_groupHead 122 = .ok (.aload 5, 2) := by decide +kernel
theorem dX3_groupHead_124 : decode cX3_groupHead 124 = .ok (.invokevirtual 114, 3) := by decide +kernel
theorem dX3_groupHead_127 : decode cX3_groupHead 127 = .ok (.ifCond .ne 5, 3) := by decide +kernel
theorem dX3_groupHead_130 : decode cX3_groupHead 130 = .ok (.iconst (-1), 1) := by decide +kernel
theorem dX3_groupHead_131 : decode cX3_groupHead 131 = .ok (.ireturn, 1) := by decide +kernel
theorem dX3_groupHead_132 : decode cX3_groupHead 132 = .ok (.aload_n 0, 1) := by decide +kernel
theorem dX3_groupHead_133 : decode cX3_groupHead 133 = .ok (.bipush 123, 2) := by decide +kernel
theorem dX3_groupHead_135 : decode cX3_groupHead 135 = .ok (.invokevirtual 63, 3) := by decide +kernel
theorem dX3_groupHead_138 : decode cX3_groupHead 138 = .ok (.ifCond .eq 7, 3) := by decide +kernel
theorem dX3_groupHead_141 : decode cX3_groupHead 141 = .ok (.iload_n 2, 1) := by decide +kernel
theorem dX3_groupHead_142 : decode cX3_groupHead 142 = .ok (.goto 4, 3) := by decide +kernel
theorem dX3_groupHead_145 : decode cX3_groupHead 145 = .ok (.iconst (-1), 1) := by decide +kernel
theorem dX3_groupHead_146 : decode cX3_groupHead 146 = .ok (.ireturn, 1) := by decide +kernel
theorem dX3_field_0 : decode cX3_field 0 = .ok (.aload_n 0, 1) := by decide +kernel
theorem dX3_field_1 : decode cX3_field 1 = .ok (.getfield 18, 3) := by decide +kernel
theorem dX3_field_4 : decode cX3_field 4 = .ok (.getfield 157, 3) := by decide +kernel
theorem dX3_field_7 : decode cX3_field 7 = .ok (.istore_n 2, 1) := by decide +kernel
theorem dX3_field_8 : decode cX3_field 8 = .ok (.iload_n 2, 1) := by decide +kernel
theorem dX3_field_9 : decode cX3_field 9 = .ok (.bipush 24, 2) := by decide +kernel
theorem dX3_field_11 : decode cX3_field 11 = .ok (.if_icmp .lt 8, 3) := by decide +kernel
theorem dX3_field_14 : decode cX3_field 14 = .ok (.aload_n 0, 1) := by decide +kernel
theorem dX3_field_15 : decode cX3_field 15 = .ok (.invokevirtual 102, 3) := by decide +kernel
theorem dX3_field_18 : decode cX3_field 18 = .ok (.ireturn, 1) := by decide +kernel
theorem dX3_field_19 : decode cX3_field 19 = .ok (.aload_n 0, 1) := by decide +kernel
theorem dX3_field_20 : decode cX3_field 20 = .ok (.getfield 25, 3) := by decide +kernel
theorem dX3_field_23 : decode cX3_field 23 = .ok (.getfield 80, 3) := by decide +kernel
theorem dX3_field_26 : decode cX3_field 26 = .ok (.bipush 8, 2) := by decide +kernel
theorem dX3_field_28 : decode cX3_field 28 = .ok (.isub, 1) := by decide +kernel
theorem dX3_field_29 : decode cX3_field 29 = .ok (.istore_n 3, 1) := by decide +kernel
theorem dX3_field_30 : decode cX3_field 30 = .ok (.aload_n 0, 1) := by decide +kernel
theorem dX3_field_31 : decode cX3_field 31 = .ok (.getfield 25, 3) := by decide +kernel
theorem dX3_field_34 : decode cX3_field 34 = .ok (.invokevirtual 99, 3) := by decide +kernel
theorem dX3_field_37 : decode cX3_field 37 = .ok (.iload_n 3, 1) := by decide +kernel
theorem dX3_field_38 : decode cX3_field 38 = .ok (.ifCond .ne 14, 3) := by decide +kernel
theorem dX3_field_41 : decode cX3_field 41 = .ok (.aload_n 0, 1) := by decide +kernel
theorem dX3_field_42 : decode cX3_field 42 = .ok (.iconst 0, 1) := by decide +kernel
theorem dX3_field_43 : decode cX3_field 43 = .ok (.sipush 9999, 3) := by decide +kernel
theorem dX3_field_46 : decode cX3_field 46 = .ok (.invokevirtual 67, 3) := by decide +kernel
theorem dX3_field_49 : decode cX3_field 49 = .ok (.goto 4, 3) := by decide +kernel
theorem dX3_field_52 : decode cX3_field 52 = .ok (.iconst 0, 1) := by decide +kernel
theorem dX3_field_53 : decode cX3_field 53 = .ok (.istore 4, 2) := by decide +kernel
theorem dX3_field_55 : decode cX3_field 55 = .ok (.iload 4, 2) := by decide +kernel
theorem dX3_field_57 : decode cX3_field 57 = .ok (.ifCond .ge 5, 3) := by decide +kernel
theorem dX3_field_60 : decode cX3_field 60 = .ok (.iconst 0, 1) := by decide +kernel
theorem dX3_field_61 : decode cX3_field 61 = .ok (.ireturn, 1) := by decide +kernel
theorem dX3_field_62 : decode cX3_field 62 = .ok (.aload_n 0, 1) := by decide +kernel
theorem dX3_field_63 : decode cX3_field 63 = .ok (.iload_n 3, 1) := by decide +kernel
theorem dX3_field_64 : decode cX3_field 64 = .ok (.iload 4, 2) := by decide +kernel
theorem dX3_field_66 : decode cX3_field 66 = .ok (.invokevirtual 160, 3) := by decide +kernel
theorem dX3_field_69 : decode cX3_field 69 = .ok (.istore 5, 2) := by decide +kernel
theorem dX3_field_71 : decode cX3_field 71 = .ok (.iload 5, 2) := by decide +kernel
theorem dX3_field_73 : decode cX3_field 73 = .ok (.ifCond .ge 5, 3) := by decide +kernel
theorem dX3_field_76 : decode cX3_field 76 = .ok (.iconst 0, 1) := by decide +kernel
theorem dX3_field_77 : decode cX3_field 77 = .ok (.ireturn, 1) := by decide +kernel
theorem dX3_field_78 : decode cX3_field 78 = .ok (.aload_n 0, 1) := by decide +kernel
theorem dX3_field_79 : decode cX3_field 79 = .ok (.invokevirtual 145, 3) := by decide +kernel
theorem dX3_field_82 : decode cX3_field 82 = .ok (.lstore 6, 2) := by decide +kernel
theorem dX3_field_84 : decode cX3_field 84 = .ok (.lload 6, 2) := by decide +kernel
theorem dX3_field_86 : decode cX3_field 86 = .ok (.lconst 0, 1) := by decide +kernel
theorem dX3_field_87 : decode cX3_field 87 = .ok (.lcmp, 1) := by decide +kernel
theorem dX3_field_88 : decode cX3_field 88 = .ok (.ifCond .ne 7, 3) := by decide +kernel
theorem dX3_field_91 : decode cX3_field 91 = .ok (.aconst_null, 1) := by decide +kernel
theorem dX3_field_92 : decode cX3_field 92 = .ok (.goto 12, 3) := by decide +kernel
theorem dX3_field_95 : decode cX3_field 95 = .ok (.aload_n 0, 1) := by decide +kernel
theorem dX3_field_96 : decode cX3_field 96 = .ok (.getfield 18, 3) := by decide +kernel
theorem dX3_field_99 : decode cX3_field 99 = .ok (.iload_n 2, 1) := by decide +kernel
theorem dX3_field_100 : decode cX3_field 100 = .ok (.iload_n 1, 1) := by decide +kernel
theorem dX3_field_101 : decode cX3_field 101 = .ok (.invokevirtual 149, 3) := by decide +kernel
theorem dX3_field_104 : decode cX3_field 104 = .ok (.astore 8, 2) := by decide +kernel
theorem dX3_field_106 : decode cX3_field 106 = .ok (.aload 8, 2) := by decide +kernel
theorem dX3_field_108 : decode cX3_field 108 = .ok (.ifnonnull 5, 3) := by decide +kernel
theorem dX3_field_111 : decode cX3_field 111 = .ok (.iconst 0, 1) := by decide +kernel
theorem dX3_field_112 : decode cX3_field 112 = .ok (.ireturn, 1) := by decide +kernel
theorem dX3_field_113 : decode cX3_field 113 = .ok (.aload_n 0, 1) := by decide +kernel
theorem dX3_field_114 : decode cX3_field 114 = .ok (.getfield 18, 3) := by decide +kernel
theorem dX3_field_117 : decode cX3_field 117 = .ok (.iload_n 2, 1) := by decide +kernel
theorem dX3_field_118 : decode cX3_field 118 = .ok (.iconst 1, 1) := by decide +kernel
theorem dX3_field_119 : decode cX3_field 119 = .ok (.iadd, 1) := by decide +kernel
theorem dX3_field_120 : decode cX3_field 120 = .ok (.putfield 157, 3) := by decide +kernel
theorem dX3_field_123 : decode cX3_field 123 = .ok (.aload 8, 2) := by decide +kernel
theorem dX3_field_125 : decode cX3_field 125 = .ok (.lload 6, 2) := by decide +kernel
theorem dX3_field_127 : decode cX3_field 127 = .ok (.putfield 153, 3) := by decide +kernel
theorem dX3_field_130 : decode cX3_field 130 = .ok (.aload 8, 2) := by decide +kernel
theorem dX3_field_132 : decode cX3_field 132 = .ok (.iload_n 3, 1) := by decide +kernel
theorem dX3_field_133 : decode cX3_field 133 = .ok (.putfield 156, 3) := by decide +kernel
theorem dX3_field_136 : decode cX3_field 136 = .ok (.aload 8, 2) := by decide +kernel
theorem dX3_field_138 : decode cX3_field 138 = .ok (.iload 4, 2) := by decide +kernel
theorem dX3_field_140 : decode cX3_field 140 = .ok (.putfield 163, 3) := by decide +kernel
theorem dX3_field_143 : decode cX3_field 143 = .ok (.aload 8, 2) := by decide +kernel
theorem dX3_field_145 : decode cX3_field 145 = .ok (.iload 5, 2) := by decide +kernel
theorem dX3_field_147 : decode cX3_field 147 = .ok (.putfield 166, 3) := by decide +kernel
theorem dX3_field_150 : decode cX3_field 150 = .ok (.aload_n 0, 1) := by decide +kernel
theorem dX3_field_151 : decode cX3_field 151 = .ok (.bipush 7, 2) := by decide +kernel
theorem dX3_field_153 : decode cX3_field 153 = .ok (.invokevirtual 63, 3) := by decide +kernel
theorem dX3_field_156 : decode cX3_field 156 = .ok (.ifCond .ne 5, 3) := by decide +kernel
theorem dX3_field_159 : decode cX3_field 159 = .ok (.iconst 0, 1) := by decide +kernel
theorem dX3_field_160 : decode cX3_field 160 = .ok (.ireturn, 1) := by decide +kernel
theorem dX3_field_161 : decode cX3_field 161 = .ok (.aload 8, 2) := by decide +kernel
theorem dX3_field_163 : decode cX3_field 163 = .ok (.aload_n 0, 1) := by decide +kernel
theorem dX3_field_164 : decode cX3_field 164 = .ok (.iconst 1, 1) := by decide +kernel
theorem dX3_field_165 : decode cX3_field 165 = .ok (.bipush 10, 2) := by decide +kernel
theorem dX3_field_167 : decode cX3_field 167 = .ok (.invokevirtual 67, 3) := by decide +kernel
theorem dX3_field_170 : decode cX3_field 170 = .ok (.putfield 169, 3) := by decide +kernel
theorem dX3_field_173 : decode cX3_field 173 = .ok (.aload 8, 2) := by decide +kernel
theorem dX3_field_175 : decode cX3_field 175 = .ok (.getfield 169, 3) := by decide +kernel
theorem dX3_field_178 : decode cX3_field 178 = .ok (.ifCond .ge 5, 3) := by decide +kernel
theorem dX3_field_181 : decode cX3_field 181 = .ok (.iconst 0, 1) := by decide +kernel
theorem dX3_field_182 : decode cX3_field 182 = .ok (.ireturn, 1) := by decide +kernel
theorem dX3_field_183 : decode cX3_field 183 = .ok (.aload_n 0, 1) := by decide +kernel
theorem dX3_field_184 : decode cX3_field 184 = .ok (.getfield 25, 3) := by decide +kernel
theorem dX3_field_187 : decode cX3_field 187 = .ok (.getfield 80, 3) := by decide +kernel
theorem dX3_field_190 : decode cX3_field 190 = .ok (.bipush 6, 2) := by decide +kernel
theorem dX3_field_192 : decode cX3_field 192 = .ok (.if_icmp .ne 22, 3) := by decide +kernel
theorem dX3_field_195 : decode cX3_field 195 = .ok (.aload_n 0, 1) := by decide +kernel
theorem dX3_field_196 : decode cX3_field 196 = .ok (.getfield 25, 3) := by decide +kernel
theorem dX3_field_199 : decode cX3_field 199 = .ok (.invokevirtual 99, 3) := by decide +kernel
theorem dX3_field_202 : decode cX3_field 202 = .ok (.aload_n 0, 1) := by decide +kernel
theorem dX3_field_203 : decode cX3_field 203 = .ok (.iload_n 2, 1) := by decide +kernel
theorem dX3_field_204 : decode cX3_field 204 = .ok (.aload 8, 2) := by decide +kernel
theorem dX3_field_206 : decode cX3_field 206 = .ok (.invokevirtual 114, 3) := by decide +kernel
theorem dX3_field_209 : decode cX3_field 209 = .ok (.ifCond .ne 5, 3) := by decide +kernel
theorem dX3_field_212 : decode cX3_field 212 = .ok (.iconst 0, 1) := by decide +kernel
theorem dX3_field_213 : decode cX3_field 213 = .ok (.ireturn, 1) := by decide +kernel
theorem dX3_field_214 : decode cX3_field 214 = .ok (.aload_n 0, 1) := by decide +kernel
theorem dX3_field_215 : decode cX3_field 215 = .ok (.bipush 59, 2) := by decide +kernel
theorem dX3_field_217 : decode cX3_field 217 = .ok (.invokevirtual 63, 3) := by decide +kernel
theorem dX3_field_220 : decode cX3_field 220 = .ok (.ireturn, 1) := by decide +kernel
theorem dX3_takeHighest_0 : decode cX3_takeHighest 0 = .ok (.iload_n 1, 1) := by decide +kernel
theorem dX3_takeHighest_1 : decode cX3_takeHighest 1 = .ok (.lookupswitch 46 #[(0, 27), (1, 36)], 27) := by decide +kernel
theorem dX3_takeHighest_28 : decode cX3_takeHighest 28 = .ok (.aload_n 0, 1) := by decide +kernel
theorem dX3_takeHighest_29 : decode cX3_takeHighest 29 = .ok (.iload_n 2, 1) := by decide +kernel
theorem dX3_takeHighest_30 : decode cX3_takeHighest 30 = .ok (.sipush 9999, 3) := by decide +kernel
theorem dX3_takeHighest_33 : decode cX3_takeHighest 33 = .ok (.invokevirtual 67, 3) := by decide +kernel
theorem dX3_takeHighest_36 : decode cX3_takeHighest 36 = .ok (.ireturn, 1) := by decide +kernel
theorem dX3_takeHighest_37 : decode cX3_takeHighest 37 = .ok (.aload_n 0, 1) := by decide +kernel
theorem dX3_takeHighest_38 : decode cX3_takeHighest 38 = .ok (.iconst 2, 1) := by decide +kernel
theorem dX3_takeHighest_39 : decode cX3_takeHighest 39 = .ok (.bipush 9, 2) := by decide +kernel
theorem dX3_takeHighest_41 : decode cX3_takeHighest 41 = .ok (.invokevirtual 67, 3) := by decide +kernel
theorem dX3_takeHighest_44 : decode cX3_takeHighest 44 = .ok (.iconst 1, 1) := by decide +kernel
theorem dX3_takeHighest_45 : decode cX3_takeHighest 45 = .ok (.isub, 1) := by decide +kernel
theorem dX3_takeHighest_46 : decode cX3_takeHighest 46 = .ok (.ireturn, 1) := by decide +kernel
theorem dX3_takeHighest_47 : decode cX3_takeHighest 47 = .ok (.iconst 1, 1) := by decide +kernel
theorem dX3_takeHighest_48 : decode cX3_takeHighest 48 = .ok (.ireturn, 1) := by decide +kernel
theorem dX3_condition_0 : decode cX3_condition 0 = .ok (.aload_n 0, 1) := by decide +kernel
theorem dX3_condition_1 : decode cX3_condition 1 = .ok (.getfield 57, 3) := by decide +kernel
theorem dX3_condition_4 : decode cX3_condition 4 = .ok (.istore_n 3, 1) := by decide +kernel
theorem dX3_condition_5 : decode cX3_condition 5 = .ok (.aload_n 0, 1) := by decide +kernel
theorem dX3_condition_6 : decode cX3_condition 6 = .ok (.iload_n 1, 1) := by decide +kernel
theorem dX3_condition_7 : decode cX3_condition 7 = .ok (.putfield 54, 3) := by decide +kernel
theorem dX3_condition_10 : decode cX3_condition 10 = .ok (.aload_n 2, 1) := by decide +kernel
theorem dX3_condition_11 : decode cX3_condition 11 = .ok (.aload_n 0, 1) := by decide +kernel
theorem dX3_condition_12 : decode cX3_condition 12 = .ok (.iconst 0, 1) := by decide +kernel
theorem dX3_condition_13 : decode cX3_condition 13 = .ok (.invokevirtual 172, 3) := by decide +kernel
theorem dX3_condition_16 : decode cX3_condition 16 = .ok (.putfield 106, 3) := by decide +kernel
theorem dX3_condition_19 : decode cX3_condition 19 = .ok (.aload_n 2, 1) := by decide +kernel
theorem dX3_condition_20 : decode cX3_condition 20 = .ok (.aload_n 0, 1) := by decide +kernel
theorem dX3_condition_21 : decode cX3_condition 21 = .ok (.getfield 57, 3) := by decide +kernel
theorem dX3_condition_24 : decode cX3_condition 24 = .ok (.iload_n 3, 1) := by decide +kernel
theorem dX3_condition_25 : decode cX3_condition 25 = .ok (.isub, 1) := by decide +kernel
theorem dX3_condition_26 : decode cX3_condition 26 = .ok (.putfield 110, 3) := by decide +kernel
theorem dX3_condition_29 : decode cX3_condition 29 = .ok (.aload_n 2, 1) := by decide +kernel
theorem dX3_condition_30 : decode cX3_condition 30 = .ok (.getfield 106, 3) := by decide +kernel
theorem dX3_condition_33 : decode cX3_condition 33 = .ok (.ifnull 7, 3) := by decide +kernel
theorem dX3_condition_36 : decode cX3_condition 36 = .ok (.iconst 1, 1) := by decide +kernel
theorem dX3_condition_37 : decode cX3_condition 37 = .ok (.goto 4, 3) := by decide +kernel
theorem dX3_condition_40 : decode cX3_condition 40 = .ok (.iconst 0, 1) := by decide +kernel
theorem dX3_condition_41 : decode cX3_condition 41 = .ok (.ireturn, 1) := by decide +kernel
theorem dX3_disjunction_0 : decode cX3_disjunction 0 = .ok (.aload_n 0, 1) := by decide +kernel
theorem dX3_disjunction_1 : decode cX3_disjunction 1 = .ok (.iload_n 1, 1) := by decide +kernel
theorem dX3_disjunction_2 : decode cX3_disjunction 2 = .ok (.invokevirtual 176, 3) := by decide +kernel
theorem dX3_disjunction_5 : decode cX3_disjunction 5 = .ok (.astore_n 2, 1) := by decide +kernel
theorem dX3_disjunction_6 : decode cX3_disjunction 6 = .ok (.aload_n 2, 1) := by decide +kernel
theorem dX3_disjunction_7 : decode cX3_disjunction 7 = .ok (.ifnull 15, 3) := by decide +kernel
theorem dX3_disjunction_10 : decode cX3_disjunction 10 = .ok (.aload_n 0, 1) := by decide +kernel
theorem dX3_disjunction_11 : decode cX3_disjunction 11 = .ok (.getfield 25, 3) := by decide +kernel
theorem dX3_disjunction_14 : decode cX3_disjunction 14 = .ok (.getfield 80, 3) := by decide +kernel
theorem dX3_disjunction_17 : decode cX3_disjunction 17 = .ok (.bipush 11, 2) := by decide +kernel
theorem dX3_disjunction_19 : decode cX3_disjunction 19 = .ok (.if_icmp .eq 5, 3) := by decide +kernel
theorem dX3_disjunction_22 : decode cX3_disjunction 22 = .ok (.aload_n 2, 1) := by decide +kernel
theorem dX3_disjunction_23 : decode cX3_disjunction 23 = .ok (.areturn, 1) := by decide +kernel
theorem dX3_disjunction_24 : decode cX3_disjunction 24 = .ok (.new 29, 3) := by decide +kernel
theorem dX3_disjunction_27 : decode cX3_disjunction 27 = .ok (.dup, 1) := by decide +kernel
theorem dX3_disjunction_28 : decode cX3_disjunction 28 = .ok (.bipush 11, 2) := by decide +kernel
theorem dX3_disjunction_30 : decode cX3_disjunction 30 = .ok (.invokespecial 179, 3) := by decide +kernel
theorem dX3_disjunction_33 : decode cX3_disjunction 33 = .ok (.astore_n 3, 1) := by decide +kernel
theorem dX3_disjunction_34 : decode cX3_disjunction 34 = .ok (.aload_n 3, 1) := by decide +kernel
theorem dX3_disjunction_35 : decode cX3_disjunction 35 = .ok (.aload_n 2, 1) := by decide +kernel
theorem dX3_disjunction_36 : decode cX3_disjunction 36 = .ok (.putfield 182, 3) := by decide +kernel
theorem dX3_disjunction_39 : decode cX3_disjunction 39 = .ok (.aload_n 2, 1) := by decide +kernel
theorem dX3_disjunction_40 : decode cX3_disjunction 40 = .ok (.astore 4, 2) := by decide +kernel
theorem dX3_disjunction_42 : decode cX3_disjunction 42 = .ok (.iconst 0, 1) := by decide +kernel
theorem dX3_disjunction_43 : decode cX3_disjunction 43 = .ok (.istore 5, 2) := by decide +kernel
theorem dX3_disjunction_45 : decode cX3_disjunction 45 = .ok (.iload 5, 2) := by decide +kernel
theorem dX3_disjunction_47 : decode cX3_disjunction 47 = .ok (.sipush 1200, 3) := by decide +kernel
theorem dX3_disjunction_50 : decode cX3_disjunction 50 = .ok (.if_icmp .ge 52, 3) := by decide +kernel
theorem dX3_disjunction_53 : decode cX3_disjunction 53 = .ok (.aload_n 0, 1) := by decide +kernel
theorem dX3_disjunction_54 : decode cX3_disjunction 54 = .ok (.getfield 25, 3) := by decide +kernel
theorem dX3_disjunction_57 : decode cX3_disjunction 57 = .ok (.getfield 80, 3) := by decide +kernel
theorem dX3_disjunction_60 : decode cX3_disjunction 60 = .ok (.bipush 11, 2) := by decide +kernel
theorem dX3_disjunction_62 : decode cX3_disjunction 62 = .ok (.if_icmp .ne 40, 3) := by decide +kernel
theorem dX3_disjunction_65 : decode cX3_disjunction 65 = .ok (.aload_n 0, 1) := by decide +kernel
theorem dX3_disjunction_66 : decode cX3_disjunction 66 = .ok (.getfield 25, 3) := by decide +kernel
theorem dX3_disjunction_69 : decode cX3_disjunction 69 = .ok (.invokevirtual 99, 3) := by decide +kernel
theorem dX3_disjunction_72 : decode cX3_disjunction 72 = .ok (.aload 4, 2) := by decide +kernel
theorem dX3_disjunction_74 : decode cX3_disjunction 74 = .ok (.aload_n 0, 1) := by decide +kernel
theorem dX3_disjunction_75 : decode cX3_disjunction 75 = .ok (.iload_n 1, 1) := by decide +kernel
theorem dX3_disjunction_76 : decode cX3_disjunction 76 = .ok (.invokevirtual 176, 3) := by decide +kernel
theorem dX3_disjunction_79 : decode cX3_disjunction 79 = .ok (.putfield 185, 3) := by decide +kernel
theorem dX3_disjunction_82 : decode cX3_disjunction 82 = .ok (.aload 4, 2) := by decide +kernel
theorem dX3_disjunction_84 : decode cX3_disjunction 84 = .ok (.getfield 185, 3) := by decide +kernel
theorem dX3_disjunction_87 : decode cX3_disjunction 87 = .ok (.astore 4, 2) := by decide +kernel
theorem dX3_disjunction_89 : decode cX3_disjunction 89 = .ok (.aload 4, 2) := by decide +kernel
theorem dX3_disjunction_91 : decode cX3_disjunction 91 = .ok (.ifnonnull 5, 3) := by decide +kernel
theorem dX3_disjunction_94 : decode cX3_disjunction 94 = .ok (.aconst_null, 1) := by decide +kernel
theorem dX3_disjunction_95 : decode cX3_disjunction 95 = .ok (.areturn, 1) := by decide +kernel
theorem dX3_disjunction_96 : decode cX3_disjunction 96 = .ok (.iinc 5 1, 3) := by decide +kernel
theorem dX3_disjunction_99 : decode cX3_disjunction 99 = .ok (.goto (-54), 3) := by decide +kernel
theorem dX3_disjunction_102 : decode cX3_disjunction 102 = .ok (.aload_n 3, 1) := by decide +kernel
theorem dX3_disjunction_103 : decode cX3_disjunction 103 = .ok (.areturn, 1) := by decide +kernel
theorem dX3_conjunction_0 : decode cX3_conjunction 0 = .ok (.aload_n 0, 1) := by decide +kernel
theorem dX3_conjunction_1 : decode cX3_conjunction 1 = .ok (.iload_n 1, 1) := by decide +kernel
theorem dX3_conjunction_2 : decode cX3_conjunction 2 = .ok (.invokevirtual 188, 3) := by decide +kernel
theorem dX3_conjunction_5 : decode cX3_conjunction 5 = .ok (.astore_n 2, 1) := by decide +kernel
theorem dX3_conjunction_6 : decode cX3_conjunction 6 = .ok (.aload_n 2, 1) := by decide +kernel
theorem dX3_conjunction_7 : decode cX3_conjunction 7 = .ok (.ifnull 15, 3) := by decide +kernel
theorem dX3_conjunction_10 : decode cX3_conjunction 10 = .ok (.aload_n 0, 1) := by decide +kernel
theorem dX3_conjunction_11 : decode cX3_conjunction 11 = .ok (.getfield 25, 3) := by decide +kernel
theorem dX3_conjunction_14 : decode cX3_conjunction 14 = .ok (.getfield 80, 3) := by decide +kernel
theorem dX3_conjunction_17 : decode cX3_conjunction 17 = .ok (.bipush 12, 2) := by decide +kernel
theorem dX3_conjunction_19 : decode cX3_conjunction 19 = .ok (.if_icmp .eq 5, 3) := by decide +kernel
theorem dX3_conjunction_22 : decode cX3_conjunction 22 = .ok (.aload_n 2, 1) := by decide +kernel
theorem dX3_conjunction_23 : decode cX3_conjunction 23 = .ok (.areturn, 1) := by decide +kernel
theorem dX3_conjunction_24 : decode cX3_conjunction 24 = .ok (.new 29, 3) := by decide +kernel
theorem dX3_conjunction_27 : decode cX3_conjunction 27 = .ok (.dup, 1) := by decide +kernel
theorem dX3_conjunction_28 : decode cX3_conjunction 28 = .ok (.bipush 12, 2) := by decide +kernel
theorem dX3_conjunction_30 : decode cX3_conjunction 30 = .ok (.invokespecial 179, 3) := by decide +kernel
theorem dX3_conjunction_33 : decode cX3_conjunction 33 = .ok (.astore_n 3, 1) := by decide +kernel
theorem dX3_conjunction_34 : decode cX3_conjunction 34 = .ok (.aload_n 3, 1) := by decide +kernel
theorem dX3_conjunction_35 : decode cX3_conjunction 35 = .ok (.aload_n 2, 1) := by decide +kernel
theorem dX3_conjunction_36 : decode cX3_conjunction 36 = .ok (.putfield 182, 3) := by decide +kernel
theorem dX3_conjunction_39 : decode cX3_conjunction 39 = .ok (.aload_n 2, 1) := by decide +kernel
theorem dX3_conjunction_40 : decode cX3_conjunction 40 = .ok (.astore 4, 2) := by decide +kernel
theorem dX3_conjunction_42 : decode cX3_conjunction 42 = .ok (.iconst 0, 1) := by decide +kernel
theorem dX3_conjunction_43 : decode cX3_conjunction 43 = .ok (.istore 5, 2) := by decide +kernel
theorem dX3_conjunction_45 : decode cX3_conjunction 45 = .ok (.iload 5, 2) := by decide +kernel
theorem dX3_conjunction_47 : decode cX3_conjunction 47 = .ok (.sipush 1200, 3) := by decide +kernel
theorem dX3_conjunction_50 : decode cX3_conjunction 50 = .ok (.if_icmp .ge 52, 3) := by decide +kernel
theorem dX3_conjunction_53 : decode cX3_conjunction 53 = .ok (.aload_n 0, 1) := by decide +kernel
theorem dX3_conjunction_54 : decode cX3_conjunction 54 = .ok (.getfield 25, 3) := by decide +kernel
theorem dX3_conjunction_57 : decode cX3_conjunction 57 = .ok (.getfield 80, 3) := by decide +kernel
theorem dX3_conjunction_60 : decode cX3_conjunction 60 = .ok (.bipush 12, 2) := by decide +kernel
theorem dX3_conjunction_62 : decode cX3_conjunction 62 = .ok (.if_icmp .ne 40, 3) := by decide +kernel
theorem dX3_conjunction_65 : decode cX3_conjunction 65 = .ok (.aload_n 0, 1) := by decide +kernel
theorem dX3_conjunction_66 : decode cX3_conjunction 66 = .ok (.getfield 25, 3) := by decide +kernel
theorem dX3_conjunction_69 : decode cX3_conjunction 69 = .ok (.invokevirtual 99, 3) := by decide +kernel
theorem dX3_conjunction_72 : decode cX3_conjunction 72 = .ok (.aload 4, 2) := by decide +kernel
theorem dX3_conjunction_74 : decode cX3_conjunction 74 = .ok (.aload_n 0, 1) := by decide +kernel
theorem dX3_conjunction_75 : decode cX3_conjunction 75 = .ok (.iload_n 1, 1) := by decide +kernel
theorem dX3_conjunction_76 : decode cX3_conjunction 76 = .ok (.invokevirtual 188, 3) := by decide +kernel
theorem dX3_conjunction_79 : decode cX3_conjunction 79 = .ok (.putfield 185, 3) := by decide +kernel
theorem dX3_conjunction_82 : decode cX3_conjunction 82 = .ok (.aload 4, 2) := by decide +kernel
theorem dX3_conjunction_84 : decode cX3_conjunction 84 = .ok (.getfield 185, 3) := by decide +kernel
theorem dX3_conjunction_87 : decode cX3_conjunction 87 = .ok (.astore 4, 2) := by decide +kernel
theorem dX3_conjunction_89 : decode cX3_conjunction 89 = .ok (.aload 4, 2) := by decide +kernel
theorem dX3_conjunction_91 : decode cX3_conjunction 91 = .ok (.ifnonnull 5, 3) := by decide +kernel
theorem dX3_conjunction_94 : decode cX3_conjunction 94 = .ok (.aconst_null, 1) := by decide +kernel
theorem dX3_conjunction_95 : decode cX3_conjunction 95 = .ok (.areturn, 1) := by decide +kernel
theorem dX3_conjunction_96 : decode cX3_conjunction 96 = .ok (.iinc 5 1, 3) := by decide +kernel
theorem dX3_conjunction_99 : decode cX3_conjunction 99 = .ok (.goto (-54), 3) := by decide +kernel
theorem dX3_conjunction_102 : decode cX3_conjunction 102 = .ok (.aload_n 3, 1) := by decide +kernel
theorem dX3_conjunction_103 : decode cX3_conjunction 103 = .ok (.areturn, 1) := by decide +kernel
theorem dX3_test_0 : decode cX3_test 0 = .ok (.aload_n 0, 1) := by decide +kernel
theorem dX3_test_1 : decode cX3_test 1 = .ok (.getfield 25, 3) := by decide +kernel
theorem dX3_test_4 : decode cX3_test 4 = .ok (.getfield 80, 3) := by decide +kernel
theorem dX3_test_7 : decode cX3_test 7 = .ok (.istore_n 2, 1) := by decide +kernel
theorem dX3_test_8 : decode cX3_test 8 = .ok (.iload_n 2, 1) := by decide +kernel
theorem dX3_test_9 : decode cX3_test 9 = .ok (.iconst 2, 1) := by decide +kernel
theorem dX3_test_10 : decode cX3_test 10 = .ok (.if_icmp .ne 8, 3) := by decide +kernel
theorem dX3_test_13 : decode cX3_test 13 = .ok (.aload_n 0, 1) := by decide +kernel
theorem dX3_test_14 : decode cX3_test 14 = .ok (.invokevirtual 191, 3) := by decide +kernel
theorem dX3_test_17 : decode cX3_test 17 = .ok (.areturn, 1) := by decide +kernel
theorem dX3_test_18 : decode cX3_test 18 = .ok (.iload_n 2, 1) := by decide +kernel
theorem dX3_test_19 : decode cX3_test 19 = .ok (.bipush 13, 2) := by decide +kernel
theorem dX3_test_21 : decode cX3_test 21 = .ok (.if_icmp .eq 9, 3) := by decide +kernel
theorem dX3_test_24 : decode cX3_test 24 = .ok (.iload_n 2, 1) := by decide +kernel
theorem dX3_test_25 : decode cX3_test 25 = .ok (.bipush 40, 2) := by decide +kernel
theorem dX3_test_27 : decode cX3_test 27 = .ok (.if_icmp .ne 9, 3) := by decide +kernel
theorem dX3_test_30 : decode cX3_test 30 = .ok (.iload_n 1, 1) := by decide +kernel
theorem dX3_test_31 : decode cX3_test 31 = .ok (.bipush 6, 2) := by decide +kernel
theorem dX3_test_33 : decode cX3_test 33 = .ok (.if_icmp .lt 10, 3) := by decide +kernel
theorem dX3_test_36 : decode cX3_test 36 = .ok (.aload_n 0, 1) := by decide +kernel
theorem dX3_test_37 : decode cX3_test 37 = .ok (.invokevirtual 102, 3) := by decide +kernel
theorem dX3_test_40 : decode cX3_test 40 = .ok (.pop, 1) := by decide +kernel
theorem dX3_test_41 : decode cX3_test 41 = .ok (.aconst_null, 1) := by decide +kernel
theorem dX3_test_42 : decode cX3_test 42 = .ok (.areturn, 1) := by decide +kernel
theorem dX3_test_43 : decode cX3_test 43 = .ok (.aload_n 0, 1) := by decide +kernel
theorem dX3_test_44 : decode cX3_test 44 = .ok (.getfield 25, 3) := by decide +kernel
theorem dX3_test_47 : decode cX3_test 47 = .ok (.invokevirtual 99, 3) := by decide +kernel
theorem dX3_test_50 : decode cX3_test 50 = .ok (.iload_n 2, 1) := by decide +kernel
theorem dX3_test_51 : decode cX3_test 51 = .ok (.bipush 13, 2) := by decide +kernel
theorem dX3_test_53 : decode cX3_test 53 = .ok (.if_icmp .ne 11, 3) := by decide +kernel
theorem dX3_test_56 : decode cX3_test 56 = .ok (.aload_n 0, 1) := by decide +kernel
theorem dX3_test_57 : decode cX3_test 57 = .ok (.iload_n 1, 1) := by decide +kernel
theorem dX3_test_58 : decode cX3_test 58 = .ok (.iconst 1, 1) := by decide +kernel
theorem dX3_test_59 : decode cX3_test 59 = .ok (.iadd, 1) := by decide +kernel
theorem dX3_test_60 : decode cX3_test 60 = .ok (.invokevirtual 195, 3) := by decide +kernel
theorem dX3_test_63 : decode cX3_test 63 = .ok (.areturn, 1) := by decide +kernel
theorem dX3_test_64 : decode cX3_test 64 = .ok (.aload_n 0, 1) := by decide +kernel
theorem dX3_test_65 : decode cX3_test 65 = .ok (.iload_n 1, 1) := by decide +kernel
theorem dX3_test_66 : decode cX3_test 66 = .ok (.iconst 1, 1) := by decide +kernel
theorem dX3_test_67 : decode cX3_test 67 = .ok (.iadd, 1) := by decide +kernel
theorem dX3_test_68 : decode cX3_test 68 = .ok (.invokevirtual 172, 3) := by decide +kernel
theorem dX3_test_71 : decode cX3_test 71 = .ok (.astore_n 3, 1) := by decide +kernel
theorem dX3_test_72 : decode cX3_test 72 = .ok (.aload_n 3, 1) := by decide +kernel
theorem dX3_test_73 : decode cX3_test 73 = .ok (.ifnull 16, 3) := by decide +kernel
theorem dX3_test_76 : decode cX3_test 76 = .ok (.aload_n 0, 1) := by decide +kernel
theorem dX3_test_77 : decode cX3_test 77 = .ok (.bipush 41, 2) := by decide +kernel
theorem dX3_test_79 : decode cX3_test 79 = .ok (.invokevirtual 63, 3) := by decide +kernel
theorem dX3_test_82 : decode cX3_test 82 = .ok (.ifCond .eq 7, 3) := by decide +kernel
theorem dX3_test_85 : decode cX3_test 85 = .ok (.aload_n 3, 1) := by decide +kernel
theorem dX3_test_86 : decode cX3_test 86 = .ok (.goto 4, 3) := by decide +kernel
theorem dX3_test_89 : decode cX3_test 89 = .ok (.aconst_null, 1) := by decide +kernel
theorem dX3_test_90 : decode cX3_test 90 = .ok (.areturn, 1) := by decide +kernel
theorem dX3_negation_0 : decode cX3_negation 0 = .ok (.aload_n 0, 1) := by decide +kernel
theorem dX3_negation_1 : decode cX3_negation 1 = .ok (.iload_n 1, 1) := by decide +kernel
theorem dX3_negation_2 : decode cX3_negation 2 = .ok (.invokevirtual 188, 3) := by decide +kernel
theorem dX3_negation_5 : decode cX3_negation 5 = .ok (.astore_n 2, 1) := by decide +kernel
theorem dX3_negation_6 : decode cX3_negation 6 = .ok (.aload_n 2, 1) := by decide +kernel
theorem dX3_negation_7 : decode cX3_negation 7 = .ok (.ifnonnull 5, 3) := by decide +kernel
theorem dX3_negation_10 : decode cX3_negation 10 = .ok (.aconst_null, 1) := by decide +kernel
theorem dX3_negation_11 : decode cX3_negation 11 = .ok (.areturn, 1) := by decide +kernel
theorem dX3_negation_12 : decode cX3_negation 12 = .ok (.new 29, 3) := by decide +kernel
theorem dX3_negation_15 : decode cX3_negation 15 = .ok (.dup, 1) := by decide +kernel
theorem dX3_negation_16 : decode cX3_negation 16 = .ok (.bipush 13, 2) := by decide +kernel
theorem dX3_negation_18 : decode cX3_negation 18 = .ok (.invokespecial 179, 3) := by decide +kernel
theorem dX3_negation_21 : decode cX3_negation 21 = .ok (.astore_n 3, 1) := by decide +kernel
theorem dX3_negation_22 : decode cX3_negation 22 = .ok (.aload_n 3, 1) := by decide +kernel
theorem dX3_negation_23 : decode cX3_negation 23 = .ok (.aload_n 2, 1) := by decide +kernel
theorem dX3_negation_24 : decode cX3_negation 24 = .ok (.putfield 182, 3) := by decide +kernel
theorem dX3_negation_27 : decode cX3_negation 27 = .ok (.aload_n 3, 1) := by decide +kernel
theorem dX3_negation_28 : decode cX3_negation 28 = .ok (.areturn, 1) := by decide +kernel
theorem dX3_nameTest_0 : decode cX3_nameTest 0 = .ok (.aload_n 0, 1) := by decide +kernel
theorem dX3_nameTest_1 : decode cX3_nameTest 1 = .ok (.getfield 57, 3) := by decide +kernel
theorem dX3_nameTest_4 : decode cX3_nameTest 4 = .ok (.ifCond .lt 13, 3) := by decide +kernel
theorem dX3_nameTest_7 : decode cX3_nameTest 7 = .ok (.aload_n 0, 1) := by decide +kernel
theorem dX3_nameTest_8 : decode cX3_nameTest 8 = .ok (.getfield 57, 3) := by decide +kernel
theorem dX3_nameTest_11 : decode cX3_nameTest 11 = .ok (.sipush 1200, 3) := by decide +kernel
theorem dX3_nameTest_14 : decode cX3_nameTest 14 = .ok (.if_icmp .lt 10, 3) := by decide +kernel
theorem dX3_nameTest_17 : decode cX3_nameTest 17 = .ok (.aload_n 0, 1) := by decide +kernel
theorem dX3_nameTest_18 : decode cX3_nameTest 18 = .ok (.invokevirtual 102, 3) := by decide +kernel
theorem dX3_nameTest_21 : decode cX3_nameTest 21 = .ok (.pop, 1) := by decide +kernel
theorem dX3_nameTest_22 : decode cX3_nameTest 22 = .ok (.aconst_null, 1) := by decide +kernel
theorem dX3_nameTest_23 : decode cX3_nameTest 23 = .ok (.areturn, 1) := by decide +kernel
theorem dX3_nameTest_24 : decode cX3_nameTest 24 = .ok (.new 29, 3) := by decide +kernel
theorem dX3_nameTest_27 : decode cX3_nameTest 27 = .ok (.dup, 1) := by decide +kernel
theorem dX3_nameTest_28 : decode cX3_nameTest 28 = .ok (.iconst 2, 1) := by decide +kernel
theorem dX3_nameTest_29 : decode cX3_nameTest 29 = .ok (.invokespecial 179, 3) := by decide +kernel
theorem dX3_nameTest_32 : decode cX3_nameTest 32 = .ok (.astore_n 1, 1) := by decide +kernel
theorem dX3_nameTest_33 : decode cX3_nameTest 33 = .ok (.aload_n 0, 1) := by decide +kernel
theorem dX3_nameTest_34 : decode cX3_nameTest 34 = .ok (.getfield 31, 3) := by decide +kernel
theorem dX3_nameTest_37 : decode cX3_nameTest 37 = .ok (.aload_n 0, 1) := by decide +kernel
theorem dX3_nameTest_38 : decode cX3_nameTest 38 = .ok (.getfield 57, 3) := by decide +kernel
theorem dX3_nameTest_41 : decode cX3_nameTest 41 = .ok (.aload_n 1, 1) := by decide +kernel
theorem dX3_nameTest_42 : decode cX3_nameTest 42 = .ok (.aastore, 1) := by decide +kernel
theorem dX3_nameTest_43 : decode cX3_nameTest 43 = .ok (.aload_n 0, 1) := by decide +kernel
theorem dX3_nameTest_44 : decode cX3_nameTest 44 = .ok (.getfield 35, 3) := by decide +kernel
theorem dX3_nameTest_47 : decode cX3_nameTest 47 = .ok (.aload_n 0, 1) := by decide +kernel
theorem dX3_nameTest_48 : decode cX3_nameTest 48 = .ok (.getfield 57, 3) := by decide +kernel
theorem dX3_nameTest_51 : decode cX3_nameTest 51 = .ok (.aload_n 0, 1) := by decide +kernel
theorem dX3_nameTest_52 : decode cX3_nameTest 52 = .ok (.getfield 25, 3) := by decide +kernel
theorem dX3_nameTest_55 : decode cX3_nameTest 55 = .ok (.getfield 135, 3) := by decide +kernel
theorem dX3_nameTest_58 : decode cX3_nameTest 58 = .ok (.lastore, 1) := by decide +kernel
theorem dX3_nameTest_59 : decode cX3_nameTest 59 = .ok (.aload_n 0, 1) := by decide +kernel
theorem dX3_nameTest_60 : decode cX3_nameTest 60 = .ok (.getfield 39, 3) := by decide +kernel
theorem dX3_nameTest_63 : decode cX3_nameTest 63 = .ok (.aload_n 0, 1) := by decide +kernel
theorem dX3_nameTest_64 : decode cX3_nameTest 64 = .ok (.getfield 57, 3) := by decide +kernel
theorem dX3_nameTest_67 : decode cX3_nameTest 67 = .ok (.aload_n 0, 1) := by decide +kernel
theorem dX3_nameTest_68 : decode cX3_nameTest 68 = .ok (.getfield 25, 3) := by decide +kernel
theorem dX3_nameTest_71 : decode cX3_nameTest 71 = .ok (.getfield 132, 3) := by decide +kernel
theorem dX3_nameTest_74 : decode cX3_nameTest 74 = .ok (.iastore, 1) := by decide +kernel
theorem dX3_nameTest_75 : decode cX3_nameTest 75 = .ok (.aload_n 0, 1) := by decide +kernel
theorem dX3_nameTest_76 : decode cX3_nameTest 76 = .ok (.getfield 43, 3) := by decide +kernel
theorem dX3_nameTest_79 : decode cX3_nameTest 79 = .ok (.aload_n 0, 1) := by decide +kernel
theorem dX3_nameTest_80 : decode cX3_nameTest 80 = .ok (.getfield 57, 3) := by decide +kernel
theorem dX3_nameTest_83 : decode cX3_nameTest 83 = .ok (.aload_n 0, 1) := by decide +kernel
theorem dX3_nameTest_84 : decode cX3_nameTest 84 = .ok (.getfield 54, 3) := by decide +kernel
theorem dX3_nameTest_87 : decode cX3_nameTest 87 = .ok (.iastore, 1) := by decide +kernel
theorem dX3_nameTest_88 : decode cX3_nameTest 88 = .ok (.aload_n 0, 1) := by decide +kernel
theorem dX3_nameTest_89 : decode cX3_nameTest 89 = .ok (.dup, 1) := by decide +kernel
theorem dX3_nameTest_90 : decode cX3_nameTest 90 = .ok (.getfield 57, 3) := by decide +kernel
theorem dX3_nameTest_93 : decode cX3_nameTest 93 = .ok (.iconst 1, 1) := by decide +kernel
theorem dX3_nameTest_94 : decode cX3_nameTest 94 = .ok (.iadd, 1) := by decide +kernel
theorem dX3_nameTest_95 : decode cX3_nameTest 95 = .ok (.putfield 57, 3) := by decide +kernel
theorem dX3_nameTest_98 : decode cX3_nameTest 98 = .ok (.aload_n 0, 1) := by decide +kernel
theorem dX3_nameTest_99 : decode cX3_nameTest 99 = .ok (.getfield 25, 3) := by decide +kernel
theorem dX3_nameTest_102 : decode cX3_nameTest 102 = .ok (.invokevirtual 99, 3) := by decide +kernel
theorem dX3_nameTest_105 : decode cX3_nameTest 105 = .ok (.aload_n 0, 1) := by decide +kernel
theorem dX3_nameTest_106 : decode cX3_nameTest 106 = .ok (.getfield 25, 3) := by decide +kernel
theorem dX3_nameTest_109 : decode cX3_nameTest 109 = .ok (.getfield 80, 3) := by decide +kernel
theorem dX3_nameTest_112 : decode cX3_nameTest 112 = .ok (.istore_n 2, 1) := by decide +kernel
theorem dX3_nameTest_113 : decode cX3_nameTest 113 = .ok (.iload_n 2, 1) := by decide +kernel
theorem dX3_nameTest_114 : decode cX3_nameTest 114 = .ok (.bipush 61, 2) := by decide +kernel
theorem dX3_nameTest_116 : decode cX3_nameTest 116 = .ok (.if_icmp .eq 15, 3) := by decide +kernel
theorem dX3_nameTest_119 : decode cX3_nameTest 119 = .ok (.iload_n 2, 1) := by decide +kernel
theorem dX3_nameTest_120 : decode cX3_nameTest 120 = .ok (.bipush 60, 2) := by decide +kernel
theorem dX3_nameTest_122 : decode cX3_nameTest 122 = .ok (.if_icmp .eq 9, 3) := by decide +kernel
theorem dX3_nameTest_125 : decode cX3_nameTest 125 = .ok (.iload_n 2, 1) := by decide +kernel
theorem dX3_nameTest_126 : decode cX3_nameTest 126 = .ok (.bipush 62, 2) := by decide +kernel
theorem dX3_nameTest_128 : decode cX3_nameTest 128 = .ok (.if_icmp .ne 27, 3) := by decide +kernel
theorem dX3_nameTest_131 : decode cX3_nameTest 131 = .ok (.aload_n 0, 1) := by decide +kernel
theorem dX3_nameTest_132 : decode cX3_nameTest 132 = .ok (.getfield 25, 3) := by decide +kernel
theorem dX3_nameTest_135 : decode cX3_nameTest 135 = .ok (.invokevirtual 99, 3) := by decide +kernel
theorem dX3_nameTest_138 : decode cX3_nameTest 138 = .ok (.aload_n 1, 1) := by decide +kernel
theorem dX3_nameTest_139 : decode cX3_nameTest 139 = .ok (.iload_n 2, 1) := by decide +kernel
theorem dX3_nameTest_140 : decode cX3_nameTest 140 = .ok (.putfield 198, 3) := by decide +kernel
theorem dX3_nameTest_143 : decode cX3_nameTest 143 = .ok (.aload_n 1, 1) := by decide +kernel
theorem dX3_nameTest_144 : decode cX3_nameTest 144 = .ok (.aload_n 0, 1) := by decide +kernel
theorem dX3_nameTest_145 : decode cX3_nameTest 145 = .ok (.iconst 0, 1) := by decide +kernel
theorem dX3_nameTest_146 : decode cX3_nameTest 146 = .ok (.sipush 9999, 3) := by decide +kernel
theorem dX3_nameTest_149 : decode cX3_nameTest 149 = .ok (.invokevirtual 67, 3) := by decide +kernel
theorem dX3_nameTest_152 : decode cX3_nameTest 152 = .ok (.putfield 201, 3) := by decide +kernel
theorem dX3_nameTest_155 : decode cX3_nameTest 155 = .ok (.aload_n 1, 1) := by decide +kernel
theorem dX3_nameTest_156 : decode cX3_nameTest 156 = .ok (.getfield 201, 3) := by decide +kernel
theorem dX3_nameTest_159 : decode cX3_nameTest 159 = .ok (.ifCond .ge 7, 3) := by decide +kernel
theorem dX3_nameTest_162 : decode cX3_nameTest 162 = .ok (.aconst_null, 1) := by decide +kernel
theorem dX3_nameTest_163 : decode cX3_nameTest 163 = .ok (.goto 4, 3) := by decide +kernel
theorem dX3_nameTest_166 : decode cX3_nameTest 166 = .ok (.aload_n 1, 1) := by decide +kernel
theorem dX3_nameTest_167 : decode cX3_nameTest 167 = .ok (.areturn, 1) := by decide +kernel
theorem dX7_init_0 : decode cX7_init 0 = .ok (.aload_n 0, 1) := by decide +kernel
theorem dX7_init_1 : decode cX7_init 1 = .ok (.invokespecial 3, 3) := by decide +kernel
theorem dX7_init_4 : decode cX7_init 4 = .ok (.aload_n 0, 1) := by decide +kernel
theorem dX7_init_5 : decode cX7_init 5 = .ok (.sipush 1200, 3) := by decide +kernel
theorem dX7_init_8 : decode cX7_init 8 = .ok (.newarray .int, 2) := by decide +kernel
theorem dX7_init_10 : decode cX7_init 10 = .ok (.putfield 9, 3) := by decide +kernel
theorem dX7_init_13 : decode cX7_init 13 = .ok (.aload_n 0, 1) := by decide +kernel
theorem dX7_init_14 : decode cX7_init 14 = .ok (.sipush 1200, 3) := by decide +kernel
theorem dX7_init_17 : decode cX7_init 17 = .ok (.newarray .int, 2) := by decide +kernel
theorem dX7_init_19 : decode cX7_init 19 = .ok (.putfield 15, 3) := by decide +kernel
theorem dX7_init_22 : decode cX7_init 22 = .ok (.aload_n 0, 1) := by decide +kernel
theorem dX7_init_23 : decode cX7_init 23 = .ok (.sipush 1200, 3) := by decide +kernel
theorem dX7_init_26 : decode cX7_init 26 = .ok (.newarray .int, 2) := by decide +kernel
theorem dX7_init_28 : decode cX7_init 28 = .ok (.putfield 18, 3) := by decide +kernel
theorem dX7_init_31 : decode cX7_init 31 = .ok (.aload_n 0, 1) := by decide +kernel
theorem dX7_init_32 : decode cX7_init 32 = .ok (.sipush 1200, 3) := by decide +kernel
theorem dX7_init_35 : decode cX7_init 35 = .ok (.newarray .long, 2) := by decide +kernel
theorem dX7_init_37 : decode cX7_init 37 = .ok (.putfield 21, 3) := by decide +kernel
theorem dX7_init_40 : decode cX7_init 40 = .ok (.aload_n 0, 1) := by decide +kernel
theorem dX7_init_41 : decode cX7_init 41 = .ok (.bipush 10, 2) := by decide +kernel
theorem dX7_init_43 : decode cX7_init 43 = .ok (.newarray .long, 2) := by decide +kernel
theorem dX7_init_45 : decode cX7_init 45 = .ok (.putfield 25, 3) := by decide +kernel
theorem dX7_init_48 : decode cX7_init 48 = .ok (.iconst 0, 1) := by decide +kernel
theorem dX7_init_49 : decode cX7_init 49 = .ok (.istore_n 1, 1) := by decide +kernel
theorem dX7_init_50 : decode cX7_init 50 = .ok (.iload_n 1, 1) := by decide +kernel
theorem dX7_init_51 : decode cX7_init 51 = .ok (.bipush 10, 2) := by decide +kernel
theorem dX7_init_53 : decode cX7_init 53 = .ok (.if_icmp .ge 24, 3) := by decide +kernel
theorem dX7_init_56 : decode cX7_init 56 = .ok (.aload_n 0, 1) := by decide +kernel
theorem dX7_init_57 : decode cX7_init 57 = .ok (.getfield 25, 3) := by decide +kernel
theorem dX7_init_60 : decode cX7_init 60 = .ok (.iload_n 1, 1) := by decide +kernel
theorem dX7_init_61 : decode cX7_init 61 = .ok (.iconst 4, 1) := by decide +kernel
theorem dX7_init_62 : decode cX7_init 62 = .ok (.iload_n 1, 1) := by decide +kernel
theorem dX7_init_63 : decode cX7_init 63 = .ok (.iadd, 1) := by decide +kernel
theorem dX7_init_64 : decode cX7_init 64 = .ok (.invokestatic 28, 3) := by decide +kernel
theorem dX7_init_67 : decode cX7_init 67 = .ok (.invokestatic 32, 3) := by decide +kernel
theorem dX7_init_70 : decode cX7_init 70 = .ok (.lastore, 1) := by decide +kernel
theorem dX7_init_71 : decode cX7_init 71 = .ok (.iinc 1 1, 3) := by decide +kernel
theorem dX7_init_74 : decode cX7_init 74 = .ok (.goto (-24), 3) := by decide +kernel
theorem dX7_init_77 : decode cX7_init 77 = .ok (.return_, 1) := by decide +kernel
theorem dX7_read_0 : decode cX7_read 0 = .ok (.aload_n 0, 1) := by decide +kernel
theorem dX7_read_1 : decode cX7_read 1 = .ok (.iconst 0, 1) := by decide +kernel
theorem dX7_read_2 : decode cX7_read 2 = .ok (.putfield 36, 3) := by decide +kernel
theorem dX7_read_5 : decode cX7_read 5 = .ok (.aload_n 0, 1) := by decide +kernel
theorem dX7_read_6 : decode cX7_read 6 = .ok (.iload_n 2, 1) := by decide +kernel
theorem dX7_read_7 : decode cX7_read 7 = .ok (.putfield 40, 3) := by decide +kernel
theorem dX7_read_10 : decode cX7_read 10 = .ok (.iconst 0, 1) := by decide +kernel
theorem dX7_read_11 : decode cX7_read 11 = .ok (.istore_n 3, 1) := by decide +kernel
theorem dX7_read_12 : decode cX7_read 12 = .ok (.iconst 0, 1) := by decide +kernel
theorem dX7_read_13 : decode cX7_read 13 = .ok (.istore 4, 2) := by decide +kernel
theorem dX7_read_15 : decode cX7_read 15 = .ok (.iload 4, 2) := by decide +kernel
theorem dX7_read_17 : decode cX7_read 17 = .ok (.iload_n 2, 1) := by decide +kernel
theorem dX7_read_18 : decode cX7_read 18 = .ok (.if_icmp .ge 74, 3) := by decide +kernel
theorem dX7_read_21 : decode cX7_read 21 = .ok (.iload 4, 2) := by decide +kernel
theorem dX7_read_23 : decode cX7_read 23 = .ok (.aload_n 1, 1) := by decide +kernel
theorem dX7_read_24 : decode cX7_read 24 = .ok (.arraylength, 1) := by decide +kernel
theorem dX7_read_25 : decode cX7_read 25 = .ok (.if_icmp .ge 67, 3) := by decide +kernel
theorem dX7_read_28 : decode cX7_read 28 = .ok (.iload 4, 2) := by decide +kernel
theorem dX7_read_30 : decode cX7_read 30 = .ok (.sipush 1200, 3) := by decide +kernel
theorem dX7_read_33 : decode cX7_read 33 = .ok (.if_icmp .ge 59, 3) := by decide +kernel
theorem dX7_read_36 : decode cX7_read 36 = .ok (.aload_n 1, 1) := by decide +kernel
theorem dX7_read_37 : decode cX7_read 37 = .ok (.iload 4, 2) := by decide +kernel
theorem dX7_read_39 : decode cX7_read 39 = .ok (.baload, 1) := by decide +kernel
theorem dX7_read_40 : decode cX7_read 40 = .ok (.invokestatic 43, 3) := by decide +kernel
theorem dX7_read_43 : decode cX7_read 43 = .ok (.istore 5, 2) := by decide +kernel
theorem dX7_read_45 : decode cX7_read 45 = .ok (.iload 5, 2) := by decide +kernel
theorem dX7_read_47 : decode cX7_read 47 = .ok (.iconst 3, 1) := by decide +kernel
theorem dX7_read_48 : decode cX7_read 48 = .ok (.if_icmp .eq 14, 3) := by decide +kernel
theorem dX7_read_51 : decode cX7_read 51 = .ok (.iload 5, 2) := by decide +kernel
theorem dX7_read_53 : decode cX7_read 53 = .ok (.ifCond .eq 17, 3) := by decide +kernel
theorem dX7_read_56 : decode cX7_read 56 = .ok (.iload 5, 2) := by decide +kernel
theorem dX7_read_58 : decode cX7_read 58 = .ok (.iload_n 3, 1) := by decide +kernel
theorem dX7_read_59 : decode cX7_read 59 = .ok (.if_icmp .eq 11, 3) := by decide +kernel
theorem dX7_read_62 : decode cX7_read 62 = .ok (.aload_n 0, 1) := by decide +kernel
theorem dX7_read_63 : decode cX7_read 63 = .ok (.iload 4, 2) := by decide +kernel
theorem dX7_read_65 : decode cX7_read 65 = .ok (.iload 5, 2) := by decide +kernel
theorem dX7_read_67 : decode cX7_read 67 = .ok (.invokevirtual 47, 3) := by decide +kernel
theorem dX7_read_70 : decode cX7_read 70 = .ok (.iload 5, 2) := by decide +kernel
theorem dX7_read_72 : decode cX7_read 72 = .ok (.ifCond .eq 11, 3) := by decide +kernel
theorem dX7_read_75 : decode cX7_read 75 = .ok (.aload_n 0, 1) := by decide +kernel
theorem dX7_read_76 : decode cX7_read 76 = .ok (.aload_n 1, 1) := by decide +kernel
theorem dX7_read_77 : decode cX7_read 77 = .ok (.iload 4, 2) := by decide +kernel
theorem dX7_read_79 : decode cX7_read 79 = .ok (.baload, 1) := by decide +kernel
theorem dX7_read_80 : decode cX7_read 80 = .ok (.invokevirtual 51, 3) := by decide +kernel
theorem dX7_read_83 : decode cX7_read 83 = .ok (.iload 5, 2) := by decide +kernel
theorem dX7_read_85 : decode cX7_read 85 = .ok (.istore_n 3, 1) := by decide +kernel
theorem dX7_read_86 : decode cX7_read 86 = .ok (.iinc 4 1, 3) := by decide +kernel
theorem dX7_read_89 : decode cX7_read 89 = .ok (.goto (-74), 3) := by decide +kernel
theorem dX7_read_92 : decode cX7_read 92 = .ok (.iconst 0, 1) := by decide +kernel
theorem dX7_read_93 : decode cX7_read 93 = .ok (.istore 4, 2) := by decide +kernel
theorem dX7_read_95 : decode cX7_read 95 = .ok (.iload 4, 2) := by decide +kernel
theorem dX7_read_97 : decode cX7_read 97 = .ok (.aload_n 0, 1) := by decide +kernel
theorem dX7_read_98 : decode cX7_read 98 = .ok (.getfield 36, 3) := by decide +kernel
theorem dX7_read_101 : decode cX7_read 101 = .ok (.if_icmp .ge 49, 3) := by decide +kernel
theorem dX7_read_104 : decode cX7_read 104 = .ok (.iload 4, 2) := by decide +kernel
theorem dX7_read_106 : decode cX7_read 106 = .ok (.sipush 1200, 3) := by decide +kernel
theorem dX7_read_109 : decode cX7_read 109 = .ok (.if_icmp .ge 41, 3) := by decide +kernel
theorem dX7_read_112 : decode cX7_read 112 = .ok (.aload_n 0, 1) := by decide +kernel
theorem dX7_read_113 : decode cX7_read 113 = .ok (.getfield 9, 3) := by decide +kernel
theorem dX7_read_116 : decode cX7_read 116 = .ok (.iload 4, 2) := by decide +kernel
theorem dX7_read_118 : decode cX7_read 118 = .ok (.aload_n 0, 1) := by decide +kernel
theorem dX7_read_119 : decode cX7_read 119 = .ok (.aload_n 0, 1) := by decide +kernel
theorem dX7_read_120 : decode cX7_read 120 = .ok (.getfield 9, 3) := by decide +kernel
theorem dX7_read_123 : decode cX7_read 123 = .ok (.iload 4, 2) := by decide +kernel
theorem dX7_read_125 : decode cX7_read 125 = .ok (.iaload, 1) := by decide +kernel
theorem dX7_read_126 : decode cX7_read 126 = .ok (.aload_n 0, 1) := by decide +kernel
theorem dX7_read_127 : decode cX7_read 127 = .ok (.getfield 18, 3) := by decide +kernel
theorem dX7_read_130 : decode cX7_read 130 = .ok (.iload 4, 2) := by decide +kernel
theorem dX7_read_132 : decode cX7_read 132 = .ok (.iaload, 1) := by decide +kernel
theorem dX7_read_133 : decode cX7_read 133 = .ok (.aload_n 0, 1) := by decide +kernel
theorem dX7_read_134 : decode cX7_read 134 = .ok (.getfield 21, 3) := by decide +kernel
theorem dX7_read_137 : decode cX7_read 137 = .ok (.iload 4, 2) := by decide +kernel
theorem dX7_read_139 : decode cX7_read 139 = .ok (.laload, 1) := by decide +kernel
theorem dX7_read_140 : decode cX7_read 140 = .ok (.invokevirtual 55, 3) := by decide +kernel
theorem dX7_read_143 : decode cX7_read 143 = .ok (.iastore, 1) := by decide +kernel
theorem dX7_read_144 : decode cX7_read 144 = .ok (.iinc 4 1, 3) := by decide +kernel
theorem dX7_read_147 : decode cX7_read 147 = .ok (.goto (-52), 3) := by decide +kernel
theorem dX7_read_150 : decode cX7_read 150 = .ok (.aload_n 0, 1) := by decide +kernel
theorem dX7_read_151 : decode cX7_read 151 = .ok (.iconst (-1), 1) := by decide +kernel
theorem dX7_read_152 : decode cX7_read 152 = .ok (.putfield 59, 3) := by decide +kernel
theorem dX7_read_155 : decode cX7_read 155 = .ok (.aload_n 0, 1) := by decide +kernel
theorem dX7_read_156 : decode cX7_read 156 = .ok (.invokevirtual 62, 3) := by decide +kernel
theorem dX7_read_159 : decode cX7_read 159 = .ok (.return_, 1) := by decide +kernel
theorem dX7_step_0 : decode cX7_step 0 = .ok (.aload_n 0, 1) := by decide +kernel
theorem dX7_step_1 : decode cX7_step 1 = .ok (.dup, 1) := by decide +kernel
theorem dX7_step_2 : decode cX7_step 2 = .ok (.getfield 59, 3) := by decide +kernel
theorem dX7_step_5 : decode cX7_step 5 = .ok (.iconst 1, 1) := by decide +kernel
theorem dX7_step_6 : decode cX7_step 6 = .ok (.iadd, 1) := by decide +kernel
theorem dX7_step_7 : decode cX7_step 7 = .ok (.putfield 59, 3) := by decide +kernel
theorem dX7_step_10 : decode cX7_step 10 = .ok (.aload_n 0, 1) := by decide +kernel
theorem dX7_step_11 : decode cX7_step 11 = .ok (.getfield 59, 3) := by decide +kernel
theorem dX7_step_14 : decode cX7_step 14 = .ok (.ifCond .lt 28, 3) := by decide +kernel
theorem dX7_step_17 : decode cX7_step 17 = .ok (.aload_n 0, 1) := by decide +kernel
theorem dX7_step_18 : decode cX7_step 18 = .ok (.getfield 59, 3) := by decide +kernel
theorem dX7_step_21 : decode cX7_step 21 = .ok (.aload_n 0, 1) := by decide +kernel
theorem dX7_step_22 : decode cX7_step 22 = .ok (.getfield 36, 3) := by decide +kernel
theorem dX7_step_25 : decode cX7_step 25 = .ok (.if_icmp .ge 17, 3) := by decide +kernel
theorem dX7_step_28 : decode cX7_step 28 = .ok (.aload_n 0, 1) := by decide +kernel
theorem dX7_step_29 : decode cX7_step 29 = .ok (.getfield 59, 3) := by decide +kernel
theorem dX7_step_32 : decode cX7_step 32 = .ok (.sipush 1200, 3) := by decide +kernel
theorem dX7_step_35 : decode cX7_step 35 = .ok (.if_icmp .ge 7, 3) := by decide +kernel
theorem dX7_step_38 : decode cX7_step 38 = .ok (.iconst 1, 1) := by decide +kernel
theorem dX7_step_39 : decode cX7_step 39 = .ok (.goto 4, 3) := by decide +kernel
theorem dX7_step_42 : decode cX7_step 42 = .ok (.iconst 0, 1) := by decide +kernel
theorem dX7_step_43 : decode cX7_step 43 = .ok (.istore_n 1, 1) := by decide +kernel
theorem dX7_step_44 : decode cX7_step 44 = .ok (.aload_n 0, 1) := by decide +kernel
theorem dX7_step_45 : decode cX7_step 45 = .ok (.iload_n 1, 1) := by decide +kernel
theorem dX7_step_46 : decode cX7_step 46 = .ok (.ifCond .eq 15, 3) := by decide +kernel
theorem dX7_step_49 : decode cX7_step 49 = .ok (.aload_n 0, 1) := by decide +kernel
theorem dX7_step_50 : decode cX7_step 50 = .ok (.getfield 9, 3) := by decide +kernel
theorem dX7_step_53 : decode cX7_step 53 = .ok (.aload_n 0, 1) := by decide +kernel
theorem dX7_step_54 : decode cX7_step 54 = .ok (.getfield 59, 3) := by decide +kernel
theorem dX7_step_57 : decode cX7_step 57 = .ok (.iaload, 1) := by decide +kernel
theorem dX7_step_58 : decode cX7_step 58 = .ok (.goto 4, 3) := by decide +kernel
theorem dX7_step_61 : decode cX7_step 61 = .ok (.iconst 0, 1) := by decide +kernel
theorem dX7_step_62 : decode cX7_step 62 = .ok (.putfield 65, 3) := by decide +kernel
theorem dX7_step_65 : decode cX7_step 65 = .ok (.aload_n 0, 1) := by decide +kernel
theorem dX7_step_66 : decode cX7_step 66 = .ok (.iload_n 1, 1) := by decide +kernel
theorem dX7_step_67 : decode cX7_step 67 = .ok (.ifCond .eq 15, 3) := by decide +kernel
theorem dX7_step_70 : decode cX7_step 70 = .ok (.aload_n 0, 1) := by decide +kernel
theorem dX7_step_71 : decode cX7_step 71 = .ok (.getfield 15, 3) := by decide +kernel
theorem dX7_step_74 : decode cX7_step 74 = .ok (.aload_n 0, 1) := by decide +kernel
theorem dX7_step_75 : decode cX7_step 75 = .ok (.getfield 59, 3) := by decide +kernel
theorem dX7_step_78 : decode cX7_step 78 = .ok (.iaload, 1) := by decide +kernel
theorem dX7_step_79 : decode cX7_step 79 = .ok (.goto 7, 3) := by decide +kernel
theorem dX7_step_82 : decode cX7_step 82 = .ok (.aload_n 0, 1) := by decide +kernel
theorem dX7_step_83 : decode cX7_step 83 = .ok (.getfield 40, 3) := by decide +kernel
theorem dX7_step_86 : decode cX7_step 86 = .ok (.putfield 68, 3) := by decide +kernel
theorem dX7_step_89 : decode cX7_step 89 = .ok (.aload_n 0, 1) := by decide +kernel
theorem dX7_step_90 : decode cX7_step 90 = .ok (.iload_n 1, 1) := by decide +kernel
theorem dX7_step_91 : decode cX7_step 91 = .ok (.ifCond .eq 15, 3) := by decide +kernel
theorem dX7_step_94 : decode cX7_step 94 = .ok (.aload_n 0, 1) := by decide +kernel
theorem dX7_step_95 : decode cX7_step 95 = .ok (.getfield 21, 3) := by decide +kernel
theorem dX7_step_98 : decode cX7_step 98 = .ok (.aload_n 0, 1) := by decide +kernel
theorem dX7_step_99 : decode cX7_step 99 = .ok (.getfield 59, 3) := by decide +kernel
theorem dX7_step_102 : decode cX7_step 102 = .ok (.laload, 1) := by decide +kernel
theorem dX7_step_103 : decode cX7_step 103 = .ok (.goto 4, 3) := by decide +kernel
theorem dX7_step_106 : decode cX7_step 106 = .ok (.lconst 0, 1) := by decide +kernel
theorem dX7_step_107 : decode cX7_step 107 = .ok (.putfield 71, 3) := by decide +kernel
theorem dX7_step_110 : decode cX7_step 110 = .ok (.return_, 1) := by decide +kernel
theorem dX7_wordOf_0 : decode cX7_wordOf 0 = .ok (.iconst 0, 1) := by decide +kernel
theorem dX7_wordOf_1 : decode cX7_wordOf 1 = .ok (.istore_n 3, 1) := by decide +kernel
theorem dX7_wordOf_2 : decode cX7_wordOf 2 = .ok (.iload_n 3, 1) := by decide +kernel
theorem dX7_wordOf_3 : decode cX7_wordOf 3 = .ok (.bipush 10, 2) := by decide +kernel
theorem dX7_wordOf_5 : decode cX7_wordOf 5 = .ok (.if_icmp .ge 24, 3) := by decide +kernel
theorem dX7_wordOf_8 : decode cX7_wordOf 8 = .ok (.aload_n 0, 1) := by decide +kernel
theorem dX7_wordOf_9 : decode cX7_wordOf 9 = .ok (.getfield 25, 3) := by decide +kernel
theorem dX7_wordOf_12 : decode cX7_wordOf 12 = .ok (.iload_n 3, 1) := by decide +kernel
theorem dX7_wordOf_13 : decode cX7_wordOf 13 = .ok (.laload, 1) := by decide +kernel
theorem dX7_wordOf_14 : decode cX7_wordOf 14 = .ok (.lload_n 1, 1) := by decide +kernel
theorem dX7_wordOf_15 : decode cX7_wordOf 15 = .ok (.lcmp, 1) := by decide +kernel
theorem dX7_wordOf_16 : decode cX7_wordOf 16 = .ok (.ifCond .ne 7, 3) := by decide +kernel
theorem dX7_wordOf_19 : decode cX7_wordOf 19 = .ok (.iconst 4, 1) := by decide +kernel
theorem dX7_wordOf_20 : decode cX7_wordOf 20 = .ok (.iload_n 3, 1) := by decide +kernel
theorem dX7_wordOf_21 : decode cX7_wordOf 21 = .ok (.iadd, 1) := by decide +kernel
theorem dX7_wordOf_22 : decode cX7_wordOf 22 = .ok (.ireturn, 1) := by decide +kernel
theorem dX7_wordOf_23 : decode cX7_wordOf 23 = .ok (.iinc 3 1, 3) := by decide +kernel
theorem dX7_wordOf_26 : decode cX7_wordOf 26 = .ok (.goto (-24), 3) := by decide +kernel
theorem dX7_wordOf_29 : decode cX7_wordOf 29 = .ok (.iconst 2, 1) := by decide +kernel
theorem dX7_wordOf_30 : decode cX7_wordOf 30 = .ok (.ireturn, 1) := by decide +kernel
theorem dX7_beginToken_0 : decode cX7_beginToken 0 = .ok (.aload_n 0, 1) := by decide +kernel
theorem dX7_beginToken_1 : decode cX7_beginToken 1 = .ok (.getfield 36, 3) := by decide +kernel
theorem dX7_beginToken_4 : decode cX7_beginToken 4 = .ok (.ifCond .lt 63, 3) := by decide +kernel
theorem dX7_beginToken_7 : decode cX7_beginToken 7 = .ok (.aload_n 0, 1) := by decide +kernel
theorem dX7_beginToken_8 : decode cX7_beginToken 8 = .ok (.getfield 36, 3) := by decide +kernel
theorem dX7_beginToken_11 : decode cX7_beginToken 11 = .ok (.sipush 1200, 3) := by decide +kernel
theorem dX7_beginToken_14 : decode cX7_beginToken 14 = .ok (.if_icmp .ge 53, 3) := by decide +kernel
theorem dX7_beginToken_17 : decode cX7_beginToken 17 = .ok (.aload_n 0, 1) := by decide +kernel
theorem dX7_beginToken_18 : decode cX7_beginToken 18 = .ok (.getfield 9, 3) := by decide +kernel
theorem dX7_beginToken_21 : decode cX7_beginToken 21 = .ok (.aload_n 0, 1) := by decide +kernel
theorem dX7_beginToken_22 : decode cX7_beginToken 22 = .ok (.getfield 36, 3) := by decide +kernel
theorem dX7_beginToken_25 : decode cX7_beginToken 25 = .ok (.iload_n 2, 1) := by decide +kernel
theorem dX7_beginToken_26 : decode cX7_beginToken 26 = .ok (.iastore, 1) := by decide +kernel
theorem dX7_beginToken_27 : decode cX7_beginToken 27 = .ok (.aload_n 0, 1) := by decide +kernel
theorem dX7_beginToken_28 : decode cX7_beginToken 28 = .ok (.getfield 15, 3) := by decide +kernel
theorem dX7_beginToken_31 : decode cX7_beginToken 31 = .ok (.aload_n 0, 1) := by decide +kernel
theorem dX7_beginToken_32 : decode cX7_beginToken 32 = .ok (.getfield 36, 3) := by decide +kernel
theorem dX7_beginToken_35 : decode cX7_beginToken 35 = .ok (.iload_n 1, 1) := by decide +kernel
theorem dX7_beginToken_36 : decode cX7_beginToken 36 = .ok (.iastore, 1) := by decide +kernel
theorem dX7_beginToken_37 : decode cX7_beginToken 37 = .ok (.aload_n 0, 1) := by decide +kernel
theorem dX7_beginToken_38 : decode cX7_beginToken 38 = .ok (.getfield 18, 3) := by decide +kernel
theorem dX7_beginToken_41 : decode cX7_beginToken 41 = .ok (.aload_n 0, 1) := by decide +kernel
theorem dX7_beginToken_42 : decode cX7_beginToken 42 = .ok (.getfield 36, 3) := by decide +kernel
theorem dX7_beginToken_45 : decode cX7_beginToken 45 = .ok (.iconst 0, 1) := by decide +kernel
theorem dX7_beginToken_46 : decode cX7_beginToken 46 = .ok (.iastore, 1) := by decide +kernel
theorem dX7_beginToken_47 : decode cX7_beginToken 47 = .ok (.aload_n 0, 1) := by decide +kernel
theorem dX7_beginToken_48 : decode cX7_beginToken 48 = .ok (.getfield 21, 3) := by decide +kernel
theorem dX7_beginToken_51 : decode cX7_beginToken 51 = .ok (.aload_n 0, 1) := by decide +kernel
theorem dX7_beginToken_52 : decode cX7_beginToken 52 = .ok (.getfield 36, 3) := by decide +kernel
theorem dX7_beginToken_55 : decode cX7_beginToken 55 = .ok (.lconst 0, 1) := by decide +kernel
theorem dX7_beginToken_56 : decode cX7_beginToken 56 = .ok (.lastore, 1) := by decide +kernel
theorem dX7_beginToken_57 : decode cX7_beginToken 57 = .ok (.aload_n 0, 1) := by decide +kernel
theorem dX7_beginToken_58 : decode cX7_beginToken 58 = .ok (.dup, 1) := by decide +kernel
theorem dX7_beginToken_59 : decode cX7_beginToken 59 = .ok (.getfield 36, 3) := by decide +kernel
theorem dX7_beginToken_62 : decode cX7_beginToken 62 = .ok (.iconst 1, 1) := by decide +kernel
theorem dX7_beginToken_63 : decode cX7_beginToken 63 = .ok (.iadd, 1) := by decide +kernel
theorem dX7_beginToken_64 : decode cX7_beginToken 64 = .ok (.putfield 36, 3) := by decide +kernel
theorem dX7_beginToken_67 : decode cX7_beginToken 67 = .ok (.return_, 1) := by decide +kernel
theorem dX7_extend_0 : decode cX7_extend 0 = .ok (.aload_n 0, 1) := by decide +kernel
theorem dX7_extend_1 : decode cX7_extend 1 = .ok (.getfield 36, 3) := by decide +kernel
theorem dX7_extend_4 : decode cX7_extend 4 = .ok (.iconst 1, 1) := by decide +kernel
theorem dX7_extend_5 : decode cX7_extend 5 = .ok (.isub, 1) := by decide +kernel
theorem dX7_extend_6 : decode cX7_extend 6 = .ok (.istore_n 2, 1) := by decide +kernel
theorem dX7_extend_7 : decode cX7_extend 7 = .ok (.iload_n 2, 1) := by decide +kernel
theorem dX7_extend_8 : decode cX7_extend 8 = .ok (.ifCond .lt 10, 3) := by decide +kernel
theorem dX7_extend_11 : decode cX7_extend 11 = .ok (.iload_n 2, 1) := by decide +kernel
theorem dX7_extend_12 : decode cX7_extend 12 = .ok (.sipush 1200, 3) := by decide +kernel
theorem dX7_extend_15 : decode cX7_extend 15 = .ok (.if_icmp .lt 4, 3) := by decide +kernel
theorem dX7_extend_18 : decode cX7_extend 18 = .ok (.return_, 1) := by decide +kernel
theorem dX7_extend_19 : decode cX7_extend 19 = .ok (.aload_n 0, 1) := by decide +kernel
theorem dX7_extend_20 : decode cX7_extend 20 = .ok (.getfield 18, 3) := by decide +kernel
theorem dX7_extend_23 : decode cX7_extend 23 = .ok (.iload_n 2, 1) := by decide +kernel
theorem dX7_extend_24 : decode cX7_extend 24 = .ok (.iaload, 1) := by decide +kernel
theorem dX7_extend_25 : decode cX7_extend 25 = .ok (.istore_n 3, 1) := by decide +kernel
theorem dX7_extend_26 : decode cX7_extend 26 = .ok (.aload_n 0, 1) := by decide +kernel
theorem dX7_extend_27 : decode cX7_extend 27 = .ok (.getfield 9, 3) := by decide +kernel
theorem dX7_extend_30 : decode cX7_extend 30 = .ok (.iload_n 2, 1) := by decide +kernel
theorem dX7_extend_31 : decode cX7_extend 31 = .ok (.iaload, 1) := by decide +kernel
theorem dX7_extend_32 : decode cX7_extend 32 = .ok (.iconst 3, 1) := by decide +kernel
theorem dX7_extend_33 : decode cX7_extend 33 = .ok (.if_icmp .ne 14, 3) := by decide +kernel
theorem dX7_extend_36 : decode cX7_extend 36 = .ok (.aload_n 0, 1) := by decide +kernel
theorem dX7_extend_37 : decode cX7_extend 37 = .ok (.getfield 21, 3) := by decide +kernel
theorem dX7_extend_40 : decode cX7_extend 40 = .ok (.iload_n 2, 1) := by decide +kernel
theorem dX7_extend_41 : decode cX7_extend 41 = .ok (.iload_n 1, 1) := by decide +kernel
theorem dX7_extend_42 : decode cX7_extend 42 = .ok (.i2l, 1) := by decide +kernel
theorem dX7_extend_43 : decode cX7_extend 43 = .ok (.lastore, 1) := by decide +kernel
theorem dX7_extend_44 : decode cX7_extend 44 = .ok (.goto 82, 3) := by decide +kernel
theorem dX7_extend_47 : decode cX7_extend 47 = .ok (.aload_n 0, 1) := by decide +kernel
theorem dX7_extend_48 : decode cX7_extend 48 = .ok (.getfield 9, 3) := by decide +kernel
theorem dX7_extend_51 : decode cX7_extend 51 = .ok (.iload_n 2, 1) := by decide +kernel
theorem dX7_extend_52 : decode cX7_extend 52 = .ok (.iaload, 1) := by decide +kernel
theorem dX7_extend_53 : decode cX7_extend 53 = .ok (.iconst 2, 1) := by decide +kernel
theorem dX7_extend_54 : decode cX7_extend 54 = .ok (.if_icmp .ne 33, 3) := by decide +kernel
theorem dX7_extend_57 : decode cX7_extend 57 = .ok (.iload_n 3, 1) := by decide +kernel
theorem dX7_extend_58 : decode cX7_extend 58 = .ok (.iconst 4, 1) := by decide +kernel
theorem dX7_extend_59 : decode cX7_extend 59 = .ok (.if_icmp .ge 28, 3) := by decide +kernel
theorem dX7_extend_62 : decode cX7_extend 62 = .ok (.aload_n 0, 1) := by decide +kernel
theorem dX7_extend_63 : decode cX7_extend 63 = .ok (.getfield 21, 3) := by decide +kernel
theorem dX7_extend_66 : decode cX7_extend 66 = .ok (.iload_n 2, 1) := by decide +kernel
theorem dX7_extend_67 : decode cX7_extend 67 = .ok (.aload_n 0, 1) := by decide +kernel
theorem dX7_extend_68 : decode cX7_extend 68 = .ok (.getfield 21, 3) := by decide +kernel
theorem dX7_extend_71 : decode cX7_extend 71 = .ok (.iload_n 2, 1) := by decide +kernel
theorem dX7_extend_72 : decode cX7_extend 72 = .ok (.laload, 1) := by decide +kernel
theorem dX7_extend_73 : decode cX7_extend 73 = .ok (.ldc2_w 75, 3) := by decide +kernel
theorem dX7_extend_76 : decode cX7_extend 76 = .ok (.lmul, 1) := by decide +kernel
theorem dX7_extend_77 : decode cX7_extend 77 = .ok (.iload_n 1, 1) := by decide +kernel
theorem dX7_extend_78 : decode cX7_extend 78 = .ok (.bipush 48, 2) := by decide +kernel
theorem dX7_extend_80 : decode cX7_extend 80 = .ok (.isub, 1) := by decide +kernel
theorem dX7_extend_81 : decode cX7_extend 81 = .ok (.i2l, 1) := by decide +kernel
theorem dX7_extend_82 : decode cX7_extend 82 = .ok (.ladd, 1) := by decide +kernel
theorem dX7_extend_83 : decode cX7_extend 83 = .ok (.lastore, 1) := by decide +kernel
theorem dX7_extend_84 : decode cX7_extend 84 = .ok (.goto 42, 3) := by decide +kernel
theorem dX7_extend_87 : decode cX7_extend 87 = .ok (.aload_n 0, 1) := by decide +kernel
theorem dX7_extend_88 : decode cX7_extend 88 = .ok (.getfield 9, 3) := by decide +kernel
theorem dX7_extend_91 : decode cX7_extend 91 = .ok (.iload_n 2, 1) := by decide +kernel
theorem dX7_extend_92 : decode cX7_extend 92 = .ok (.iaload, 1) := by decide +kernel
theorem dX7_extend_93 : decode cX7_extend 93 = .ok (.iconst 1, 1) := by decide +kernel
theorem dX7_extend_94 : decode cX7_extend 94 = .ok (.if_icmp .ne 32, 3) := by decide +kernel
theorem dX7_extend_97 : decode cX7_extend 97 = .ok (.iload_n 3, 1) := by decide +kernel
theorem dX7_extend_98 : decode cX7_extend 98 = .ok (.bipush 8, 2) := by decide +kernel
theorem dX7_extend_100 : decode cX7_extend 100 = .ok (.if_icmp .ge 26, 3) := by decide +kernel
theorem dX7_extend_103 : decode cX7_extend 103 = .ok (.aload_n 0, 1) := by decide +kernel
theorem dX7_extend_104 : decode cX7_extend 104 = .ok (.getfield 21, 3) := by decide +kernel
theorem dX7_extend_107 : decode cX7_extend 107 = .ok (.iload_n 2, 1) := by decide +kernel
theorem dX7_extend_108 : decode cX7_extend 108 = .ok (.dup2, 1) := by decide +kernel
theorem dX7_extend_109 : decode cX7_extend 109 = .ok (.laload, 1) := by decide +kernel
theorem dX7_extend_110 : decode cX7_extend 110 = .ok (.iload_n 1, 1) := by decide +kernel
theorem dX7_extend_111 : decode cX7_extend 111 = .ok (.bipush 97, 2) := by decide +kernel
theorem dX7_extend_113 : decode cX7_extend 113 = .ok (.isub, 1) := by decide +kernel
theorem dX7_extend_114 : decode cX7_extend 114 = .ok (.iconst 1, 1) := by decide +kernel
theorem dX7_extend_115 : decode cX7_extend 115 = .ok (.iadd, 1) := by decide +kernel
theorem dX7_extend_116 : decode cX7_extend 116 = .ok (.i2l, 1) := by decide +kernel
theorem dX7_extend_117 : decode cX7_extend 117 = .ok (.bipush 35, 2) := by decide +kernel
theorem dX7_extend_119 : decode cX7_extend 119 = .ok (.iconst 5, 1) := by decide +kernel
theorem dX7_extend_120 : decode cX7_extend 120 = .ok (.iload_n 3, 1) := by decide +kernel
theorem dX7_extend_121 : decode cX7_extend 121 = .ok (.imul, 1) := by decide +kernel
theorem dX7_extend_122 : decode cX7_extend 122 = .ok (.isub, 1) := by decide +kernel
theorem dX7_extend_123 : decode cX7_extend 123 = .ok (.lshl, 1) := by decide +kernel
theorem dX7_extend_124 : decode cX7_extend 124 = .ok (.lor, 1) := by decide +kernel
theorem dX7_extend_125 : decode cX7_extend 125 = .ok (.lastore, 1) := by decide +kernel
theorem dX7_extend_126 : decode cX7_extend 126 = .ok (.aload_n 0, 1) := by decide +kernel
theorem dX7_extend_127 : decode cX7_extend 127 = .ok (.getfield 18, 3) := by decide +kernel
theorem dX7_extend_130 : decode cX7_extend 130 = .ok (.iload_n 2, 1) := by decide +kernel
theorem dX7_extend_131 : decode cX7_extend 131 = .ok (.iload_n 3, 1) := by decide +kernel
theorem dX7_extend_132 : decode cX7_extend 132 = .ok (.iconst 1, 1) := by decide +kernel
theorem dX7_extend_133 : decode cX7_extend 133 = .ok (.iadd, 1) := by decide +kernel
theorem dX7_extend_134 : decode cX7_extend 134 = .ok (.iastore, 1) := by decide +kernel
theorem dX7_extend_135 : decode cX7_extend 135 = .ok (.return_, 1) := by decide +kernel
theorem dX7_kindOf_0 : decode cX7_kindOf 0 = .ok (.iload_n 1, 1) := by decide +kernel
theorem dX7_kindOf_1 : decode cX7_kindOf 1 = .ok (.iconst 1, 1) := by decide +kernel
theorem dX7_kindOf_2 : decode cX7_kindOf 2 = .ok (.if_icmp .ne 19, 3) := by decide +kernel
theorem dX7_kindOf_5 : decode cX7_kindOf 5 = .ok (.iload_n 2, 1) := by decide +kernel
theorem dX7_kindOf_6 : decode cX7_kindOf 6 = .ok (.bipush 8, 2) := by decide +kernel
theorem dX7_kindOf_8 : decode cX7_kindOf 8 = .ok (.if_icmp .le 7, 3) := by decide +kernel
theorem dX7_kindOf_11 : decode cX7_kindOf 11 = .ok (.iconst 1, 1) := by decide +kernel
theorem dX7_kindOf_12 : decode cX7_kindOf 12 = .ok (.goto 8, 3) := by decide +kernel
theorem dX7_kindOf_15 : decode cX7_kindOf 15 = .ok (.aload_n 0, 1) := by decide +kernel
theorem dX7_kindOf_16 : decode cX7_kindOf 16 = .ok (.lload_n 3, 1) := by decide +kernel
theorem dX7_kindOf_17 : decode cX7_kindOf 17 = .ok (.invokevirtual 77, 3) := by decide +kernel
theorem dX7_kindOf_20 : decode cX7_kindOf 20 = .ok (.ireturn, 1) := by decide +kernel
theorem dX7_kindOf_21 : decode cX7_kindOf 21 = .ok (.iload_n 1, 1) := by decide +kernel
theorem dX7_kindOf_22 : decode cX7_kindOf 22 = .ok (.iconst 2, 1) := by decide +kernel
theorem dX7_kindOf_23 : decode cX7_kindOf 23 = .ok (.if_icmp .ne 14, 3) := by decide +kernel
theorem dX7_kindOf_26 : decode cX7_kindOf 26 = .ok (.iload_n 2, 1) := by decide +kernel
theorem dX7_kindOf_27 : decode cX7_kindOf 27 = .ok (.iconst 4, 1) := by decide +kernel
theorem dX7_kindOf_28 : decode cX7_kindOf 28 = .ok (.if_icmp .le 7, 3) := by decide +kernel
theorem dX7_kindOf_31 : decode cX7_kindOf 31 = .ok (.iconst 1, 1) := by decide +kernel
theorem dX7_kindOf_32 : decode cX7_kindOf 32 = .ok (.goto 4, 3) := by decide +kernel
theorem dX7_kindOf_35 : decode cX7_kindOf 35 = .ok (.iconst 3, 1) := by decide +kernel
theorem dX7_kindOf_36 : decode cX7_kindOf 36 = .ok (.ireturn, 1) := by decide +kernel
theorem dX7_kindOf_37 : decode cX7_kindOf 37 = .ok (.lload_n 3, 1) := by decide +kernel
theorem dX7_kindOf_38 : decode cX7_kindOf 38 = .ok (.ldc2_w 81, 3) := by decide +kernel
theorem dX7_kindOf_41 : decode cX7_kindOf 41 = .ok (.lcmp, 1) := by decide +kernel
theorem dX7_kindOf_42 : decode cX7_kindOf 42 = .ok (.ifCond .eq 59, 3) := by decide +kernel
theorem dX7_kindOf_45 : decode cX7_kindOf 45 = .ok (.lload_n 3, 1) := by decide +kernel
theorem dX7_kindOf_46 : decode cX7_kindOf 46 = .ok (.ldc2_w 83, 3) := by decide +kernel
theorem dX7_kindOf_49 : decode cX7_kindOf 49 = .ok (.lcmp, 1) := by decide +kernel
theorem dX7_kindOf_50 : decode cX7_kindOf 50 = .ok (.ifCond .eq 51, 3) := by decide +kernel
theorem dX7_kindOf_53 : decode cX7_kindOf 53 = .ok (.lload_n 3, 1) := by decide +kernel
theorem dX7_kindOf_54 : decode cX7_kindOf 54 = .ok (.ldc2_w 85, 3) := by decide +kernel
theorem dX7_kindOf_57 : decode cX7_kindOf 57 = .ok (.lcmp, 1) := by decide +kernel
theorem dX7_kindOf_58 : decode cX7_kindOf 58 = .ok (.ifCond .eq 43, 3) := by decide +kernel
theorem dX7_kindOf_61 : decode cX7_kindOf 61 = .ok (.lload_n 3, 1) := by decide +kernel
theorem dX7_kindOf_62 : decode cX7_kindOf 62 = .ok (.ldc2_w 87, 3) := by decide +kernel
theorem dX7_kindOf_65 : decode cX7_kindOf 65 = .ok (.lcmp, 1) := by decide +kernel
theorem dX7_kindOf_66 : decode cX7_kindOf 66 = .ok (.ifCond .eq 35, 3) := by decide +kernel
theorem dX7_kindOf_69 : decode cX7_kindOf 69 = .ok (.lload_n 3, 1) := by decide +kernel
theorem dX7_kindOf_70 : decode cX7_kindOf 70 = .ok (.ldc2_w 89, 3) := by decide +kernel
theorem dX7_kindOf_73 : decode cX7_kindOf 73 = .ok (.lcmp, 1) := by decide +kernel
theorem dX7_kindOf_74 : decode cX7_kindOf 74 = .ok (.ifCond .eq 27, 3) := by decide +kernel
theorem dX7_kindOf_77 : decode cX7_kindOf 77 = .ok (.lload_n 3, 1) := by decide +kernel
theorem dX7_kindOf_78 : decode cX7_kindOf 78 = .ok (.ldc2_w 91, 3) := by decide +kernel
theorem dX7_kindOf_81 : decode cX7_kindOf 81 = .ok (.lcmp, 1) := by decide +kernel
theorem dX7_kindOf_82 : decode cX7_kindOf 82 = .ok (.ifCond .eq 19, 3) := by decide +kernel
theorem dX7_kindOf_85 : decode cX7_kindOf 85 = .ok (.lload_n 3, 1) := by decide +kernel
theorem dX7_kindOf_86 : decode cX7_kindOf 86 = .ok (.ldc2_w 93, 3) := by decide +kernel
theorem dX7_kindOf_89 : decode cX7_kindOf 89 = .ok (.lcmp, 1) := by decide +kernel
theorem dX7_kindOf_90 : decode cX7_kindOf 90 = .ok (.ifCond .eq 11, 3) := by decide +kernel
theorem dX7_kindOf_93 : decode cX7_kindOf 93 = .ok (.lload_n 3, 1) := by decide +kernel
theorem dX7_kindOf_94 : decode cX7_kindOf 94 = .ok (.ldc2_w 95, 3) := by decide +kernel
theorem dX7_kindOf_97 : decode cX7_kindOf 97 = .ok (.lcmp, 1) := by decide +kernel
theorem dX7_kindOf_98 : decode cX7_kindOf 98 = .ok (.ifCond .ne 7, 3) := by decide +kernel
theorem dX7_kindOf_101 : decode cX7_kindOf 101 = .ok (.iconst 1, 1) := by decide +kernel
theorem dX7_kindOf_102 : decode cX7_kindOf 102 = .ok (.goto 4, 3) := by decide +kernel
theorem dX7_kindOf_105 : decode cX7_kindOf 105 = .ok (.iconst 0, 1) := by decide +kernel
theorem dX7_kindOf_106 : decode cX7_kindOf 106 = .ok (.istore 5, 2) := by decide +kernel
theorem dX7_kindOf_108 : decode cX7_kindOf 108 = .ok (.iload 5, 2) := by decide +kernel
theorem dX7_kindOf_110 : decode cX7_kindOf 110 = .ok (.ifCond .eq 8, 3) := by decide +kernel
theorem dX7_kindOf_113 : decode cX7_kindOf 113 = .ok (.lload_n 3, 1) := by decide +kernel
theorem dX7_kindOf_114 : decode cX7_kindOf 114 = .ok (.l2i, 1) := by decide +kernel
theorem dX7_kindOf_115 : decode cX7_kindOf 115 = .ok (.goto 4, 3) := by decide +kernel
theorem dX7_kindOf_118 : decode cX7_kindOf 118 = .ok (.iconst 1, 1) := by decide +kernel
theorem dX7_kindOf_119 : decode cX7_kindOf 119 = .ok (.ireturn, 1) := by decide +kernel
theorem dX7_sortOf_0 : decode cX7_sortOf 0 = .ok (.iload_n 0, 1) := by decide +kernel
theorem dX7_sortOf_1 : decode cX7_sortOf 1 = .ok (.bipush 32, 2) := by decide +kernel
theorem dX7_sortOf_3 : decode cX7_sortOf 3 = .ok (.if_icmp .eq 9, 3) := by decide +kernel
theorem dX7_sortOf_6 : decode cX7_sortOf 6 = .ok (.iload_n 0, 1) := by decide +kernel
theorem dX7_sortOf_7 : decode cX7_sortOf 7 = .ok (.bipush 10, 2) := by decide +kernel
theorem dX7_sortOf_9 : decode cX7_sortOf 9 = .ok (.if_icmp .ne 5, 3) := by decide +kernel
theorem dX7_sortOf_12 : decode cX7_sortOf 12 = .ok (.iconst 0, 1) := by decide +kernel
theorem dX7_sortOf_13 : decode cX7_sortOf 13 = .ok (.ireturn, 1) := by decide +kernel
theorem dX7_sortOf_14 : decode cX7_sortOf 14 = .ok (.iload_n 0, 1) := by decide +kernel
theorem dX7_sortOf_15 : decode cX7_sortOf 15 = .ok (.bipush 97, 2) := by decide +kernel
theorem dX7_sortOf_17 : decode cX7_sortOf 17 = .ok (.if_icmp .lt 11, 3) := by decide +kernel
theorem dX7_sortOf_20 : decode cX7_sortOf 20 = .ok (.iload_n 0, 1) := by decide +kernel
theorem dX7_sortOf_21 : decode cX7_sortOf 21 = .ok (.bipush 122, 2) := by decide +kernel
theorem dX7_sortOf_23 : decode cX7_sortOf 23 = .ok (.if_icmp .gt 5, 3) := by decide +kernel
theorem dX7_sortOf_26 : decode cX7_sortOf 26 = .ok (.iconst 1, 1) := by decide +kernel
theorem dX7_sortOf_27 : decode cX7_sortOf 27 = .ok (.ireturn, 1) := by decide +kernel
theorem dX7_sortOf_28 : decode cX7_sortOf 28 = .ok (.iload_n 0, 1) := by decide +kernel
theorem dX7_sortOf_29 : decode cX7_sortOf 29 = .ok (.bipush 48, 2) := by decide +kernel
theorem dX7_sortOf_31 : decode cX7_sortOf 31 = .ok (.if_icmp .lt 13, 3) := by decide +kernel
theorem dX7_sortOf_34 : decode cX7_sortOf 34 = .ok (.iload_n 0, 1) := by decide +kernel
theorem dX7_sortOf_35 : decode cX7_sortOf 35 = .ok (.bipush 57, 2) := by decide +kernel
theorem dX7_sortOf_37 : decode cX7_sortOf 37 = .ok (.if_icmp .gt 7, 3) := by decide +kernel
theorem dX7_sortOf_40 : decode cX7_sortOf 40 = .ok (.iconst 2, 1) := by decide +kernel
theorem dX7_sortOf_41 : decode cX7_sortOf 41 = .ok (.goto 4, 3) := by decide +kernel
theorem dX7_sortOf_44 : decode cX7_sortOf 44 = .ok (.iconst 3, 1) := by decide +kernel
theorem dX7_sortOf_45 : decode cX7_sortOf 45 = .ok (.ireturn, 1) := by decide +kernel
theorem dX7_packed_0 : decode cX7_packed 0 = .ok (.lconst 0, 1) := by decide +kernel
theorem dX7_packed_1 : decode cX7_packed 1 = .ok (.lstore_n 1, 1) := by decide +kernel
theorem dX7_packed_2 : decode cX7_packed 2 = .ok (.iconst 0, 1) := by decide +kernel
theorem dX7_packed_3 : decode cX7_packed 3 = .ok (.istore_n 3, 1) := by decide +kernel
theorem dX7_packed_4 : decode cX7_packed 4 = .ok (.iload_n 3, 1) := by decide +kernel
theorem dX7_packed_5 : decode cX7_packed 5 = .ok (.bipush 8, 2) := by decide +kernel
theorem dX7_packed_7 : decode cX7_packed 7 = .ok (.if_icmp .ge 37, 3) := by decide +kernel
theorem dX7_packed_10 : decode cX7_packed 10 = .ok (.lload_n 1, 1) := by decide +kernel
theorem dX7_packed_11 : decode cX7_packed 11 = .ok (.iconst 5, 1) := by decide +kernel
theorem dX7_packed_12 : decode cX7_packed 12 = .ok (.lshl, 1) := by decide +kernel
theorem dX7_packed_13 : decode cX7_packed 13 = .ok (.iload_n 3, 1) := by decide +kernel
theorem dX7_packed_14 : decode cX7_packed 14 = .ok (.aload_n 0, 1) := by decide +kernel
theorem dX7_packed_15 : decode cX7_packed 15 = .ok (.invokevirtual 97, 3) := by decide +kernel
theorem dX7_packed_18 : decode cX7_packed 18 = .ok (.if_icmp .ge 16, 3) := by decide +kernel
theorem dX7_packed_21 : decode cX7_packed 21 = .ok (.aload_n 0, 1) := by decide +kernel
theorem dX7_packed_22 : decode cX7_packed 22 = .ok (.iload_n 3, 1) := by decide +kernel
theorem dX7_packed_23 : decode cX7_packed 23 = .ok (.invokevirtual 102, 3) := by decide +kernel
theorem dX7_packed_26 : decode cX7_packed 26 = .ok (.bipush 97, 2) := by decide +kernel
theorem dX7_packed_28 : decode cX7_packed 28 = .ok (.isub, 1) := by decide +kernel
theorem dX7_packed_29 : decode cX7_packed 29 = .ok (.iconst 1, 1) := by decide +kernel
theorem dX7_packed_30 : decode cX7_packed 30 = .ok (.iadd, 1) := by decide +kernel
theorem dX7_packed_31 : decode cX7_packed 31 = .ok (.goto 4, 3) := by decide +kernel
theorem dX7_packed_34 : decode cX7_packed 34 = .ok (.iconst 0, 1) := by decide +kernel
theorem dX7_packed_35 : decode cX7_packed 35 = .ok (.i2l, 1) := by decide +kernel
theorem dX7_packed_36 : decode cX7_packed 36 = .ok (.lor, 1) := by decide +kernel
theorem dX7_packed_37 : decode cX7_packed 37 = .ok (.lstore_n 1, 1) := by decide +kernel
theorem dX7_packed_38 : decode cX7_packed 38 = .ok (.iinc 3 1, 3) := by decide +kernel
theorem dX7_packed_41 : decode cX7_packed 41 = .ok (.goto (-37), 3) := by decide +kernel
theorem dX7_packed_44 : decode cX7_packed 44 = .ok (.lload_n 1, 1) := by decide +kernel
theorem dX7_packed_45 : decode cX7_packed 45 = .ok (.lreturn, 1) := by decide +kernel
theorem dX9_init_0 : decode cX9_init 0 = .ok (.aload_n 0, 1) := by decide +kernel
theorem dX9_init_1 : decode cX9_init 1 = .ok (.invokespecial 3, 3) := by decide +kernel
theorem dX9_init_4 : decode cX9_init 4 = .ok (.return_, 1) := by decide +kernel
theorem dX9_start_0 : decode cX9_start 0 = .ok (.aload_n 0, 1) := by decide +kernel
theorem dX9_start_1 : decode cX9_start 1 = .ok (.iconst 0, 1) := by decide +kernel
theorem dX9_start_2 : decode cX9_start 2 = .ok (.putfield 9, 3) := by decide +kernel
theorem dX9_start_5 : decode cX9_start 5 = .ok (.aload_n 0, 1) := by decide +kernel
theorem dX9_start_6 : decode cX9_start 6 = .ok (.bipush (-2), 2) := by decide +kernel
theorem dX9_start_8 : decode cX9_start 8 = .ok (.putfield 15, 3) := by decide +kernel
theorem dX9_start_11 : decode cX9_start 11 = .ok (.aload_n 0, 1) := by decide +kernel
theorem dX9_start_12 : decode cX9_start 12 = .ok (.iload_n 1, 1) := by decide +kernel
theorem dX9_start_13 : decode cX9_start 13 = .ok (.putfield 18, 3) := by decide +kernel
theorem dX9_start_16 : decode cX9_start 16 = .ok (.aload_n 0, 1) := by decide +kernel
theorem dX9_start_17 : decode cX9_start 17 = .ok (.iconst 0, 1) := by decide +kernel
theorem dX9_start_18 : decode cX9_start 18 = .ok (.putfield 21, 3) := by decide +kernel
theorem dX9_start_21 : decode cX9_start 21 = .ok (.return_, 1) := by decide +kernel
theorem dX9_put_0 : decode cX9_put 0 = .ok (.aload_n 0, 1) := by decide +kernel
theorem dX9_put_1 : decode cX9_put 1 = .ok (.getfield 9, 3) := by decide +kernel
theorem dX9_put_4 : decode cX9_put 4 = .ok (.aload_n 0, 1) := by decide +kernel
theorem dX9_put_5 : decode cX9_put 5 = .ok (.getfield 18, 3) := by decide +kernel
theorem dX9_put_8 : decode cX9_put 8 = .ok (.if_icmp .ne 8, 3) := by decide +kernel
theorem dX9_put_11 : decode cX9_put 11 = .ok (.aload_n 0, 1) := by decide +kernel
theorem dX9_put_12 : decode cX9_put 12 = .ok (.iload_n 1, 1) := by decide +kernel
theorem dX9_put_13 : decode cX9_put 13 = .ok (.putfield 15, 3) := by decide +kernel
theorem dX9_put_16 : decode cX9_put 16 = .ok (.aload_n 0, 1) := by decide +kernel
theorem dX9_put_17 : decode cX9_put 17 = .ok (.dup, 1) := by decide +kernel
theorem dX9_put_18 : decode cX9_put 18 = .ok (.getfield 9, 3) := by decide +kernel
theorem dX9_put_21 : decode cX9_put 21 = .ok (.iconst 1, 1) := by decide +kernel
theorem dX9_put_22 : decode cX9_put 22 = .ok (.iadd, 1) := by decide +kernel
theorem dX9_put_23 : decode cX9_put 23 = .ok (.putfield 9, 3) := by decide +kernel
theorem dX9_put_26 : decode cX9_put 26 = .ok (.return_, 1) := by decide +kernel
theorem dX9_putName_0 : decode cX9_putName 0 = .ok (.iconst 0, 1) := by decide +kernel
theorem dX9_putName_1 : decode cX9_putName 1 = .ok (.istore_n 3, 1) := by decide +kernel
theorem dX9_putName_2 : decode cX9_putName 2 = .ok (.iload_n 3, 1) := by decide +kernel
theorem dX9_putName_3 : decode cX9_putName 3 = .ok (.bipush 8, 2) := by decide +kernel
theorem dX9_putName_5 : decode cX9_putName 5 = .ok (.if_icmp .ge 26, 3) := by decide +kernel
theorem dX9_putName_8 : decode cX9_putName 8 = .ok (.lload_n 1, 1) := by decide +kernel
theorem dX9_putName_9 : decode cX9_putName 9 = .ok (.iload_n 3, 1) := by decide +kernel
theorem dX9_putName_10 : decode cX9_putName 10 = .ok (.invokestatic 25, 3) := by decide +kernel
theorem dX9_putName_13 : decode cX9_putName 13 = .ok (.ifCond .lt 18, 3) := by decide +kernel
theorem dX9_putName_16 : decode cX9_putName 16 = .ok (.aload_n 0, 1) := by decide +kernel
theorem dX9_putName_17 : decode cX9_putName 17 = .ok (.lload_n 1, 1) := by decide +kernel
theorem dX9_putName_18 : decode cX9_putName 18 = .ok (.iload_n 3, 1) := by decide +kernel
theorem dX9_putName_19 : decode cX9_putName 19 = .ok (.invokestatic 25, 3) := by decide +kernel
theorem dX9_putName_22 : decode cX9_putName 22 = .ok (.invokevirtual 29, 3) := by decide +kernel
theorem dX9_putName_25 : decode cX9_putName 25 = .ok (.iinc 3 1, 3) := by decide +kernel
theorem dX9_putName_28 : decode cX9_putName 28 = .ok (.goto (-26), 3) := by decide +kernel
theorem dX9_putName_31 : decode cX9_putName 31 = .ok (.return_, 1) := by decide +kernel
theorem dX9_writeLayout_0 : decode cX9_writeLayout 0 = .ok (.iconst 0, 1) := by decide +kernel
theorem dX9_writeLayout_1 : decode cX9_writeLayout 1 = .ok (.istore 4, 2) := by decide +kernel
theorem dX9_writeLayout_3 : decode cX9_writeLayout 3 = .ok (.iconst 0, 1) := by decide +kernel
theorem dX9_writeLayout_4 : decode cX9_writeLayout 4 = .ok (.istore 5, 2) := by decide +kernel
theorem dX9_writeLayout_6 : decode cX9_writeLayout 6 = .ok (.iconst 0, 1) := by decide +kernel
theorem dX9_writeLayout_7 : decode cX9_writeLayout 7 = .ok (.istore 6, 2) := by decide +kernel
theorem dX9_writeLayout_9 : decode cX9_writeLayout 9 = .ok (.iload 6, 2) := by decide +kernel
theorem dX9_writeLayout_11 : decode cX9_writeLayout 11 = .ok (.aload_n 1, 1) := by decide +kernel
theorem dX9_writeLayout_12 : decode cX9_writeLayout 12 = .ok (.getfield 33, 3) := by decide +kernel
theorem dX9_writeLayout_15 : decode cX9_writeLayout 15 = .ok (.if_icmp .ge 157, 3) := by decide +kernel
theorem dX9_writeLayout_18 : decode cX9_writeLayout 18 = .ok (.aload_n 1, 1) := by decide +kernel
theorem dX9_writeLayout_19 : decode cX9_writeLayout 19 = .ok (.iload 6, 2) := by decide +kernel
theorem dX9_writeLayout_21 : decode cX9_writeLayout 21 = .ok (.invokevirtual 38, 3) := by decide +kernel
theorem dX9_writeLayout_24 : decode cX9_writeLayout 24 = .ok (.istore 7, 2) := by decide +kernel
theorem dX9_writeLayout_26 : decode cX9_writeLayout 26 = .ok (.aload_n 1, 1) := by decide +kernel
theorem dX9_writeLayout_27 : decode cX9_writeLayout 27 = .ok (.iload 7, 2) := by decide +kernel
theorem dX9_writeLayout_29 : decode cX9_writeLayout 29 = .ok (.invokevirtual 42, 3) := by decide +kernel
theorem dX9_writeLayout_32 : decode cX9_writeLayout 32 = .ok (.astore 8, 2) := by decide +kernel
theorem dX9_writeLayout_34 : decode cX9_writeLayout 34 = .ok (.aload 8, 2) := by decide +kernel
theorem dX9_writeLayout_36 : decode cX9_writeLayout 36 = .ok (.ifnull 130, 3) := by decide +kernel
theorem dX9_writeLayout_39 : decode cX9_writeLayout 39 = .ok (.aload_n 2, 1) := by decide +kernel
theorem dX9_writeLayout_40 : decode cX9_writeLayout 40 = .ok (.iload 7, 2) := by decide +kernel
theorem dX9_writeLayout_42 : decode cX9_writeLayout 42 = .ok (.invokevirtual 46, 3) := by decide +kernel
theorem dX9_writeLayout_45 : decode cX9_writeLayout 45 = .ok (.ifCond .ge 6, 3) := by decide +kernel
theorem dX9_writeLayout_48 : decode cX9_writeLayout 48 = .ok (.goto 118, 3) := by decide +kernel
theorem dX9_writeLayout_51 : decode cX9_writeLayout 51 = .ok (.iload 4, 2) := by decide +kernel
theorem dX9_writeLayout_53 : decode cX9_writeLayout 53 = .ok (.aload_n 2, 1) := by decide +kernel
theorem dX9_writeLayout_54 : decode cX9_writeLayout 54 = .ok (.iload 7, 2) := by decide +kernel
theorem dX9_writeLayout_56 : decode cX9_writeLayout 56 = .ok (.invokevirtual 46, 3) := by decide +kernel
theorem dX9_writeLayout_59 : decode cX9_writeLayout 59 = .ok (.if_icmp .ge 18, 3) := by decide +kernel
theorem dX9_writeLayout_62 : decode cX9_writeLayout 62 = .ok (.aload_n 0, 1) := by decide +kernel
theorem dX9_writeLayout_63 : decode cX9_writeLayout 63 = .ok (.bipush 10, 2) := by decide +kernel
theorem dX9_writeLayout_65 : decode cX9_writeLayout 65 = .ok (.invokevirtual 29, 3) := by decide +kernel
theorem dX9_writeLayout_68 : decode cX9_writeLayout 68 = .ok (.iconst 0, 1) := by decide +kernel
theorem dX9_writeLayout_69 : decode cX9_writeLayout 69 = .ok (.istore 5, 2) := by decide +kernel
theorem dX9_writeLayout_71 : decode cX9_writeLayout 71 = .ok (.iinc 4 1, 3) := by decide +kernel
theorem dX9_writeLayout_74 : decode cX9_writeLayout 74 = .ok (.goto (-23), 3) := by decide +kernel
theorem dX9_writeLayout_77 : decode cX9_writeLayout 77 = .ok (.iload 5, 2) := by decide +kernel
theorem dX9_writeLayout_79 : decode cX9_writeLayout 79 = .ok (.aload_n 2, 1) := by decide +kernel
theorem dX9_writeLayout_80 : decode cX9_writeLayout 80 = .ok (.iload 7, 2) := by decide +kernel
theorem dX9_writeLayout_82 : decode cX9_writeLayout 82 = .ok (.invokevirtual 51, 3) := by decide +kernel
theorem dX9_writeLayout_85 : decode cX9_writeLayout 85 = .ok (.if_icmp .ge 15, 3) := by decide +kernel
theorem dX9_writeLayout_88 : decode cX9_writeLayout 88 = .ok (.aload_n 0, 1) := by decide +kernel
theorem dX9_writeLayout_89 : decode cX9_writeLayout 89 = .ok (.bipush 32, 2) := by decide +kernel
theorem dX9_writeLayout_91 : decode cX9_writeLayout 91 = .ok (.invokevirtual 29, 3) := by decide +kernel
theorem dX9_writeLayout_94 : decode cX9_writeLayout 94 = .ok (.iinc 5 1, 3) := by decide +kernel
theorem dX9_writeLayout_97 : decode cX9_writeLayout 97 = .ok (.goto (-20), 3) := by decide +kernel
theorem dX9_writeLayout_100 : decode cX9_writeLayout 100 = .ok (.aload_n 0, 1) := by decide +kernel
theorem dX9_writeLayout_101 : decode cX9_writeLayout 101 = .ok (.getfield 9, 3) := by decide +kernel
theorem dX9_writeLayout_104 : decode cX9_writeLayout 104 = .ok (.istore 9, 2) := by decide +kernel
theorem dX9_writeLayout_106 : decode cX9_writeLayout 106 = .ok (.aload 8, 2) := by decide +kernel
theorem dX9_writeLayout_108 : decode cX9_writeLayout 108 = .ok (.getfield 54, 3) := by decide +kernel
theorem dX9_writeLayout_111 : decode cX9_writeLayout 111 = .ok (.iconst 3, 1) := by decide +kernel
theorem dX9_writeLayout_112 : decode cX9_writeLayout 112 = .ok (.if_icmp .ne 21, 3) := by decide +kernel
theorem dX9_writeLayout_115 : decode cX9_writeLayout 115 = .ok (.aload_n 0, 1) := by decide +kernel
theorem dX9_writeLayout_116 : decode cX9_writeLayout 116 = .ok (.bipush 35, 2) := by decide +kernel
theorem dX9_writeLayout_118 : decode cX9_writeLayout 118 = .ok (.invokevirtual 29, 3) := by decide +kernel
theorem dX9_writeLayout_121 : decode cX9_writeLayout 121 = .ok (.aload_n 0, 1) := by decide +kernel
theorem dX9_writeLayout_122 : decode cX9_writeLayout 122 = .ok (.aload 8, 2) := by decide +kernel
theorem dX9_writeLayout_124 : decode cX9_writeLayout 124 = .ok (.getfield 59, 3) := by decide +kernel
theorem dX9_writeLayout_127 : decode cX9_writeLayout 127 = .ok (.invokevirtual 63, 3) := by decide +kernel
theorem dX9_writeLayout_130 : decode cX9_writeLayout 130 = .ok (.goto 24, 3) := by decide +kernel
theorem dX9_writeLayout_133 : decode cX9_writeLayout 133 = .ok (.aload_n 0, 1) := by decide +kernel
theorem dX9_writeLayout_134 : decode cX9_writeLayout 134 = .ok (.aload 8, 2) := by decide +kernel
theorem dX9_writeLayout_136 : decode cX9_writeLayout 136 = .ok (.aload_n 3, 1) := by decide +kernel
theorem dX9_writeLayout_137 : decode cX9_writeLayout 137 = .ok (.ifnonnull 8, 3) := by decide +kernel
theorem dX9_writeLayout_140 : decode cX9_writeLayout 140 = .ok (.bipush (-2), 2) := by decide +kernel
theorem dX9_writeLayout_142 : decode cX9_writeLayout 142 = .ok (.goto 9, 3) := by decide +kernel
theorem dX9_writeLayout_145 : decode cX9_writeLayout 145 = .ok (.aload_n 3, 1) := by decide +kernel
theorem dX9_writeLayout_146 : decode cX9_writeLayout 146 = .ok (.iload 7, 2) := by decide +kernel
theorem dX9_writeLayout_148 : decode cX9_writeLayout 148 = .ok (.invokevirtual 67, 3) := by decide +kernel
theorem dX9_writeLayout_151 : decode cX9_writeLayout 151 = .ok (.invokevirtual 72, 3) := by decide +kernel
theorem dX9_writeLayout_154 : decode cX9_writeLayout 154 = .ok (.iload 5, 2) := by decide +kernel
theorem dX9_writeLayout_156 : decode cX9_writeLayout 156 = .ok (.aload_n 0, 1) := by decide +kernel
theorem dX9_writeLayout_157 : decode cX9_writeLayout 157 = .ok (.getfield 9, 3) := by decide +kernel
theorem dX9_writeLayout_160 : decode cX9_writeLayout 160 = .ok (.iload 9, 2) := by decide +kernel
theorem dX9_writeLayout_162 : decode cX9_writeLayout 162 = .ok (.isub, 1) := by decide +kernel
theorem dX9_writeLayout_163 : decode cX9_writeLayout 163 = .ok (.iadd, 1) := by decide +kernel
theorem dX9_writeLayout_164 : decode cX9_writeLayout 164 = .ok (.istore 5, 2) := by decide +kernel
theorem dX9_writeLayout_166 : decode cX9_writeLayout 166 = .ok (.iinc 6 1, 3) := by decide +kernel
theorem dX9_writeLayout_169 : decode cX9_writeLayout 169 = .ok (.goto (-160), 3) := by decide +kernel
theorem dX9_writeLayout_172 : decode cX9_writeLayout 172 = .ok (.aload_n 2, 1) := by decide +kernel
theorem dX9_writeLayout_173 : decode cX9_writeLayout 173 = .ok (.getfield 76, 3) := by decide +kernel
theorem dX9_writeLayout_176 : decode cX9_writeLayout 176 = .ok (.ifCond .le 9, 3) := by decide +kernel
theorem dX9_writeLayout_179 : decode cX9_writeLayout 179 = .ok (.aload_n 0, 1) := by decide +kernel
theorem dX9_writeLayout_180 : decode cX9_writeLayout 180 = .ok (.bipush 10, 2) := by decide +kernel
theorem dX9_writeLayout_182 : decode cX9_writeLayout 182 = .ok (.invokevirtual 29, 3) := by decide +kernel
theorem dX9_writeLayout_185 : decode cX9_writeLayout 185 = .ok (.return_, 1) := by decide +kernel
theorem dX9_putField_0 : decode cX9_putField 0 = .ok (.aload_n 1, 1) := by decide +kernel
theorem dX9_putField_1 : decode cX9_putField 1 = .ok (.getfield 59, 3) := by decide +kernel
theorem dX9_putField_4 : decode cX9_putField 4 = .ok (.invokestatic 79, 3) := by decide +kernel
theorem dX9_putField_7 : decode cX9_putField 7 = .ok (.istore_n 3, 1) := by decide +kernel
theorem dX9_putField_8 : decode cX9_putField 8 = .ok (.iconst 0, 1) := by decide +kernel
theorem dX9_putField_9 : decode cX9_putField 9 = .ok (.istore 4, 2) := by decide +kernel
theorem dX9_putField_11 : decode cX9_putField 11 = .ok (.iload 4, 2) := by decide +kernel
theorem dX9_putField_13 : decode cX9_putField 13 = .ok (.aload_n 1, 1) := by decide +kernel
theorem dX9_putField_14 : decode cX9_putField 14 = .ok (.getfield 83, 3) := by decide +kernel
theorem dX9_putField_17 : decode cX9_putField 17 = .ok (.if_icmp .ge 90, 3) := by decide +kernel
theorem dX9_putField_20 : decode cX9_putField 20 = .ok (.iload 4, 2) := by decide +kernel
theorem dX9_putField_22 : decode cX9_putField 22 = .ok (.iload_n 3, 1) := by decide +kernel
theorem dX9_putField_23 : decode cX9_putField 23 = .ok (.if_icmp .ge 19, 3) := by decide +kernel
theorem dX9_putField_26 : decode cX9_putField 26 = .ok (.aload_n 0, 1) := by decide +kernel
theorem dX9_putField_27 : decode cX9_putField 27 = .ok (.aload_n 1, 1) := by decide +kernel
theorem dX9_putField_28 : decode cX9_putField 28 = .ok (.getfield 59, 3) := by decide +kernel
theorem dX9_putField_31 : decode cX9_putField 31 = .ok (.iload 4, 2) := by decide +kernel
theorem dX9_putField_33 : decode cX9_putField 33 = .ok (.invokestatic 25, 3) := by decide +kernel
theorem dX9_putField_36 : decode cX9_putField 36 = .ok (.invokevirtual 29, 3) := by decide +kernel
theorem dX9_putField_39 : decode cX9_putField 39 = .ok (.goto 62, 3) := by decide +kernel
theorem dX9_putField_42 : decode cX9_putField 42 = .ok (.iload_n 2, 1) := by decide +kernel
theorem dX9_putField_43 : decode cX9_putField 43 = .ok (.ifCond .lt 18, 3) := by decide +kernel
theorem dX9_putField_46 : decode cX9_putField 46 = .ok (.iload 4, 2) := by decide +kernel
theorem dX9_putField_48 : decode cX9_putField 48 = .ok (.iload_n 3, 1) := by decide +kernel
theorem dX9_putField_49 : decode cX9_putField 49 = .ok (.if_icmp .ne 12, 3) := by decide +kernel
theorem dX9_putField_52 : decode cX9_putField 52 = .ok (.aload_n 0, 1) := by decide +kernel
theorem dX9_putField_53 : decode cX9_putField 53 = .ok (.bipush 61, 2) := by decide +kernel
theorem dX9_putField_55 : decode cX9_putField 55 = .ok (.invokevirtual 29, 3) := by decide +kernel
theorem dX9_putField_58 : decode cX9_putField 58 = .ok (.goto 43, 3) := by decide +kernel
theorem dX9_putField_61 : decode cX9_putField 61 = .ok (.iload_n 2, 1) := by decide +kernel
theorem dX9_putField_62 : decode cX9_putField 62 = .ok (.ifCond .lt 33, 3) := by decide +kernel
theorem dX9_putField_65 : decode cX9_putField 65 = .ok (.iload 4, 2) := by decide +kernel
theorem dX9_putField_67 : decode cX9_putField 67 = .ok (.iload_n 3, 1) := by decide +kernel
theorem dX9_putField_68 : decode cX9_putField 68 = .ok (.isub, 1) := by decide +kernel
theorem dX9_putField_69 : decode cX9_putField 69 = .ok (.iconst 1, 1) := by decide +kernel
theorem dX9_putField_70 : decode cX9_putField 70 = .ok (.isub, 1) := by decide +kernel
theorem dX9_putField_71 : decode cX9_putField 71 = .ok (.iload_n 2, 1) := by decide +kernel
theorem dX9_putField_72 : decode cX9_putField 72 = .ok (.invokestatic 86, 3) := by decide +kernel
theorem dX9_putField_75 : decode cX9_putField 75 = .ok (.if_icmp .ge 20, 3) := by decide +kernel
theorem dX9_putField_78 : decode cX9_putField 78 = .ok (.aload_n 0, 1) := by decide +kernel
theorem dX9_putField_79 : decode cX9_putField 79 = .ok (.iload_n 2, 1) := by decide +kernel
theorem dX9_putField_80 : decode cX9_putField 80 = .ok (.iload 4, 2) := by decide +kernel
theorem dX9_putField_82 : decode cX9_putField 82 = .ok (.iload_n 3, 1) := by decide +kernel
theorem dX9_putField_83 : decode cX9_putField 83 = .ok (.isub, 1) := by decide +kernel
theorem dX9_putField_84 : decode cX9_putField 84 = .ok (.iconst 1, 1) := by decide +kernel
theorem dX9_putField_85 : decode cX9_putField 85 = .ok (.isub, 1) := by decide +kernel
theorem dX9_putField_86 : decode cX9_putField 86 = .ok (.invokestatic 89, 3) := by decide +kernel
theorem dX9_putField_89 : decode cX9_putField 89 = .ok (.invokevirtual 29, 3) := by decide +kernel
theorem dX9_putField_92 : decode cX9_putField 92 = .ok (.goto 9, 3) := by decide +kernel
theorem dX9_putField_95 : decode cX9_putField 95 = .ok (.aload_n 0, 1) := by decide +kernel
theorem dX9_putField_96 : decode cX9_putField 96 = .ok (.bipush 95, 2) := by decide +kernel
theorem dX9_putField_98 : decode cX9_putField 98 = .ok (.invokevirtual 29, 3) := by decide +kernel
theorem dX9_putField_101 : decode cX9_putField 101 = .ok (.iinc 4 1, 3) := by decide +kernel
theorem dX9_putField_104 : decode cX9_putField 104 = .ok (.goto (-93), 3) := by decide +kernel
theorem dX9_putField_107 : decode cX9_putField 107 = .ok (.return_, 1) := by decide +kernel
theorem dX9_nameLength_0 : decode cX9_nameLength 0 = .ok (.iconst 0, 1) := by decide +kernel
theorem dX9_nameLength_1 : decode cX9_nameLength 1 = .ok (.istore_n 2, 1) := by decide +kernel
theorem dX9_nameLength_2 : decode cX9_nameLength 2 = .ok (.iconst 0, 1) := by decide +kernel
theorem dX9_nameLength_3 : decode cX9_nameLength 3 = .ok (.istore_n 3, 1) := by decide +kernel
theorem dX9_nameLength_4 : decode cX9_nameLength 4 = .ok (.iload_n 3, 1) := by decide +kernel
theorem dX9_nameLength_5 : decode cX9_nameLength 5 = .ok (.bipush 8, 2) := by decide +kernel
theorem dX9_nameLength_7 : decode cX9_nameLength 7 = .ok (.if_icmp .ge 25, 3) := by decide +kernel
theorem dX9_nameLength_10 : decode cX9_nameLength 10 = .ok (.iload_n 2, 1) := by decide +kernel
theorem dX9_nameLength_11 : decode cX9_nameLength 11 = .ok (.lload_n 0, 1) := by decide +kernel
theorem dX9_nameLength_12 : decode cX9_nameLength 12 = .ok (.iload_n 3, 1) := by decide +kernel
theorem dX9_nameLength_13 : decode cX9_nameLength 13 = .ok (.invokestatic 25, 3) := by decide +kernel
theorem dX9_nameLength_16 : decode cX9_nameLength 16 = .ok (.ifCond .lt 7, 3) := by decide +kernel
theorem dX9_nameLength_19 : decode cX9_nameLength 19 = .ok (.iconst 1, 1) := by decide +kernel
theorem dX9_nameLength_20 : decode cX9_nameLength 20 = .ok (.goto 4, 3) := by decide +kernel
theorem dX9_nameLength_23 : decode cX9_nameLength 23 = .ok (.iconst 0, 1) := by decide +kernel
theorem dX9_nameLength_24 : decode cX9_nameLength 24 = .ok (.iadd, 1) := by decide +kernel
theorem dX9_nameLength_25 : decode cX9_nameLength 25 = .ok (.istore_n 2, 1) := by decide +kernel
theorem dX9_nameLength_26 : decode cX9_nameLength 26 = .ok (.iinc 3 1, 3) := by decide +kernel
theorem dX9_nameLength_29 : decode cX9_nameLength 29 = .ok (.goto (-25), 3) := by decide +kernel
theorem dX9_nameLength_32 : decode cX9_nameLength 32 = .ok (.iload_n 2, 1) := by decide +kernel
theorem dX9_nameLength_33 : decode cX9_nameLength 33 = .ok (.ireturn, 1) := by decide +kernel
theorem dX9_digits_0 : decode cX9_digits 0 = .ok (.iload_n 0, 1) := by decide +kernel
theorem dX9_digits_1 : decode cX9_digits 1 = .ok (.sipush 1000, 3) := by decide +kernel
theorem dX9_digits_4 : decode cX9_digits 4 = .ok (.if_icmp .lt 7, 3) := by decide +kernel
theorem dX9_digits_7 : decode cX9_digits 7 = .ok (.iconst 4, 1) := by decide +kernel
theorem dX9_digits_8 : decode cX9_digits 8 = .ok (.goto 24, 3) := by decide +kernel
theorem dX9_digits_11 : decode cX9_digits 11 = .ok (.iload_n 0, 1) := by decide +kernel
theorem dX9_digits_12 : decode cX9_digits 12 = .ok (.bipush 100, 2) := by decide +kernel
theorem dX9_digits_14 : decode cX9_digits 14 = .ok (.if_icmp .lt 7, 3) := by decide +kernel
theorem dX9_digits_17 : decode cX9_digits 17 = .ok (.iconst 3, 1) := by decide +kernel
theorem dX9_digits_18 : decode cX9_digits 18 = .ok (.goto 14, 3) := by decide +kernel
theorem dX9_digits_21 : decode cX9_digits 21 = .ok (.iload_n 0, 1) := by decide +kernel
theorem dX9_digits_22 : decode cX9_digits 22 = .ok (.bipush 10, 2) := by decide +kernel
theorem dX9_digits_24 : decode cX9_digits 24 = .ok (.if_icmp .lt 7, 3) := by decide +kernel
theorem dX9_digits_27 : decode cX9_digits 27 = .ok (.iconst 2, 1) := by decide +kernel
theorem dX9_digits_28 : decode cX9_digits 28 = .ok (.goto 4, 3) := by decide +kernel
theorem dX9_digits_31 : decode cX9_digits 31 = .ok (.iconst 1, 1) := by decide +kernel
theorem dX9_digits_32 : decode cX9_digits 32 = .ok (.ireturn, 1) := by decide +kernel
theorem dX9_digit_0 : decode cX9_digit 0 = .ok (.iload_n 0, 1) := by decide +kernel
theorem dX9_digit_1 : decode cX9_digit 1 = .ok (.istore_n 2, 1) := by decide +kernel
theorem dX9_digit_2 : decode cX9_digit 2 = .ok (.iload_n 0, 1) := by decide +kernel
theorem dX9_digit_3 : decode cX9_digit 3 = .ok (.invokestatic 86, 3) := by decide +kernel
theorem dX9_digit_6 : decode cX9_digit 6 = .ok (.iconst 1, 1) := by decide +kernel
theorem dX9_digit_7 : decode cX9_digit 7 = .ok (.isub, 1) := by decide +kernel
theorem dX9_digit_8 : decode cX9_digit 8 = .ok (.istore_n 3, 1) := by decide +kernel
theorem dX9_digit_9 : decode cX9_digit 9 = .ok (.iload_n 3, 1) := by decide +kernel
theorem dX9_digit_10 : decode cX9_digit 10 = .ok (.iload_n 1, 1) := by decide +kernel
theorem dX9_digit_11 : decode cX9_digit 11 = .ok (.if_icmp .le 14, 3) := by decide +kernel
theorem dX9_digit_14 : decode cX9_digit 14 = .ok (.iload_n 2, 1) := by decide +kernel
theorem dX9_digit_15 : decode cX9_digit 15 = .ok (.bipush 10, 2) := by decide +kernel
theorem dX9_digit_17 : decode cX9_digit 17 = .ok (.idiv, 1) := by decide +kernel
theorem dX9_digit_18 : decode cX9_digit 18 = .ok (.istore_n 2, 1) := by decide +kernel
theorem dX9_digit_19 : decode cX9_digit 19 = .ok (.iinc 3 (-1), 3) := by decide +kernel
theorem dX9_digit_22 : decode cX9_digit 22 = .ok (.goto (-13), 3) := by decide +kernel
theorem dX9_digit_25 : decode cX9_digit 25 = .ok (.bipush 48, 2) := by decide +kernel
theorem dX9_digit_27 : decode cX9_digit 27 = .ok (.iload_n 2, 1) := by decide +kernel
theorem dX9_digit_28 : decode cX9_digit 28 = .ok (.bipush 10, 2) := by decide +kernel
theorem dX9_digit_30 : decode cX9_digit 30 = .ok (.irem, 1) := by decide +kernel
theorem dX9_digit_31 : decode cX9_digit 31 = .ok (.iadd, 1) := by decide +kernel
theorem dX9_digit_32 : decode cX9_digit 32 = .ok (.ireturn, 1) := by decide +kernel
theorem dX9_writeSetup_0 : decode cX9_writeSetup 0 = .ok (.aload_n 0, 1) := by decide +kernel
theorem dX9_writeSetup_1 : decode cX9_writeSetup 1 = .ok (.iconst 4, 1) := by decide +kernel
theorem dX9_writeSetup_2 : decode cX9_writeSetup 2 = .ok (.invokevirtual 93, 3) := by decide +kernel
theorem dX9_writeSetup_5 : decode cX9_writeSetup 5 = .ok (.aload_n 0, 1) := by decide +kernel
theorem dX9_writeSetup_6 : decode cX9_writeSetup 6 = .ok (.aload_n 1, 1) := by decide +kernel
theorem dX9_writeSetup_7 : decode cX9_writeSetup 7 = .ok (.getfield 96, 3) := by decide +kernel
theorem dX9_writeSetup_10 : decode cX9_writeSetup 10 = .ok (.invokevirtual 99, 3) := by decide +kernel
theorem dX9_writeSetup_13 : decode cX9_writeSetup 13 = .ok (.aload_n 0, 1) := by decide +kernel
theorem dX9_writeSetup_14 : decode cX9_writeSetup 14 = .ok (.aload_n 1, 1) := by decide +kernel
theorem dX9_writeSetup_15 : decode cX9_writeSetup 15 = .ok (.getfield 102, 3) := by decide +kernel
theorem dX9_writeSetup_18 : decode cX9_writeSetup 18 = .ok (.invokevirtual 99, 3) := by decide +kernel
theorem dX9_writeSetup_21 : decode cX9_writeSetup 21 = .ok (.aload_n 0, 1) := by decide +kernel
theorem dX9_writeSetup_22 : decode cX9_writeSetup 22 = .ok (.aload_n 1, 1) := by decide +kernel
theorem dX9_writeSetup_23 : decode cX9_writeSetup 23 = .ok (.getfield 105, 3) := by decide +kernel
theorem dX9_writeSetup_26 : decode cX9_writeSetup 26 = .ok (.invokevirtual 99, 3) := by decide +kernel
theorem dX9_writeSetup_29 : decode cX9_writeSetup 29 = .ok (.aload_n 0, 1) := by decide +kernel
theorem dX9_writeSetup_30 : decode cX9_writeSetup 30 = .ok (.bipush 59, 2) := by decide +kernel
theorem dX9_writeSetup_32 : decode cX9_writeSetup 32 = .ok (.invokevirtual 108, 3) := by decide +kernel
theorem dX9_writeSetup_35 : decode cX9_writeSetup 35 = .ok (.iconst 0, 1) := by decide +kernel
theorem dX9_writeSetup_36 : decode cX9_writeSetup 36 = .ok (.istore_n 2, 1) := by decide +kernel
theorem dX9_writeSetup_37 : decode cX9_writeSetup 37 = .ok (.iconst 0, 1) := by decide +kernel
theorem dX9_writeSetup_38 : decode cX9_writeSetup 38 = .ok (.istore_n 3, 1) := by decide +kernel
theorem dX9_writeSetup_39 : decode cX9_writeSetup 39 = .ok (.iload_n 3, 1) := by decide +kernel
theorem dX9_writeSetup_40 : decode cX9_writeSetup 40 = .ok (.aload_n 1, 1) := by decide +kernel
theorem dX9_writeSetup_41 : decode cX9_writeSetup 41 = .ok (.getfield 33, 3) := by decide +kernel
theorem dX9_writeSetup_44 : decode cX9_writeSetup 44 = .ok (.if_icmp .ge 71, 3) := by decide +kernel
theorem dX9_writeSetup_47 : decode cX9_writeSetup 47 = .ok (.aload_n 1, 1) := by decide +kernel
theorem dX9_writeSetup_48 : decode cX9_writeSetup 48 = .ok (.aload_n 1, 1) := by decide +kernel
theorem dX9_writeSetup_49 : decode cX9_writeSetup 49 = .ok (.iload_n 3, 1) := by decide +kernel
theorem dX9_writeSetup_50 : decode cX9_writeSetup 50 = .ok (.invokevirtual 38, 3) := by decide +kernel
theorem dX9_writeSetup_53 : decode cX9_writeSetup 53 = .ok (.invokevirtual 42, 3) := by decide +kernel
theorem dX9_writeSetup_56 : decode cX9_writeSetup 56 = .ok (.astore 4, 2) := by decide +kernel
theorem dX9_writeSetup_58 : decode cX9_writeSetup 58 = .ok (.aload 4, 2) := by decide +kernel
theorem dX9_writeSetup_60 : decode cX9_writeSetup 60 = .ok (.ifnull 49, 3) := by decide +kernel
theorem dX9_writeSetup_63 : decode cX9_writeSetup 63 = .ok (.aload_n 0, 1) := by decide +kernel
theorem dX9_writeSetup_64 : decode cX9_writeSetup 64 = .ok (.iload_n 2, 1) := by decide +kernel
theorem dX9_writeSetup_65 : decode cX9_writeSetup 65 = .ok (.aload_n 1, 1) := by decide +kernel
theorem dX9_writeSetup_66 : decode cX9_writeSetup 66 = .ok (.aload 4, 2) := by decide +kernel
theorem dX9_writeSetup_68 : decode cX9_writeSetup 68 = .ok (.getfield 111, 3) := by decide +kernel
theorem dX9_writeSetup_71 : decode cX9_writeSetup 71 = .ok (.invokevirtual 114, 3) := by decide +kernel
theorem dX9_writeSetup_74 : decode cX9_writeSetup 74 = .ok (.invokevirtual 117, 3) := by decide +kernel
theorem dX9_writeSetup_77 : decode cX9_writeSetup 77 = .ok (.aload_n 0, 1) := by decide +kernel
theorem dX9_writeSetup_78 : decode cX9_writeSetup 78 = .ok (.aload_n 1, 1) := by decide +kernel
theorem dX9_writeSetup_79 : decode cX9_writeSetup 79 = .ok (.aload 4, 2) := by decide +kernel
theorem dX9_writeSetup_81 : decode cX9_writeSetup 81 = .ok (.invokevirtual 121, 3) := by decide +kernel
theorem dX9_writeSetup_84 : decode cX9_writeSetup 84 = .ok (.aload_n 1, 1) := by decide +kernel
theorem dX9_writeSetup_85 : decode cX9_writeSetup 85 = .ok (.aload 4, 2) := by decide +kernel
theorem dX9_writeSetup_87 : decode cX9_writeSetup 87 = .ok (.getfield 111, 3) := by decide +kernel
theorem dX9_writeSetup_90 : decode cX9_writeSetup 90 = .ok (.invokevirtual 114, 3) := by decide +kernel
theorem dX9_writeSetup_93 : decode cX9_writeSetup 93 = .ok (.aload 4, 2) := by decide +kernel
theorem dX9_writeSetup_95 : decode cX9_writeSetup 95 = .ok (.getfield 54, 3) := by decide +kernel
theorem dX9_writeSetup_98 : decode cX9_writeSetup 98 = .ok (.iconst 3, 1) := by decide +kernel
theorem dX9_writeSetup_99 : decode cX9_writeSetup 99 = .ok (.if_icmp .ne 7, 3) := by decide +kernel
theorem dX9_writeSetup_102 : decode cX9_writeSetup 102 = .ok (.iconst 1, 1) := by decide +kernel
theorem dX9_writeSetup_103 : decode cX9_writeSetup 103 = .ok (.goto 4, 3) := by decide +kernel
theorem dX9_writeSetup_106 : decode cX9_writeSetup 106 = .ok (.iconst 0, 1) := by decide +kernel
theorem dX9_writeSetup_107 : decode cX9_writeSetup 107 = .ok (.iadd, 1) := by decide +kernel
theorem dX9_writeSetup_108 : decode cX9_writeSetup 108 = .ok (.istore_n 2, 1) := by decide +kernel
theorem dX9_writeSetup_109 : decode cX9_writeSetup 109 = .ok (.iinc 3 1, 3) := by decide +kernel
theorem dX9_writeSetup_112 : decode cX9_writeSetup 112 = .ok (.goto (-73), 3) := by decide +kernel
theorem dX9_writeSetup_115 : decode cX9_writeSetup 115 = .ok (.aload_n 0, 1) := by decide +kernel
theorem dX9_writeSetup_116 : decode cX9_writeSetup 116 = .ok (.iload_n 2, 1) := by decide +kernel
theorem dX9_writeSetup_117 : decode cX9_writeSetup 117 = .ok (.iconst 0, 1) := by decide +kernel
theorem dX9_writeSetup_118 : decode cX9_writeSetup 118 = .ok (.invokevirtual 117, 3) := by decide +kernel
theorem dX9_writeSetup_121 : decode cX9_writeSetup 121 = .ok (.return_, 1) := by decide +kernel
theorem dX9_closeGroups_0 : decode cX9_closeGroups 0 = .ok (.iload_n 1, 1) := by decide +kernel
theorem dX9_closeGroups_1 : decode cX9_closeGroups 1 = .ok (.istore_n 3, 1) := by decide +kernel
theorem dX9_closeGroups_2 : decode cX9_closeGroups 2 = .ok (.iload_n 3, 1) := by decide +kernel
theorem dX9_closeGroups_3 : decode cX9_closeGroups 3 = .ok (.iload_n 2, 1) := by decide +kernel
theorem dX9_closeGroups_4 : decode cX9_closeGroups 4 = .ok (.if_icmp .le 15, 3) := by decide +kernel
theorem dX9_closeGroups_7 : decode cX9_closeGroups 7 = .ok (.aload_n 0, 1) := by decide +kernel
theorem dX9_closeGroups_8 : decode cX9_closeGroups 8 = .ok (.bipush 125, 2) := by decide +kernel
theorem dX9_closeGroups_10 : decode cX9_closeGroups 10 = .ok (.invokevirtual 108, 3) := by decide +kernel
theorem dX9_closeGroups_13 : decode cX9_closeGroups 13 = .ok (.iinc 3 (-1), 3) := by decide +kernel
theorem dX9_closeGroups_16 : decode cX9_closeGroups 16 = .ok (.goto (-14), 3) := by decide +kernel
theorem dX9_closeGroups_19 : decode cX9_closeGroups 19 = .ok (.return_, 1) := by decide +kernel
theorem dX9_putNode_0 : decode cX9_putNode 0 = .ok (.aload_n 2, 1) := by decide +kernel
theorem dX9_putNode_1 : decode cX9_putNode 1 = .ok (.getfield 54, 3) := by decide +kernel
theorem dX9_putNode_4 : decode cX9_putNode 4 = .ok (.iconst 3, 1) := by decide +kernel
theorem dX9_putNode_5 : decode cX9_putNode 5 = .ok (.if_icmp .ne 7, 3) := by decide +kernel
theorem dX9_putNode_8 : decode cX9_putNode 8 = .ok (.iconst 1, 1) := by decide +kernel
theorem dX9_putNode_9 : decode cX9_putNode 9 = .ok (.goto 4, 3) := by decide +kernel
theorem dX9_putNode_12 : decode cX9_putNode 12 = .ok (.iconst 0, 1) := by decide +kernel
theorem dX9_putNode_13 : decode cX9_putNode 13 = .ok (.istore_n 3, 1) := by decide +kernel
theorem dX9_putNode_14 : decode cX9_putNode 14 = .ok (.aload_n 0, 1) := by decide +kernel
theorem dX9_putNode_15 : decode cX9_putNode 15 = .ok (.iload_n 3, 1) := by decide +kernel
theorem dX9_putNode_16 : decode cX9_putNode 16 = .ok (.ifCond .eq 7, 3) := by decide +kernel
theorem dX9_putNode_19 : decode cX9_putNode 19 = .ok (.iconst 5, 1) := by decide +kernel
theorem dX9_putNode_20 : decode cX9_putNode 20 = .ok (.goto 10, 3) := by decide +kernel
theorem dX9_putNode_23 : decode cX9_putNode 23 = .ok (.bipush 8, 2) := by decide +kernel
theorem dX9_putNode_25 : decode cX9_putNode 25 = .ok (.aload_n 2, 1) := by decide +kernel
theorem dX9_putNode_26 : decode cX9_putNode 26 = .ok (.getfield 54, 3) := by decide +kernel
theorem dX9_putNode_29 : decode cX9_putNode 29 = .ok (.iadd, 1) := by decide +kernel
theorem dX9_putNode_30 : decode cX9_putNode 30 = .ok (.invokevirtual 93, 3) := by decide +kernel
theorem dX9_putNode_33 : decode cX9_putNode 33 = .ok (.aload_n 2, 1) := by decide +kernel
theorem dX9_putNode_34 : decode cX9_putNode 34 = .ok (.getfield 54, 3) := by decide +kernel
theorem dX9_putNode_37 : decode cX9_putNode 37 = .ok (.ifCond .ne 22, 3) := by decide +kernel
theorem dX9_putNode_40 : decode cX9_putNode 40 = .ok (.aload_n 0, 1) := by decide +kernel
theorem dX9_putNode_41 : decode cX9_putNode 41 = .ok (.aload_n 2, 1) := by decide +kernel
theorem dX9_putNode_42 : decode cX9_putNode 42 = .ok (.getfield 125, 3) := by decide +kernel
theorem dX9_putNode_45 : decode cX9_putNode 45 = .ok (.invokevirtual 99, 3) := by decide +kernel
theorem dX9_putNode_48 : decode cX9_putNode 48 = .ok (.aload_n 0, 1) := by decide +kernel
theorem dX9_putNode_49 : decode cX9_putNode 49 = .ok (.aload_n 2, 1) := by decide +kernel
theorem dX9_putNode_50 : decode cX9_putNode 50 = .ok (.getfield 128, 3) := by decide +kernel
theorem dX9_putNode_53 : decode cX9_putNode 53 = .ok (.invokevirtual 99, 3) := by decide +kernel
theorem dX9_putNode_56 : decode cX9_putNode 56 = .ok (.goto 21, 3) := by decide +kernel
theorem dX9_putNode_59 : decode cX9_putNode 59 = .ok (.aload_n 2, 1) := by decide +kernel
theorem dX9_putNode_60 : decode cX9_putNode 60 = .ok (.getfield 54, 3) := by decide +kernel
theorem dX9_putNode_63 : decode cX9_putNode 63 = .ok (.iconst 1, 1) := by decide +kernel
theorem dX9_putNode_64 : decode cX9_putNode 64 = .ok (.if_icmp .ne 13, 3) := by decide +kernel
theorem dX9_putNode_67 : decode cX9_putNode 67 = .ok (.aload_n 0, 1) := by decide +kernel
theorem dX9_putNode_68 : decode cX9_putNode 68 = .ok (.aload_n 2, 1) := by decide +kernel
theorem dX9_putNode_69 : decode cX9_putNode 69 = .ok (.getfield 128, 3) := by decide +kernel
theorem dX9_putNode_72 : decode cX9_putNode 72 = .ok (.iconst 1, 1) := by decide +kernel
theorem dX9_putNode_73 : decode cX9_putNode 73 = .ok (.iadd, 1) := by decide +kernel
theorem dX9_putNode_74 : decode cX9_putNode 74 = .ok (.invokevirtual 99, 3) := by decide +kernel
theorem dX9_putNode_77 : decode cX9_putNode 77 = .ok (.aload_n 0, 1) := by decide +kernel
theorem dX9_putNode_78 : decode cX9_putNode 78 = .ok (.invokevirtual 131, 3) := by decide +kernel
theorem dX9_putNode_81 : decode cX9_putNode 81 = .ok (.aload_n 0, 1) := by decide +kernel
theorem dX9_putNode_82 : decode cX9_putNode 82 = .ok (.aload_n 2, 1) := by decide +kernel
theorem dX9_putNode_83 : decode cX9_putNode 83 = .ok (.getfield 59, 3) := by decide +kernel
theorem dX9_putNode_86 : decode cX9_putNode 86 = .ok (.invokevirtual 63, 3) := by decide +kernel
theorem dX9_putNode_89 : decode cX9_putNode 89 = .ok (.iload_n 3, 1) := by decide +kernel
theorem dX9_putNode_90 : decode cX9_putNode 90 = .ok (.ifCond .ne 17, 3) := by decide +kernel
theorem dX9_putNode_93 : decode cX9_putNode 93 = .ok (.aload_n 0, 1) := by decide +kernel
theorem dX9_putNode_94 : decode cX9_putNode 94 = .ok (.bipush 7, 2) := by decide +kernel
theorem dX9_putNode_96 : decode cX9_putNode 96 = .ok (.invokevirtual 93, 3) := by decide +kernel
theorem dX9_putNode_99 : decode cX9_putNode 99 = .ok (.aload_n 0, 1) := by decide +kernel
theorem dX9_putNode_100 : decode cX9_putNode 100 = .ok (.aload_n 2, 1) := by decide +kernel
theorem dX9_putNode_101 : decode cX9_putNode 101 = .ok (.getfield 83, 3) := by decide +kernel
theorem dX9_putNode_104 : decode cX9_putNode 104 = .ok (.invokevirtual 99, 3) := by decide +kernel
theorem dX9_putNode_107 : decode cX9_putNode 107 = .ok (.aload_n 2, 1) := by decide +kernel
theorem dX9_putNode_108 : decode cX9_putNode 108 = .ok (.getfield 134, 3) := by decide +kernel
theorem dX9_putNode_111 : decode cX9_putNode 111 = .ok (.ifnull 19, 3) := by decide +kernel
theorem dX9_putNode_114 : decode cX9_putNode 114 = .ok (.aload_n 0, 1) := by decide +kernel
theorem dX9_putNode_115 : decode cX9_putNode 115 = .ok (.bipush 6, 2) := by decide +kernel
theorem dX9_putNode_117 : decode cX9_putNode 117 = .ok (.invokevirtual 93, 3) := by decide +kernel
theorem dX9_putNode_120 : decode cX9_putNode 120 = .ok (.aload_n 0, 1) := by decide +kernel
theorem dX9_putNode_121 : decode cX9_putNode 121 = .ok (.aload_n 1, 1) := by decide +kernel
theorem dX9_putNode_122 : decode cX9_putNode 122 = .ok (.aload_n 2, 1) := by decide +kernel
theorem dX9_putNode_123 : decode cX9_putNode 123 = .ok (.getfield 134, 3) := by decide +kernel
theorem dX9_putNode_126 : decode cX9_putNode 126 = .ok (.iconst 0, 1) := by decide +kernel
theorem dX9_putNode_127 : decode cX9_putNode 127 = .ok (.invokestatic 138, 3) := by decide +kernel
theorem dX9_putNode_130 : decode cX9_putNode 130 = .ok (.aload_n 0, 1) := by decide +kernel
theorem dX9_putNode_131 : decode cX9_putNode 131 = .ok (.iload_n 3, 1) := by decide +kernel
theorem dX9_putNode_132 : decode cX9_putNode 132 = .ok (.ifCond .eq 8, 3) := by decide +kernel
theorem dX9_putNode_135 : decode cX9_putNode 135 = .ok (.bipush 123, 2) := by decide +kernel
theorem dX9_putNode_137 : decode cX9_putNode 137 = .ok (.goto 5, 3) := by decide +kernel
theorem dX9_putNode_140 : decode cX9_putNode 140 = .ok (.bipush 59, 2) := by decide +kernel
theorem dX9_putNode_142 : decode cX9_putNode 142 = .ok (.invokevirtual 108, 3) := by decide +kernel
theorem dX9_putNode_145 : decode cX9_putNode 145 = .ok (.return_, 1) := by decide +kernel
theorem dX9_putTerm_0 : decode cX9_putTerm 0 = .ok (.aload_n 2, 1) := by decide +kernel
theorem dX9_putTerm_1 : decode cX9_putTerm 1 = .ok (.ifnull 9, 3) := by decide +kernel
theorem dX9_putTerm_4 : decode cX9_putTerm 4 = .ok (.iload_n 3, 1) := by decide +kernel
theorem dX9_putTerm_5 : decode cX9_putTerm 5 = .ok (.bipush 40, 2) := by decide +kernel
theorem dX9_putTerm_7 : decode cX9_putTerm 7 = .ok (.if_icmp .le 4, 3) := by decide +kernel
theorem dX9_putTerm_10 : decode cX9_putTerm 10 = .ok (.return_, 1) := by decide +kernel
theorem dX9_putTerm_11 : decode cX9_putTerm 11 = .ok (.aload_n 2, 1) := by decide +kernel
theorem dX9_putTerm_12 : decode cX9_putTerm 12 = .ok (.getfield 142, 3) := by decide +kernel
theorem dX9_putTerm_15 : decode cX9_putTerm 15 = .ok (.iconst 2, 1) := by decide +kernel
theorem dX9_putTerm_16 : decode cX9_putTerm 16 = .ok (.if_icmp .ne 10, 3) := by decide +kernel
theorem dX9_putTerm_19 : decode cX9_putTerm 19 = .ok (.aload_n 0, 1) := by decide +kernel
theorem dX9_putTerm_20 : decode cX9_putTerm 20 = .ok (.aload_n 1, 1) := by decide +kernel
theorem dX9_putTerm_21 : decode cX9_putTerm 21 = .ok (.aload_n 2, 1) := by decide +kernel
theorem dX9_putTerm_22 : decode cX9_putTerm 22 = .ok (.invokevirtual 145, 3) := by decide +kernel
theorem dX9_putTerm_25 : decode cX9_putTerm 25 = .ok (.return_, 1) := by decide +kernel
theorem dX9_putTerm_26 : decode cX9_putTerm 26 = .ok (.aload_n 2, 1) := by decide +kernel
theorem dX9_putTerm_27 : decode cX9_putTerm 27 = .ok (.getfield 142, 3) := by decide +kernel
theorem dX9_putTerm_30 : decode cX9_putTerm 30 = .ok (.bipush 13, 2) := by decide +kernel
theorem dX9_putTerm_32 : decode cX9_putTerm 32 = .ok (.if_icmp .ne 9, 3) := by decide +kernel
theorem dX9_putTerm_35 : decode cX9_putTerm 35 = .ok (.aload_n 0, 1) := by decide +kernel
theorem dX9_putTerm_36 : decode cX9_putTerm 36 = .ok (.bipush 13, 2) := by decide +kernel
theorem dX9_putTerm_38 : decode cX9_putTerm 38 = .ok (.invokevirtual 93, 3) := by decide +kernel
theorem dX9_putTerm_41 : decode cX9_putTerm 41 = .ok (.aload_n 2, 1) := by decide +kernel
theorem dX9_putTerm_42 : decode cX9_putTerm 42 = .ok (.getfield 149, 3) := by decide +kernel
theorem dX9_putTerm_45 : decode cX9_putTerm 45 = .ok (.astore 4, 2) := by decide +kernel
theorem dX9_putTerm_47 : decode cX9_putTerm 47 = .ok (.aload 4, 2) := by decide +kernel
theorem dX9_putTerm_49 : decode cX9_putTerm 49 = .ok (.ifnull 107, 3) := by decide +kernel
theorem dX9_putTerm_52 : decode cX9_putTerm 52 = .ok (.aload 4, 2) := by decide +kernel
theorem dX9_putTerm_54 : decode cX9_putTerm 54 = .ok (.aload_n 2, 1) := by decide +kernel
theorem dX9_putTerm_55 : decode cX9_putTerm 55 = .ok (.getfield 149, 3) := by decide +kernel
theorem dX9_putTerm_58 : decode cX9_putTerm 58 = .ok (.if_acmp .eq 11, 3) := by decide +kernel
theorem dX9_putTerm_61 : decode cX9_putTerm 61 = .ok (.aload_n 0, 1) := by decide +kernel
theorem dX9_putTerm_62 : decode cX9_putTerm 62 = .ok (.aload_n 2, 1) := by decide +kernel
theorem dX9_putTerm_63 : decode cX9_putTerm 63 = .ok (.getfield 142, 3) := by decide +kernel
theorem dX9_putTerm_66 : decode cX9_putTerm 66 = .ok (.invokevirtual 93, 3) := by decide +kernel
theorem dX9_putTerm_69 : decode cX9_putTerm 69 = .ok (.aload_n 2, 1) := by decide +kernel
theorem dX9_putTerm_70 : decode cX9_putTerm 70 = .ok (.getfield 142, 3) := by decide +kernel
theorem dX9_putTerm_73 : decode cX9_putTerm 73 = .ok (.bipush 13, 2) := by decide +kernel
theorem dX9_putTerm_75 : decode cX9_putTerm 75 = .ok (.if_icmp .ne 13, 3) := by decide +kernel
theorem dX9_putTerm_78 : decode cX9_putTerm 78 = .ok (.aload 4, 2) := by decide +kernel
theorem dX9_putTerm_80 : decode cX9_putTerm 80 = .ok (.getfield 142, 3) := by decide +kernel
theorem dX9_putTerm_83 : decode cX9_putTerm 83 = .ok (.bipush 12, 2) := by decide +kernel
theorem dX9_putTerm_85 : decode cX9_putTerm 85 = .ok (.if_icmp .eq 22, 3) := by decide +kernel
theorem dX9_putTerm_88 : decode cX9_putTerm 88 = .ok (.aload_n 2, 1) := by decide +kernel
theorem dX9_putTerm_89 : decode cX9_putTerm 89 = .ok (.getfield 142, 3) := by decide +kernel
theorem dX9_putTerm_92 : decode cX9_putTerm 92 = .ok (.bipush 11, 2) := by decide +kernel
theorem dX9_putTerm_94 : decode cX9_putTerm 94 = .ok (.if_icmp .eq 17, 3) := by decide +kernel
theorem dX9_putTerm_97 : decode cX9_putTerm 97 = .ok (.aload 4, 2) := by decide +kernel
theorem dX9_putTerm_99 : decode cX9_putTerm 99 = .ok (.getfield 142, 3) := by decide +kernel
theorem dX9_putTerm_102 : decode cX9_putTerm 102 = .ok (.bipush 11, 2) := by decide +kernel
theorem dX9_putTerm_104 : decode cX9_putTerm 104 = .ok (.if_icmp .ne 7, 3) := by decide +kernel
theorem dX9_putTerm_107 : decode cX9_putTerm 107 = .ok (.iconst 1, 1) := by decide +kernel
theorem dX9_putTerm_108 : decode cX9_putTerm 108 = .ok (.goto 4, 3) := by decide +kernel
theorem dX9_putTerm_111 : decode cX9_putTerm 111 = .ok (.iconst 0, 1) := by decide +kernel
theorem dX9_putTerm_112 : decode cX9_putTerm 112 = .ok (.istore 5, 2) := by decide +kernel
theorem dX9_putTerm_114 : decode cX9_putTerm 114 = .ok (.iload 5, 2) := by decide +kernel
theorem dX9_putTerm_116 : decode cX9_putTerm 116 = .ok (.ifCond .eq 9, 3) := by decide +kernel
theorem dX9_putTerm_119 : decode cX9_putTerm 119 = .ok (.aload_n 0, 1) := by decide +kernel
theorem dX9_putTerm_120 : decode cX9_putTerm 120 = .ok (.bipush 40, 2) := by decide +kernel
theorem dX9_putTerm_122 : decode cX9_putTerm 122 = .ok (.invokevirtual 152, 3) := by decide +kernel
theorem dX9_putTerm_125 : decode cX9_putTerm 125 = .ok (.aload_n 0, 1) := by decide +kernel
theorem dX9_putTerm_126 : decode cX9_putTerm 126 = .ok (.aload_n 1, 1) := by decide +kernel
theorem dX9_putTerm_127 : decode cX9_putTerm 127 = .ok (.aload 4, 2) := by decide +kernel
theorem dX9_putTerm_129 : decode cX9_putTerm 129 = .ok (.iload_n 3, 1) := by decide +kernel
theorem dX9_putTerm_130 : decode cX9_putTerm 130 = .ok (.iconst 1, 1) := by decide +kernel
theorem dX9_putTerm_131 : decode cX9_putTerm 131 = .ok (.iadd, 1) := by decide +kernel
theorem dX9_putTerm_132 : decode cX9_putTerm 132 = .ok (.invokestatic 138, 3) := by decide +kernel
theorem dX9_putTerm_135 : decode cX9_putTerm 135 = .ok (.iload 5, 2) := by decide +kernel
theorem dX9_putTerm_137 : decode cX9_putTerm 137 = .ok (.ifCond .eq 9, 3) := by decide +kernel
theorem dX9_putTerm_140 : decode cX9_putTerm 140 = .ok (.aload_n 0, 1) := by decide +kernel
theorem dX9_putTerm_141 : decode cX9_putTerm 141 = .ok (.bipush 41, 2) := by decide +kernel
theorem dX9_putTerm_143 : decode cX9_putTerm 143 = .ok (.invokevirtual 152, 3) := by decide +kernel
theorem dX9_putTerm_146 : decode cX9_putTerm 146 = .ok (.aload 4, 2) := by decide +kernel
theorem dX9_putTerm_148 : decode cX9_putTerm 148 = .ok (.getfield 155, 3) := by decide +kernel
theorem dX9_putTerm_151 : decode cX9_putTerm 151 = .ok (.astore 4, 2) := by decide +kernel
theorem dX9_putTerm_153 : decode cX9_putTerm 153 = .ok (.goto (-106), 3) := by decide +kernel
theorem dX9_putTerm_156 : decode cX9_putTerm 156 = .ok (.return_, 1) := by decide +kernel
theorem dX9_putTest_0 : decode cX9_putTest 0 = .ok (.aload_n 1, 1) := by decide +kernel
theorem dX9_putTest_1 : decode cX9_putTest 1 = .ok (.aload_n 2, 1) := by decide +kernel
theorem dX9_putTest_2 : decode cX9_putTest 2 = .ok (.getfield 158, 3) := by decide +kernel
theorem dX9_putTest_5 : decode cX9_putTest 5 = .ok (.invokevirtual 42, 3) := by decide +kernel
theorem dX9_putTest_8 : decode cX9_putTest 8 = .ok (.astore_n 3, 1) := by decide +kernel
theorem dX9_putTest_9 : decode cX9_putTest 9 = .ok (.aload_n 0, 1) := by decide +kernel
theorem dX9_putTest_10 : decode cX9_putTest 10 = .ok (.invokevirtual 131, 3) := by decide +kernel
theorem dX9_putTest_13 : decode cX9_putTest 13 = .ok (.aload_n 0, 1) := by decide +kernel
theorem dX9_putTest_14 : decode cX9_putTest 14 = .ok (.aload_n 3, 1) := by decide +kernel
theorem dX9_putTest_15 : decode cX9_putTest 15 = .ok (.ifnonnull 7, 3) := by decide +kernel
theorem dX9_putTest_18 : decode cX9_putTest 18 = .ok (.lconst 0, 1) := by decide +kernel
theorem dX9_putTest_19 : decode cX9_putTest 19 = .ok (.goto 7, 3) := by decide +kernel
theorem dX9_putTest_22 : decode cX9_putTest 22 = .ok (.aload_n 3, 1) := by decide +kernel
theorem dX9_putTest_23 : decode cX9_putTest 23 = .ok (.getfield 59, 3) := by decide +kernel
theorem dX9_putTest_26 : decode cX9_putTest 26 = .ok (.invokevirtual 63, 3) := by decide +kernel
theorem dX9_putTest_29 : decode cX9_putTest 29 = .ok (.aload_n 2, 1) := by decide +kernel
theorem dX9_putTest_30 : decode cX9_putTest 30 = .ok (.getfield 161, 3) := by decide +kernel
theorem dX9_putTest_33 : decode cX9_putTest 33 = .ok (.ifCond .eq 19, 3) := by decide +kernel
theorem dX9_putTest_36 : decode cX9_putTest 36 = .ok (.aload_n 0, 1) := by decide +kernel
theorem dX9_putTest_37 : decode cX9_putTest 37 = .ok (.aload_n 2, 1) := by decide +kernel
theorem dX9_putTest_38 : decode cX9_putTest 38 = .ok (.getfield 161, 3) := by decide +kernel
theorem dX9_putTest_41 : decode cX9_putTest 41 = .ok (.invokevirtual 152, 3) := by decide +kernel
theorem dX9_putTest_44 : decode cX9_putTest 44 = .ok (.aload_n 0, 1) := by decide +kernel
theorem dX9_putTest_45 : decode cX9_putTest 45 = .ok (.aload_n 2, 1) := by decide +kernel
theorem dX9_putTest_46 : decode cX9_putTest 46 = .ok (.getfield 164, 3) := by decide +kernel
theorem dX9_putTest_49 : decode cX9_putTest 49 = .ok (.invokevirtual 99, 3) := by decide +kernel
theorem dX9_putTest_52 : decode cX9_putTest 52 = .ok (.return_, 1) := by decide +kernel
theorem dX9_putSpace_0 : decode cX9_putSpace 0 = .ok (.aload_n 0, 1) := by decide +kernel
theorem dX9_putSpace_1 : decode cX9_putSpace 1 = .ok (.getfield 21, 3) := by decide +kernel
theorem dX9_putSpace_4 : decode cX9_putSpace 4 = .ok (.ifCond .eq 9, 3) := by decide +kernel
theorem dX9_putSpace_7 : decode cX9_putSpace 7 = .ok (.aload_n 0, 1) := by decide +kernel
theorem dX9_putSpace_8 : decode cX9_putSpace 8 = .ok (.bipush 32, 2) := by decide +kernel
theorem dX9_putSpace_10 : decode cX9_putSpace 10 = .ok (.invokevirtual 29, 3) := by decide +kernel
theorem dX9_putSpace_13 : decode cX9_putSpace 13 = .ok (.aload_n 0, 1) := by decide +kernel
theorem dX9_putSpace_14 : decode cX9_putSpace 14 = .ok (.iconst 1, 1) := by decide +kernel
theorem dX9_putSpace_15 : decode cX9_putSpace 15 = .ok (.putfield 21, 3) := by decide +kernel
theorem dX9_putSpace_18 : decode cX9_putSpace 18 = .ok (.return_, 1) := by decide +kernel
theorem dX9_putKeyword_0 : decode cX9_putKeyword 0 = .ok (.iload_n 1, 1) := by decide +kernel
theorem dX9_putKeyword_1 : decode cX9_putKeyword 1 = .ok (.invokestatic 167, 3) := by decide +kernel
theorem dX9_putKeyword_4 : decode cX9_putKeyword 4 = .ok (.astore_n 2, 1) := by decide +kernel
theorem dX9_putKeyword_5 : decode cX9_putKeyword 5 = .ok (.aload_n 0, 1) := by decide +kernel
theorem dX9_putKeyword_6 : decode cX9_putKeyword 6 = .ok (.invokevirtual 131, 3) := by decide +kernel
theorem dX9_putKeyword_9 : decode cX9_putKeyword 9 = .ok (.iconst 0, 1) := by decide +kernel
theorem dX9_putKeyword_10 : decode cX9_putKeyword 10 = .ok (.istore_n 3, 1) := by decide +kernel
theorem dX9_putKeyword_11 : decode cX9_putKeyword 11 = .ok (.iload_n 3, 1) := by decide +kernel
theorem dX9_putKeyword_12 : decode cX9_putKeyword 12 = .ok (.aload_n 2, 1) := by decide +kernel
theorem dX9_putKeyword_13 : decode cX9_putKeyword 13 = .ok (.invokevirtual 171, 3) := by decide +kernel
theorem dX9_putKeyword_16 : decode cX9_putKeyword 16 = .ok (.if_icmp .ge 18, 3) := by decide +kernel
theorem dX9_putKeyword_19 : decode cX9_putKeyword 19 = .ok (.aload_n 0, 1) := by decide +kernel
theorem dX9_putKeyword_20 : decode cX9_putKeyword 20 = .ok (.aload_n 2, 1) := by decide +kernel
theorem dX9_putKeyword_21 : decode cX9_putKeyword 21 = .ok (.iload_n 3, 1) := by decide +kernel
theorem dX9_putKeyword_22 : decode cX9_putKeyword 22 = .ok (.invokevirtual 176, 3) := by decide +kernel
theorem dX9_putKeyword_25 : decode cX9_putKeyword 25 = .ok (.invokevirtual 29, 3) := by decide +kernel
theorem dX9_putKeyword_28 : decode cX9_putKeyword 28 = .ok (.iinc 3 1, 3) := by decide +kernel
theorem dX9_putKeyword_31 : decode cX9_putKeyword 31 = .ok (.goto (-20), 3) := by decide +kernel
theorem dX9_putKeyword_34 : decode cX9_putKeyword 34 = .ok (.return_, 1) := by decide +kernel
theorem dX9_putNumber_0 : decode cX9_putNumber 0 = .ok (.aload_n 0, 1) := by decide +kernel
theorem dX9_putNumber_1 : decode cX9_putNumber 1 = .ok (.invokevirtual 131, 3) := by decide +kernel
theorem dX9_putNumber_4 : decode cX9_putNumber 4 = .ok (.iconst 0, 1) := by decide +kernel
theorem dX9_putNumber_5 : decode cX9_putNumber 5 = .ok (.istore_n 2, 1) := by decide +kernel
theorem dX9_putNumber_6 : decode cX9_putNumber 6 = .ok (.iload_n 2, 1) := by decide +kernel
theorem dX9_putNumber_7 : decode cX9_putNumber 7 = .ok (.iload_n 1, 1) := by decide +kernel
theorem dX9_putNumber_8 : decode cX9_putNumber 8 = .ok (.invokestatic 86, 3) := by decide +kernel
theorem dX9_putNumber_11 : decode cX9_putNumber 11 = .ok (.if_icmp .ge 18, 3) := by decide +kernel
theorem dX9_putNumber_14 : decode cX9_putNumber 14 = .ok (.aload_n 0, 1) := by decide +kernel
theorem dX9_putNumber_15 : decode cX9_putNumber 15 = .ok (.iload_n 1, 1) := by decide +kernel
theorem dX9_putNumber_16 : decode cX9_putNumber 16 = .ok (.iload_n 2, 1) := by decide +kernel
theorem dX9_putNumber_17 : decode cX9_putNumber 17 = .ok (.invokestatic 89, 3) := by decide +kernel
theorem dX9_putNumber_20 : decode cX9_putNumber 20 = .ok (.invokevirtual 29, 3) := by decide +kernel
theorem dX9_putNumber_23 : decode cX9_putNumber 23 = .ok (.iinc 2 1, 3) := by decide +kernel
theorem dX9_putNumber_26 : decode cX9_putNumber 26 = .ok (.goto (-20), 3) := by decide +kernel
theorem dX9_putNumber_29 : decode cX9_putNumber 29 = .ok (.return_, 1) := by decide +kernel
theorem dX9_putSign_0 : decode cX9_putSign 0 = .ok (.aload_n 0, 1) := by decide +kernel
theorem dX9_putSign_1 : decode cX9_putSign 1 = .ok (.invokevirtual 131, 3) := by decide +kernel
theorem dX9_putSign_4 : decode cX9_putSign 4 = .ok (.aload_n 0, 1) := by decide +kernel
theorem dX9_putSign_5 : decode cX9_putSign 5 = .ok (.iload_n 1, 1) := by decide +kernel
theorem dX9_putSign_6 : decode cX9_putSign 6 = .ok (.invokevirtual 29, 3) := by decide +kernel
theorem dX9_putSign_9 : decode cX9_putSign 9 = .ok (.return_, 1) := by decide +kernel
theorem dX9_putMark_0 : decode cX9_putMark 0 = .ok (.aload_n 0, 1) := by decide +kernel
theorem dX9_putMark_1 : decode cX9_putMark 1 = .ok (.iload_n 1, 1) := by decide +kernel
theorem dX9_putMark_2 : decode cX9_putMark 2 = .ok (.invokevirtual 29, 3) := by decide +kernel
theorem dX9_putMark_5 : decode cX9_putMark 5 = .ok (.aload_n 0, 1) := by decide +kernel
theorem dX9_putMark_6 : decode cX9_putMark 6 = .ok (.iconst 0, 1) := by decide +kernel
theorem dX9_putMark_7 : decode cX9_putMark 7 = .ok (.putfield 21, 3) := by decide +kernel
theorem dX9_putMark_10 : decode cX9_putMark 10 = .ok (.return_, 1) := by decide +kernel
theorem dJ0_length_8abf5_0 : decode cJ0_length_8abf5 0 = .ok (.aload_n 0, 1) := by decide +kernel
theorem dJ0_length_8abf5_1 : decode cJ0_length_8abf5 1 = .ok (.getfield 9, 3) := by decide +kernel
theorem dJ0_length_8abf5_4 : decode cJ0_length_8abf5 4 = .ok (.arraylength, 1) := by decide +kernel
theorem dJ0_length_8abf5_5 : decode cJ0_length_8abf5 5 = .ok (.aload_n 0, 1) := by decide +kernel
theorem dJ0_length_8abf5_6 : decode cJ0_length_8abf5 6 = .ok (.invokevirtual 335, 3) := by decide +kernel
theorem dJ0_length_8abf5_9 : decode cJ0_length_8abf5 9 = .ok (.ishr, 1) := by decide +kernel
theorem dJ0_length_8abf5_10 : decode cJ0_length_8abf5 10 = .ok (.ireturn, 1) := by decide +kernel
theorem dJ0_charAt_5068e_0 : decode cJ0_charAt_5068e 0 = .ok (.aload_n 0, 1) := by decide +kernel
theorem dJ0_charAt_5068e_1 : decode cJ0_charAt_5068e 1 = .ok (.invokevirtual 492, 3) := by decide +kernel
theorem dJ0_charAt_5068e_4 : decode cJ0_charAt_5068e 4 = .ok (.ifCond .eq 12, 3) := by decide +kernel
theorem dJ0_charAt_5068e_7 : decode cJ0_charAt_5068e 7 = .ok (.aload_n 0, 1) := by decide +kernel
theorem dJ0_charAt_5068e_8 : decode cJ0_charAt_5068e 8 = .ok (.getfield 9, 3) := by decide +kernel
theorem dJ0_charAt_5068e_11 : decode cJ0_charAt_5068e 11 = .ok (.iload_n 1, 1) := by decide +kernel
theorem dJ0_charAt_5068e_12 : decode cJ0_charAt_5068e 12 = .ok (.invokestatic 495, 3) := by decide +kernel
theorem dJ0_charAt_5068e_15 : decode cJ0_charAt_5068e 15 = .ok (.ireturn, 1) := by decide +kernel
theorem dJ0_charAt_5068e_16 : decode cJ0_charAt_5068e 16 = .ok (.aload_n 0, 1) := by decide +kernel
theorem dJ0_charAt_5068e_17 : decode cJ0_charAt_5068e 17 = .ok (.getfield 9, 3) := by decide +kernel
theorem dJ0_charAt_5068e_20 : decode cJ0_charAt_5068e 20 = .ok (.iload_n 1, 1) := by decide +kernel
theorem dJ0_charAt_5068e_21 : decode cJ0_charAt_5068e 21 = .ok (.invokestatic 498, 3) := by decide +kernel
theorem dJ0_charAt_5068e_24 : decode cJ0_charAt_5068e 24 = .ok (.ireturn, 1) := by decide +kernel
theorem dJ0_coder_7d493_0 : decode cJ0_coder_7d493 0 = .ok (.getstatic 38, 3) := by decide +kernel
theorem dJ0_coder_7d493_3 : decode cJ0_coder_7d493 3 = .ok (.ifCond .eq 10, 3) := by decide +kernel
theorem dJ0_coder_7d493_6 : decode cJ0_coder_7d493 6 = .ok (.aload_n 0, 1) := by decide +kernel
theorem dJ0_coder_7d493_7 : decode cJ0_coder_7d493 7 = .ok (.getfield 15, 3) := by decide +kernel
theorem dJ0_coder_7d493_10 : decode cJ0_coder_7d493 10 = .ok (.goto 4, 3) := by decide +kernel
theorem dJ0_coder_7d493_13 : decode cJ0_coder_7d493 13 = .ok (.iconst 1, 1) := by decide +kernel
theorem dJ0_coder_7d493_14 : decode cJ0_coder_7d493 14 = .ok (.ireturn, 1) := by decide +kernel
theorem dJ0_isLatin1_aae02_0 : decode cJ0_isLatin1_aae02 0 = .ok (.getstatic 38, 3) := by decide +kernel
theorem dJ0_isLatin1_aae02_3 : decode cJ0_isLatin1_aae02 3 = .ok (.ifCond .eq 14, 3) := by decide +kernel
theorem dJ0_isLatin1_aae02_6 : decode cJ0_isLatin1_aae02 6 = .ok (.aload_n 0, 1) := by decide +kernel
theorem dJ0_isLatin1_aae02_7 : decode cJ0_isLatin1_aae02 7 = .ok (.getfield 15, 3) := by decide +kernel
theorem dJ0_isLatin1_aae02_10 : decode cJ0_isLatin1_aae02 10 = .ok (.ifCond .ne 7, 3) := by decide +kernel
theorem dJ0_isLatin1_aae02_13 : decode cJ0_isLatin1_aae02 13 = .ok (.iconst 1, 1) := by decide +kernel
theorem dJ0_isLatin1_aae02_14 : decode cJ0_isLatin1_aae02 14 = .ok (.goto 4, 3) := by decide +kernel
theorem dJ0_isLatin1_aae02_17 : decode cJ0_isLatin1_aae02 17 = .ok (.iconst 0, 1) := by decide +kernel
theorem dJ0_isLatin1_aae02_18 : decode cJ0_isLatin1_aae02 18 = .ok (.ireturn, 1) := by decide +kernel
theorem dJ0_checkIndex_df160_0 : decode cJ0_checkIndex_df160 0 = .ok (.iload_n 0, 1) := by decide +kernel
theorem dJ0_checkIndex_df160_1 : decode cJ0_checkIndex_df160 1 = .ok (.iload_n 1, 1) := by decide +kernel
theorem dJ0_checkIndex_df160_2 : decode cJ0_checkIndex_df160 2 = .ok (.getstatic 1053, 3) := by decide +kernel
theorem dJ0_checkIndex_df160_5 : decode cJ0_checkIndex_df160 5 = .ok (.invokestatic 1059, 3) := by decide +kernel
theorem dJ0_checkIndex_df160_8 : decode cJ0_checkIndex_df160 8 = .ok (.pop, 1) := by decide +kernel
theorem dJ0_checkIndex_df160_9 : decode cJ0_checkIndex_df160 9 = .ok (.return_, 1) := by decide +kernel
theorem dJ1_charAt_3b067_0 : decode cJ1_charAt_3b067 0 = .ok (.iload_n 1, 1) := by decide +kernel
theorem dJ1_charAt_3b067_1 : decode cJ1_charAt_3b067 1 = .ok (.aload_n 0, 1) := by decide +kernel
theorem dJ1_charAt_3b067_2 : decode cJ1_charAt_3b067 2 = .ok (.arraylength, 1) := by decide +kernel
theorem dJ1_charAt_3b067_3 : decode cJ1_charAt_3b067 3 = .ok (.invokestatic 9, 3) := by decide +kernel
theorem dJ1_charAt_3b067_6 : decode cJ1_charAt_3b067 6 = .ok (.aload_n 0, 1) := by decide +kernel
theorem dJ1_charAt_3b067_7 : decode cJ1_charAt_3b067 7 = .ok (.iload_n 1, 1) := by decide +kernel
theorem dJ1_charAt_3b067_8 : decode cJ1_charAt_3b067 8 = .ok (.baload, 1) := by decide +kernel
theorem dJ1_charAt_3b067_9 : decode cJ1_charAt_3b067 9 = .ok (.sipush 255, 3) := by decide +kernel
theorem dJ1_charAt_3b067_12 : decode cJ1_charAt_3b067 12 = .ok (.iand, 1) := by decide +kernel
theorem dJ1_charAt_3b067_13 : decode cJ1_charAt_3b067 13 = .ok (.i2c, 1) := by decide +kernel
theorem dJ1_charAt_3b067_14 : decode cJ1_charAt_3b067 14 = .ok (.ireturn, 1) := by decide +kernel
theorem dJ6_bitCount_0f7a4_0 : decode cJ6_bitCount_0f7a4 0 = .ok (.iload_n 0, 1) := by decide +kernel
theorem dJ6_bitCount_0f7a4_1 : decode cJ6_bitCount_0f7a4 1 = .ok (.iload_n 0, 1) := by decide +kernel
theorem dJ6_bitCount_0f7a4_2 : decode cJ6_bitCount_0f7a4 2 = .ok (.iconst 1, 1) := by decide +kernel
theorem dJ6_bitCount_0f7a4_3 : decode cJ6_bitCount_0f7a4 3 = .ok (.iushr, 1) := by decide +kernel
theorem dJ6_bitCount_0f7a4_4 : decode cJ6_bitCount_0f7a4 4 = .ok (.ldc_w 265, 3) := by decide +kernel
theorem dJ6_bitCount_0f7a4_7 : decode cJ6_bitCount_0f7a4 7 = .ok (.iand, 1) := by decide +kernel
theorem dJ6_bitCount_0f7a4_8 : decode cJ6_bitCount_0f7a4 8 = .ok (.isub, 1) := by decide +kernel
theorem dJ6_bitCount_0f7a4_9 : decode cJ6_bitCount_0f7a4 9 = .ok (.istore_n 0, 1) := by decide +kernel
theorem dJ6_bitCount_0f7a4_10 : decode cJ6_bitCount_0f7a4 10 = .ok (.iload_n 0, 1) := by decide +kernel
theorem dJ6_bitCount_0f7a4_11 : decode cJ6_bitCount_0f7a4 11 = .ok (.ldc_w 266, 3) := by decide +kernel
theorem dJ6_bitCount_0f7a4_14 : decode cJ6_bitCount_0f7a4 14 = .ok (.iand, 1) := by decide +kernel
theorem dJ6_bitCount_0f7a4_15 : decode cJ6_bitCount_0f7a4 15 = .ok (.iload_n 0, 1) := by decide +kernel
theorem dJ6_bitCount_0f7a4_16 : decode cJ6_bitCount_0f7a4 16 = .ok (.iconst 2, 1) := by decide +kernel
theorem dJ6_bitCount_0f7a4_17 : decode cJ6_bitCount_0f7a4 17 = .ok (.iushr, 1) := by decide +kernel
theorem dJ6_bitCount_0f7a4_18 : decode cJ6_bitCount_0f7a4 18 = .ok (.ldc_w 266, 3) := by decide +kernel
theorem dJ6_bitCount_0f7a4_21 : decode cJ6_bitCount_0f7a4 21 = .ok (.iand, 1) := by decide +kernel
theorem dJ6_bitCount_0f7a4_22 : decode cJ6_bitCount_0f7a4 22 = .ok (.iadd, 1) := by decide +kernel
theorem dJ6_bitCount_0f7a4_23 : decode cJ6_bitCount_0f7a4 23 = .ok (.istore_n 0, 1) := by decide +kernel
theorem dJ6_bitCount_0f7a4_24 : decode cJ6_bitCount_0f7a4 24 = .ok (.iload_n 0, 1) := by decide +kernel
theorem dJ6_bitCount_0f7a4_25 : decode cJ6_bitCount_0f7a4 25 = .ok (.iload_n 0, 1) := by decide +kernel
theorem dJ6_bitCount_0f7a4_26 : decode cJ6_bitCount_0f7a4 26 = .ok (.iconst 4, 1) := by decide +kernel
theorem dJ6_bitCount_0f7a4_27 : decode cJ6_bitCount_0f7a4 27 = .ok (.iushr, 1) := by decide +kernel
theorem dJ6_bitCount_0f7a4_28 : decode cJ6_bitCount_0f7a4 28 = .ok (.iadd, 1) := by decide +kernel
theorem dJ6_bitCount_0f7a4_29 : decode cJ6_bitCount_0f7a4 29 = .ok (.ldc_w 267, 3) := by decide +kernel
theorem dJ6_bitCount_0f7a4_32 : decode cJ6_bitCount_0f7a4 32 = .ok (.iand, 1) := by decide +kernel
theorem dJ6_bitCount_0f7a4_33 : decode cJ6_bitCount_0f7a4 33 = .ok (.istore_n 0, 1) := by decide +kernel
theorem dJ6_bitCount_0f7a4_34 : decode cJ6_bitCount_0f7a4 34 = .ok (.iload_n 0, 1) := by decide +kernel
theorem dJ6_bitCount_0f7a4_35 : decode cJ6_bitCount_0f7a4 35 = .ok (.iload_n 0, 1) := by decide +kernel
theorem dJ6_bitCount_0f7a4_36 : decode cJ6_bitCount_0f7a4 36 = .ok (.bipush 8, 2) := by decide +kernel
theorem dJ6_bitCount_0f7a4_38 : decode cJ6_bitCount_0f7a4 38 = .ok (.iushr, 1) := by decide +kernel
theorem dJ6_bitCount_0f7a4_39 : decode cJ6_bitCount_0f7a4 39 = .ok (.iadd, 1) := by decide +kernel
theorem dJ6_bitCount_0f7a4_40 : decode cJ6_bitCount_0f7a4 40 = .ok (.istore_n 0, 1) := by decide +kernel
theorem dJ6_bitCount_0f7a4_41 : decode cJ6_bitCount_0f7a4 41 = .ok (.iload_n 0, 1) := by decide +kernel
theorem dJ6_bitCount_0f7a4_42 : decode cJ6_bitCount_0f7a4 42 = .ok (.iload_n 0, 1) := by decide +kernel
theorem dJ6_bitCount_0f7a4_43 : decode cJ6_bitCount_0f7a4 43 = .ok (.bipush 16, 2) := by decide +kernel
theorem dJ6_bitCount_0f7a4_45 : decode cJ6_bitCount_0f7a4 45 = .ok (.iushr, 1) := by decide +kernel
theorem dJ6_bitCount_0f7a4_46 : decode cJ6_bitCount_0f7a4 46 = .ok (.iadd, 1) := by decide +kernel
theorem dJ6_bitCount_0f7a4_47 : decode cJ6_bitCount_0f7a4 47 = .ok (.istore_n 0, 1) := by decide +kernel
theorem dJ6_bitCount_0f7a4_48 : decode cJ6_bitCount_0f7a4 48 = .ok (.iload_n 0, 1) := by decide +kernel
theorem dJ6_bitCount_0f7a4_49 : decode cJ6_bitCount_0f7a4 49 = .ok (.bipush 63, 2) := by decide +kernel
theorem dJ6_bitCount_0f7a4_51 : decode cJ6_bitCount_0f7a4 51 = .ok (.iand, 1) := by decide +kernel
theorem dJ6_bitCount_0f7a4_52 : decode cJ6_bitCount_0f7a4 52 = .ok (.ireturn, 1) := by decide +kernel
theorem dJ9_floorMod_7cf53_0 : decode cJ9_floorMod_7cf53 0 = .ok (.iload_n 0, 1) := by decide +kernel
theorem dJ9_floorMod_7cf53_1 : decode cJ9_floorMod_7cf53 1 = .ok (.iload_n 1, 1) := by decide +kernel
theorem dJ9_floorMod_7cf53_2 : decode cJ9_floorMod_7cf53 2 = .ok (.irem, 1) := by decide +kernel
theorem dJ9_floorMod_7cf53_3 : decode cJ9_floorMod_7cf53 3 = .ok (.istore_n 2, 1) := by decide +kernel
theorem dJ9_floorMod_7cf53_4 : decode cJ9_floorMod_7cf53 4 = .ok (.iload_n 0, 1) := by decide +kernel
theorem dJ9_floorMod_7cf53_5 : decode cJ9_floorMod_7cf53 5 = .ok (.iload_n 1, 1) := by decide +kernel
theorem dJ9_floorMod_7cf53_6 : decode cJ9_floorMod_7cf53 6 = .ok (.ixor, 1) := by decide +kernel
theorem dJ9_floorMod_7cf53_7 : decode cJ9_floorMod_7cf53 7 = .ok (.ifCond .ge 11, 3) := by decide +kernel
theorem dJ9_floorMod_7cf53_10 : decode cJ9_floorMod_7cf53 10 = .ok (.iload_n 2, 1) := by decide +kernel
theorem dJ9_floorMod_7cf53_11 : decode cJ9_floorMod_7cf53 11 = .ok (.ifCond .eq 7, 3) := by decide +kernel
theorem dJ9_floorMod_7cf53_14 : decode cJ9_floorMod_7cf53 14 = .ok (.iload_n 2, 1) := by decide +kernel
theorem dJ9_floorMod_7cf53_15 : decode cJ9_floorMod_7cf53 15 = .ok (.iload_n 1, 1) := by decide +kernel
theorem dJ9_floorMod_7cf53_16 : decode cJ9_floorMod_7cf53 16 = .ok (.iadd, 1) := by decide +kernel
theorem dJ9_floorMod_7cf53_17 : decode cJ9_floorMod_7cf53 17 = .ok (.ireturn, 1) := by decide +kernel
theorem dJ9_floorMod_7cf53_18 : decode cJ9_floorMod_7cf53 18 = .ok (.iload_n 2, 1) := by decide +kernel
theorem dJ9_floorMod_7cf53_19 : decode cJ9_floorMod_7cf53 19 = .ok (.ireturn, 1) := by decide +kernel
theorem dJ9_min_7cf53_0 : decode cJ9_min_7cf53 0 = .ok (.iload_n 0, 1) := by decide +kernel
theorem dJ9_min_7cf53_1 : decode cJ9_min_7cf53 1 = .ok (.iload_n 1, 1) := by decide +kernel
theorem dJ9_min_7cf53_2 : decode cJ9_min_7cf53 2 = .ok (.if_icmp .gt 7, 3) := by decide +kernel
theorem dJ9_min_7cf53_5 : decode cJ9_min_7cf53 5 = .ok (.iload_n 0, 1) := by decide +kernel
theorem dJ9_min_7cf53_6 : decode cJ9_min_7cf53 6 = .ok (.goto 4, 3) := by decide +kernel
theorem dJ9_min_7cf53_9 : decode cJ9_min_7cf53 9 = .ok (.iload_n 1, 1) := by decide +kernel
theorem dJ9_min_7cf53_10 : decode cJ9_min_7cf53 10 = .ok (.ireturn, 1) := by decide +kernel
