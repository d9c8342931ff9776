theorem dX10_init_0 : decode cX10_init 0 = .ok (.aload_n 0, 1) := by decide +kernel
theorem dX10_init_1 : decode cX10_init 1 = .ok (.invokespecial 1, 3) := by decide +kernel
theorem dX10_init_4 : decode cX10_init 4 = .ok (.aload_n 0, 1) := by decide +kernel
theorem dX10_init_5 : decode cX10_init 5 = .ok (.sipush 1200, 3) := by decide +kernel
theorem dX10_init_8 : decode cX10_init 8 = .ok (.newarray .byte, 2) := by decide +kernel
theorem dX10_init_10 : decode cX10_init 10 = .ok (.putfield 9, 3) := by decide +kernel
theorem dX10_init_13 : decode cX10_init 13 = .ok (.aload_n 0, 1) := by decide +kernel
theorem dX10_init_14 : decode cX10_init 14 = .ok (.bipush (-2), 2) := by decide +kernel
theorem dX10_init_16 : decode cX10_init 16 = .ok (.putfield 13, 3) := by decide +kernel
theorem dX10_init_19 : decode cX10_init 19 = .ok (.aload_n 0, 1) := by decide +kernel
theorem dX10_init_20 : decode cX10_init 20 = .ok (.new 17, 3) := by decide +kernel
theorem dX10_init_23 : decode cX10_init 23 = .ok (.dup, 1) := by decide +kernel
theorem dX10_init_24 : decode cX10_init 24 = .ok (.invokespecial 19, 3) := by decide +kernel
theorem dX10_init_27 : decode cX10_init 27 = .ok (.putfield 20, 3) := by decide +kernel
theorem dX10_init_30 : decode cX10_init 30 = .ok (.aload_n 0, 1) := by decide +kernel
theorem dX10_init_31 : decode cX10_init 31 = .ok (.bipush 8, 2) := by decide +kernel
theorem dX10_init_33 : decode cX10_init 33 = .ok (.anewarray 24, 3) := by decide +kernel
theorem dX10_init_36 : decode cX10_init 36 = .ok (.putfield 26, 3) := by decide +kernel
theorem dX10_init_39 : decode cX10_init 39 = .ok (.aload_n 0, 1) := by decide +kernel
theorem dX10_init_40 : decode cX10_init 40 = .ok (.bipush 10, 2) := by decide +kernel
theorem dX10_init_42 : decode cX10_init 42 = .ok (.anewarray 17, 3) := by decide +kernel
theorem dX10_init_45 : decode cX10_init 45 = .ok (.putfield 30, 3) := by decide +kernel
theorem dX10_init_48 : decode cX10_init 48 = .ok (.aload_n 0, 1) := by decide +kernel
theorem dX10_init_49 : decode cX10_init 49 = .ok (.new 34, 3) := by decide +kernel
theorem dX10_init_52 : decode cX10_init 52 = .ok (.dup, 1) := by decide +kernel
theorem dX10_init_53 : decode cX10_init 53 = .ok (.invokespecial 36, 3) := by decide +kernel
theorem dX10_init_56 : decode cX10_init 56 = .ok (.putfield 37, 3) := by decide +kernel
theorem dX10_init_59 : decode cX10_init 59 = .ok (.aload_n 0, 1) := by decide +kernel
theorem dX10_init_60 : decode cX10_init 60 = .ok (.aload_n 0, 1) := by decide +kernel
theorem dX10_init_61 : decode cX10_init 61 = .ok (.getfield 37, 3) := by decide +kernel
theorem dX10_init_64 : decode cX10_init 64 = .ok (.getfield 41, 3) := by decide +kernel
theorem dX10_init_67 : decode cX10_init 67 = .ok (.putfield 45, 3) := by decide +kernel
theorem dX10_init_70 : decode cX10_init 70 = .ok (.aload_n 0, 1) := by decide +kernel
theorem dX10_init_71 : decode cX10_init 71 = .ok (.new 48, 3) := by decide +kernel
theorem dX10_init_74 : decode cX10_init 74 = .ok (.dup, 1) := by decide +kernel
theorem dX10_init_75 : decode cX10_init 75 = .ok (.invokespecial 50, 3) := by decide +kernel
theorem dX10_init_78 : decode cX10_init 78 = .ok (.putfield 51, 3) := by decide +kernel
theorem dX10_init_81 : decode cX10_init 81 = .ok (.aload_n 0, 1) := by decide +kernel
theorem dX10_init_82 : decode cX10_init 82 = .ok (.new 55, 3) := by decide +kernel
theorem dX10_init_85 : decode cX10_init 85 = .ok (.dup, 1) := by decide +kernel
theorem dX10_init_86 : decode cX10_init 86 = .ok (.invokespecial 57, 3) := by decide +kernel
theorem dX10_init_89 : decode cX10_init 89 = .ok (.putfield 58, 3) := by decide +kernel
theorem dX10_init_92 : decode cX10_init 92 = .ok (.aload_n 0, 1) := by decide +kernel
theorem dX10_init_93 : decode cX10_init 93 = .ok (.new 62, 3) := by decide +kernel
theorem dX10_init_96 : decode cX10_init 96 = .ok (.dup, 1) := by decide +kernel
theorem dX10_init_97 : decode cX10_init 97 = .ok (.invokespecial 64, 3) := by decide +kernel
theorem dX10_init_100 : decode cX10_init 100 = .ok (.putfield 65, 3) := by decide +kernel
theorem dX10_init_103 : decode cX10_init 103 = .ok (.iconst 0, 1) := by decide +kernel
theorem dX10_init_104 : decode cX10_init 104 = .ok (.istore_n 1, 1) := by decide +kernel
theorem dX10_init_105 : decode cX10_init 105 = .ok (.iload_n 1, 1) := by decide +kernel
theorem dX10_init_106 : decode cX10_init 106 = .ok (.bipush 8, 2) := by decide +kernel
theorem dX10_init_108 : decode cX10_init 108 = .ok (.if_icmp .ge 22, 3) := by decide +kernel
theorem dX10_init_111 : decode cX10_init 111 = .ok (.aload_n 0, 1) := by decide +kernel
theorem dX10_init_112 : decode cX10_init 112 = .ok (.getfield 26, 3) := by decide +kernel
theorem dX10_init_115 : decode cX10_init 115 = .ok (.iload_n 1, 1) := by decide +kernel
theorem dX10_init_116 : decode cX10_init 116 = .ok (.new 24, 3) := by decide +kernel
theorem dX10_init_119 : decode cX10_init 119 = .ok (.dup, 1) := by decide +kernel
theorem dX10_init_120 : decode cX10_init 120 = .ok (.invokespecial 69, 3) := by decide +kernel
theorem dX10_init_123 : decode cX10_init 123 = .ok (.aastore, 1) := by decide +kernel
theorem dX10_init_124 : decode cX10_init 124 = .ok (.iinc 1 1, 3) := by decide +kernel
theorem dX10_init_127 : decode cX10_init 127 = .ok (.goto (-22), 3) := by decide +kernel
theorem dX10_init_130 : decode cX10_init 130 = .ok (.iconst 0, 1) := by decide +kernel
theorem dX10_init_131 : decode cX10_init 131 = .ok (.istore_n 1, 1) := by decide +kernel
theorem dX10_init_132 : decode cX10_init 132 = .ok (.iload_n 1, 1) := by decide +kernel
theorem dX10_init_133 : decode cX10_init 133 = .ok (.bipush 10, 2) := by decide +kernel
theorem dX10_init_135 : decode cX10_init 135 = .ok (.if_icmp .ge 22, 3) := by decide +kernel
theorem dX10_init_138 : decode cX10_init 138 = .ok (.aload_n 0, 1) := by decide +kernel
theorem dX10_init_139 : decode cX10_init 139 = .ok (.getfield 30, 3) := by decide +kernel
theorem dX10_init_142 : decode cX10_init 142 = .ok (.iload_n 1, 1) := by decide +kernel
theorem dX10_init_143 : decode cX10_init 143 = .ok (.new 17, 3) := by decide +kernel
theorem dX10_init_146 : decode cX10_init 146 = .ok (.dup, 1) := by decide +kernel
theorem dX10_init_147 : decode cX10_init 147 = .ok (.invokespecial 19, 3) := by decide +kernel
theorem dX10_init_150 : decode cX10_init 150 = .ok (.aastore, 1) := by decide +kernel
theorem dX10_init_151 : decode cX10_init 151 = .ok (.iinc 1 1, 3) := by decide +kernel
theorem dX10_init_154 : decode cX10_init 154 = .ok (.goto (-22), 3) := by decide +kernel
theorem dX10_init_157 : decode cX10_init 157 = .ok (.return_, 1) := by decide +kernel
theorem dX10_append_0 : decode cX10_append 0 = .ok (.aload_n 0, 1) := by decide +kernel
theorem dX10_append_1 : decode cX10_append 1 = .ok (.getfield 70, 3) := by decide +kernel
theorem dX10_append_4 : decode cX10_append 4 = .ok (.bipush 20, 2) := by decide +kernel
theorem dX10_append_6 : decode cX10_append 6 = .ok (.iadd, 1) := by decide +kernel
theorem dX10_append_7 : decode cX10_append 7 = .ok (.sipush 1200, 3) := by decide +kernel
theorem dX10_append_10 : decode cX10_append 10 = .ok (.if_icmp .le 5, 3) := by decide +kernel
theorem dX10_append_13 : decode cX10_append 13 = .ok (.iconst (-1), 1) := by decide +kernel
theorem dX10_append_14 : decode cX10_append 14 = .ok (.ireturn, 1) := by decide +kernel
theorem dX10_append_15 : decode cX10_append 15 = .ok (.aload_n 0, 1) := by decide +kernel
theorem dX10_append_16 : decode cX10_append 16 = .ok (.iload_n 1, 1) := by decide +kernel
theorem dX10_append_17 : decode cX10_append 17 = .ok (.invokevirtual 73, 3) := by decide +kernel
theorem dX10_append_20 : decode cX10_append 20 = .ok (.aload_n 0, 1) := by decide +kernel
theorem dX10_append_21 : decode cX10_append 21 = .ok (.iload_n 2, 1) := by decide +kernel
theorem dX10_append_22 : decode cX10_append 22 = .ok (.invokevirtual 73, 3) := by decide +kernel
theorem dX10_append_25 : decode cX10_append 25 = .ok (.aload_n 0, 1) := by decide +kernel
theorem dX10_append_26 : decode cX10_append 26 = .ok (.iload_n 3, 1) := by decide +kernel
theorem dX10_append_27 : decode cX10_append 27 = .ok (.invokevirtual 73, 3) := by decide +kernel
theorem dX10_append_30 : decode cX10_append 30 = .ok (.aload_n 0, 1) := by decide +kernel
theorem dX10_append_31 : decode cX10_append 31 = .ok (.iload 4, 2) := by decide +kernel
theorem dX10_append_33 : decode cX10_append 33 = .ok (.invokevirtual 73, 3) := by decide +kernel
theorem dX10_append_36 : decode cX10_append 36 = .ok (.aload_n 0, 1) := by decide +kernel
theorem dX10_append_37 : decode cX10_append 37 = .ok (.iload 5, 2) := by decide +kernel
theorem dX10_append_39 : decode cX10_append 39 = .ok (.invokevirtual 73, 3) := by decide +kernel
theorem dX10_append_42 : decode cX10_append 42 = .ok (.aload_n 0, 1) := by decide +kernel
theorem dX10_append_43 : decode cX10_append 43 = .ok (.getfield 70, 3) := by decide +kernel
theorem dX10_append_46 : decode cX10_append 46 = .ok (.ireturn, 1) := by decide +kernel
theorem dX10_truncate_0 : decode cX10_truncate 0 = .ok (.iload_n 1, 1) := by decide +kernel
theorem dX10_truncate_1 : decode cX10_truncate 1 = .ok (.ifCond .lt 11, 3) := by decide +kernel
theorem dX10_truncate_4 : decode cX10_truncate 4 = .ok (.iload_n 1, 1) := by decide +kernel
theorem dX10_truncate_5 : decode cX10_truncate 5 = .ok (.aload_n 0, 1) := by decide +kernel
theorem dX10_truncate_6 : decode cX10_truncate 6 = .ok (.getfield 70, 3) := by decide +kernel
theorem dX10_truncate_9 : decode cX10_truncate 9 = .ok (.if_icmp .le 5, 3) := by decide +kernel
theorem dX10_truncate_12 : decode cX10_truncate 12 = .ok (.iconst (-1), 1) := by decide +kernel
theorem dX10_truncate_13 : decode cX10_truncate 13 = .ok (.ireturn, 1) := by decide +kernel
theorem dX10_truncate_14 : decode cX10_truncate 14 = .ok (.aload_n 0, 1) := by decide +kernel
theorem dX10_truncate_15 : decode cX10_truncate 15 = .ok (.dup, 1) := by decide +kernel
theorem dX10_truncate_16 : decode cX10_truncate 16 = .ok (.getfield 70, 3) := by decide +kernel
theorem dX10_truncate_19 : decode cX10_truncate 19 = .ok (.iload_n 1, 1) := by decide +kernel
theorem dX10_truncate_20 : decode cX10_truncate 20 = .ok (.isub, 1) := by decide +kernel
theorem dX10_truncate_21 : decode cX10_truncate 21 = .ok (.putfield 70, 3) := by decide +kernel
theorem dX10_truncate_24 : decode cX10_truncate 24 = .ok (.aload_n 0, 1) := by decide +kernel
theorem dX10_truncate_25 : decode cX10_truncate 25 = .ok (.getfield 70, 3) := by decide +kernel
theorem dX10_truncate_28 : decode cX10_truncate 28 = .ok (.ireturn, 1) := by decide +kernel
theorem dX10_load_0 : decode cX10_load 0 = .ok (.aload_n 0, 1) := by decide +kernel
theorem dX10_load_1 : decode cX10_load 1 = .ok (.getfield 37, 3) := by decide +kernel
theorem dX10_load_4 : decode cX10_load 4 = .ok (.aload_n 0, 1) := by decide +kernel
theorem dX10_load_5 : decode cX10_load 5 = .ok (.getfield 9, 3) := by decide +kernel
theorem dX10_load_8 : decode cX10_load 8 = .ok (.aload_n 0, 1) := by decide +kernel
theorem dX10_load_9 : decode cX10_load 9 = .ok (.getfield 70, 3) := by decide +kernel
theorem dX10_load_12 : decode cX10_load 12 = .ok (.invokevirtual 77, 3) := by decide +kernel
theorem dX10_load_15 : decode cX10_load 15 = .ok (.aload_n 0, 1) := by decide +kernel
theorem dX10_load_16 : decode cX10_load 16 = .ok (.getfield 37, 3) := by decide +kernel
theorem dX10_load_19 : decode cX10_load 19 = .ok (.invokevirtual 81, 3) := by decide +kernel
theorem dX10_load_22 : decode cX10_load 22 = .ok (.ifCond .eq 29, 3) := by decide +kernel
theorem dX10_load_25 : decode cX10_load 25 = .ok (.aload_n 0, 1) := by decide +kernel
theorem dX10_load_26 : decode cX10_load 26 = .ok (.getfield 37, 3) := by decide +kernel
theorem dX10_load_29 : decode cX10_load 29 = .ok (.bipush (-2), 2) := by decide +kernel
theorem dX10_load_31 : decode cX10_load 31 = .ok (.invokevirtual 85, 3) := by decide +kernel
theorem dX10_load_34 : decode cX10_load 34 = .ok (.ifCond .eq 17, 3) := by decide +kernel
theorem dX10_load_37 : decode cX10_load 37 = .ok (.aload_n 0, 1) := by decide +kernel
theorem dX10_load_38 : decode cX10_load 38 = .ok (.getfield 37, 3) := by decide +kernel
theorem dX10_load_41 : decode cX10_load 41 = .ok (.invokevirtual 89, 3) := by decide +kernel
theorem dX10_load_44 : decode cX10_load 44 = .ok (.ifCond .eq 7, 3) := by decide +kernel
theorem dX10_load_47 : decode cX10_load 47 = .ok (.iconst 1, 1) := by decide +kernel
theorem dX10_load_48 : decode cX10_load 48 = .ok (.goto 4, 3) := by decide +kernel
theorem dX10_load_51 : decode cX10_load 51 = .ok (.iconst 0, 1) := by decide +kernel
theorem dX10_load_52 : decode cX10_load 52 = .ok (.istore_n 1, 1) := by decide +kernel
theorem dX10_load_53 : decode cX10_load 53 = .ok (.aload_n 0, 1) := by decide +kernel
theorem dX10_load_54 : decode cX10_load 54 = .ok (.invokevirtual 92, 3) := by decide +kernel
theorem dX10_load_57 : decode cX10_load 57 = .ok (.iload_n 1, 1) := by decide +kernel
theorem dX10_load_58 : decode cX10_load 58 = .ok (.ifCond .ne 5, 3) := by decide +kernel
theorem dX10_load_61 : decode cX10_load 61 = .ok (.iconst (-1), 1) := by decide +kernel
theorem dX10_load_62 : decode cX10_load 62 = .ok (.ireturn, 1) := by decide +kernel
theorem dX10_load_63 : decode cX10_load 63 = .ok (.aload_n 0, 1) := by decide +kernel
theorem dX10_load_64 : decode cX10_load 64 = .ok (.getfield 20, 3) := by decide +kernel
theorem dX10_load_67 : decode cX10_load 67 = .ok (.getfield 95, 3) := by decide +kernel
theorem dX10_load_70 : decode cX10_load 70 = .ok (.aload_n 0, 1) := by decide +kernel
theorem dX10_load_71 : decode cX10_load 71 = .ok (.getfield 45, 3) := by decide +kernel
theorem dX10_load_74 : decode cX10_load 74 = .ok (.invokevirtual 98, 3) := by decide +kernel
theorem dX10_load_77 : decode cX10_load 77 = .ok (.aload_n 0, 1) := by decide +kernel
theorem dX10_load_78 : decode cX10_load 78 = .ok (.getfield 20, 3) := by decide +kernel
theorem dX10_load_81 : decode cX10_load 81 = .ok (.iconst 0, 1) := by decide +kernel
theorem dX10_load_82 : decode cX10_load 82 = .ok (.putfield 102, 3) := by decide +kernel
theorem dX10_load_85 : decode cX10_load 85 = .ok (.aload_n 0, 1) := by decide +kernel
theorem dX10_load_86 : decode cX10_load 86 = .ok (.getfield 20, 3) := by decide +kernel
theorem dX10_load_89 : decode cX10_load 89 = .ok (.iconst 0, 1) := by decide +kernel
theorem dX10_load_90 : decode cX10_load 90 = .ok (.putfield 105, 3) := by decide +kernel
theorem dX10_load_93 : decode cX10_load 93 = .ok (.aload_n 0, 1) := by decide +kernel
theorem dX10_load_94 : decode cX10_load 94 = .ok (.iconst 0, 1) := by decide +kernel
theorem dX10_load_95 : decode cX10_load 95 = .ok (.putfield 108, 3) := by decide +kernel
theorem dX10_load_98 : decode cX10_load 98 = .ok (.aload_n 0, 1) := by decide +kernel
theorem dX10_load_99 : decode cX10_load 99 = .ok (.getfield 20, 3) := by decide +kernel
theorem dX10_load_102 : decode cX10_load 102 = .ok (.getfield 95, 3) := by decide +kernel
theorem dX10_load_105 : decode cX10_load 105 = .ok (.getfield 111, 3) := by decide +kernel
theorem dX10_load_108 : decode cX10_load 108 = .ok (.ireturn, 1) := by decide +kernel
theorem dX10_insert_0 : decode cX10_insert 0 = .ok (.aload_n 0, 1) := by decide +kernel
theorem dX10_insert_1 : decode cX10_insert 1 = .ok (.getfield 20, 3) := by decide +kernel
theorem dX10_insert_4 : decode cX10_insert 4 = .ok (.getfield 95, 3) := by decide +kernel
theorem dX10_insert_7 : decode cX10_insert 7 = .ok (.iload_n 1, 1) := by decide +kernel
theorem dX10_insert_8 : decode cX10_insert 8 = .ok (.invokevirtual 114, 3) := by decide +kernel
theorem dX10_insert_11 : decode cX10_insert 11 = .ok (.ifCond .ne 5, 3) := by decide +kernel
theorem dX10_insert_14 : decode cX10_insert 14 = .ok (.iconst (-1), 1) := by decide +kernel
theorem dX10_insert_15 : decode cX10_insert 15 = .ok (.ireturn, 1) := by decide +kernel
theorem dX10_insert_16 : decode cX10_insert 16 = .ok (.aload_n 0, 1) := by decide +kernel
theorem dX10_insert_17 : decode cX10_insert 17 = .ok (.getfield 45, 3) := by decide +kernel
theorem dX10_insert_20 : decode cX10_insert 20 = .ok (.aload_n 0, 1) := by decide +kernel
theorem dX10_insert_21 : decode cX10_insert 21 = .ok (.getfield 20, 3) := by decide +kernel
theorem dX10_insert_24 : decode cX10_insert 24 = .ok (.getfield 95, 3) := by decide +kernel
theorem dX10_insert_27 : decode cX10_insert 27 = .ok (.invokevirtual 98, 3) := by decide +kernel
theorem dX10_insert_30 : decode cX10_insert 30 = .ok (.aload_n 0, 1) := by decide +kernel
theorem dX10_insert_31 : decode cX10_insert 31 = .ok (.getfield 37, 3) := by decide +kernel
theorem dX10_insert_34 : decode cX10_insert 34 = .ok (.aload_n 0, 1) := by decide +kernel
theorem dX10_insert_35 : decode cX10_insert 35 = .ok (.getfield 9, 3) := by decide +kernel
theorem dX10_insert_38 : decode cX10_insert 38 = .ok (.aload_n 0, 1) := by decide +kernel
theorem dX10_insert_39 : decode cX10_insert 39 = .ok (.getfield 70, 3) := by decide +kernel
theorem dX10_insert_42 : decode cX10_insert 42 = .ok (.invokevirtual 77, 3) := by decide +kernel
theorem dX10_insert_45 : decode cX10_insert 45 = .ok (.aload_n 0, 1) := by decide +kernel
theorem dX10_insert_46 : decode cX10_insert 46 = .ok (.getfield 37, 3) := by decide +kernel
theorem dX10_insert_49 : decode cX10_insert 49 = .ok (.iload_n 1, 1) := by decide +kernel
theorem dX10_insert_50 : decode cX10_insert 50 = .ok (.invokevirtual 85, 3) := by decide +kernel
theorem dX10_insert_53 : decode cX10_insert 53 = .ok (.ifCond .eq 17, 3) := by decide +kernel
theorem dX10_insert_56 : decode cX10_insert 56 = .ok (.aload_n 0, 1) := by decide +kernel
theorem dX10_insert_57 : decode cX10_insert 57 = .ok (.getfield 37, 3) := by decide +kernel
theorem dX10_insert_60 : decode cX10_insert 60 = .ok (.invokevirtual 89, 3) := by decide +kernel
theorem dX10_insert_63 : decode cX10_insert 63 = .ok (.ifCond .eq 7, 3) := by decide +kernel
theorem dX10_insert_66 : decode cX10_insert 66 = .ok (.iconst 1, 1) := by decide +kernel
theorem dX10_insert_67 : decode cX10_insert 67 = .ok (.goto 4, 3) := by decide +kernel
theorem dX10_insert_70 : decode cX10_insert 70 = .ok (.iconst 0, 1) := by decide +kernel
theorem dX10_insert_71 : decode cX10_insert 71 = .ok (.istore_n 2, 1) := by decide +kernel
theorem dX10_insert_72 : decode cX10_insert 72 = .ok (.aload_n 0, 1) := by decide +kernel
theorem dX10_insert_73 : decode cX10_insert 73 = .ok (.invokevirtual 92, 3) := by decide +kernel
theorem dX10_insert_76 : decode cX10_insert 76 = .ok (.iload_n 2, 1) := by decide +kernel
theorem dX10_insert_77 : decode cX10_insert 77 = .ok (.ifCond .ne 5, 3) := by decide +kernel
theorem dX10_insert_80 : decode cX10_insert 80 = .ok (.iconst (-1), 1) := by decide +kernel
theorem dX10_insert_81 : decode cX10_insert 81 = .ok (.ireturn, 1) := by decide +kernel
theorem dX10_insert_82 : decode cX10_insert 82 = .ok (.aload_n 0, 1) := by decide +kernel
theorem dX10_insert_83 : decode cX10_insert 83 = .ok (.getfield 45, 3) := by decide +kernel
theorem dX10_insert_86 : decode cX10_insert 86 = .ok (.getfield 117, 3) := by decide +kernel
theorem dX10_insert_89 : decode cX10_insert 89 = .ok (.aload_n 0, 1) := by decide +kernel
theorem dX10_insert_90 : decode cX10_insert 90 = .ok (.getfield 20, 3) := by decide +kernel
theorem dX10_insert_93 : decode cX10_insert 93 = .ok (.getfield 95, 3) := by decide +kernel
theorem dX10_insert_96 : decode cX10_insert 96 = .ok (.getfield 117, 3) := by decide +kernel
theorem dX10_insert_99 : decode cX10_insert 99 = .ok (.if_icmp .ne 6, 3) := by decide +kernel
theorem dX10_insert_102 : decode cX10_insert 102 = .ok (.bipush (-2), 2) := by decide +kernel
theorem dX10_insert_104 : decode cX10_insert 104 = .ok (.ireturn, 1) := by decide +kernel
theorem dX10_insert_105 : decode cX10_insert 105 = .ok (.aload_n 0, 1) := by decide +kernel
theorem dX10_insert_106 : decode cX10_insert 106 = .ok (.getfield 45, 3) := by decide +kernel
theorem dX10_insert_109 : decode cX10_insert 109 = .ok (.getfield 111, 3) := by decide +kernel
theorem dX10_insert_112 : decode cX10_insert 112 = .ok (.aload_n 0, 1) := by decide +kernel
theorem dX10_insert_113 : decode cX10_insert 113 = .ok (.getfield 20, 3) := by decide +kernel
theorem dX10_insert_116 : decode cX10_insert 116 = .ok (.getfield 95, 3) := by decide +kernel
theorem dX10_insert_119 : decode cX10_insert 119 = .ok (.getfield 111, 3) := by decide +kernel
theorem dX10_insert_122 : decode cX10_insert 122 = .ok (.isub, 1) := by decide +kernel
theorem dX10_insert_123 : decode cX10_insert 123 = .ok (.istore_n 3, 1) := by decide +kernel
theorem dX10_insert_124 : decode cX10_insert 124 = .ok (.aload_n 0, 1) := by decide +kernel
theorem dX10_insert_125 : decode cX10_insert 125 = .ok (.invokevirtual 120, 3) := by decide +kernel
theorem dX10_insert_128 : decode cX10_insert 128 = .ok (.aload_n 0, 1) := by decide +kernel
theorem dX10_insert_129 : decode cX10_insert 129 = .ok (.getfield 20, 3) := by decide +kernel
theorem dX10_insert_132 : decode cX10_insert 132 = .ok (.getfield 95, 3) := by decide +kernel
theorem dX10_insert_135 : decode cX10_insert 135 = .ok (.aload_n 0, 1) := by decide +kernel
theorem dX10_insert_136 : decode cX10_insert 136 = .ok (.getfield 45, 3) := by decide +kernel
theorem dX10_insert_139 : decode cX10_insert 139 = .ok (.invokevirtual 98, 3) := by decide +kernel
theorem dX10_insert_142 : decode cX10_insert 142 = .ok (.iload_n 3, 1) := by decide +kernel
theorem dX10_insert_143 : decode cX10_insert 143 = .ok (.ireturn, 1) := by decide +kernel
theorem dX10_setCondition_0 : decode cX10_setCondition 0 = .ok (.aload_n 0, 1) := by decide +kernel
theorem dX10_setCondition_1 : decode cX10_setCondition 1 = .ok (.getfield 20, 3) := by decide +kernel
theorem dX10_setCondition_4 : decode cX10_setCondition 4 = .ok (.getfield 95, 3) := by decide +kernel
theorem dX10_setCondition_7 : decode cX10_setCondition 7 = .ok (.iload_n 1, 1) := by decide +kernel
theorem dX10_setCondition_8 : decode cX10_setCondition 8 = .ok (.invokevirtual 123, 3) := by decide +kernel
theorem dX10_setCondition_11 : decode cX10_setCondition 11 = .ok (.ifnonnull 5, 3) := by decide +kernel
theorem dX10_setCondition_14 : decode cX10_setCondition 14 = .ok (.iconst (-1), 1) := by decide +kernel
theorem dX10_setCondition_15 : decode cX10_setCondition 15 = .ok (.ireturn, 1) := by decide +kernel
theorem dX10_setCondition_16 : decode cX10_setCondition 16 = .ok (.aload_n 0, 1) := by decide +kernel
theorem dX10_setCondition_17 : decode cX10_setCondition 17 = .ok (.getfield 45, 3) := by decide +kernel
theorem dX10_setCondition_20 : decode cX10_setCondition 20 = .ok (.aload_n 0, 1) := by decide +kernel
theorem dX10_setCondition_21 : decode cX10_setCondition 21 = .ok (.getfield 20, 3) := by decide +kernel
theorem dX10_setCondition_24 : decode cX10_setCondition 24 = .ok (.getfield 95, 3) := by decide +kernel
theorem dX10_setCondition_27 : decode cX10_setCondition 27 = .ok (.invokevirtual 98, 3) := by decide +kernel
theorem dX10_setCondition_30 : decode cX10_setCondition 30 = .ok (.aload_n 0, 1) := by decide +kernel
theorem dX10_setCondition_31 : decode cX10_setCondition 31 = .ok (.getfield 45, 3) := by decide +kernel
theorem dX10_setCondition_34 : decode cX10_setCondition 34 = .ok (.iload_n 1, 1) := by decide +kernel
theorem dX10_setCondition_35 : decode cX10_setCondition 35 = .ok (.invokevirtual 123, 3) := by decide +kernel
theorem dX10_setCondition_38 : decode cX10_setCondition 38 = .ok (.astore_n 2, 1) := by decide +kernel
theorem dX10_setCondition_39 : decode cX10_setCondition 39 = .ok (.aload_n 2, 1) := by decide +kernel
theorem dX10_setCondition_40 : decode cX10_setCondition 40 = .ok (.ifnonnull 5, 3) := by decide +kernel
theorem dX10_setCondition_43 : decode cX10_setCondition 43 = .ok (.iconst (-1), 1) := by decide +kernel
theorem dX10_setCondition_44 : decode cX10_setCondition 44 = .ok (.ireturn, 1) := by decide +kernel
theorem dX10_setCondition_45 : decode cX10_setCondition 45 = .ok (.aload_n 0, 1) := by decide +kernel
theorem dX10_setCondition_46 : decode cX10_setCondition 46 = .ok (.getfield 37, 3) := by decide +kernel
theorem dX10_setCondition_49 : decode cX10_setCondition 49 = .ok (.aload_n 0, 1) := by decide +kernel
theorem dX10_setCondition_50 : decode cX10_setCondition 50 = .ok (.getfield 9, 3) := by decide +kernel
theorem dX10_setCondition_53 : decode cX10_setCondition 53 = .ok (.aload_n 0, 1) := by decide +kernel
theorem dX10_setCondition_54 : decode cX10_setCondition 54 = .ok (.getfield 70, 3) := by decide +kernel
theorem dX10_setCondition_57 : decode cX10_setCondition 57 = .ok (.invokevirtual 77, 3) := by decide +kernel
theorem dX10_setCondition_60 : decode cX10_setCondition 60 = .ok (.aload_n 0, 1) := by decide +kernel
theorem dX10_setCondition_61 : decode cX10_setCondition 61 = .ok (.getfield 37, 3) := by decide +kernel
theorem dX10_setCondition_64 : decode cX10_setCondition 64 = .ok (.iload_n 1, 1) := by decide +kernel
theorem dX10_setCondition_65 : decode cX10_setCondition 65 = .ok (.aload_n 2, 1) := by decide +kernel
theorem dX10_setCondition_66 : decode cX10_setCondition 66 = .ok (.invokevirtual 127, 3) := by decide +kernel
theorem dX10_setCondition_69 : decode cX10_setCondition 69 = .ok (.ifCond .eq 17, 3) := by decide +kernel
theorem dX10_setCondition_72 : decode cX10_setCondition 72 = .ok (.aload_n 0, 1) := by decide +kernel
theorem dX10_setCondition_73 : decode cX10_setCondition 73 = .ok (.getfield 37, 3) := by decide +kernel
theorem dX10_setCondition_76 : decode cX10_setCondition 76 = .ok (.invokevirtual 89, 3) := by decide +kernel
theorem dX10_setCondition_79 : decode cX10_setCondition 79 = .ok (.ifCond .eq 7, 3) := by decide +kernel
theorem dX10_setCondition_82 : decode cX10_setCondition 82 = .ok (.iconst 1, 1) := by decide +kernel
theorem dX10_setCondition_83 : decode cX10_setCondition 83 = .ok (.goto 4, 3) := by decide +kernel
theorem dX10_setCondition_86 : decode cX10_setCondition 86 = .ok (.iconst 0, 1) := by decide +kernel
theorem dX10_setCondition_87 : decode cX10_setCondition 87 = .ok (.istore_n 3, 1) := by decide +kernel
theorem dX10_setCondition_88 : decode cX10_setCondition 88 = .ok (.aload_n 0, 1) := by decide +kernel
theorem dX10_setCondition_89 : decode cX10_setCondition 89 = .ok (.invokevirtual 92, 3) := by decide +kernel
theorem dX10_setCondition_92 : decode cX10_setCondition 92 = .ok (.iload_n 3, 1) := by decide +kernel
theorem dX10_setCondition_93 : decode cX10_setCondition 93 = .ok (.ifCond .ne 5, 3) := by decide +kernel
theorem dX10_setCondition_96 : decode cX10_setCondition 96 = .ok (.iconst (-1), 1) := by decide +kernel
theorem dX10_setCondition_97 : decode cX10_setCondition 97 = .ok (.ireturn, 1) := by decide +kernel
theorem dX10_setCondition_98 : decode cX10_setCondition 98 = .ok (.aload_n 0, 1) := by decide +kernel
theorem dX10_setCondition_99 : decode cX10_setCondition 99 = .ok (.invokevirtual 120, 3) := by decide +kernel
theorem dX10_setCondition_102 : decode cX10_setCondition 102 = .ok (.aload_n 0, 1) := by decide +kernel
theorem dX10_setCondition_103 : decode cX10_setCondition 103 = .ok (.getfield 20, 3) := by decide +kernel
theorem dX10_setCondition_106 : decode cX10_setCondition 106 = .ok (.getfield 95, 3) := by decide +kernel
theorem dX10_setCondition_109 : decode cX10_setCondition 109 = .ok (.aload_n 0, 1) := by decide +kernel
theorem dX10_setCondition_110 : decode cX10_setCondition 110 = .ok (.getfield 45, 3) := by decide +kernel
theorem dX10_setCondition_113 : decode cX10_setCondition 113 = .ok (.invokevirtual 98, 3) := by decide +kernel
theorem dX10_setCondition_116 : decode cX10_setCondition 116 = .ok (.aload_n 2, 1) := by decide +kernel
theorem dX10_setCondition_117 : decode cX10_setCondition 117 = .ok (.getfield 131, 3) := by decide +kernel
theorem dX10_setCondition_120 : decode cX10_setCondition 120 = .ok (.ireturn, 1) := by decide +kernel
theorem dX10_errorPosition_0 : decode cX10_errorPosition 0 = .ok (.aload_n 0, 1) := by decide +kernel
theorem dX10_errorPosition_1 : decode cX10_errorPosition 1 = .ok (.getfield 13, 3) := by decide +kernel
theorem dX10_errorPosition_4 : decode cX10_errorPosition 4 = .ok (.ireturn, 1) := by decide +kernel
theorem dX10_rename_0 : decode cX10_rename 0 = .ok (.aload_n 0, 1) := by decide +kernel
theorem dX10_rename_1 : decode cX10_rename 1 = .ok (.getfield 20, 3) := by decide +kernel
theorem dX10_rename_4 : decode cX10_rename 4 = .ok (.getfield 95, 3) := by decide +kernel
theorem dX10_rename_7 : decode cX10_rename 7 = .ok (.iload_n 1, 1) := by decide +kernel
theorem dX10_rename_8 : decode cX10_rename 8 = .ok (.invokevirtual 123, 3) := by decide +kernel
theorem dX10_rename_11 : decode cX10_rename 11 = .ok (.astore_n 3, 1) := by decide +kernel
theorem dX10_rename_12 : decode cX10_rename 12 = .ok (.iload_n 2, 1) := by decide +kernel
theorem dX10_rename_13 : decode cX10_rename 13 = .ok (.invokestatic 136, 3) := by decide +kernel
theorem dX10_rename_16 : decode cX10_rename 16 = .ok (.lstore 4, 2) := by decide +kernel
theorem dX10_rename_18 : decode cX10_rename 18 = .ok (.aload_n 3, 1) := by decide +kernel
theorem dX10_rename_19 : decode cX10_rename 19 = .ok (.ifnull 37, 3) := by decide +kernel
theorem dX10_rename_22 : decode cX10_rename 22 = .ok (.lload 4, 2) := by decide +kernel
theorem dX10_rename_24 : decode cX10_rename 24 = .ok (.lconst 0, 1) := by decide +kernel
theorem dX10_rename_25 : decode cX10_rename 25 = .ok (.lcmp, 1) := by decide +kernel
theorem dX10_rename_26 : decode cX10_rename 26 = .ok (.ifCond .eq 30, 3) := by decide +kernel
theorem dX10_rename_29 : decode cX10_rename 29 = .ok (.aload_n 0, 1) := by decide +kernel
theorem dX10_rename_30 : decode cX10_rename 30 = .ok (.getfield 37, 3) := by decide +kernel
theorem dX10_rename_33 : decode cX10_rename 33 = .ok (.lload 4, 2) := by decide +kernel
theorem dX10_rename_35 : decode cX10_rename 35 = .ok (.invokevirtual 140, 3) := by decide +kernel
theorem dX10_rename_38 : decode cX10_rename 38 = .ok (.ifCond .ne 18, 3) := by decide +kernel
theorem dX10_rename_41 : decode cX10_rename 41 = .ok (.aload_n 0, 1) := by decide +kernel
theorem dX10_rename_42 : decode cX10_rename 42 = .ok (.getfield 20, 3) := by decide +kernel
theorem dX10_rename_45 : decode cX10_rename 45 = .ok (.getfield 95, 3) := by decide +kernel
theorem dX10_rename_48 : decode cX10_rename 48 = .ok (.lload 4, 2) := by decide +kernel
theorem dX10_rename_50 : decode cX10_rename 50 = .ok (.invokevirtual 144, 3) := by decide +kernel
theorem dX10_rename_53 : decode cX10_rename 53 = .ok (.ifCond .lt 5, 3) := by decide +kernel
theorem dX10_rename_56 : decode cX10_rename 56 = .ok (.iconst 0, 1) := by decide +kernel
theorem dX10_rename_57 : decode cX10_rename 57 = .ok (.ireturn, 1) := by decide +kernel
theorem dX10_rename_58 : decode cX10_rename 58 = .ok (.aload_n 0, 1) := by decide +kernel
theorem dX10_rename_59 : decode cX10_rename 59 = .ok (.invokevirtual 120, 3) := by decide +kernel
theorem dX10_rename_62 : decode cX10_rename 62 = .ok (.aload_n 3, 1) := by decide +kernel
theorem dX10_rename_63 : decode cX10_rename 63 = .ok (.lload 4, 2) := by decide +kernel
theorem dX10_rename_65 : decode cX10_rename 65 = .ok (.putfield 148, 3) := by decide +kernel
theorem dX10_rename_68 : decode cX10_rename 68 = .ok (.iconst 1, 1) := by decide +kernel
theorem dX10_rename_69 : decode cX10_rename 69 = .ok (.ireturn, 1) := by decide +kernel
theorem dX10_remove_0 : decode cX10_remove 0 = .ok (.aload_n 0, 1) := by decide +kernel
theorem dX10_remove_1 : decode cX10_remove 1 = .ok (.getfield 20, 3) := by decide +kernel
theorem dX10_remove_4 : decode cX10_remove 4 = .ok (.getfield 95, 3) := by decide +kernel
theorem dX10_remove_7 : decode cX10_remove 7 = .ok (.astore_n 2, 1) := by decide +kernel
theorem dX10_remove_8 : decode cX10_remove 8 = .ok (.aload_n 2, 1) := by decide +kernel
theorem dX10_remove_9 : decode cX10_remove 9 = .ok (.iload_n 1, 1) := by decide +kernel
theorem dX10_remove_10 : decode cX10_remove 10 = .ok (.invokevirtual 123, 3) := by decide +kernel
theorem dX10_remove_13 : decode cX10_remove 13 = .ok (.ifnonnull 5, 3) := by decide +kernel
theorem dX10_remove_16 : decode cX10_remove 16 = .ok (.iconst (-1), 1) := by decide +kernel
theorem dX10_remove_17 : decode cX10_remove 17 = .ok (.ireturn, 1) := by decide +kernel
theorem dX10_remove_18 : decode cX10_remove 18 = .ok (.aload_n 2, 1) := by decide +kernel
theorem dX10_remove_19 : decode cX10_remove 19 = .ok (.iload_n 1, 1) := by decide +kernel
theorem dX10_remove_20 : decode cX10_remove 20 = .ok (.invokevirtual 152, 3) := by decide +kernel
theorem dX10_remove_23 : decode cX10_remove 23 = .ok (.istore_n 3, 1) := by decide +kernel
theorem dX10_remove_24 : decode cX10_remove 24 = .ok (.aload_n 2, 1) := by decide +kernel
theorem dX10_remove_25 : decode cX10_remove 25 = .ok (.iload_n 1, 1) := by decide +kernel
theorem dX10_remove_26 : decode cX10_remove 26 = .ok (.iload_n 3, 1) := by decide +kernel
theorem dX10_remove_27 : decode cX10_remove 27 = .ok (.invokevirtual 156, 3) := by decide +kernel
theorem dX10_remove_30 : decode cX10_remove 30 = .ok (.ifCond .eq 6, 3) := by decide +kernel
theorem dX10_remove_33 : decode cX10_remove 33 = .ok (.bipush (-2), 2) := by decide +kernel
theorem dX10_remove_35 : decode cX10_remove 35 = .ok (.ireturn, 1) := by decide +kernel
theorem dX10_remove_36 : decode cX10_remove 36 = .ok (.aload_n 0, 1) := by decide +kernel
theorem dX10_remove_37 : decode cX10_remove 37 = .ok (.invokevirtual 120, 3) := by decide +kernel
theorem dX10_remove_40 : decode cX10_remove 40 = .ok (.aload_n 2, 1) := by decide +kernel
theorem dX10_remove_41 : decode cX10_remove 41 = .ok (.iload_n 1, 1) := by decide +kernel
theorem dX10_remove_42 : decode cX10_remove 42 = .ok (.invokevirtual 160, 3) := by decide +kernel
theorem dX10_remove_45 : decode cX10_remove 45 = .ok (.iload_n 3, 1) := by decide +kernel
theorem dX10_remove_46 : decode cX10_remove 46 = .ok (.invokestatic 163, 3) := by decide +kernel
theorem dX10_remove_49 : decode cX10_remove 49 = .ok (.ireturn, 1) := by decide +kernel
theorem dX10_move_0 : decode cX10_move 0 = .ok (.aload_n 0, 1) := by decide +kernel
theorem dX10_move_1 : decode cX10_move 1 = .ok (.getfield 20, 3) := by decide +kernel
theorem dX10_move_4 : decode cX10_move 4 = .ok (.getfield 95, 3) := by decide +kernel
theorem dX10_move_7 : decode cX10_move 7 = .ok (.astore 4, 2) := by decide +kernel
theorem dX10_move_9 : decode cX10_move 9 = .ok (.aload 4, 2) := by decide +kernel
theorem dX10_move_11 : decode cX10_move 11 = .ok (.iload_n 1, 1) := by decide +kernel
theorem dX10_move_12 : decode cX10_move 12 = .ok (.invokevirtual 123, 3) := by decide +kernel
theorem dX10_move_15 : decode cX10_move 15 = .ok (.astore 5, 2) := by decide +kernel
theorem dX10_move_17 : decode cX10_move 17 = .ok (.aload 5, 2) := by decide +kernel
theorem dX10_move_19 : decode cX10_move 19 = .ok (.ifnull 22, 3) := by decide +kernel
theorem dX10_move_22 : decode cX10_move 22 = .ok (.aload 4, 2) := by decide +kernel
theorem dX10_move_24 : decode cX10_move 24 = .ok (.iload_n 2, 1) := by decide +kernel
theorem dX10_move_25 : decode cX10_move 25 = .ok (.invokevirtual 114, 3) := by decide +kernel
theorem dX10_move_28 : decode cX10_move 28 = .ok (.ifCond .eq 13, 3) := by decide +kernel
theorem dX10_move_31 : decode cX10_move 31 = .ok (.aload 4, 2) := by decide +kernel
theorem dX10_move_33 : decode cX10_move 33 = .ok (.iload_n 1, 1) := by decide +kernel
theorem dX10_move_34 : decode cX10_move 34 = .ok (.iload_n 2, 1) := by decide +kernel
theorem dX10_move_35 : decode cX10_move 35 = .ok (.invokevirtual 168, 3) := by decide +kernel
theorem dX10_move_38 : decode cX10_move 38 = .ok (.ifCond .eq 5, 3) := by decide +kernel
theorem dX10_move_41 : decode cX10_move 41 = .ok (.iconst 0, 1) := by decide +kernel
theorem dX10_move_42 : decode cX10_move 42 = .ok (.ireturn, 1) := by decide +kernel
theorem dX10_move_43 : decode cX10_move 43 = .ok (.aload 4, 2) := by decide +kernel
theorem dX10_move_45 : decode cX10_move 45 = .ok (.iload_n 2, 1) := by decide +kernel
theorem dX10_move_46 : decode cX10_move 46 = .ok (.invokevirtual 171, 3) := by decide +kernel
theorem dX10_move_49 : decode cX10_move 49 = .ok (.aload 5, 2) := by decide +kernel
theorem dX10_move_51 : decode cX10_move 51 = .ok (.getfield 174, 3) := by decide +kernel
theorem dX10_move_54 : decode cX10_move 54 = .ok (.iload_n 2, 1) := by decide +kernel
theorem dX10_move_55 : decode cX10_move 55 = .ok (.if_icmp .ne 7, 3) := by decide +kernel
theorem dX10_move_58 : decode cX10_move 58 = .ok (.iconst 1, 1) := by decide +kernel
theorem dX10_move_59 : decode cX10_move 59 = .ok (.goto 4, 3) := by decide +kernel
theorem dX10_move_62 : decode cX10_move 62 = .ok (.iconst 0, 1) := by decide +kernel
theorem dX10_move_63 : decode cX10_move 63 = .ok (.isub, 1) := by decide +kernel
theorem dX10_move_64 : decode cX10_move 64 = .ok (.istore 6, 2) := by decide +kernel
theorem dX10_move_66 : decode cX10_move 66 = .ok (.iload_n 3, 1) := by decide +kernel
theorem dX10_move_67 : decode cX10_move 67 = .ok (.ifCond .lt 9, 3) := by decide +kernel
theorem dX10_move_70 : decode cX10_move 70 = .ok (.iload_n 3, 1) := by decide +kernel
theorem dX10_move_71 : decode cX10_move 71 = .ok (.iload 6, 2) := by decide +kernel
theorem dX10_move_73 : decode cX10_move 73 = .ok (.if_icmp .le 5, 3) := by decide +kernel
theorem dX10_move_76 : decode cX10_move 76 = .ok (.iconst 0, 1) := by decide +kernel
theorem dX10_move_77 : decode cX10_move 77 = .ok (.ireturn, 1) := by decide +kernel
theorem dX10_move_78 : decode cX10_move 78 = .ok (.aload 5, 2) := by decide +kernel
theorem dX10_move_80 : decode cX10_move 80 = .ok (.getfield 174, 3) := by decide +kernel
theorem dX10_move_83 : decode cX10_move 83 = .ok (.iload_n 2, 1) := by decide +kernel
theorem dX10_move_84 : decode cX10_move 84 = .ok (.if_icmp .ne 15, 3) := by decide +kernel
theorem dX10_move_87 : decode cX10_move 87 = .ok (.aload 4, 2) := by decide +kernel
theorem dX10_move_89 : decode cX10_move 89 = .ok (.iload_n 1, 1) := by decide +kernel
theorem dX10_move_90 : decode cX10_move 90 = .ok (.invokevirtual 177, 3) := by decide +kernel
theorem dX10_move_93 : decode cX10_move 93 = .ok (.iload_n 3, 1) := by decide +kernel
theorem dX10_move_94 : decode cX10_move 94 = .ok (.if_icmp .ne 5, 3) := by decide +kernel
theorem dX10_move_97 : decode cX10_move 97 = .ok (.iconst 0, 1) := by decide +kernel
theorem dX10_move_98 : decode cX10_move 98 = .ok (.ireturn, 1) := by decide +kernel
theorem dX10_move_99 : decode cX10_move 99 = .ok (.aload_n 0, 1) := by decide +kernel
theorem dX10_move_100 : decode cX10_move 100 = .ok (.getfield 45, 3) := by decide +kernel
theorem dX10_move_103 : decode cX10_move 103 = .ok (.aload 4, 2) := by decide +kernel
theorem dX10_move_105 : decode cX10_move 105 = .ok (.invokevirtual 98, 3) := by decide +kernel
theorem dX10_move_108 : decode cX10_move 108 = .ok (.aload_n 0, 1) := by decide +kernel
theorem dX10_move_109 : decode cX10_move 109 = .ok (.getfield 45, 3) := by decide +kernel
theorem dX10_move_112 : decode cX10_move 112 = .ok (.iload_n 1, 1) := by decide +kernel
theorem dX10_move_113 : decode cX10_move 113 = .ok (.iload_n 2, 1) := by decide +kernel
theorem dX10_move_114 : decode cX10_move 114 = .ok (.iload_n 3, 1) := by decide +kernel
theorem dX10_move_115 : decode cX10_move 115 = .ok (.invokevirtual 180, 3) := by decide +kernel
theorem dX10_move_118 : decode cX10_move 118 = .ok (.aload_n 0, 1) := by decide +kernel
theorem dX10_move_119 : decode cX10_move 119 = .ok (.getfield 45, 3) := by decide +kernel
theorem dX10_move_122 : decode cX10_move 122 = .ok (.invokevirtual 184, 3) := by decide +kernel
theorem dX10_move_125 : decode cX10_move 125 = .ok (.ifCond .ne 13, 3) := by decide +kernel
theorem dX10_move_128 : decode cX10_move 128 = .ok (.aload_n 0, 1) := by decide +kernel
theorem dX10_move_129 : decode cX10_move 129 = .ok (.getfield 45, 3) := by decide +kernel
theorem dX10_move_132 : decode cX10_move 132 = .ok (.invokevirtual 187, 3) := by decide +kernel
theorem dX10_move_135 : decode cX10_move 135 = .ok (.ifCond .eq 5, 3) := by decide +kernel
theorem dX10_move_138 : decode cX10_move 138 = .ok (.iconst 0, 1) := by decide +kernel
theorem dX10_move_139 : decode cX10_move 139 = .ok (.ireturn, 1) := by decide +kernel
theorem dX10_move_140 : decode cX10_move 140 = .ok (.aload_n 0, 1) := by decide +kernel
theorem dX10_move_141 : decode cX10_move 141 = .ok (.invokevirtual 120, 3) := by decide +kernel
theorem dX10_move_144 : decode cX10_move 144 = .ok (.aload 4, 2) := by decide +kernel
theorem dX10_move_146 : decode cX10_move 146 = .ok (.aload_n 0, 1) := by decide +kernel
theorem dX10_move_147 : decode cX10_move 147 = .ok (.getfield 45, 3) := by decide +kernel
theorem dX10_move_150 : decode cX10_move 150 = .ok (.invokevirtual 98, 3) := by decide +kernel
theorem dX10_move_153 : decode cX10_move 153 = .ok (.iconst 1, 1) := by decide +kernel
theorem dX10_move_154 : decode cX10_move 154 = .ok (.ireturn, 1) := by decide +kernel
theorem dX10_setKind_0 : decode cX10_setKind 0 = .ok (.aload_n 0, 1) := by decide +kernel
theorem dX10_setKind_1 : decode cX10_setKind 1 = .ok (.getfield 20, 3) := by decide +kernel
theorem dX10_setKind_4 : decode cX10_setKind 4 = .ok (.getfield 95, 3) := by decide +kernel
theorem dX10_setKind_7 : decode cX10_setKind 7 = .ok (.iload_n 1, 1) := by decide +kernel
theorem dX10_setKind_8 : decode cX10_setKind 8 = .ok (.invokevirtual 190, 3) := by decide +kernel
theorem dX10_setKind_11 : decode cX10_setKind 11 = .ok (.astore 5, 2) := by decide +kernel
theorem dX10_setKind_13 : decode cX10_setKind 13 = .ok (.aload 5, 2) := by decide +kernel
theorem dX10_setKind_15 : decode cX10_setKind 15 = .ok (.ifnull 13, 3) := by decide +kernel
theorem dX10_setKind_18 : decode cX10_setKind 18 = .ok (.iload_n 2, 1) := by decide +kernel
theorem dX10_setKind_19 : decode cX10_setKind 19 = .ok (.iload_n 3, 1) := by decide +kernel
theorem dX10_setKind_20 : decode cX10_setKind 20 = .ok (.iload 4, 2) := by decide +kernel
theorem dX10_setKind_22 : decode cX10_setKind 22 = .ok (.invokestatic 193, 3) := by decide +kernel
theorem dX10_setKind_25 : decode cX10_setKind 25 = .ok (.ifCond .ne 5, 3) := by decide +kernel
theorem dX10_setKind_28 : decode cX10_setKind 28 = .ok (.iconst (-1), 1) := by decide +kernel
theorem dX10_setKind_29 : decode cX10_setKind 29 = .ok (.ireturn, 1) := by decide +kernel
theorem dX10_setKind_30 : decode cX10_setKind 30 = .ok (.iload_n 2, 1) := by decide +kernel
theorem dX10_setKind_31 : decode cX10_setKind 31 = .ok (.iconst 1, 1) := by decide +kernel
theorem dX10_setKind_32 : decode cX10_setKind 32 = .ok (.if_icmp .ne 10, 3) := by decide +kernel
theorem dX10_setKind_35 : decode cX10_setKind 35 = .ok (.iload 4, 2) := by decide +kernel
theorem dX10_setKind_37 : decode cX10_setKind 37 = .ok (.iconst 1, 1) := by decide +kernel
theorem dX10_setKind_38 : decode cX10_setKind 38 = .ok (.isub, 1) := by decide +kernel
theorem dX10_setKind_39 : decode cX10_setKind 39 = .ok (.goto 5, 3) := by decide +kernel
theorem dX10_setKind_42 : decode cX10_setKind 42 = .ok (.iload 4, 2) := by decide +kernel
theorem dX10_setKind_44 : decode cX10_setKind 44 = .ok (.istore 6, 2) := by decide +kernel
theorem dX10_setKind_46 : decode cX10_setKind 46 = .ok (.aload 5, 2) := by decide +kernel
theorem dX10_setKind_48 : decode cX10_setKind 48 = .ok (.getfield 197, 3) := by decide +kernel
theorem dX10_setKind_51 : decode cX10_setKind 51 = .ok (.iload_n 2, 1) := by decide +kernel
theorem dX10_setKind_52 : decode cX10_setKind 52 = .ok (.if_icmp .ne 25, 3) := by decide +kernel
theorem dX10_setKind_55 : decode cX10_setKind 55 = .ok (.aload 5, 2) := by decide +kernel
theorem dX10_setKind_57 : decode cX10_setKind 57 = .ok (.getfield 200, 3) := by decide +kernel
theorem dX10_setKind_60 : decode cX10_setKind 60 = .ok (.iload_n 3, 1) := by decide +kernel
theorem dX10_setKind_61 : decode cX10_setKind 61 = .ok (.if_icmp .ne 16, 3) := by decide +kernel
theorem dX10_setKind_64 : decode cX10_setKind 64 = .ok (.aload 5, 2) := by decide +kernel
theorem dX10_setKind_66 : decode cX10_setKind 66 = .ok (.getfield 203, 3) := by decide +kernel
theorem dX10_setKind_69 : decode cX10_setKind 69 = .ok (.iload 6, 2) := by decide +kernel
theorem dX10_setKind_71 : decode cX10_setKind 71 = .ok (.if_icmp .ne 6, 3) := by decide +kernel
theorem dX10_setKind_74 : decode cX10_setKind 74 = .ok (.bipush (-2), 2) := by decide +kernel
theorem dX10_setKind_76 : decode cX10_setKind 76 = .ok (.ireturn, 1) := by decide +kernel
theorem dX10_setKind_77 : decode cX10_setKind 77 = .ok (.aload 5, 2) := by decide +kernel
theorem dX10_setKind_79 : decode cX10_setKind 79 = .ok (.getfield 197, 3) := by decide +kernel
theorem dX10_setKind_82 : decode cX10_setKind 82 = .ok (.istore 7, 2) := by decide +kernel
theorem dX10_setKind_84 : decode cX10_setKind 84 = .ok (.aload_n 0, 1) := by decide +kernel
theorem dX10_setKind_85 : decode cX10_setKind 85 = .ok (.invokevirtual 120, 3) := by decide +kernel
theorem dX10_setKind_88 : decode cX10_setKind 88 = .ok (.aload 5, 2) := by decide +kernel
theorem dX10_setKind_90 : decode cX10_setKind 90 = .ok (.iload_n 2, 1) := by decide +kernel
theorem dX10_setKind_91 : decode cX10_setKind 91 = .ok (.putfield 197, 3) := by decide +kernel
theorem dX10_setKind_94 : decode cX10_setKind 94 = .ok (.aload 5, 2) := by decide +kernel
theorem dX10_setKind_96 : decode cX10_setKind 96 = .ok (.iload_n 3, 1) := by decide +kernel
theorem dX10_setKind_97 : decode cX10_setKind 97 = .ok (.putfield 200, 3) := by decide +kernel
theorem dX10_setKind_100 : decode cX10_setKind 100 = .ok (.aload 5, 2) := by decide +kernel
theorem dX10_setKind_102 : decode cX10_setKind 102 = .ok (.iload 6, 2) := by decide +kernel
theorem dX10_setKind_104 : decode cX10_setKind 104 = .ok (.putfield 203, 3) := by decide +kernel
theorem dX10_setKind_107 : decode cX10_setKind 107 = .ok (.iload 7, 2) := by decide +kernel
theorem dX10_setKind_109 : decode cX10_setKind 109 = .ok (.ireturn, 1) := by decide +kernel
theorem dX10_publish_0 : decode cX10_publish 0 = .ok (.aload_n 0, 1) := by decide +kernel
theorem dX10_publish_1 : decode cX10_publish 1 = .ok (.getfield 20, 3) := by decide +kernel
theorem dX10_publish_4 : decode cX10_publish 4 = .ok (.getfield 102, 3) := by decide +kernel
theorem dX10_publish_7 : decode cX10_publish 7 = .ok (.istore_n 1, 1) := by decide +kernel
theorem dX10_publish_8 : decode cX10_publish 8 = .ok (.iload_n 1, 1) := by decide +kernel
theorem dX10_publish_9 : decode cX10_publish 9 = .ok (.ifCond .lt 18, 3) := by decide +kernel
theorem dX10_publish_12 : decode cX10_publish 12 = .ok (.iload_n 1, 1) := by decide +kernel
theorem dX10_publish_13 : decode cX10_publish 13 = .ok (.bipush 8, 2) := by decide +kernel
theorem dX10_publish_15 : decode cX10_publish 15 = .ok (.if_icmp .ge 12, 3) := by decide +kernel
theorem dX10_publish_18 : decode cX10_publish 18 = .ok (.aload_n 0, 1) := by decide +kernel
theorem dX10_publish_19 : decode cX10_publish 19 = .ok (.getfield 26, 3) := by decide +kernel
theorem dX10_publish_22 : decode cX10_publish 22 = .ok (.iload_n 1, 1) := by decide +kernel
theorem dX10_publish_23 : decode cX10_publish 23 = .ok (.aaload, 1) := by decide +kernel
theorem dX10_publish_24 : decode cX10_publish 24 = .ok (.ifnonnull 6, 3) := by decide +kernel
theorem dX10_publish_27 : decode cX10_publish 27 = .ok (.bipush (-2), 2) := by decide +kernel
theorem dX10_publish_29 : decode cX10_publish 29 = .ok (.ireturn, 1) := by decide +kernel
theorem dX10_publish_30 : decode cX10_publish 30 = .ok (.aload_n 0, 1) := by decide +kernel
theorem dX10_publish_31 : decode cX10_publish 31 = .ok (.invokevirtual 120, 3) := by decide +kernel
theorem dX10_publish_34 : decode cX10_publish 34 = .ok (.aload_n 0, 1) := by decide +kernel
theorem dX10_publish_35 : decode cX10_publish 35 = .ok (.getfield 26, 3) := by decide +kernel
theorem dX10_publish_38 : decode cX10_publish 38 = .ok (.iload_n 1, 1) := by decide +kernel
theorem dX10_publish_39 : decode cX10_publish 39 = .ok (.aaload, 1) := by decide +kernel
theorem dX10_publish_40 : decode cX10_publish 40 = .ok (.aload_n 0, 1) := by decide +kernel
theorem dX10_publish_41 : decode cX10_publish 41 = .ok (.getfield 20, 3) := by decide +kernel
theorem dX10_publish_44 : decode cX10_publish 44 = .ok (.getfield 95, 3) := by decide +kernel
theorem dX10_publish_47 : decode cX10_publish 47 = .ok (.invokevirtual 98, 3) := by decide +kernel
theorem dX10_publish_50 : decode cX10_publish 50 = .ok (.aload_n 0, 1) := by decide +kernel
theorem dX10_publish_51 : decode cX10_publish 51 = .ok (.getfield 20, 3) := by decide +kernel
theorem dX10_publish_54 : decode cX10_publish 54 = .ok (.iload_n 1, 1) := by decide +kernel
theorem dX10_publish_55 : decode cX10_publish 55 = .ok (.iconst 1, 1) := by decide +kernel
theorem dX10_publish_56 : decode cX10_publish 56 = .ok (.iadd, 1) := by decide +kernel
theorem dX10_publish_57 : decode cX10_publish 57 = .ok (.putfield 102, 3) := by decide +kernel
theorem dX10_publish_60 : decode cX10_publish 60 = .ok (.iload_n 1, 1) := by decide +kernel
theorem dX10_publish_61 : decode cX10_publish 61 = .ok (.ireturn, 1) := by decide +kernel
theorem dX10_begin_0 : decode cX10_begin 0 = .ok (.aload_n 0, 1) := by decide +kernel
theorem dX10_begin_1 : decode cX10_begin 1 = .ok (.getfield 20, 3) := by decide +kernel
theorem dX10_begin_4 : decode cX10_begin 4 = .ok (.getfield 105, 3) := by decide +kernel
theorem dX10_begin_7 : decode cX10_begin 7 = .ok (.istore_n 1, 1) := by decide +kernel
theorem dX10_begin_8 : decode cX10_begin 8 = .ok (.aload_n 0, 1) := by decide +kernel
theorem dX10_begin_9 : decode cX10_begin 9 = .ok (.getfield 20, 3) := by decide +kernel
theorem dX10_begin_12 : decode cX10_begin 12 = .ok (.getfield 102, 3) := by decide +kernel
theorem dX10_begin_15 : decode cX10_begin 15 = .ok (.ifCond .eq 25, 3) := by decide +kernel
theorem dX10_begin_18 : decode cX10_begin 18 = .ok (.iload_n 1, 1) := by decide +kernel
theorem dX10_begin_19 : decode cX10_begin 19 = .ok (.ifCond .lt 21, 3) := by decide +kernel
theorem dX10_begin_22 : decode cX10_begin 22 = .ok (.iload_n 1, 1) := by decide +kernel
theorem dX10_begin_23 : decode cX10_begin 23 = .ok (.bipush 10, 2) := by decide +kernel
theorem dX10_begin_25 : decode cX10_begin 25 = .ok (.if_icmp .ge 15, 3) := by decide +kernel
theorem dX10_begin_28 : decode cX10_begin 28 = .ok (.aload_n 0, 1) := by decide +kernel
theorem dX10_begin_29 : decode cX10_begin 29 = .ok (.getfield 20, 3) := by decide +kernel
theorem dX10_begin_32 : decode cX10_begin 32 = .ok (.getfield 206, 3) := by decide +kernel
theorem dX10_begin_35 : decode cX10_begin 35 = .ok (.iload_n 1, 1) := by decide +kernel
theorem dX10_begin_36 : decode cX10_begin 36 = .ok (.aaload, 1) := by decide +kernel
theorem dX10_begin_37 : decode cX10_begin 37 = .ok (.ifnonnull 6, 3) := by decide +kernel
theorem dX10_begin_40 : decode cX10_begin 40 = .ok (.bipush (-2), 2) := by decide +kernel
theorem dX10_begin_42 : decode cX10_begin 42 = .ok (.ireturn, 1) := by decide +kernel
theorem dX10_begin_43 : decode cX10_begin 43 = .ok (.aload_n 0, 1) := by decide +kernel
theorem dX10_begin_44 : decode cX10_begin 44 = .ok (.invokevirtual 120, 3) := by decide +kernel
theorem dX10_begin_47 : decode cX10_begin 47 = .ok (.aload_n 0, 1) := by decide +kernel
theorem dX10_begin_48 : decode cX10_begin 48 = .ok (.getfield 20, 3) := by decide +kernel
theorem dX10_begin_51 : decode cX10_begin 51 = .ok (.getfield 206, 3) := by decide +kernel
theorem dX10_begin_54 : decode cX10_begin 54 = .ok (.iload_n 1, 1) := by decide +kernel
theorem dX10_begin_55 : decode cX10_begin 55 = .ok (.aaload, 1) := by decide +kernel
theorem dX10_begin_56 : decode cX10_begin 56 = .ok (.aload_n 0, 1) := by decide +kernel
theorem dX10_begin_57 : decode cX10_begin 57 = .ok (.getfield 20, 3) := by decide +kernel
theorem dX10_begin_60 : decode cX10_begin 60 = .ok (.getfield 102, 3) := by decide +kernel
theorem dX10_begin_63 : decode cX10_begin 63 = .ok (.iconst 1, 1) := by decide +kernel
theorem dX10_begin_64 : decode cX10_begin 64 = .ok (.isub, 1) := by decide +kernel
theorem dX10_begin_65 : decode cX10_begin 65 = .ok (.invokevirtual 210, 3) := by decide +kernel
theorem dX10_begin_68 : decode cX10_begin 68 = .ok (.aload_n 0, 1) := by decide +kernel
theorem dX10_begin_69 : decode cX10_begin 69 = .ok (.getfield 20, 3) := by decide +kernel
theorem dX10_begin_72 : decode cX10_begin 72 = .ok (.iload_n 1, 1) := by decide +kernel
theorem dX10_begin_73 : decode cX10_begin 73 = .ok (.iconst 1, 1) := by decide +kernel
theorem dX10_begin_74 : decode cX10_begin 74 = .ok (.iadd, 1) := by decide +kernel
theorem dX10_begin_75 : decode cX10_begin 75 = .ok (.putfield 105, 3) := by decide +kernel
theorem dX10_begin_78 : decode cX10_begin 78 = .ok (.iload_n 1, 1) := by decide +kernel
theorem dX10_begin_79 : decode cX10_begin 79 = .ok (.ireturn, 1) := by decide +kernel
theorem dX10_answer_0 : decode cX10_answer 0 = .ok (.aload_n 0, 1) := by decide +kernel
theorem dX10_answer_1 : decode cX10_answer 1 = .ok (.getfield 20, 3) := by decide +kernel
theorem dX10_answer_4 : decode cX10_answer 4 = .ok (.iload_n 1, 1) := by decide +kernel
theorem dX10_answer_5 : decode cX10_answer 5 = .ok (.invokevirtual 215, 3) := by decide +kernel
theorem dX10_answer_8 : decode cX10_answer 8 = .ok (.astore 4, 2) := by decide +kernel
theorem dX10_answer_10 : decode cX10_answer 10 = .ok (.aload_n 0, 1) := by decide +kernel
theorem dX10_answer_11 : decode cX10_answer 11 = .ok (.aload 4, 2) := by decide +kernel
theorem dX10_answer_13 : decode cX10_answer 13 = .ok (.invokevirtual 219, 3) := by decide +kernel
theorem dX10_answer_16 : decode cX10_answer 16 = .ok (.astore 5, 2) := by decide +kernel
theorem dX10_answer_18 : decode cX10_answer 18 = .ok (.aload 4, 2) := by decide +kernel
theorem dX10_answer_20 : decode cX10_answer 20 = .ok (.ifnull 8, 3) := by decide +kernel
theorem dX10_answer_23 : decode cX10_answer 23 = .ok (.aload 5, 2) := by decide +kernel
theorem dX10_answer_25 : decode cX10_answer 25 = .ok (.ifnonnull 5, 3) := by decide +kernel
theorem dX10_answer_28 : decode cX10_answer 28 = .ok (.iconst (-1), 1) := by decide +kernel
theorem dX10_answer_29 : decode cX10_answer 29 = .ok (.ireturn, 1) := by decide +kernel
theorem dX10_answer_30 : decode cX10_answer 30 = .ok (.aload 5, 2) := by decide +kernel
theorem dX10_answer_32 : decode cX10_answer 32 = .ok (.iload_n 2, 1) := by decide +kernel
theorem dX10_answer_33 : decode cX10_answer 33 = .ok (.invokevirtual 190, 3) := by decide +kernel
theorem dX10_answer_36 : decode cX10_answer 36 = .ok (.astore 6, 2) := by decide +kernel
theorem dX10_answer_38 : decode cX10_answer 38 = .ok (.aload 6, 2) := by decide +kernel
theorem dX10_answer_40 : decode cX10_answer 40 = .ok (.ifnull 18, 3) := by decide +kernel
theorem dX10_answer_43 : decode cX10_answer 43 = .ok (.iload_n 3, 1) := by decide +kernel
theorem dX10_answer_44 : decode cX10_answer 44 = .ok (.bipush (-2), 2) := by decide +kernel
theorem dX10_answer_46 : decode cX10_answer 46 = .ok (.if_icmp .eq 14, 3) := by decide +kernel
theorem dX10_answer_49 : decode cX10_answer 49 = .ok (.aload 6, 2) := by decide +kernel
theorem dX10_answer_51 : decode cX10_answer 51 = .ok (.iload_n 3, 1) := by decide +kernel
theorem dX10_answer_52 : decode cX10_answer 52 = .ok (.invokevirtual 223, 3) := by decide +kernel
theorem dX10_answer_55 : decode cX10_answer 55 = .ok (.ifCond .ne 5, 3) := by decide +kernel
theorem dX10_answer_58 : decode cX10_answer 58 = .ok (.iconst (-1), 1) := by decide +kernel
theorem dX10_answer_59 : decode cX10_answer 59 = .ok (.ireturn, 1) := by decide +kernel
theorem dX10_answer_60 : decode cX10_answer 60 = .ok (.aload_n 0, 1) := by decide +kernel
theorem dX10_answer_61 : decode cX10_answer 61 = .ok (.getfield 51, 3) := by decide +kernel
theorem dX10_answer_64 : decode cX10_answer 64 = .ok (.aload 5, 2) := by decide +kernel
theorem dX10_answer_66 : decode cX10_answer 66 = .ok (.aload 4, 2) := by decide +kernel
theorem dX10_answer_68 : decode cX10_answer 68 = .ok (.invokevirtual 226, 3) := by decide +kernel
theorem dX10_answer_71 : decode cX10_answer 71 = .ok (.aload_n 0, 1) := by decide +kernel
theorem dX10_answer_72 : decode cX10_answer 72 = .ok (.getfield 51, 3) := by decide +kernel
theorem dX10_answer_75 : decode cX10_answer 75 = .ok (.iload_n 2, 1) := by decide +kernel
theorem dX10_answer_76 : decode cX10_answer 76 = .ok (.invokevirtual 230, 3) := by decide +kernel
theorem dX10_answer_79 : decode cX10_answer 79 = .ok (.ifCond .eq 13, 3) := by decide +kernel
theorem dX10_answer_82 : decode cX10_answer 82 = .ok (.aload 4, 2) := by decide +kernel
theorem dX10_answer_84 : decode cX10_answer 84 = .ok (.iload_n 2, 1) := by decide +kernel
theorem dX10_answer_85 : decode cX10_answer 85 = .ok (.invokevirtual 233, 3) := by decide +kernel
theorem dX10_answer_88 : decode cX10_answer 88 = .ok (.iload_n 3, 1) := by decide +kernel
theorem dX10_answer_89 : decode cX10_answer 89 = .ok (.if_icmp .ne 6, 3) := by decide +kernel
theorem dX10_answer_92 : decode cX10_answer 92 = .ok (.bipush (-2), 2) := by decide +kernel
theorem dX10_answer_94 : decode cX10_answer 94 = .ok (.ireturn, 1) := by decide +kernel
theorem dX10_answer_95 : decode cX10_answer 95 = .ok (.aload_n 0, 1) := by decide +kernel
theorem dX10_answer_96 : decode cX10_answer 96 = .ok (.getfield 51, 3) := by decide +kernel
theorem dX10_answer_99 : decode cX10_answer 99 = .ok (.getfield 236, 3) := by decide +kernel
theorem dX10_answer_102 : decode cX10_answer 102 = .ok (.istore 7, 2) := by decide +kernel
theorem dX10_answer_104 : decode cX10_answer 104 = .ok (.aload_n 0, 1) := by decide +kernel
theorem dX10_answer_105 : decode cX10_answer 105 = .ok (.invokevirtual 120, 3) := by decide +kernel
theorem dX10_answer_108 : decode cX10_answer 108 = .ok (.aload 4, 2) := by decide +kernel
theorem dX10_answer_110 : decode cX10_answer 110 = .ok (.iload_n 2, 1) := by decide +kernel
theorem dX10_answer_111 : decode cX10_answer 111 = .ok (.iload_n 3, 1) := by decide +kernel
theorem dX10_answer_112 : decode cX10_answer 112 = .ok (.invokevirtual 239, 3) := by decide +kernel
theorem dX10_answer_115 : decode cX10_answer 115 = .ok (.aload_n 0, 1) := by decide +kernel
theorem dX10_answer_116 : decode cX10_answer 116 = .ok (.getfield 51, 3) := by decide +kernel
theorem dX10_answer_119 : decode cX10_answer 119 = .ok (.aload 5, 2) := by decide +kernel
theorem dX10_answer_121 : decode cX10_answer 121 = .ok (.aload 4, 2) := by decide +kernel
theorem dX10_answer_123 : decode cX10_answer 123 = .ok (.invokevirtual 226, 3) := by decide +kernel
theorem dX10_answer_126 : decode cX10_answer 126 = .ok (.iload 7, 2) := by decide +kernel
theorem dX10_answer_128 : decode cX10_answer 128 = .ok (.aload_n 0, 1) := by decide +kernel
theorem dX10_answer_129 : decode cX10_answer 129 = .ok (.getfield 51, 3) := by decide +kernel
theorem dX10_answer_132 : decode cX10_answer 132 = .ok (.getfield 236, 3) := by decide +kernel
theorem dX10_answer_135 : decode cX10_answer 135 = .ok (.ixor, 1) := by decide +kernel
theorem dX10_answer_136 : decode cX10_answer 136 = .ok (.invokestatic 163, 3) := by decide +kernel
theorem dX10_answer_139 : decode cX10_answer 139 = .ok (.ireturn, 1) := by decide +kernel
theorem dX10_advance_0 : decode cX10_advance 0 = .ok (.aload_n 0, 1) := by decide +kernel
theorem dX10_advance_1 : decode cX10_advance 1 = .ok (.getfield 20, 3) := by decide +kernel
theorem dX10_advance_4 : decode cX10_advance 4 = .ok (.iload_n 1, 1) := by decide +kernel
theorem dX10_advance_5 : decode cX10_advance 5 = .ok (.invokevirtual 215, 3) := by decide +kernel
theorem dX10_advance_8 : decode cX10_advance 8 = .ok (.astore_n 2, 1) := by decide +kernel
theorem dX10_advance_9 : decode cX10_advance 9 = .ok (.aload_n 0, 1) := by decide +kernel
theorem dX10_advance_10 : decode cX10_advance 10 = .ok (.aload_n 0, 1) := by decide +kernel
theorem dX10_advance_11 : decode cX10_advance 11 = .ok (.getfield 20, 3) := by decide +kernel
theorem dX10_advance_14 : decode cX10_advance 14 = .ok (.getfield 102, 3) := by decide +kernel
theorem dX10_advance_17 : decode cX10_advance 17 = .ok (.iconst 1, 1) := by decide +kernel
theorem dX10_advance_18 : decode cX10_advance 18 = .ok (.isub, 1) := by decide +kernel
theorem dX10_advance_19 : decode cX10_advance 19 = .ok (.invokevirtual 243, 3) := by decide +kernel
theorem dX10_advance_22 : decode cX10_advance 22 = .ok (.astore_n 3, 1) := by decide +kernel
theorem dX10_advance_23 : decode cX10_advance 23 = .ok (.aload_n 2, 1) := by decide +kernel
theorem dX10_advance_24 : decode cX10_advance 24 = .ok (.ifnull 7, 3) := by decide +kernel
theorem dX10_advance_27 : decode cX10_advance 27 = .ok (.aload_n 3, 1) := by decide +kernel
theorem dX10_advance_28 : decode cX10_advance 28 = .ok (.ifnonnull 5, 3) := by decide +kernel
theorem dX10_advance_31 : decode cX10_advance 31 = .ok (.iconst (-1), 1) := by decide +kernel
theorem dX10_advance_32 : decode cX10_advance 32 = .ok (.ireturn, 1) := by decide +kernel
theorem dX10_advance_33 : decode cX10_advance 33 = .ok (.aload_n 2, 1) := by decide +kernel
theorem dX10_advance_34 : decode cX10_advance 34 = .ok (.getfield 247, 3) := by decide +kernel
theorem dX10_advance_37 : decode cX10_advance 37 = .ok (.aload_n 0, 1) := by decide +kernel
theorem dX10_advance_38 : decode cX10_advance 38 = .ok (.getfield 20, 3) := by decide +kernel
theorem dX10_advance_41 : decode cX10_advance 41 = .ok (.getfield 102, 3) := by decide +kernel
theorem dX10_advance_44 : decode cX10_advance 44 = .ok (.iconst 1, 1) := by decide +kernel
theorem dX10_advance_45 : decode cX10_advance 45 = .ok (.isub, 1) := by decide +kernel
theorem dX10_advance_46 : decode cX10_advance 46 = .ok (.if_icmp .ne 6, 3) := by decide +kernel
theorem dX10_advance_49 : decode cX10_advance 49 = .ok (.bipush (-2), 2) := by decide +kernel
theorem dX10_advance_51 : decode cX10_advance 51 = .ok (.ireturn, 1) := by decide +kernel
theorem dX10_advance_52 : decode cX10_advance 52 = .ok (.aload_n 0, 1) := by decide +kernel
theorem dX10_advance_53 : decode cX10_advance 53 = .ok (.invokevirtual 120, 3) := by decide +kernel
theorem dX10_advance_56 : decode cX10_advance 56 = .ok (.aload_n 2, 1) := by decide +kernel
theorem dX10_advance_57 : decode cX10_advance 57 = .ok (.aload_n 0, 1) := by decide +kernel
theorem dX10_advance_58 : decode cX10_advance 58 = .ok (.getfield 20, 3) := by decide +kernel
theorem dX10_advance_61 : decode cX10_advance 61 = .ok (.getfield 102, 3) := by decide +kernel
theorem dX10_advance_64 : decode cX10_advance 64 = .ok (.iconst 1, 1) := by decide +kernel
theorem dX10_advance_65 : decode cX10_advance 65 = .ok (.isub, 1) := by decide +kernel
theorem dX10_advance_66 : decode cX10_advance 66 = .ok (.putfield 247, 3) := by decide +kernel
theorem dX10_advance_69 : decode cX10_advance 69 = .ok (.iconst 0, 1) := by decide +kernel
theorem dX10_advance_70 : decode cX10_advance 70 = .ok (.istore 4, 2) := by decide +kernel
theorem dX10_advance_72 : decode cX10_advance 72 = .ok (.iconst 0, 1) := by decide +kernel
theorem dX10_advance_73 : decode cX10_advance 73 = .ok (.istore 5, 2) := by decide +kernel
theorem dX10_advance_75 : decode cX10_advance 75 = .ok (.iload 5, 2) := by decide +kernel
theorem dX10_advance_77 : decode cX10_advance 77 = .ok (.bipush 24, 2) := by decide +kernel
theorem dX10_advance_79 : decode cX10_advance 79 = .ok (.if_icmp .ge 40, 3) := by decide +kernel
theorem dX10_advance_82 : decode cX10_advance 82 = .ok (.aload_n 2, 1) := by decide +kernel
theorem dX10_advance_83 : decode cX10_advance 83 = .ok (.iload 5, 2) := by decide +kernel
theorem dX10_advance_85 : decode cX10_advance 85 = .ok (.invokevirtual 233, 3) := by decide +kernel
theorem dX10_advance_88 : decode cX10_advance 88 = .ok (.bipush (-2), 2) := by decide +kernel
theorem dX10_advance_90 : decode cX10_advance 90 = .ok (.if_icmp .eq 23, 3) := by decide +kernel
theorem dX10_advance_93 : decode cX10_advance 93 = .ok (.aload_n 3, 1) := by decide +kernel
theorem dX10_advance_94 : decode cX10_advance 94 = .ok (.iload 5, 2) := by decide +kernel
theorem dX10_advance_96 : decode cX10_advance 96 = .ok (.invokevirtual 190, 3) := by decide +kernel
theorem dX10_advance_99 : decode cX10_advance 99 = .ok (.ifnonnull 14, 3) := by decide +kernel
theorem dX10_advance_102 : decode cX10_advance 102 = .ok (.aload_n 2, 1) := by decide +kernel
theorem dX10_advance_103 : decode cX10_advance 103 = .ok (.iload 5, 2) := by decide +kernel
theorem dX10_advance_105 : decode cX10_advance 105 = .ok (.bipush (-2), 2) := by decide +kernel
theorem dX10_advance_107 : decode cX10_advance 107 = .ok (.invokevirtual 239, 3) := by decide +kernel
theorem dX10_advance_110 : decode cX10_advance 110 = .ok (.iinc 4 1, 3) := by decide +kernel
theorem dX10_advance_113 : decode cX10_advance 113 = .ok (.iinc 5 1, 3) := by decide +kernel
theorem dX10_advance_116 : decode cX10_advance 116 = .ok (.goto (-41), 3) := by decide +kernel
theorem dX10_advance_119 : decode cX10_advance 119 = .ok (.iload 4, 2) := by decide +kernel
theorem dX10_advance_121 : decode cX10_advance 121 = .ok (.ireturn, 1) := by decide +kernel
theorem dX10_undo_0 : decode cX10_undo 0 = .ok (.aload_n 0, 1) := by decide +kernel
theorem dX10_undo_1 : decode cX10_undo 1 = .ok (.getfield 108, 3) := by decide +kernel
theorem dX10_undo_4 : decode cX10_undo 4 = .ok (.ifCond .gt 5, 3) := by decide +kernel
theorem dX10_undo_7 : decode cX10_undo 7 = .ok (.iconst (-1), 1) := by decide +kernel
theorem dX10_undo_8 : decode cX10_undo 8 = .ok (.ireturn, 1) := by decide +kernel
theorem dX10_undo_9 : decode cX10_undo 9 = .ok (.aload_n 0, 1) := by decide +kernel
theorem dX10_undo_10 : decode cX10_undo 10 = .ok (.aload_n 0, 1) := by decide +kernel
theorem dX10_undo_11 : decode cX10_undo 11 = .ok (.getfield 250, 3) := by decide +kernel
theorem dX10_undo_14 : decode cX10_undo 14 = .ok (.iconst 1, 1) := by decide +kernel
theorem dX10_undo_15 : decode cX10_undo 15 = .ok (.isub, 1) := by decide +kernel
theorem dX10_undo_16 : decode cX10_undo 16 = .ok (.bipush 10, 2) := by decide +kernel
theorem dX10_undo_18 : decode cX10_undo 18 = .ok (.invokestatic 253, 3) := by decide +kernel
theorem dX10_undo_21 : decode cX10_undo 21 = .ok (.putfield 250, 3) := by decide +kernel
theorem dX10_undo_24 : decode cX10_undo 24 = .ok (.aload_n 0, 1) := by decide +kernel
theorem dX10_undo_25 : decode cX10_undo 25 = .ok (.dup, 1) := by decide +kernel
theorem dX10_undo_26 : decode cX10_undo 26 = .ok (.getfield 108, 3) := by decide +kernel
theorem dX10_undo_29 : decode cX10_undo 29 = .ok (.iconst 1, 1) := by decide +kernel
theorem dX10_undo_30 : decode cX10_undo 30 = .ok (.isub, 1) := by decide +kernel
theorem dX10_undo_31 : decode cX10_undo 31 = .ok (.putfield 108, 3) := by decide +kernel
theorem dX10_undo_34 : decode cX10_undo 34 = .ok (.aload_n 0, 1) := by decide +kernel
theorem dX10_undo_35 : decode cX10_undo 35 = .ok (.getfield 30, 3) := by decide +kernel
theorem dX10_undo_38 : decode cX10_undo 38 = .ok (.aload_n 0, 1) := by decide +kernel
theorem dX10_undo_39 : decode cX10_undo 39 = .ok (.getfield 250, 3) := by decide +kernel
theorem dX10_undo_42 : decode cX10_undo 42 = .ok (.aaload, 1) := by decide +kernel
theorem dX10_undo_43 : decode cX10_undo 43 = .ok (.ifnull 19, 3) := by decide +kernel
theorem dX10_undo_46 : decode cX10_undo 46 = .ok (.aload_n 0, 1) := by decide +kernel
theorem dX10_undo_47 : decode cX10_undo 47 = .ok (.getfield 20, 3) := by decide +kernel
theorem dX10_undo_50 : decode cX10_undo 50 = .ok (.aload_n 0, 1) := by decide +kernel
theorem dX10_undo_51 : decode cX10_undo 51 = .ok (.getfield 30, 3) := by decide +kernel
theorem dX10_undo_54 : decode cX10_undo 54 = .ok (.aload_n 0, 1) := by decide +kernel
theorem dX10_undo_55 : decode cX10_undo 55 = .ok (.getfield 250, 3) := by decide +kernel
theorem dX10_undo_58 : decode cX10_undo 58 = .ok (.aaload, 1) := by decide +kernel
theorem dX10_undo_59 : decode cX10_undo 59 = .ok (.invokevirtual 259, 3) := by decide +kernel
theorem dX10_undo_62 : decode cX10_undo 62 = .ok (.aload_n 0, 1) := by decide +kernel
theorem dX10_undo_63 : decode cX10_undo 63 = .ok (.getfield 108, 3) := by decide +kernel
theorem dX10_undo_66 : decode cX10_undo 66 = .ok (.ireturn, 1) := by decide +kernel
theorem dX10_value_0 : decode cX10_value 0 = .ok (.aload_n 0, 1) := by decide +kernel
theorem dX10_value_1 : decode cX10_value 1 = .ok (.getfield 20, 3) := by decide +kernel
theorem dX10_value_4 : decode cX10_value 4 = .ok (.getfield 95, 3) := by decide +kernel
theorem dX10_value_7 : decode cX10_value 7 = .ok (.astore_n 2, 1) := by decide +kernel
theorem dX10_value_8 : decode cX10_value 8 = .ok (.iload_n 1, 1) := by decide +kernel
theorem dX10_value_9 : decode cX10_value 9 = .ok (.tableswitch 126 0 9 #[55, 60, 65, 70, 80, 95, 103, 111, 116, 121], 55) := by decide +kernel
theorem dX10_value_64 : decode cX10_value 64 = .ok (.aload_n 2, 1) := by decide +kernel
theorem dX10_value_65 : decode cX10_value 65 = .ok (.getfield 262, 3) := by decide +kernel
theorem dX10_value_68 : decode cX10_value 68 = .ok (.ireturn, 1) := by decide +kernel
theorem dX10_value_69 : decode cX10_value 69 = .ok (.aload_n 2, 1) := by decide +kernel
theorem dX10_value_70 : decode cX10_value 70 = .ok (.getfield 265, 3) := by decide +kernel
theorem dX10_value_73 : decode cX10_value 73 = .ok (.ireturn, 1) := by decide +kernel
theorem dX10_value_74 : decode cX10_value 74 = .ok (.aload_n 2, 1) := by decide +kernel
theorem dX10_value_75 : decode cX10_value 75 = .ok (.getfield 268, 3) := by decide +kernel
theorem dX10_value_78 : decode cX10_value 78 = .ok (.ireturn, 1) := by decide +kernel
theorem dX10_value_79 : decode cX10_value 79 = .ok (.aload_n 2, 1) := by decide +kernel
theorem dX10_value_80 : decode cX10_value 80 = .ok (.bipush (-2), 2) := by decide +kernel
theorem dX10_value_82 : decode cX10_value 82 = .ok (.invokevirtual 152, 3) := by decide +kernel
theorem dX10_value_85 : decode cX10_value 85 = .ok (.invokestatic 163, 3) := by decide +kernel
theorem dX10_value_88 : decode cX10_value 88 = .ok (.ireturn, 1) := by decide +kernel
theorem dX10_value_89 : decode cX10_value 89 = .ok (.aload_n 2, 1) := by decide +kernel
theorem dX10_value_90 : decode cX10_value 90 = .ok (.getfield 117, 3) := by decide +kernel
theorem dX10_value_93 : decode cX10_value 93 = .ok (.aload_n 2, 1) := by decide +kernel
theorem dX10_value_94 : decode cX10_value 94 = .ok (.bipush (-2), 2) := by decide +kernel
theorem dX10_value_96 : decode cX10_value 96 = .ok (.invokevirtual 152, 3) := by decide +kernel
theorem dX10_value_99 : decode cX10_value 99 = .ok (.invokestatic 163, 3) := by decide +kernel
theorem dX10_value_102 : decode cX10_value 102 = .ok (.isub, 1) := by decide +kernel
theorem dX10_value_103 : decode cX10_value 103 = .ok (.ireturn, 1) := by decide +kernel
theorem dX10_value_104 : decode cX10_value 104 = .ok (.aload_n 0, 1) := by decide +kernel
theorem dX10_value_105 : decode cX10_value 105 = .ok (.getfield 20, 3) := by decide +kernel
theorem dX10_value_108 : decode cX10_value 108 = .ok (.getfield 102, 3) := by decide +kernel
theorem dX10_value_111 : decode cX10_value 111 = .ok (.ireturn, 1) := by decide +kernel
theorem dX10_value_112 : decode cX10_value 112 = .ok (.aload_n 0, 1) := by decide +kernel
theorem dX10_value_113 : decode cX10_value 113 = .ok (.getfield 20, 3) := by decide +kernel
theorem dX10_value_116 : decode cX10_value 116 = .ok (.getfield 105, 3) := by decide +kernel
theorem dX10_value_119 : decode cX10_value 119 = .ok (.ireturn, 1) := by decide +kernel
theorem dX10_value_120 : decode cX10_value 120 = .ok (.aload_n 2, 1) := by decide +kernel
theorem dX10_value_121 : decode cX10_value 121 = .ok (.getfield 111, 3) := by decide +kernel
theorem dX10_value_124 : decode cX10_value 124 = .ok (.ireturn, 1) := by decide +kernel
theorem dX10_value_125 : decode cX10_value 125 = .ok (.aload_n 2, 1) := by decide +kernel
theorem dX10_value_126 : decode cX10_value 126 = .ok (.getfield 271, 3) := by decide +kernel
theorem dX10_value_129 : decode cX10_value 129 = .ok (.ireturn, 1) := by decide +kernel
theorem dX10_value_130 : decode cX10_value 130 = .ok (.aload_n 2, 1) := by decide +kernel
theorem dX10_value_131 : decode cX10_value 131 = .ok (.invokevirtual 274, 3) := by decide +kernel
theorem dX10_value_134 : decode cX10_value 134 = .ok (.ireturn, 1) := by decide +kernel
theorem dX10_value_135 : decode cX10_value 135 = .ok (.iconst (-1), 1) := by decide +kernel
theorem dX10_value_136 : decode cX10_value 136 = .ok (.ireturn, 1) := by decide +kernel
theorem dX10_node_0 : decode cX10_node 0 = .ok (.aload_n 0, 1) := by decide +kernel
theorem dX10_node_1 : decode cX10_node 1 = .ok (.getfield 20, 3) := by decide +kernel
theorem dX10_node_4 : decode cX10_node 4 = .ok (.getfield 95, 3) := by decide +kernel
theorem dX10_node_7 : decode cX10_node 7 = .ok (.astore_n 3, 1) := by decide +kernel
theorem dX10_node_8 : decode cX10_node 8 = .ok (.aload_n 3, 1) := by decide +kernel
theorem dX10_node_9 : decode cX10_node 9 = .ok (.iload_n 1, 1) := by decide +kernel
theorem dX10_node_10 : decode cX10_node 10 = .ok (.invokevirtual 123, 3) := by decide +kernel
theorem dX10_node_13 : decode cX10_node 13 = .ok (.astore 4, 2) := by decide +kernel
theorem dX10_node_15 : decode cX10_node 15 = .ok (.aload 4, 2) := by decide +kernel
theorem dX10_node_17 : decode cX10_node 17 = .ok (.ifnonnull 5, 3) := by decide +kernel
theorem dX10_node_20 : decode cX10_node 20 = .ok (.iconst (-1), 1) := by decide +kernel
theorem dX10_node_21 : decode cX10_node 21 = .ok (.ireturn, 1) := by decide +kernel
theorem dX10_node_22 : decode cX10_node 22 = .ok (.iload_n 2, 1) := by decide +kernel
theorem dX10_node_23 : decode cX10_node 23 = .ok (.tableswitch 123 0 8 #[49, 55, 61, 67, 73, 79, 85, 95, 101], 49) := by decide +kernel
theorem dX10_node_72 : decode cX10_node 72 = .ok (.aload 4, 2) := by decide +kernel
theorem dX10_node_74 : decode cX10_node 74 = .ok (.getfield 197, 3) := by decide +kernel
theorem dX10_node_77 : decode cX10_node 77 = .ok (.ireturn, 1) := by decide +kernel
theorem dX10_node_78 : decode cX10_node 78 = .ok (.aload 4, 2) := by decide +kernel
theorem dX10_node_80 : decode cX10_node 80 = .ok (.getfield 200, 3) := by decide +kernel
theorem dX10_node_83 : decode cX10_node 83 = .ok (.ireturn, 1) := by decide +kernel
theorem dX10_node_84 : decode cX10_node 84 = .ok (.aload 4, 2) := by decide +kernel
theorem dX10_node_86 : decode cX10_node 86 = .ok (.getfield 203, 3) := by decide +kernel
theorem dX10_node_89 : decode cX10_node 89 = .ok (.ireturn, 1) := by decide +kernel
theorem dX10_node_90 : decode cX10_node 90 = .ok (.aload 4, 2) := by decide +kernel
theorem dX10_node_92 : decode cX10_node 92 = .ok (.getfield 278, 3) := by decide +kernel
theorem dX10_node_95 : decode cX10_node 95 = .ok (.ireturn, 1) := by decide +kernel
theorem dX10_node_96 : decode cX10_node 96 = .ok (.aload 4, 2) := by decide +kernel
theorem dX10_node_98 : decode cX10_node 98 = .ok (.getfield 174, 3) := by decide +kernel
theorem dX10_node_101 : decode cX10_node 101 = .ok (.ireturn, 1) := by decide +kernel
theorem dX10_node_102 : decode cX10_node 102 = .ok (.aload_n 3, 1) := by decide +kernel
theorem dX10_node_103 : decode cX10_node 103 = .ok (.iload_n 1, 1) := by decide +kernel
theorem dX10_node_104 : decode cX10_node 104 = .ok (.invokevirtual 177, 3) := by decide +kernel
theorem dX10_node_107 : decode cX10_node 107 = .ok (.ireturn, 1) := by decide +kernel
theorem dX10_node_108 : decode cX10_node 108 = .ok (.aload_n 3, 1) := by decide +kernel
theorem dX10_node_109 : decode cX10_node 109 = .ok (.aload 4, 2) := by decide +kernel
theorem dX10_node_111 : decode cX10_node 111 = .ok (.getfield 174, 3) := by decide +kernel
theorem dX10_node_114 : decode cX10_node 114 = .ok (.invokevirtual 281, 3) := by decide +kernel
theorem dX10_node_117 : decode cX10_node 117 = .ok (.ireturn, 1) := by decide +kernel
theorem dX10_node_118 : decode cX10_node 118 = .ok (.aload 4, 2) := by decide +kernel
theorem dX10_node_120 : decode cX10_node 120 = .ok (.getfield 131, 3) := by decide +kernel
theorem dX10_node_123 : decode cX10_node 123 = .ok (.ireturn, 1) := by decide +kernel
theorem dX10_node_124 : decode cX10_node 124 = .ok (.aload 4, 2) := by decide +kernel
theorem dX10_node_126 : decode cX10_node 126 = .ok (.getfield 197, 3) := by decide +kernel
theorem dX10_node_129 : decode cX10_node 129 = .ok (.iconst 3, 1) := by decide +kernel
theorem dX10_node_130 : decode cX10_node 130 = .ok (.if_icmp .ne 14, 3) := by decide +kernel
theorem dX10_node_133 : decode cX10_node 133 = .ok (.aload_n 3, 1) := by decide +kernel
theorem dX10_node_134 : decode cX10_node 134 = .ok (.iload_n 1, 1) := by decide +kernel
theorem dX10_node_135 : decode cX10_node 135 = .ok (.bipush 24, 2) := by decide +kernel
theorem dX10_node_137 : decode cX10_node 137 = .ok (.isub, 1) := by decide +kernel
theorem dX10_node_138 : decode cX10_node 138 = .ok (.invokevirtual 171, 3) := by decide +kernel
theorem dX10_node_141 : decode cX10_node 141 = .ok (.goto 4, 3) := by decide +kernel
theorem dX10_node_144 : decode cX10_node 144 = .ok (.iconst 0, 1) := by decide +kernel
theorem dX10_node_145 : decode cX10_node 145 = .ok (.ireturn, 1) := by decide +kernel
theorem dX10_node_146 : decode cX10_node 146 = .ok (.iconst (-1), 1) := by decide +kernel
theorem dX10_node_147 : decode cX10_node 147 = .ok (.ireturn, 1) := by decide +kernel
theorem dX10_letter_0 : decode cX10_letter 0 = .ok (.aload_n 0, 1) := by decide +kernel
theorem dX10_letter_1 : decode cX10_letter 1 = .ok (.getfield 20, 3) := by decide +kernel
theorem dX10_letter_4 : decode cX10_letter 4 = .ok (.getfield 95, 3) := by decide +kernel
theorem dX10_letter_7 : decode cX10_letter 7 = .ok (.iload_n 1, 1) := by decide +kernel
theorem dX10_letter_8 : decode cX10_letter 8 = .ok (.invokevirtual 123, 3) := by decide +kernel
theorem dX10_letter_11 : decode cX10_letter 11 = .ok (.astore_n 3, 1) := by decide +kernel
theorem dX10_letter_12 : decode cX10_letter 12 = .ok (.aload_n 3, 1) := by decide +kernel
theorem dX10_letter_13 : decode cX10_letter 13 = .ok (.ifnull 7, 3) := by decide +kernel
theorem dX10_letter_16 : decode cX10_letter 16 = .ok (.iload_n 2, 1) := by decide +kernel
theorem dX10_letter_17 : decode cX10_letter 17 = .ok (.ifCond .ge 5, 3) := by decide +kernel
theorem dX10_letter_20 : decode cX10_letter 20 = .ok (.iconst (-1), 1) := by decide +kernel
theorem dX10_letter_21 : decode cX10_letter 21 = .ok (.ireturn, 1) := by decide +kernel
theorem dX10_letter_22 : decode cX10_letter 22 = .ok (.aload_n 3, 1) := by decide +kernel
theorem dX10_letter_23 : decode cX10_letter 23 = .ok (.getfield 148, 3) := by decide +kernel
theorem dX10_letter_26 : decode cX10_letter 26 = .ok (.iload_n 2, 1) := by decide +kernel
theorem dX10_letter_27 : decode cX10_letter 27 = .ok (.invokestatic 284, 3) := by decide +kernel
theorem dX10_letter_30 : decode cX10_letter 30 = .ok (.ireturn, 1) := by decide +kernel
theorem dX10_named_0 : decode cX10_named 0 = .ok (.iload_n 1, 1) := by decide +kernel
theorem dX10_named_1 : decode cX10_named 1 = .ok (.invokestatic 136, 3) := by decide +kernel
theorem dX10_named_4 : decode cX10_named 4 = .ok (.lstore_n 2, 1) := by decide +kernel
theorem dX10_named_5 : decode cX10_named 5 = .ok (.lload_n 2, 1) := by decide +kernel
theorem dX10_named_6 : decode cX10_named 6 = .ok (.lconst 0, 1) := by decide +kernel
theorem dX10_named_7 : decode cX10_named 7 = .ok (.lcmp, 1) := by decide +kernel
theorem dX10_named_8 : decode cX10_named 8 = .ok (.ifCond .ne 7, 3) := by decide +kernel
theorem dX10_named_11 : decode cX10_named 11 = .ok (.iconst (-1), 1) := by decide +kernel
theorem dX10_named_12 : decode cX10_named 12 = .ok (.goto 14, 3) := by decide +kernel
theorem dX10_named_15 : decode cX10_named 15 = .ok (.aload_n 0, 1) := by decide +kernel
theorem dX10_named_16 : decode cX10_named 16 = .ok (.getfield 20, 3) := by decide +kernel
theorem dX10_named_19 : decode cX10_named 19 = .ok (.getfield 95, 3) := by decide +kernel
theorem dX10_named_22 : decode cX10_named 22 = .ok (.lload_n 2, 1) := by decide +kernel
theorem dX10_named_23 : decode cX10_named 23 = .ok (.invokevirtual 144, 3) := by decide +kernel
theorem dX10_named_26 : decode cX10_named 26 = .ok (.ireturn, 1) := by decide +kernel
theorem dX10_nodeAt_0 : decode cX10_nodeAt 0 = .ok (.iload_n 1, 1) := by decide +kernel
theorem dX10_nodeAt_1 : decode cX10_nodeAt 1 = .ok (.ifCond .ge 7, 3) := by decide +kernel
theorem dX10_nodeAt_4 : decode cX10_nodeAt 4 = .ok (.iconst (-1), 1) := by decide +kernel
theorem dX10_nodeAt_5 : decode cX10_nodeAt 5 = .ok (.goto 14, 3) := by decide +kernel
theorem dX10_nodeAt_8 : decode cX10_nodeAt 8 = .ok (.aload_n 0, 1) := by decide +kernel
theorem dX10_nodeAt_9 : decode cX10_nodeAt 9 = .ok (.getfield 20, 3) := by decide +kernel
theorem dX10_nodeAt_12 : decode cX10_nodeAt 12 = .ok (.getfield 95, 3) := by decide +kernel
theorem dX10_nodeAt_15 : decode cX10_nodeAt 15 = .ok (.iload_n 1, 1) := by decide +kernel
theorem dX10_nodeAt_16 : decode cX10_nodeAt 16 = .ok (.invokevirtual 288, 3) := by decide +kernel
theorem dX10_nodeAt_19 : decode cX10_nodeAt 19 = .ok (.ireturn, 1) := by decide +kernel
theorem dX10_dependsOn_0 : decode cX10_dependsOn 0 = .ok (.aload_n 0, 1) := by decide +kernel
theorem dX10_dependsOn_1 : decode cX10_dependsOn 1 = .ok (.getfield 20, 3) := by decide +kernel
theorem dX10_dependsOn_4 : decode cX10_dependsOn 4 = .ok (.getfield 95, 3) := by decide +kernel
theorem dX10_dependsOn_7 : decode cX10_dependsOn 7 = .ok (.iload_n 1, 1) := by decide +kernel
theorem dX10_dependsOn_8 : decode cX10_dependsOn 8 = .ok (.invokevirtual 190, 3) := by decide +kernel
theorem dX10_dependsOn_11 : decode cX10_dependsOn 11 = .ok (.ifnonnull 7, 3) := by decide +kernel
theorem dX10_dependsOn_14 : decode cX10_dependsOn 14 = .ok (.iconst (-1), 1) := by decide +kernel
theorem dX10_dependsOn_15 : decode cX10_dependsOn 15 = .ok (.goto 14, 3) := by decide +kernel
theorem dX10_dependsOn_18 : decode cX10_dependsOn 18 = .ok (.aload_n 0, 1) := by decide +kernel
theorem dX10_dependsOn_19 : decode cX10_dependsOn 19 = .ok (.getfield 20, 3) := by decide +kernel
theorem dX10_dependsOn_22 : decode cX10_dependsOn 22 = .ok (.getfield 95, 3) := by decide +kernel
theorem dX10_dependsOn_25 : decode cX10_dependsOn 25 = .ok (.iload_n 1, 1) := by decide +kernel
theorem dX10_dependsOn_26 : decode cX10_dependsOn 26 = .ok (.invokevirtual 291, 3) := by decide +kernel
theorem dX10_dependsOn_29 : decode cX10_dependsOn 29 = .ok (.ireturn, 1) := by decide +kernel
theorem dX10_dependents_0 : decode cX10_dependents 0 = .ok (.aload_n 0, 1) := by decide +kernel
theorem dX10_dependents_1 : decode cX10_dependents 1 = .ok (.getfield 20, 3) := by decide +kernel
theorem dX10_dependents_4 : decode cX10_dependents 4 = .ok (.getfield 95, 3) := by decide +kernel
theorem dX10_dependents_7 : decode cX10_dependents 7 = .ok (.iload_n 1, 1) := by decide +kernel
theorem dX10_dependents_8 : decode cX10_dependents 8 = .ok (.invokevirtual 190, 3) := by decide +kernel
theorem dX10_dependents_11 : decode cX10_dependents 11 = .ok (.ifnonnull 5, 3) := by decide +kernel
theorem dX10_dependents_14 : decode cX10_dependents 14 = .ok (.iconst (-1), 1) := by decide +kernel
theorem dX10_dependents_15 : decode cX10_dependents 15 = .ok (.ireturn, 1) := by decide +kernel
theorem dX10_dependents_16 : decode cX10_dependents 16 = .ok (.iconst 0, 1) := by decide +kernel
theorem dX10_dependents_17 : decode cX10_dependents 17 = .ok (.istore_n 2, 1) := by decide +kernel
theorem dX10_dependents_18 : decode cX10_dependents 18 = .ok (.iconst 0, 1) := by decide +kernel
theorem dX10_dependents_19 : decode cX10_dependents 19 = .ok (.istore_n 3, 1) := by decide +kernel
theorem dX10_dependents_20 : decode cX10_dependents 20 = .ok (.iload_n 3, 1) := by decide +kernel
theorem dX10_dependents_21 : decode cX10_dependents 21 = .ok (.bipush 24, 2) := by decide +kernel
theorem dX10_dependents_23 : decode cX10_dependents 23 = .ok (.if_icmp .ge 33, 3) := by decide +kernel
theorem dX10_dependents_26 : decode cX10_dependents 26 = .ok (.aload_n 0, 1) := by decide +kernel
theorem dX10_dependents_27 : decode cX10_dependents 27 = .ok (.getfield 20, 3) := by decide +kernel
theorem dX10_dependents_30 : decode cX10_dependents 30 = .ok (.getfield 95, 3) := by decide +kernel
theorem dX10_dependents_33 : decode cX10_dependents 33 = .ok (.iload_n 3, 1) := by decide +kernel
theorem dX10_dependents_34 : decode cX10_dependents 34 = .ok (.invokevirtual 294, 3) := by decide +kernel
theorem dX10_dependents_37 : decode cX10_dependents 37 = .ok (.iload_n 1, 1) := by decide +kernel
theorem dX10_dependents_38 : decode cX10_dependents 38 = .ok (.invokestatic 297, 3) := by decide +kernel
theorem dX10_dependents_41 : decode cX10_dependents 41 = .ok (.ifCond .eq 9, 3) := by decide +kernel
theorem dX10_dependents_44 : decode cX10_dependents 44 = .ok (.iload_n 2, 1) := by decide +kernel
theorem dX10_dependents_45 : decode cX10_dependents 45 = .ok (.iconst 1, 1) := by decide +kernel
theorem dX10_dependents_46 : decode cX10_dependents 46 = .ok (.iload_n 3, 1) := by decide +kernel
theorem dX10_dependents_47 : decode cX10_dependents 47 = .ok (.ishl, 1) := by decide +kernel
theorem dX10_dependents_48 : decode cX10_dependents 48 = .ok (.ior, 1) := by decide +kernel
theorem dX10_dependents_49 : decode cX10_dependents 49 = .ok (.istore_n 2, 1) := by decide +kernel
theorem dX10_dependents_50 : decode cX10_dependents 50 = .ok (.iinc 3 1, 3) := by decide +kernel
theorem dX10_dependents_53 : decode cX10_dependents 53 = .ok (.goto (-33), 3) := by decide +kernel
theorem dX10_dependents_56 : decode cX10_dependents 56 = .ok (.iload_n 2, 1) := by decide +kernel
theorem dX10_dependents_57 : decode cX10_dependents 57 = .ok (.ireturn, 1) := by decide +kernel
theorem dX10_inOrder_0 : decode cX10_inOrder 0 = .ok (.iload_n 1, 1) := by decide +kernel
theorem dX10_inOrder_1 : decode cX10_inOrder 1 = .ok (.ifCond .ge 5, 3) := by decide +kernel
theorem dX10_inOrder_4 : decode cX10_inOrder 4 = .ok (.iconst (-1), 1) := by decide +kernel
theorem dX10_inOrder_5 : decode cX10_inOrder 5 = .ok (.ireturn, 1) := by decide +kernel
theorem dX10_inOrder_6 : decode cX10_inOrder 6 = .ok (.iconst 0, 1) := by decide +kernel
theorem dX10_inOrder_7 : decode cX10_inOrder 7 = .ok (.istore_n 2, 1) := by decide +kernel
theorem dX10_inOrder_8 : decode cX10_inOrder 8 = .ok (.bipush (-2), 2) := by decide +kernel
theorem dX10_inOrder_10 : decode cX10_inOrder 10 = .ok (.istore_n 3, 1) := by decide +kernel
theorem dX10_inOrder_11 : decode cX10_inOrder 11 = .ok (.iconst 0, 1) := by decide +kernel
theorem dX10_inOrder_12 : decode cX10_inOrder 12 = .ok (.istore 4, 2) := by decide +kernel
theorem dX10_inOrder_14 : decode cX10_inOrder 14 = .ok (.iload 4, 2) := by decide +kernel
theorem dX10_inOrder_16 : decode cX10_inOrder 16 = .ok (.iload_n 1, 1) := by decide +kernel
theorem dX10_inOrder_17 : decode cX10_inOrder 17 = .ok (.if_icmp .gt 41, 3) := by decide +kernel
theorem dX10_inOrder_20 : decode cX10_inOrder 20 = .ok (.iload 4, 2) := by decide +kernel
theorem dX10_inOrder_22 : decode cX10_inOrder 22 = .ok (.bipush 24, 2) := by decide +kernel
theorem dX10_inOrder_24 : decode cX10_inOrder 24 = .ok (.if_icmp .gt 34, 3) := by decide +kernel
theorem dX10_inOrder_27 : decode cX10_inOrder 27 = .ok (.aload_n 0, 1) := by decide +kernel
theorem dX10_inOrder_28 : decode cX10_inOrder 28 = .ok (.getfield 20, 3) := by decide +kernel
theorem dX10_inOrder_31 : decode cX10_inOrder 31 = .ok (.getfield 95, 3) := by decide +kernel
theorem dX10_inOrder_34 : decode cX10_inOrder 34 = .ok (.iload_n 2, 1) := by decide +kernel
theorem dX10_inOrder_35 : decode cX10_inOrder 35 = .ok (.invokevirtual 300, 3) := by decide +kernel
theorem dX10_inOrder_38 : decode cX10_inOrder 38 = .ok (.istore_n 3, 1) := by decide +kernel
theorem dX10_inOrder_39 : decode cX10_inOrder 39 = .ok (.iload_n 3, 1) := by decide +kernel
theorem dX10_inOrder_40 : decode cX10_inOrder 40 = .ok (.ifCond .ge 6, 3) := by decide +kernel
theorem dX10_inOrder_43 : decode cX10_inOrder 43 = .ok (.bipush (-2), 2) := by decide +kernel
theorem dX10_inOrder_45 : decode cX10_inOrder 45 = .ok (.ireturn, 1) := by decide +kernel
theorem dX10_inOrder_46 : decode cX10_inOrder 46 = .ok (.iload_n 2, 1) := by decide +kernel
theorem dX10_inOrder_47 : decode cX10_inOrder 47 = .ok (.iconst 1, 1) := by decide +kernel
theorem dX10_inOrder_48 : decode cX10_inOrder 48 = .ok (.iload_n 3, 1) := by decide +kernel
theorem dX10_inOrder_49 : decode cX10_inOrder 49 = .ok (.ishl, 1) := by decide +kernel
theorem dX10_inOrder_50 : decode cX10_inOrder 50 = .ok (.ior, 1) := by decide +kernel
theorem dX10_inOrder_51 : decode cX10_inOrder 51 = .ok (.istore_n 2, 1) := by decide +kernel
theorem dX10_inOrder_52 : decode cX10_inOrder 52 = .ok (.iinc 4 1, 3) := by decide +kernel
theorem dX10_inOrder_55 : decode cX10_inOrder 55 = .ok (.goto (-41), 3) := by decide +kernel
theorem dX10_inOrder_58 : decode cX10_inOrder 58 = .ok (.iload_n 3, 1) := by decide +kernel
theorem dX10_inOrder_59 : decode cX10_inOrder 59 = .ok (.ireturn, 1) := by decide +kernel
theorem dX10_wouldRefuse_0 : decode cX10_wouldRefuse 0 = .ok (.aload_n 0, 1) := by decide +kernel
theorem dX10_wouldRefuse_1 : decode cX10_wouldRefuse 1 = .ok (.getfield 20, 3) := by decide +kernel
theorem dX10_wouldRefuse_4 : decode cX10_wouldRefuse 4 = .ok (.getfield 95, 3) := by decide +kernel
theorem dX10_wouldRefuse_7 : decode cX10_wouldRefuse 7 = .ok (.astore_n 3, 1) := by decide +kernel
theorem dX10_wouldRefuse_8 : decode cX10_wouldRefuse 8 = .ok (.aload_n 3, 1) := by decide +kernel
theorem dX10_wouldRefuse_9 : decode cX10_wouldRefuse 9 = .ok (.iload_n 1, 1) := by decide +kernel
theorem dX10_wouldRefuse_10 : decode cX10_wouldRefuse 10 = .ok (.invokevirtual 123, 3) := by decide +kernel
theorem dX10_wouldRefuse_13 : decode cX10_wouldRefuse 13 = .ok (.ifnull 24, 3) := by decide +kernel
theorem dX10_wouldRefuse_16 : decode cX10_wouldRefuse 16 = .ok (.aload_n 3, 1) := by decide +kernel
theorem dX10_wouldRefuse_17 : decode cX10_wouldRefuse 17 = .ok (.iload_n 2, 1) := by decide +kernel
theorem dX10_wouldRefuse_18 : decode cX10_wouldRefuse 18 = .ok (.invokevirtual 190, 3) := by decide +kernel
theorem dX10_wouldRefuse_21 : decode cX10_wouldRefuse 21 = .ok (.ifnull 16, 3) := by decide +kernel
theorem dX10_wouldRefuse_24 : decode cX10_wouldRefuse 24 = .ok (.aload_n 3, 1) := by decide +kernel
theorem dX10_wouldRefuse_25 : decode cX10_wouldRefuse 25 = .ok (.iload_n 1, 1) := by decide +kernel
theorem dX10_wouldRefuse_26 : decode cX10_wouldRefuse 26 = .ok (.iload_n 2, 1) := by decide +kernel
theorem dX10_wouldRefuse_27 : decode cX10_wouldRefuse 27 = .ok (.invokevirtual 303, 3) := by decide +kernel
theorem dX10_wouldRefuse_30 : decode cX10_wouldRefuse 30 = .ok (.ifCond .eq 7, 3) := by decide +kernel
theorem dX10_wouldRefuse_33 : decode cX10_wouldRefuse 33 = .ok (.iconst 1, 1) := by decide +kernel
theorem dX10_wouldRefuse_34 : decode cX10_wouldRefuse 34 = .ok (.goto 4, 3) := by decide +kernel
theorem dX10_wouldRefuse_37 : decode cX10_wouldRefuse 37 = .ok (.iconst 0, 1) := by decide +kernel
theorem dX10_wouldRefuse_38 : decode cX10_wouldRefuse 38 = .ok (.ireturn, 1) := by decide +kernel
theorem dX10_exists_0 : decode cX10_exists 0 = .ok (.aload_n 0, 1) := by decide +kernel
theorem dX10_exists_1 : decode cX10_exists 1 = .ok (.iload_n 1, 1) := by decide +kernel
theorem dX10_exists_2 : decode cX10_exists 2 = .ok (.invokevirtual 243, 3) := by decide +kernel
theorem dX10_exists_5 : decode cX10_exists 5 = .ok (.astore_n 3, 1) := by decide +kernel
theorem dX10_exists_6 : decode cX10_exists 6 = .ok (.aload_n 3, 1) := by decide +kernel
theorem dX10_exists_7 : decode cX10_exists 7 = .ok (.ifnull 15, 3) := by decide +kernel
theorem dX10_exists_10 : decode cX10_exists 10 = .ok (.aload_n 3, 1) := by decide +kernel
theorem dX10_exists_11 : decode cX10_exists 11 = .ok (.iload_n 2, 1) := by decide +kernel
theorem dX10_exists_12 : decode cX10_exists 12 = .ok (.invokevirtual 123, 3) := by decide +kernel
theorem dX10_exists_15 : decode cX10_exists 15 = .ok (.ifnull 7, 3) := by decide +kernel
theorem dX10_exists_18 : decode cX10_exists 18 = .ok (.iconst 1, 1) := by decide +kernel
theorem dX10_exists_19 : decode cX10_exists 19 = .ok (.goto 4, 3) := by decide +kernel
theorem dX10_exists_22 : decode cX10_exists 22 = .ok (.iconst 0, 1) := by decide +kernel
theorem dX10_exists_23 : decode cX10_exists 23 = .ok (.ireturn, 1) := by decide +kernel
theorem dX10_revisionOf_0 : decode cX10_revisionOf 0 = .ok (.aload_n 0, 1) := by decide +kernel
theorem dX10_revisionOf_1 : decode cX10_revisionOf 1 = .ok (.getfield 20, 3) := by decide +kernel
theorem dX10_revisionOf_4 : decode cX10_revisionOf 4 = .ok (.iload_n 1, 1) := by decide +kernel
theorem dX10_revisionOf_5 : decode cX10_revisionOf 5 = .ok (.invokevirtual 215, 3) := by decide +kernel
theorem dX10_revisionOf_8 : decode cX10_revisionOf 8 = .ok (.astore_n 2, 1) := by decide +kernel
theorem dX10_revisionOf_9 : decode cX10_revisionOf 9 = .ok (.aload_n 2, 1) := by decide +kernel
theorem dX10_revisionOf_10 : decode cX10_revisionOf 10 = .ok (.ifnonnull 7, 3) := by decide +kernel
theorem dX10_revisionOf_13 : decode cX10_revisionOf 13 = .ok (.iconst (-1), 1) := by decide +kernel
theorem dX10_revisionOf_14 : decode cX10_revisionOf 14 = .ok (.goto 7, 3) := by decide +kernel
theorem dX10_revisionOf_17 : decode cX10_revisionOf 17 = .ok (.aload_n 2, 1) := by decide +kernel
theorem dX10_revisionOf_18 : decode cX10_revisionOf 18 = .ok (.getfield 247, 3) := by decide +kernel
theorem dX10_revisionOf_21 : decode cX10_revisionOf 21 = .ok (.ireturn, 1) := by decide +kernel
theorem dX10_answers_0 : decode cX10_answers 0 = .ok (.aload_n 0, 1) := by decide +kernel
theorem dX10_answers_1 : decode cX10_answers 1 = .ok (.getfield 20, 3) := by decide +kernel
theorem dX10_answers_4 : decode cX10_answers 4 = .ok (.iload_n 1, 1) := by decide +kernel
theorem dX10_answers_5 : decode cX10_answers 5 = .ok (.invokevirtual 215, 3) := by decide +kernel
theorem dX10_answers_8 : decode cX10_answers 8 = .ok (.astore_n 2, 1) := by decide +kernel
theorem dX10_answers_9 : decode cX10_answers 9 = .ok (.aload_n 2, 1) := by decide +kernel
theorem dX10_answers_10 : decode cX10_answers 10 = .ok (.ifnonnull 5, 3) := by decide +kernel
theorem dX10_answers_13 : decode cX10_answers 13 = .ok (.iconst (-1), 1) := by decide +kernel
theorem dX10_answers_14 : decode cX10_answers 14 = .ok (.ireturn, 1) := by decide +kernel
theorem dX10_answers_15 : decode cX10_answers 15 = .ok (.iconst 0, 1) := by decide +kernel
theorem dX10_answers_16 : decode cX10_answers 16 = .ok (.istore_n 3, 1) := by decide +kernel
theorem dX10_answers_17 : decode cX10_answers 17 = .ok (.iconst 0, 1) := by decide +kernel
theorem dX10_answers_18 : decode cX10_answers 18 = .ok (.istore 4, 2) := by decide +kernel
theorem dX10_answers_20 : decode cX10_answers 20 = .ok (.iload 4, 2) := by decide +kernel
theorem dX10_answers_22 : decode cX10_answers 22 = .ok (.bipush 24, 2) := by decide +kernel
theorem dX10_answers_24 : decode cX10_answers 24 = .ok (.if_icmp .ge 23, 3) := by decide +kernel
theorem dX10_answers_27 : decode cX10_answers 27 = .ok (.aload_n 2, 1) := by decide +kernel
theorem dX10_answers_28 : decode cX10_answers 28 = .ok (.iload 4, 2) := by decide +kernel
theorem dX10_answers_30 : decode cX10_answers 30 = .ok (.invokevirtual 233, 3) := by decide +kernel
theorem dX10_answers_33 : decode cX10_answers 33 = .ok (.bipush (-2), 2) := by decide +kernel
theorem dX10_answers_35 : decode cX10_answers 35 = .ok (.if_icmp .eq 6, 3) := by decide +kernel
theorem dX10_answers_38 : decode cX10_answers 38 = .ok (.iinc 3 1, 3) := by decide +kernel
theorem dX10_answers_41 : decode cX10_answers 41 = .ok (.iinc 4 1, 3) := by decide +kernel
theorem dX10_answers_44 : decode cX10_answers 44 = .ok (.goto (-24), 3) := by decide +kernel
theorem dX10_answers_47 : decode cX10_answers 47 = .ok (.iload_n 3, 1) := by decide +kernel
theorem dX10_answers_48 : decode cX10_answers 48 = .ok (.ireturn, 1) := by decide +kernel
theorem dX10_isShown_0 : decode cX10_isShown 0 = .ok (.aload_n 0, 1) := by decide +kernel
theorem dX10_isShown_1 : decode cX10_isShown 1 = .ok (.getfield 20, 3) := by decide +kernel
theorem dX10_isShown_4 : decode cX10_isShown 4 = .ok (.iload_n 1, 1) := by decide +kernel
theorem dX10_isShown_5 : decode cX10_isShown 5 = .ok (.invokevirtual 215, 3) := by decide +kernel
theorem dX10_isShown_8 : decode cX10_isShown 8 = .ok (.astore 4, 2) := by decide +kernel
theorem dX10_isShown_10 : decode cX10_isShown 10 = .ok (.aload_n 0, 1) := by decide +kernel
theorem dX10_isShown_11 : decode cX10_isShown 11 = .ok (.iload_n 2, 1) := by decide +kernel
theorem dX10_isShown_12 : decode cX10_isShown 12 = .ok (.invokevirtual 243, 3) := by decide +kernel
theorem dX10_isShown_15 : decode cX10_isShown 15 = .ok (.astore 5, 2) := by decide +kernel
theorem dX10_isShown_17 : decode cX10_isShown 17 = .ok (.aload 4, 2) := by decide +kernel
theorem dX10_isShown_19 : decode cX10_isShown 19 = .ok (.ifnull 17, 3) := by decide +kernel
theorem dX10_isShown_22 : decode cX10_isShown 22 = .ok (.aload 5, 2) := by decide +kernel
theorem dX10_isShown_24 : decode cX10_isShown 24 = .ok (.ifnull 12, 3) := by decide +kernel
theorem dX10_isShown_27 : decode cX10_isShown 27 = .ok (.aload 5, 2) := by decide +kernel
theorem dX10_isShown_29 : decode cX10_isShown 29 = .ok (.iload_n 3, 1) := by decide +kernel
theorem dX10_isShown_30 : decode cX10_isShown 30 = .ok (.invokevirtual 123, 3) := by decide +kernel
theorem dX10_isShown_33 : decode cX10_isShown 33 = .ok (.ifnonnull 5, 3) := by decide +kernel
theorem dX10_isShown_36 : decode cX10_isShown 36 = .ok (.iconst 0, 1) := by decide +kernel
theorem dX10_isShown_37 : decode cX10_isShown 37 = .ok (.ireturn, 1) := by decide +kernel
theorem dX10_isShown_38 : decode cX10_isShown 38 = .ok (.aload_n 0, 1) := by decide +kernel
theorem dX10_isShown_39 : decode cX10_isShown 39 = .ok (.getfield 51, 3) := by decide +kernel
theorem dX10_isShown_42 : decode cX10_isShown 42 = .ok (.aload 5, 2) := by decide +kernel
theorem dX10_isShown_44 : decode cX10_isShown 44 = .ok (.aload 4, 2) := by decide +kernel
theorem dX10_isShown_46 : decode cX10_isShown 46 = .ok (.invokevirtual 226, 3) := by decide +kernel
theorem dX10_isShown_49 : decode cX10_isShown 49 = .ok (.aload_n 0, 1) := by decide +kernel
theorem dX10_isShown_50 : decode cX10_isShown 50 = .ok (.getfield 51, 3) := by decide +kernel
theorem dX10_isShown_53 : decode cX10_isShown 53 = .ok (.iload_n 3, 1) := by decide +kernel
theorem dX10_isShown_54 : decode cX10_isShown 54 = .ok (.invokevirtual 230, 3) := by decide +kernel
theorem dX10_isShown_57 : decode cX10_isShown 57 = .ok (.ireturn, 1) := by decide +kernel
theorem dX10_inForce_0 : decode cX10_inForce 0 = .ok (.aload_n 0, 1) := by decide +kernel
theorem dX10_inForce_1 : decode cX10_inForce 1 = .ok (.getfield 20, 3) := by decide +kernel
theorem dX10_inForce_4 : decode cX10_inForce 4 = .ok (.iload_n 1, 1) := by decide +kernel
theorem dX10_inForce_5 : decode cX10_inForce 5 = .ok (.invokevirtual 215, 3) := by decide +kernel
theorem dX10_inForce_8 : decode cX10_inForce 8 = .ok (.astore 4, 2) := by decide +kernel
theorem dX10_inForce_10 : decode cX10_inForce 10 = .ok (.aload_n 0, 1) := by decide +kernel
theorem dX10_inForce_11 : decode cX10_inForce 11 = .ok (.iload_n 2, 1) := by decide +kernel
theorem dX10_inForce_12 : decode cX10_inForce 12 = .ok (.invokevirtual 243, 3) := by decide +kernel
theorem dX10_inForce_15 : decode cX10_inForce 15 = .ok (.astore 5, 2) := by decide +kernel
theorem dX10_inForce_17 : decode cX10_inForce 17 = .ok (.aload 4, 2) := by decide +kernel
theorem dX10_inForce_19 : decode cX10_inForce 19 = .ok (.ifnull 17, 3) := by decide +kernel
theorem dX10_inForce_22 : decode cX10_inForce 22 = .ok (.aload 5, 2) := by decide +kernel
theorem dX10_inForce_24 : decode cX10_inForce 24 = .ok (.ifnull 12, 3) := by decide +kernel
theorem dX10_inForce_27 : decode cX10_inForce 27 = .ok (.aload 5, 2) := by decide +kernel
theorem dX10_inForce_29 : decode cX10_inForce 29 = .ok (.iload_n 3, 1) := by decide +kernel
theorem dX10_inForce_30 : decode cX10_inForce 30 = .ok (.invokevirtual 190, 3) := by decide +kernel
theorem dX10_inForce_33 : decode cX10_inForce 33 = .ok (.ifnonnull 5, 3) := by decide +kernel
theorem dX10_inForce_36 : decode cX10_inForce 36 = .ok (.iconst (-1), 1) := by decide +kernel
theorem dX10_inForce_37 : decode cX10_inForce 37 = .ok (.ireturn, 1) := by decide +kernel
theorem dX10_inForce_38 : decode cX10_inForce 38 = .ok (.aload_n 0, 1) := by decide +kernel
theorem dX10_inForce_39 : decode cX10_inForce 39 = .ok (.getfield 51, 3) := by decide +kernel
theorem dX10_inForce_42 : decode cX10_inForce 42 = .ok (.aload 5, 2) := by decide +kernel
theorem dX10_inForce_44 : decode cX10_inForce 44 = .ok (.aload 4, 2) := by decide +kernel
theorem dX10_inForce_46 : decode cX10_inForce 46 = .ok (.invokevirtual 226, 3) := by decide +kernel
theorem dX10_inForce_49 : decode cX10_inForce 49 = .ok (.aload_n 0, 1) := by decide +kernel
theorem dX10_inForce_50 : decode cX10_inForce 50 = .ok (.getfield 51, 3) := by decide +kernel
theorem dX10_inForce_53 : decode cX10_inForce 53 = .ok (.iload_n 3, 1) := by decide +kernel
theorem dX10_inForce_54 : decode cX10_inForce 54 = .ok (.invokevirtual 306, 3) := by decide +kernel
theorem dX10_inForce_57 : decode cX10_inForce 57 = .ok (.ireturn, 1) := by decide +kernel
theorem dX10_open_0 : decode cX10_open 0 = .ok (.aload_n 0, 1) := by decide +kernel
theorem dX10_open_1 : decode cX10_open 1 = .ok (.iload_n 1, 1) := by decide +kernel
theorem dX10_open_2 : decode cX10_open 2 = .ok (.invokevirtual 309, 3) := by decide +kernel
theorem dX10_open_5 : decode cX10_open 5 = .ok (.ifCond .eq 27, 3) := by decide +kernel
theorem dX10_open_8 : decode cX10_open 8 = .ok (.aload_n 0, 1) := by decide +kernel
theorem dX10_open_9 : decode cX10_open 9 = .ok (.getfield 51, 3) := by decide +kernel
theorem dX10_open_12 : decode cX10_open 12 = .ok (.getfield 236, 3) := by decide +kernel
theorem dX10_open_15 : decode cX10_open 15 = .ok (.ldc_w 312, 3) := by decide +kernel
theorem dX10_open_18 : decode cX10_open 18 = .ok (.iand, 1) := by decide +kernel
theorem dX10_open_19 : decode cX10_open 19 = .ok (.aload_n 0, 1) := by decide +kernel
theorem dX10_open_20 : decode cX10_open 20 = .ok (.getfield 51, 3) := by decide +kernel
theorem dX10_open_23 : decode cX10_open 23 = .ok (.getfield 313, 3) := by decide +kernel
theorem dX10_open_26 : decode cX10_open 26 = .ok (.iconst (-1), 1) := by decide +kernel
theorem dX10_open_27 : decode cX10_open 27 = .ok (.ixor, 1) := by decide +kernel
theorem dX10_open_28 : decode cX10_open 28 = .ok (.iand, 1) := by decide +kernel
theorem dX10_open_29 : decode cX10_open 29 = .ok (.goto 4, 3) := by decide +kernel
theorem dX10_open_32 : decode cX10_open 32 = .ok (.iconst (-1), 1) := by decide +kernel
theorem dX10_open_33 : decode cX10_open 33 = .ok (.ireturn, 1) := by decide +kernel
theorem dX10_completeness_0 : decode cX10_completeness 0 = .ok (.aload_n 0, 1) := by decide +kernel
theorem dX10_completeness_1 : decode cX10_completeness 1 = .ok (.iload_n 1, 1) := by decide +kernel
theorem dX10_completeness_2 : decode cX10_completeness 2 = .ok (.invokevirtual 309, 3) := by decide +kernel
theorem dX10_completeness_5 : decode cX10_completeness 5 = .ok (.ifCond .ne 7, 3) := by decide +kernel
theorem dX10_completeness_8 : decode cX10_completeness 8 = .ok (.ldc_w 316, 3) := by decide +kernel
theorem dX10_completeness_11 : decode cX10_completeness 11 = .ok (.freturn, 1) := by decide +kernel
theorem dX10_completeness_12 : decode cX10_completeness 12 = .ok (.aload_n 0, 1) := by decide +kernel
theorem dX10_completeness_13 : decode cX10_completeness 13 = .ok (.getfield 51, 3) := by decide +kernel
theorem dX10_completeness_16 : decode cX10_completeness 16 = .ok (.getfield 236, 3) := by decide +kernel
theorem dX10_completeness_19 : decode cX10_completeness 19 = .ok (.ldc_w 312, 3) := by decide +kernel
theorem dX10_completeness_22 : decode cX10_completeness 22 = .ok (.iand, 1) := by decide +kernel
theorem dX10_completeness_23 : decode cX10_completeness 23 = .ok (.invokestatic 163, 3) := by decide +kernel
theorem dX10_completeness_26 : decode cX10_completeness 26 = .ok (.istore_n 2, 1) := by decide +kernel
theorem dX10_completeness_27 : decode cX10_completeness 27 = .ok (.iload_n 2, 1) := by decide +kernel
theorem dX10_completeness_28 : decode cX10_completeness 28 = .ok (.ifCond .ne 7, 3) := by decide +kernel
theorem dX10_completeness_31 : decode cX10_completeness 31 = .ok (.fconst 1, 1) := by decide +kernel
theorem dX10_completeness_32 : decode cX10_completeness 32 = .ok (.goto 17, 3) := by decide +kernel
theorem dX10_completeness_35 : decode cX10_completeness 35 = .ok (.aload_n 0, 1) := by decide +kernel
theorem dX10_completeness_36 : decode cX10_completeness 36 = .ok (.getfield 51, 3) := by decide +kernel
theorem dX10_completeness_39 : decode cX10_completeness 39 = .ok (.getfield 313, 3) := by decide +kernel
theorem dX10_completeness_42 : decode cX10_completeness 42 = .ok (.invokestatic 163, 3) := by decide +kernel
theorem dX10_completeness_45 : decode cX10_completeness 45 = .ok (.i2f, 1) := by decide +kernel
theorem dX10_completeness_46 : decode cX10_completeness 46 = .ok (.iload_n 2, 1) := by decide +kernel
theorem dX10_completeness_47 : decode cX10_completeness 47 = .ok (.i2f, 1) := by decide +kernel
theorem dX10_completeness_48 : decode cX10_completeness 48 = .ok (.fdiv, 1) := by decide +kernel
theorem dX10_completeness_49 : decode cX10_completeness 49 = .ok (.freturn, 1) := by decide +kernel
theorem dX10_average_0 : decode cX10_average 0 = .ok (.iconst 0, 1) := by decide +kernel
theorem dX10_average_1 : decode cX10_average 1 = .ok (.istore_n 2, 1) := by decide +kernel
theorem dX10_average_2 : decode cX10_average 2 = .ok (.iconst 0, 1) := by decide +kernel
theorem dX10_average_3 : decode cX10_average 3 = .ok (.istore_n 3, 1) := by decide +kernel
theorem dX10_average_4 : decode cX10_average 4 = .ok (.iconst 0, 1) := by decide +kernel
theorem dX10_average_5 : decode cX10_average 5 = .ok (.istore 4, 2) := by decide +kernel
theorem dX10_average_7 : decode cX10_average 7 = .ok (.iload 4, 2) := by decide +kernel
theorem dX10_average_9 : decode cX10_average 9 = .ok (.aload_n 0, 1) := by decide +kernel
theorem dX10_average_10 : decode cX10_average 10 = .ok (.getfield 20, 3) := by decide +kernel
theorem dX10_average_13 : decode cX10_average 13 = .ok (.getfield 105, 3) := by decide +kernel
theorem dX10_average_16 : decode cX10_average 16 = .ok (.if_icmp .ge 43, 3) := by decide +kernel
theorem dX10_average_19 : decode cX10_average 19 = .ok (.aload_n 0, 1) := by decide +kernel
theorem dX10_average_20 : decode cX10_average 20 = .ok (.iload 4, 2) := by decide +kernel
theorem dX10_average_22 : decode cX10_average 22 = .ok (.invokevirtual 309, 3) := by decide +kernel
theorem dX10_average_25 : decode cX10_average 25 = .ok (.ifCond .eq 28, 3) := by decide +kernel
theorem dX10_average_28 : decode cX10_average 28 = .ok (.aload_n 0, 1) := by decide +kernel
theorem dX10_average_29 : decode cX10_average 29 = .ok (.getfield 51, 3) := by decide +kernel
theorem dX10_average_32 : decode cX10_average 32 = .ok (.iload_n 1, 1) := by decide +kernel
theorem dX10_average_33 : decode cX10_average 33 = .ok (.invokevirtual 306, 3) := by decide +kernel
theorem dX10_average_36 : decode cX10_average 36 = .ok (.ifCond .lt 17, 3) := by decide +kernel
theorem dX10_average_39 : decode cX10_average 39 = .ok (.iload_n 2, 1) := by decide +kernel
theorem dX10_average_40 : decode cX10_average 40 = .ok (.aload_n 0, 1) := by decide +kernel
theorem dX10_average_41 : decode cX10_average 41 = .ok (.getfield 51, 3) := by decide +kernel
theorem dX10_average_44 : decode cX10_average 44 = .ok (.iload_n 1, 1) := by decide +kernel
theorem dX10_average_45 : decode cX10_average 45 = .ok (.invokevirtual 306, 3) := by decide +kernel
theorem dX10_average_48 : decode cX10_average 48 = .ok (.iadd, 1) := by decide +kernel
theorem dX10_average_49 : decode cX10_average 49 = .ok (.istore_n 2, 1) := by decide +kernel
theorem dX10_average_50 : decode cX10_average 50 = .ok (.iinc 3 1, 3) := by decide +kernel
theorem dX10_average_53 : decode cX10_average 53 = .ok (.iinc 4 1, 3) := by decide +kernel
theorem dX10_average_56 : decode cX10_average 56 = .ok (.goto (-49), 3) := by decide +kernel
theorem dX10_average_59 : decode cX10_average 59 = .ok (.iload_n 3, 1) := by decide +kernel
theorem dX10_average_60 : decode cX10_average 60 = .ok (.ifCond .ne 9, 3) := by decide +kernel
theorem dX10_average_63 : decode cX10_average 63 = .ok (.ldc_w 316, 3) := by decide +kernel
theorem dX10_average_66 : decode cX10_average 66 = .ok (.goto 8, 3) := by decide +kernel
theorem dX10_average_69 : decode cX10_average 69 = .ok (.iload_n 2, 1) := by decide +kernel
theorem dX10_average_70 : decode cX10_average 70 = .ok (.i2f, 1) := by decide +kernel
theorem dX10_average_71 : decode cX10_average 71 = .ok (.iload_n 3, 1) := by decide +kernel
theorem dX10_average_72 : decode cX10_average 72 = .ok (.i2f, 1) := by decide +kernel
theorem dX10_average_73 : decode cX10_average 73 = .ok (.fdiv, 1) := by decide +kernel
theorem dX10_average_74 : decode cX10_average 74 = .ok (.freturn, 1) := by decide +kernel
theorem dX10_tally_0 : decode cX10_tally 0 = .ok (.iconst 0, 1) := by decide +kernel
theorem dX10_tally_1 : decode cX10_tally 1 = .ok (.istore_n 3, 1) := by decide +kernel
theorem dX10_tally_2 : decode cX10_tally 2 = .ok (.iconst 0, 1) := by decide +kernel
theorem dX10_tally_3 : decode cX10_tally 3 = .ok (.istore 4, 2) := by decide +kernel
theorem dX10_tally_5 : decode cX10_tally 5 = .ok (.iload 4, 2) := by decide +kernel
theorem dX10_tally_7 : decode cX10_tally 7 = .ok (.aload_n 0, 1) := by decide +kernel
theorem dX10_tally_8 : decode cX10_tally 8 = .ok (.getfield 20, 3) := by decide +kernel
theorem dX10_tally_11 : decode cX10_tally 11 = .ok (.getfield 105, 3) := by decide +kernel
theorem dX10_tally_14 : decode cX10_tally 14 = .ok (.if_icmp .ge 44, 3) := by decide +kernel
theorem dX10_tally_17 : decode cX10_tally 17 = .ok (.aload_n 0, 1) := by decide +kernel
theorem dX10_tally_18 : decode cX10_tally 18 = .ok (.iload 4, 2) := by decide +kernel
theorem dX10_tally_20 : decode cX10_tally 20 = .ok (.invokevirtual 309, 3) := by decide +kernel
theorem dX10_tally_23 : decode cX10_tally 23 = .ok (.ifCond .eq 29, 3) := by decide +kernel
theorem dX10_tally_26 : decode cX10_tally 26 = .ok (.aload_n 0, 1) := by decide +kernel
theorem dX10_tally_27 : decode cX10_tally 27 = .ok (.getfield 51, 3) := by decide +kernel
theorem dX10_tally_30 : decode cX10_tally 30 = .ok (.iload_n 1, 1) := by decide +kernel
theorem dX10_tally_31 : decode cX10_tally 31 = .ok (.invokevirtual 306, 3) := by decide +kernel
theorem dX10_tally_34 : decode cX10_tally 34 = .ok (.ifCond .lt 18, 3) := by decide +kernel
theorem dX10_tally_37 : decode cX10_tally 37 = .ok (.aload_n 0, 1) := by decide +kernel
theorem dX10_tally_38 : decode cX10_tally 38 = .ok (.getfield 51, 3) := by decide +kernel
theorem dX10_tally_41 : decode cX10_tally 41 = .ok (.iload_n 1, 1) := by decide +kernel
theorem dX10_tally_42 : decode cX10_tally 42 = .ok (.invokevirtual 306, 3) := by decide +kernel
theorem dX10_tally_45 : decode cX10_tally 45 = .ok (.iload_n 2, 1) := by decide +kernel
theorem dX10_tally_46 : decode cX10_tally 46 = .ok (.if_icmp .ne 6, 3) := by decide +kernel
theorem dX10_tally_49 : decode cX10_tally 49 = .ok (.iinc 3 1, 3) := by decide +kernel
theorem dX10_tally_52 : decode cX10_tally 52 = .ok (.iinc 4 1, 3) := by decide +kernel
theorem dX10_tally_55 : decode cX10_tally 55 = .ok (.goto (-50), 3) := by decide +kernel
theorem dX10_tally_58 : decode cX10_tally 58 = .ok (.iload_n 3, 1) := by decide +kernel
theorem dX10_tally_59 : decode cX10_tally 59 = .ok (.ireturn, 1) := by decide +kernel
theorem dX10_rows_0 : decode cX10_rows 0 = .ok (.aload_n 0, 1) := by decide +kernel
theorem dX10_rows_1 : decode cX10_rows 1 = .ok (.iload_n 1, 1) := by decide +kernel
theorem dX10_rows_2 : decode cX10_rows 2 = .ok (.iload_n 2, 1) := by decide +kernel
theorem dX10_rows_3 : decode cX10_rows 3 = .ok (.invokevirtual 317, 3) := by decide +kernel
theorem dX10_rows_6 : decode cX10_rows 6 = .ok (.ifnonnull 7, 3) := by decide +kernel
theorem dX10_rows_9 : decode cX10_rows 9 = .ok (.iconst (-1), 1) := by decide +kernel
theorem dX10_rows_10 : decode cX10_rows 10 = .ok (.goto 10, 3) := by decide +kernel
theorem dX10_rows_13 : decode cX10_rows 13 = .ok (.aload_n 0, 1) := by decide +kernel
theorem dX10_rows_14 : decode cX10_rows 14 = .ok (.getfield 58, 3) := by decide +kernel
theorem dX10_rows_17 : decode cX10_rows 17 = .ok (.getfield 321, 3) := by decide +kernel
theorem dX10_rows_20 : decode cX10_rows 20 = .ok (.ireturn, 1) := by decide +kernel
theorem dX10_place_0 : decode cX10_place 0 = .ok (.aload_n 0, 1) := by decide +kernel
theorem dX10_place_1 : decode cX10_place 1 = .ok (.iload_n 1, 1) := by decide +kernel
theorem dX10_place_2 : decode cX10_place 2 = .ok (.iload_n 2, 1) := by decide +kernel
theorem dX10_place_3 : decode cX10_place 3 = .ok (.invokevirtual 317, 3) := by decide +kernel
theorem dX10_place_6 : decode cX10_place 6 = .ok (.astore 5, 2) := by decide +kernel
theorem dX10_place_8 : decode cX10_place 8 = .ok (.aload 5, 2) := by decide +kernel
theorem dX10_place_10 : decode cX10_place 10 = .ok (.ifnull 12, 3) := by decide +kernel
theorem dX10_place_13 : decode cX10_place 13 = .ok (.aload 5, 2) := by decide +kernel
theorem dX10_place_15 : decode cX10_place 15 = .ok (.iload_n 3, 1) := by decide +kernel
theorem dX10_place_16 : decode cX10_place 16 = .ok (.invokevirtual 123, 3) := by decide +kernel
theorem dX10_place_19 : decode cX10_place 19 = .ok (.ifnonnull 5, 3) := by decide +kernel
theorem dX10_place_22 : decode cX10_place 22 = .ok (.iconst (-1), 1) := by decide +kernel
theorem dX10_place_23 : decode cX10_place 23 = .ok (.ireturn, 1) := by decide +kernel
theorem dX10_place_24 : decode cX10_place 24 = .ok (.iload 4, 2) := by decide +kernel
theorem dX10_place_26 : decode cX10_place 26 = .ok (.ifCond .eq 14, 3) := by decide +kernel
theorem dX10_place_29 : decode cX10_place 29 = .ok (.aload_n 0, 1) := by decide +kernel
theorem dX10_place_30 : decode cX10_place 30 = .ok (.getfield 58, 3) := by decide +kernel
theorem dX10_place_33 : decode cX10_place 33 = .ok (.iload_n 3, 1) := by decide +kernel
theorem dX10_place_34 : decode cX10_place 34 = .ok (.invokevirtual 324, 3) := by decide +kernel
theorem dX10_place_37 : decode cX10_place 37 = .ok (.goto 11, 3) := by decide +kernel
theorem dX10_place_40 : decode cX10_place 40 = .ok (.aload_n 0, 1) := by decide +kernel
theorem dX10_place_41 : decode cX10_place 41 = .ok (.getfield 58, 3) := by decide +kernel
theorem dX10_place_44 : decode cX10_place 44 = .ok (.iload_n 3, 1) := by decide +kernel
theorem dX10_place_45 : decode cX10_place 45 = .ok (.invokevirtual 327, 3) := by decide +kernel
theorem dX10_place_48 : decode cX10_place 48 = .ok (.ireturn, 1) := by decide +kernel
theorem dX10_pages_0 : decode cX10_pages 0 = .ok (.aload_n 0, 1) := by decide +kernel
theorem dX10_pages_1 : decode cX10_pages 1 = .ok (.iconst 1, 1) := by decide +kernel
theorem dX10_pages_2 : decode cX10_pages 2 = .ok (.iload_n 1, 1) := by decide +kernel
theorem dX10_pages_3 : decode cX10_pages 3 = .ok (.invokevirtual 317, 3) := by decide +kernel
theorem dX10_pages_6 : decode cX10_pages 6 = .ok (.astore_n 2, 1) := by decide +kernel
theorem dX10_pages_7 : decode cX10_pages 7 = .ok (.aload_n 2, 1) := by decide +kernel
theorem dX10_pages_8 : decode cX10_pages 8 = .ok (.ifnull 11, 3) := by decide +kernel
theorem dX10_pages_11 : decode cX10_pages 11 = .ok (.aload_n 2, 1) := by decide +kernel
theorem dX10_pages_12 : decode cX10_pages 12 = .ok (.getfield 268, 3) := by decide +kernel
theorem dX10_pages_15 : decode cX10_pages 15 = .ok (.iconst 1, 1) := by decide +kernel
theorem dX10_pages_16 : decode cX10_pages 16 = .ok (.if_icmp .ge 5, 3) := by decide +kernel
theorem dX10_pages_19 : decode cX10_pages 19 = .ok (.iconst (-1), 1) := by decide +kernel
theorem dX10_pages_20 : decode cX10_pages 20 = .ok (.ireturn, 1) := by decide +kernel
theorem dX10_pages_21 : decode cX10_pages 21 = .ok (.aload_n 0, 1) := by decide +kernel
theorem dX10_pages_22 : decode cX10_pages 22 = .ok (.getfield 58, 3) := by decide +kernel
theorem dX10_pages_25 : decode cX10_pages 25 = .ok (.getfield 321, 3) := by decide +kernel
theorem dX10_pages_28 : decode cX10_pages 28 = .ok (.aload_n 2, 1) := by decide +kernel
theorem dX10_pages_29 : decode cX10_pages 29 = .ok (.getfield 268, 3) := by decide +kernel
theorem dX10_pages_32 : decode cX10_pages 32 = .ok (.iadd, 1) := by decide +kernel
theorem dX10_pages_33 : decode cX10_pages 33 = .ok (.iconst 1, 1) := by decide +kernel
theorem dX10_pages_34 : decode cX10_pages 34 = .ok (.isub, 1) := by decide +kernel
theorem dX10_pages_35 : decode cX10_pages 35 = .ok (.aload_n 2, 1) := by decide +kernel
theorem dX10_pages_36 : decode cX10_pages 36 = .ok (.getfield 268, 3) := by decide +kernel
theorem dX10_pages_39 : decode cX10_pages 39 = .ok (.idiv, 1) := by decide +kernel
theorem dX10_pages_40 : decode cX10_pages 40 = .ok (.ireturn, 1) := by decide +kernel
theorem dX10_textLength_0 : decode cX10_textLength 0 = .ok (.aload_n 0, 1) := by decide +kernel
theorem dX10_textLength_1 : decode cX10_textLength 1 = .ok (.iload_n 1, 1) := by decide +kernel
theorem dX10_textLength_2 : decode cX10_textLength 2 = .ok (.iload_n 2, 1) := by decide +kernel
theorem dX10_textLength_3 : decode cX10_textLength 3 = .ok (.invokevirtual 317, 3) := by decide +kernel
theorem dX10_textLength_6 : decode cX10_textLength 6 = .ok (.astore_n 3, 1) := by decide +kernel
theorem dX10_textLength_7 : decode cX10_textLength 7 = .ok (.aload_n 3, 1) := by decide +kernel
theorem dX10_textLength_8 : decode cX10_textLength 8 = .ok (.ifnonnull 5, 3) := by decide +kernel
theorem dX10_textLength_11 : decode cX10_textLength 11 = .ok (.iconst (-1), 1) := by decide +kernel
theorem dX10_textLength_12 : decode cX10_textLength 12 = .ok (.ireturn, 1) := by decide +kernel
theorem dX10_textLength_13 : decode cX10_textLength 13 = .ok (.aload_n 0, 1) := by decide +kernel
theorem dX10_textLength_14 : decode cX10_textLength 14 = .ok (.getfield 65, 3) := by decide +kernel
theorem dX10_textLength_17 : decode cX10_textLength 17 = .ok (.iconst (-1), 1) := by decide +kernel
theorem dX10_textLength_18 : decode cX10_textLength 18 = .ok (.invokevirtual 330, 3) := by decide +kernel
theorem dX10_textLength_21 : decode cX10_textLength 21 = .ok (.aload_n 0, 1) := by decide +kernel
theorem dX10_textLength_22 : decode cX10_textLength 22 = .ok (.getfield 65, 3) := by decide +kernel
theorem dX10_textLength_25 : decode cX10_textLength 25 = .ok (.aload_n 3, 1) := by decide +kernel
theorem dX10_textLength_26 : decode cX10_textLength 26 = .ok (.aload_n 0, 1) := by decide +kernel
theorem dX10_textLength_27 : decode cX10_textLength 27 = .ok (.getfield 58, 3) := by decide +kernel
theorem dX10_textLength_30 : decode cX10_textLength 30 = .ok (.iload_n 1, 1) := by decide +kernel
theorem dX10_textLength_31 : decode cX10_textLength 31 = .ok (.ifCond .eq 7, 3) := by decide +kernel
theorem dX10_textLength_34 : decode cX10_textLength 34 = .ok (.aconst_null, 1) := by decide +kernel
theorem dX10_textLength_35 : decode cX10_textLength 35 = .ok (.goto 7, 3) := by decide +kernel
theorem dX10_textLength_38 : decode cX10_textLength 38 = .ok (.aload_n 0, 1) := by decide +kernel
theorem dX10_textLength_39 : decode cX10_textLength 39 = .ok (.getfield 51, 3) := by decide +kernel
theorem dX10_textLength_42 : decode cX10_textLength 42 = .ok (.invokevirtual 332, 3) := by decide +kernel
theorem dX10_textLength_45 : decode cX10_textLength 45 = .ok (.aload_n 0, 1) := by decide +kernel
theorem dX10_textLength_46 : decode cX10_textLength 46 = .ok (.getfield 65, 3) := by decide +kernel
theorem dX10_textLength_49 : decode cX10_textLength 49 = .ok (.getfield 336, 3) := by decide +kernel
theorem dX10_textLength_52 : decode cX10_textLength 52 = .ok (.ireturn, 1) := by decide +kernel
theorem dX10_textByte_0 : decode cX10_textByte 0 = .ok (.iload_n 3, 1) := by decide +kernel
theorem dX10_textByte_1 : decode cX10_textByte 1 = .ok (.ifCond .ge 7, 3) := by decide +kernel
theorem dX10_textByte_4 : decode cX10_textByte 4 = .ok (.aconst_null, 1) := by decide +kernel
theorem dX10_textByte_5 : decode cX10_textByte 5 = .ok (.goto 9, 3) := by decide +kernel
theorem dX10_textByte_8 : decode cX10_textByte 8 = .ok (.aload_n 0, 1) := by decide +kernel
theorem dX10_textByte_9 : decode cX10_textByte 9 = .ok (.iload_n 1, 1) := by decide +kernel
theorem dX10_textByte_10 : decode cX10_textByte 10 = .ok (.iload_n 2, 1) := by decide +kernel
theorem dX10_textByte_11 : decode cX10_textByte 11 = .ok (.invokevirtual 317, 3) := by decide +kernel
theorem dX10_textByte_14 : decode cX10_textByte 14 = .ok (.astore 4, 2) := by decide +kernel
theorem dX10_textByte_16 : decode cX10_textByte 16 = .ok (.aload 4, 2) := by decide +kernel
theorem dX10_textByte_18 : decode cX10_textByte 18 = .ok (.ifnonnull 5, 3) := by decide +kernel
theorem dX10_textByte_21 : decode cX10_textByte 21 = .ok (.iconst (-1), 1) := by decide +kernel
theorem dX10_textByte_22 : decode cX10_textByte 22 = .ok (.ireturn, 1) := by decide +kernel
theorem dX10_textByte_23 : decode cX10_textByte 23 = .ok (.aload_n 0, 1) := by decide +kernel
theorem dX10_textByte_24 : decode cX10_textByte 24 = .ok (.getfield 65, 3) := by decide +kernel
theorem dX10_textByte_27 : decode cX10_textByte 27 = .ok (.iload_n 3, 1) := by decide +kernel
theorem dX10_textByte_28 : decode cX10_textByte 28 = .ok (.invokevirtual 330, 3) := by decide +kernel
theorem dX10_textByte_31 : decode cX10_textByte 31 = .ok (.aload_n 0, 1) := by decide +kernel
theorem dX10_textByte_32 : decode cX10_textByte 32 = .ok (.getfield 65, 3) := by decide +kernel
theorem dX10_textByte_35 : decode cX10_textByte 35 = .ok (.aload 4, 2) := by decide +kernel
theorem dX10_textByte_37 : decode cX10_textByte 37 = .ok (.aload_n 0, 1) := by decide +kernel
theorem dX10_textByte_38 : decode cX10_textByte 38 = .ok (.getfield 58, 3) := by decide +kernel
theorem dX10_textByte_41 : decode cX10_textByte 41 = .ok (.iload_n 1, 1) := by decide +kernel
theorem dX10_textByte_42 : decode cX10_textByte 42 = .ok (.ifCond .eq 7, 3) := by decide +kernel
theorem dX10_textByte_45 : decode cX10_textByte 45 = .ok (.aconst_null, 1) := by decide +kernel
theorem dX10_textByte_46 : decode cX10_textByte 46 = .ok (.goto 7, 3) := by decide +kernel
theorem dX10_textByte_49 : decode cX10_textByte 49 = .ok (.aload_n 0, 1) := by decide +kernel
theorem dX10_textByte_50 : decode cX10_textByte 50 = .ok (.getfield 51, 3) := by decide +kernel
theorem dX10_textByte_53 : decode cX10_textByte 53 = .ok (.invokevirtual 332, 3) := by decide +kernel
theorem dX10_textByte_56 : decode cX10_textByte 56 = .ok (.aload_n 0, 1) := by decide +kernel
theorem dX10_textByte_57 : decode cX10_textByte 57 = .ok (.getfield 65, 3) := by decide +kernel
theorem dX10_textByte_60 : decode cX10_textByte 60 = .ok (.getfield 339, 3) := by decide +kernel
theorem dX10_textByte_63 : decode cX10_textByte 63 = .ok (.ireturn, 1) := by decide +kernel
theorem dX10_setupLength_0 : decode cX10_setupLength 0 = .ok (.aload_n 0, 1) := by decide +kernel
theorem dX10_setupLength_1 : decode cX10_setupLength 1 = .ok (.getfield 65, 3) := by decide +kernel
theorem dX10_setupLength_4 : decode cX10_setupLength 4 = .ok (.iconst (-1), 1) := by decide +kernel
theorem dX10_setupLength_5 : decode cX10_setupLength 5 = .ok (.invokevirtual 330, 3) := by decide +kernel
theorem dX10_setupLength_8 : decode cX10_setupLength 8 = .ok (.aload_n 0, 1) := by decide +kernel
theorem dX10_setupLength_9 : decode cX10_setupLength 9 = .ok (.getfield 65, 3) := by decide +kernel
theorem dX10_setupLength_12 : decode cX10_setupLength 12 = .ok (.aload_n 0, 1) := by decide +kernel
theorem dX10_setupLength_13 : decode cX10_setupLength 13 = .ok (.getfield 20, 3) := by decide +kernel
theorem dX10_setupLength_16 : decode cX10_setupLength 16 = .ok (.getfield 95, 3) := by decide +kernel
theorem dX10_setupLength_19 : decode cX10_setupLength 19 = .ok (.invokevirtual 342, 3) := by decide +kernel
theorem dX10_setupLength_22 : decode cX10_setupLength 22 = .ok (.aload_n 0, 1) := by decide +kernel
theorem dX10_setupLength_23 : decode cX10_setupLength 23 = .ok (.getfield 65, 3) := by decide +kernel
theorem dX10_setupLength_26 : decode cX10_setupLength 26 = .ok (.getfield 336, 3) := by decide +kernel
theorem dX10_setupLength_29 : decode cX10_setupLength 29 = .ok (.ireturn, 1) := by decide +kernel
theorem dX10_setupByte_0 : decode cX10_setupByte 0 = .ok (.iload_n 1, 1) := by decide +kernel
theorem dX10_setupByte_1 : decode cX10_setupByte 1 = .ok (.ifCond .ge 5, 3) := by decide +kernel
theorem dX10_setupByte_4 : decode cX10_setupByte 4 = .ok (.iconst (-1), 1) := by decide +kernel
theorem dX10_setupByte_5 : decode cX10_setupByte 5 = .ok (.ireturn, 1) := by decide +kernel
theorem dX10_setupByte_6 : decode cX10_setupByte 6 = .ok (.aload_n 0, 1) := by decide +kernel
theorem dX10_setupByte_7 : decode cX10_setupByte 7 = .ok (.getfield 65, 3) := by decide +kernel
theorem dX10_setupByte_10 : decode cX10_setupByte 10 = .ok (.iload_n 1, 1) := by decide +kernel
theorem dX10_setupByte_11 : decode cX10_setupByte 11 = .ok (.invokevirtual 330, 3) := by decide +kernel
theorem dX10_setupByte_14 : decode cX10_setupByte 14 = .ok (.aload_n 0, 1) := by decide +kernel
theorem dX10_setupByte_15 : decode cX10_setupByte 15 = .ok (.getfield 65, 3) := by decide +kernel
theorem dX10_setupByte_18 : decode cX10_setupByte 18 = .ok (.aload_n 0, 1) := by decide +kernel
theorem dX10_setupByte_19 : decode cX10_setupByte 19 = .ok (.getfield 20, 3) := by decide +kernel
theorem dX10_setupByte_22 : decode cX10_setupByte 22 = .ok (.getfield 95, 3) := by decide +kernel
theorem dX10_setupByte_25 : decode cX10_setupByte 25 = .ok (.invokevirtual 342, 3) := by decide +kernel
theorem dX10_setupByte_28 : decode cX10_setupByte 28 = .ok (.aload_n 0, 1) := by decide +kernel
theorem dX10_setupByte_29 : decode cX10_setupByte 29 = .ok (.getfield 65, 3) := by decide +kernel
theorem dX10_setupByte_32 : decode cX10_setupByte 32 = .ok (.getfield 339, 3) := by decide +kernel
theorem dX10_setupByte_35 : decode cX10_setupByte 35 = .ok (.ireturn, 1) := by decide +kernel
theorem dX10_tapeLength_0 : decode cX10_tapeLength 0 = .ok (.aload_n 0, 1) := by decide +kernel
theorem dX10_tapeLength_1 : decode cX10_tapeLength 1 = .ok (.getfield 70, 3) := by decide +kernel
theorem dX10_tapeLength_4 : decode cX10_tapeLength 4 = .ok (.ireturn, 1) := by decide +kernel
theorem dX10_putWord_0 : decode cX10_putWord 0 = .ok (.bipush 24, 2) := by decide +kernel
theorem dX10_putWord_2 : decode cX10_putWord 2 = .ok (.istore_n 2, 1) := by decide +kernel
theorem dX10_putWord_3 : decode cX10_putWord 3 = .ok (.iload_n 2, 1) := by decide +kernel
theorem dX10_putWord_4 : decode cX10_putWord 4 = .ok (.ifCond .lt 49, 3) := by decide +kernel
theorem dX10_putWord_7 : decode cX10_putWord 7 = .ok (.aload_n 0, 1) := by decide +kernel
theorem dX10_putWord_8 : decode cX10_putWord 8 = .ok (.getfield 70, 3) := by decide +kernel
theorem dX10_putWord_11 : decode cX10_putWord 11 = .ok (.ifCond .lt 36, 3) := by decide +kernel
theorem dX10_putWord_14 : decode cX10_putWord 14 = .ok (.aload_n 0, 1) := by decide +kernel
theorem dX10_putWord_15 : decode cX10_putWord 15 = .ok (.getfield 70, 3) := by decide +kernel
theorem dX10_putWord_18 : decode cX10_putWord 18 = .ok (.sipush 1200, 3) := by decide +kernel
theorem dX10_putWord_21 : decode cX10_putWord 21 = .ok (.if_icmp .ge 26, 3) := by decide +kernel
theorem dX10_putWord_24 : decode cX10_putWord 24 = .ok (.aload_n 0, 1) := by decide +kernel
theorem dX10_putWord_25 : decode cX10_putWord 25 = .ok (.getfield 9, 3) := by decide +kernel
theorem dX10_putWord_28 : decode cX10_putWord 28 = .ok (.aload_n 0, 1) := by decide +kernel
theorem dX10_putWord_29 : decode cX10_putWord 29 = .ok (.getfield 70, 3) := by decide +kernel
theorem dX10_putWord_32 : decode cX10_putWord 32 = .ok (.iload_n 1, 1) := by decide +kernel
theorem dX10_putWord_33 : decode cX10_putWord 33 = .ok (.iload_n 2, 1) := by decide +kernel
theorem dX10_putWord_34 : decode cX10_putWord 34 = .ok (.ishr, 1) := by decide +kernel
theorem dX10_putWord_35 : decode cX10_putWord 35 = .ok (.i2b, 1) := by decide +kernel
theorem dX10_putWord_36 : decode cX10_putWord 36 = .ok (.bastore, 1) := by decide +kernel
theorem dX10_putWord_37 : decode cX10_putWord 37 = .ok (.aload_n 0, 1) := by decide +kernel
theorem dX10_putWord_38 : decode cX10_putWord 38 = .ok (.dup, 1) := by decide +kernel
theorem dX10_putWord_39 : decode cX10_putWord 39 = .ok (.getfield 70, 3) := by decide +kernel
theorem dX10_putWord_42 : decode cX10_putWord 42 = .ok (.iconst 1, 1) := by decide +kernel
theorem dX10_putWord_43 : decode cX10_putWord 43 = .ok (.iadd, 1) := by decide +kernel
theorem dX10_putWord_44 : decode cX10_putWord 44 = .ok (.putfield 70, 3) := by decide +kernel
theorem dX10_putWord_47 : decode cX10_putWord 47 = .ok (.iinc 2 (-8), 3) := by decide +kernel
theorem dX10_putWord_50 : decode cX10_putWord 50 = .ok (.goto (-47), 3) := by decide +kernel
theorem dX10_putWord_53 : decode cX10_putWord 53 = .ok (.return_, 1) := by decide +kernel
theorem dX10_endText_0 : decode cX10_endText 0 = .ok (.aload_n 0, 1) := by decide +kernel
theorem dX10_endText_1 : decode cX10_endText 1 = .ok (.iconst 0, 1) := by decide +kernel
theorem dX10_endText_2 : decode cX10_endText 2 = .ok (.putfield 70, 3) := by decide +kernel
theorem dX10_endText_5 : decode cX10_endText 5 = .ok (.aload_n 0, 1) := by decide +kernel
theorem dX10_endText_6 : decode cX10_endText 6 = .ok (.aload_n 0, 1) := by decide +kernel
theorem dX10_endText_7 : decode cX10_endText 7 = .ok (.getfield 37, 3) := by decide +kernel
theorem dX10_endText_10 : decode cX10_endText 10 = .ok (.getfield 345, 3) := by decide +kernel
theorem dX10_endText_13 : decode cX10_endText 13 = .ok (.putfield 13, 3) := by decide +kernel
theorem dX10_endText_16 : decode cX10_endText 16 = .ok (.return_, 1) := by decide +kernel
theorem dX10_remember_0 : decode cX10_remember 0 = .ok (.aload_n 0, 1) := by decide +kernel
theorem dX10_remember_1 : decode cX10_remember 1 = .ok (.getfield 250, 3) := by decide +kernel
theorem dX10_remember_4 : decode cX10_remember 4 = .ok (.ifCond .lt 24, 3) := by decide +kernel
theorem dX10_remember_7 : decode cX10_remember 7 = .ok (.aload_n 0, 1) := by decide +kernel
theorem dX10_remember_8 : decode cX10_remember 8 = .ok (.getfield 250, 3) := by decide +kernel
theorem dX10_remember_11 : decode cX10_remember 11 = .ok (.bipush 10, 2) := by decide +kernel
theorem dX10_remember_13 : decode cX10_remember 13 = .ok (.if_icmp .ge 15, 3) := by decide +kernel
theorem dX10_remember_16 : decode cX10_remember 16 = .ok (.aload_n 0, 1) := by decide +kernel
theorem dX10_remember_17 : decode cX10_remember 17 = .ok (.getfield 30, 3) := by decide +kernel
theorem dX10_remember_20 : decode cX10_remember 20 = .ok (.aload_n 0, 1) := by decide +kernel
theorem dX10_remember_21 : decode cX10_remember 21 = .ok (.getfield 250, 3) := by decide +kernel
theorem dX10_remember_24 : decode cX10_remember 24 = .ok (.aaload, 1) := by decide +kernel
theorem dX10_remember_25 : decode cX10_remember 25 = .ok (.ifnonnull 4, 3) := by decide +kernel
theorem dX10_remember_28 : decode cX10_remember 28 = .ok (.return_, 1) := by decide +kernel
theorem dX10_remember_29 : decode cX10_remember 29 = .ok (.aload_n 0, 1) := by decide +kernel
theorem dX10_remember_30 : decode cX10_remember 30 = .ok (.getfield 30, 3) := by decide +kernel
theorem dX10_remember_33 : decode cX10_remember 33 = .ok (.aload_n 0, 1) := by decide +kernel
theorem dX10_remember_34 : decode cX10_remember 34 = .ok (.getfield 250, 3) := by decide +kernel
theorem dX10_remember_37 : decode cX10_remember 37 = .ok (.aaload, 1) := by decide +kernel
theorem dX10_remember_38 : decode cX10_remember 38 = .ok (.aload_n 0, 1) := by decide +kernel
theorem dX10_remember_39 : decode cX10_remember 39 = .ok (.getfield 20, 3) := by decide +kernel
theorem dX10_remember_42 : decode cX10_remember 42 = .ok (.invokevirtual 259, 3) := by decide +kernel
theorem dX10_remember_45 : decode cX10_remember 45 = .ok (.aload_n 0, 1) := by decide +kernel
theorem dX10_remember_46 : decode cX10_remember 46 = .ok (.aload_n 0, 1) := by decide +kernel
theorem dX10_remember_47 : decode cX10_remember 47 = .ok (.getfield 250, 3) := by decide +kernel
theorem dX10_remember_50 : decode cX10_remember 50 = .ok (.iconst 1, 1) := by decide +kernel
theorem dX10_remember_51 : decode cX10_remember 51 = .ok (.iadd, 1) := by decide +kernel
theorem dX10_remember_52 : decode cX10_remember 52 = .ok (.bipush 10, 2) := by decide +kernel
theorem dX10_remember_54 : decode cX10_remember 54 = .ok (.invokestatic 253, 3) := by decide +kernel
theorem dX10_remember_57 : decode cX10_remember 57 = .ok (.putfield 250, 3) := by decide +kernel
theorem dX10_remember_60 : decode cX10_remember 60 = .ok (.aload_n 0, 1) := by decide +kernel
theorem dX10_remember_61 : decode cX10_remember 61 = .ok (.aload_n 0, 1) := by decide +kernel
theorem dX10_remember_62 : decode cX10_remember 62 = .ok (.getfield 108, 3) := by decide +kernel
theorem dX10_remember_65 : decode cX10_remember 65 = .ok (.iconst 1, 1) := by decide +kernel
theorem dX10_remember_66 : decode cX10_remember 66 = .ok (.iadd, 1) := by decide +kernel
theorem dX10_remember_67 : decode cX10_remember 67 = .ok (.bipush 10, 2) := by decide +kernel
theorem dX10_remember_69 : decode cX10_remember 69 = .ok (.invokestatic 348, 3) := by decide +kernel
theorem dX10_remember_72 : decode cX10_remember 72 = .ok (.putfield 108, 3) := by decide +kernel
theorem dX10_remember_75 : decode cX10_remember 75 = .ok (.return_, 1) := by decide +kernel
theorem dX10_findRevision_0 : decode cX10_findRevision 0 = .ok (.iload_n 1, 1) := by decide +kernel
theorem dX10_findRevision_1 : decode cX10_findRevision 1 = .ok (.ifCond .lt 24, 3) := by decide +kernel
theorem dX10_findRevision_4 : decode cX10_findRevision 4 = .ok (.iload_n 1, 1) := by decide +kernel
theorem dX10_findRevision_5 : decode cX10_findRevision 5 = .ok (.aload_n 0, 1) := by decide +kernel
theorem dX10_findRevision_6 : decode cX10_findRevision 6 = .ok (.getfield 20, 3) := by decide +kernel
theorem dX10_findRevision_9 : decode cX10_findRevision 9 = .ok (.getfield 102, 3) := by decide +kernel
theorem dX10_findRevision_12 : decode cX10_findRevision 12 = .ok (.if_icmp .ge 13, 3) := by decide +kernel
theorem dX10_findRevision_15 : decode cX10_findRevision 15 = .ok (.iload_n 1, 1) := by decide +kernel
theorem dX10_findRevision_16 : decode cX10_findRevision 16 = .ok (.bipush 8, 2) := by decide +kernel
theorem dX10_findRevision_18 : decode cX10_findRevision 18 = .ok (.if_icmp .ge 7, 3) := by decide +kernel
theorem dX10_findRevision_21 : decode cX10_findRevision 21 = .ok (.iconst 1, 1) := by decide +kernel
theorem dX10_findRevision_22 : decode cX10_findRevision 22 = .ok (.goto 4, 3) := by decide +kernel
theorem dX10_findRevision_25 : decode cX10_findRevision 25 = .ok (.iconst 0, 1) := by decide +kernel
theorem dX10_findRevision_26 : decode cX10_findRevision 26 = .ok (.istore_n 2, 1) := by decide +kernel
theorem dX10_findRevision_27 : decode cX10_findRevision 27 = .ok (.iload_n 2, 1) := by decide +kernel
theorem dX10_findRevision_28 : decode cX10_findRevision 28 = .ok (.ifCond .eq 12, 3) := by decide +kernel
theorem dX10_findRevision_31 : decode cX10_findRevision 31 = .ok (.aload_n 0, 1) := by decide +kernel
theorem dX10_findRevision_32 : decode cX10_findRevision 32 = .ok (.getfield 26, 3) := by decide +kernel
theorem dX10_findRevision_35 : decode cX10_findRevision 35 = .ok (.iload_n 1, 1) := by decide +kernel
theorem dX10_findRevision_36 : decode cX10_findRevision 36 = .ok (.aaload, 1) := by decide +kernel
theorem dX10_findRevision_37 : decode cX10_findRevision 37 = .ok (.goto 4, 3) := by decide +kernel
theorem dX10_findRevision_40 : decode cX10_findRevision 40 = .ok (.aconst_null, 1) := by decide +kernel
theorem dX10_findRevision_41 : decode cX10_findRevision 41 = .ok (.areturn, 1) := by decide +kernel
theorem dX10_formOf_0 : decode cX10_formOf 0 = .ok (.aload_n 1, 1) := by decide +kernel
theorem dX10_formOf_1 : decode cX10_formOf 1 = .ok (.ifnonnull 7, 3) := by decide +kernel
theorem dX10_formOf_4 : decode cX10_formOf 4 = .ok (.aconst_null, 1) := by decide +kernel
theorem dX10_formOf_5 : decode cX10_formOf 5 = .ok (.goto 11, 3) := by decide +kernel
theorem dX10_formOf_8 : decode cX10_formOf 8 = .ok (.aload_n 0, 1) := by decide +kernel
theorem dX10_formOf_9 : decode cX10_formOf 9 = .ok (.aload_n 1, 1) := by decide +kernel
theorem dX10_formOf_10 : decode cX10_formOf 10 = .ok (.getfield 247, 3) := by decide +kernel
theorem dX10_formOf_13 : decode cX10_formOf 13 = .ok (.invokevirtual 243, 3) := by decide +kernel
theorem dX10_formOf_16 : decode cX10_formOf 16 = .ok (.areturn, 1) := by decide +kernel
theorem dX10_lookAt_0 : decode cX10_lookAt 0 = .ok (.aload_n 0, 1) := by decide +kernel
theorem dX10_lookAt_1 : decode cX10_lookAt 1 = .ok (.getfield 20, 3) := by decide +kernel
theorem dX10_lookAt_4 : decode cX10_lookAt 4 = .ok (.iload_n 1, 1) := by decide +kernel
theorem dX10_lookAt_5 : decode cX10_lookAt 5 = .ok (.invokevirtual 215, 3) := by decide +kernel
theorem dX10_lookAt_8 : decode cX10_lookAt 8 = .ok (.astore_n 2, 1) := by decide +kernel
theorem dX10_lookAt_9 : decode cX10_lookAt 9 = .ok (.aload_n 0, 1) := by decide +kernel
theorem dX10_lookAt_10 : decode cX10_lookAt 10 = .ok (.aload_n 2, 1) := by decide +kernel
theorem dX10_lookAt_11 : decode cX10_lookAt 11 = .ok (.invokevirtual 219, 3) := by decide +kernel
theorem dX10_lookAt_14 : decode cX10_lookAt 14 = .ok (.astore_n 3, 1) := by decide +kernel
theorem dX10_lookAt_15 : decode cX10_lookAt 15 = .ok (.aload_n 2, 1) := by decide +kernel
theorem dX10_lookAt_16 : decode cX10_lookAt 16 = .ok (.ifnull 7, 3) := by decide +kernel
theorem dX10_lookAt_19 : decode cX10_lookAt 19 = .ok (.aload_n 3, 1) := by decide +kernel
theorem dX10_lookAt_20 : decode cX10_lookAt 20 = .ok (.ifnonnull 5, 3) := by decide +kernel
theorem dX10_lookAt_23 : decode cX10_lookAt 23 = .ok (.iconst 0, 1) := by decide +kernel
theorem dX10_lookAt_24 : decode cX10_lookAt 24 = .ok (.ireturn, 1) := by decide +kernel
theorem dX10_lookAt_25 : decode cX10_lookAt 25 = .ok (.aload_n 0, 1) := by decide +kernel
theorem dX10_lookAt_26 : decode cX10_lookAt 26 = .ok (.getfield 51, 3) := by decide +kernel
theorem dX10_lookAt_29 : decode cX10_lookAt 29 = .ok (.aload_n 3, 1) := by decide +kernel
theorem dX10_lookAt_30 : decode cX10_lookAt 30 = .ok (.aload_n 2, 1) := by decide +kernel
theorem dX10_lookAt_31 : decode cX10_lookAt 31 = .ok (.invokevirtual 226, 3) := by decide +kernel
theorem dX10_lookAt_34 : decode cX10_lookAt 34 = .ok (.iconst 1, 1) := by decide +kernel
theorem dX10_lookAt_35 : decode cX10_lookAt 35 = .ok (.ireturn, 1) := by decide +kernel
theorem dX10_arranged_0 : decode cX10_arranged 0 = .ok (.iload_n 1, 1) := by decide +kernel
theorem dX10_arranged_1 : decode cX10_arranged 1 = .ok (.ifCond .eq 7, 3) := by decide +kernel
theorem dX10_arranged_4 : decode cX10_arranged 4 = .ok (.aconst_null, 1) := by decide +kernel
theorem dX10_arranged_5 : decode cX10_arranged 5 = .ok (.goto 11, 3) := by decide +kernel
theorem dX10_arranged_8 : decode cX10_arranged 8 = .ok (.aload_n 0, 1) := by decide +kernel
theorem dX10_arranged_9 : decode cX10_arranged 9 = .ok (.getfield 20, 3) := by decide +kernel
theorem dX10_arranged_12 : decode cX10_arranged 12 = .ok (.iload_n 2, 1) := by decide +kernel
theorem dX10_arranged_13 : decode cX10_arranged 13 = .ok (.invokevirtual 215, 3) := by decide +kernel
theorem dX10_arranged_16 : decode cX10_arranged 16 = .ok (.astore_n 3, 1) := by decide +kernel
theorem dX10_arranged_17 : decode cX10_arranged 17 = .ok (.iload_n 1, 1) := by decide +kernel
theorem dX10_arranged_18 : decode cX10_arranged 18 = .ok (.ifCond .eq 11, 3) := by decide +kernel
theorem dX10_arranged_21 : decode cX10_arranged 21 = .ok (.aload_n 0, 1) := by decide +kernel
theorem dX10_arranged_22 : decode cX10_arranged 22 = .ok (.iload_n 2, 1) := by decide +kernel
theorem dX10_arranged_23 : decode cX10_arranged 23 = .ok (.invokevirtual 243, 3) := by decide +kernel
theorem dX10_arranged_26 : decode cX10_arranged 26 = .ok (.goto 8, 3) := by decide +kernel
theorem dX10_arranged_29 : decode cX10_arranged 29 = .ok (.aload_n 0, 1) := by decide +kernel
theorem dX10_arranged_30 : decode cX10_arranged 30 = .ok (.aload_n 3, 1) := by decide +kernel
theorem dX10_arranged_31 : decode cX10_arranged 31 = .ok (.invokevirtual 219, 3) := by decide +kernel
theorem dX10_arranged_34 : decode cX10_arranged 34 = .ok (.astore 4, 2) := by decide +kernel
theorem dX10_arranged_36 : decode cX10_arranged 36 = .ok (.aload 4, 2) := by decide +kernel
theorem dX10_arranged_38 : decode cX10_arranged 38 = .ok (.ifnonnull 5, 3) := by decide +kernel
theorem dX10_arranged_41 : decode cX10_arranged 41 = .ok (.aconst_null, 1) := by decide +kernel
theorem dX10_arranged_42 : decode cX10_arranged 42 = .ok (.areturn, 1) := by decide +kernel
theorem dX10_arranged_43 : decode cX10_arranged 43 = .ok (.aload_n 3, 1) := by decide +kernel
theorem dX10_arranged_44 : decode cX10_arranged 44 = .ok (.ifnull 13, 3) := by decide +kernel
theorem dX10_arranged_47 : decode cX10_arranged 47 = .ok (.aload_n 0, 1) := by decide +kernel
theorem dX10_arranged_48 : decode cX10_arranged 48 = .ok (.getfield 51, 3) := by decide +kernel
theorem dX10_arranged_51 : decode cX10_arranged 51 = .ok (.aload 4, 2) := by decide +kernel
theorem dX10_arranged_53 : decode cX10_arranged 53 = .ok (.aload_n 3, 1) := by decide +kernel
theorem dX10_arranged_54 : decode cX10_arranged 54 = .ok (.invokevirtual 226, 3) := by decide +kernel
theorem dX10_arranged_57 : decode cX10_arranged 57 = .ok (.aload_n 0, 1) := by decide +kernel
theorem dX10_arranged_58 : decode cX10_arranged 58 = .ok (.getfield 58, 3) := by decide +kernel
theorem dX10_arranged_61 : decode cX10_arranged 61 = .ok (.aload 4, 2) := by decide +kernel
theorem dX10_arranged_63 : decode cX10_arranged 63 = .ok (.aload_n 3, 1) := by decide +kernel
theorem dX10_arranged_64 : decode cX10_arranged 64 = .ok (.ifnonnull 7, 3) := by decide +kernel
theorem dX10_arranged_67 : decode cX10_arranged 67 = .ok (.aconst_null, 1) := by decide +kernel
theorem dX10_arranged_68 : decode cX10_arranged 68 = .ok (.goto 7, 3) := by decide +kernel
theorem dX10_arranged_71 : decode cX10_arranged 71 = .ok (.aload_n 0, 1) := by decide +kernel
theorem dX10_arranged_72 : decode cX10_arranged 72 = .ok (.getfield 51, 3) := by decide +kernel
theorem dX10_arranged_75 : decode cX10_arranged 75 = .ok (.invokevirtual 351, 3) := by decide +kernel
theorem dX10_arranged_78 : decode cX10_arranged 78 = .ok (.aload 4, 2) := by decide +kernel
theorem dX10_arranged_80 : decode cX10_arranged 80 = .ok (.areturn, 1) := by decide +kernel
theorem dX10_isKind_0 : decode cX10_isKind 0 = .ok (.iload_n 0, 1) := by decide +kernel
theorem dX10_isKind_1 : decode cX10_isKind 1 = .ok (.tableswitch 85 0 2 #[27, 49, 70], 27) := by decide +kernel
theorem dX10_isKind_28 : decode cX10_isKind 28 = .ok (.iload_n 1, 1) := by decide +kernel
theorem dX10_isKind_29 : decode cX10_isKind 29 = .ok (.ifCond .lt 19, 3) := by decide +kernel
theorem dX10_isKind_32 : decode cX10_isKind 32 = .ok (.iload_n 1, 1) := by decide +kernel
theorem dX10_isKind_33 : decode cX10_isKind 33 = .ok (.iload_n 2, 1) := by decide +kernel
theorem dX10_isKind_34 : decode cX10_isKind 34 = .ok (.if_icmp .gt 14, 3) := by decide +kernel
theorem dX10_isKind_37 : decode cX10_isKind 37 = .ok (.iload_n 2, 1) := by decide +kernel
theorem dX10_isKind_38 : decode cX10_isKind 38 = .ok (.sipush 9999, 3) := by decide +kernel
theorem dX10_isKind_41 : decode cX10_isKind 41 = .ok (.if_icmp .gt 7, 3) := by decide +kernel
theorem dX10_isKind_44 : decode cX10_isKind 44 = .ok (.iconst 1, 1) := by decide +kernel
theorem dX10_isKind_45 : decode cX10_isKind 45 = .ok (.goto 4, 3) := by decide +kernel
theorem dX10_isKind_48 : decode cX10_isKind 48 = .ok (.iconst 0, 1) := by decide +kernel
theorem dX10_isKind_49 : decode cX10_isKind 49 = .ok (.ireturn, 1) := by decide +kernel
theorem dX10_isKind_50 : decode cX10_isKind 50 = .ok (.iload_n 1, 1) := by decide +kernel
theorem dX10_isKind_51 : decode cX10_isKind 51 = .ok (.ifCond .ne 18, 3) := by decide +kernel
theorem dX10_isKind_54 : decode cX10_isKind 54 = .ok (.iload_n 2, 1) := by decide +kernel
theorem dX10_isKind_55 : decode cX10_isKind 55 = .ok (.iconst 2, 1) := by decide +kernel
theorem dX10_isKind_56 : decode cX10_isKind 56 = .ok (.if_icmp .lt 13, 3) := by decide +kernel
theorem dX10_isKind_59 : decode cX10_isKind 59 = .ok (.iload_n 2, 1) := by decide +kernel
theorem dX10_isKind_60 : decode cX10_isKind 60 = .ok (.bipush 9, 2) := by decide +kernel
theorem dX10_isKind_62 : decode cX10_isKind 62 = .ok (.if_icmp .gt 7, 3) := by decide +kernel
theorem dX10_isKind_65 : decode cX10_isKind 65 = .ok (.iconst 1, 1) := by decide +kernel
theorem dX10_isKind_66 : decode cX10_isKind 66 = .ok (.goto 4, 3) := by decide +kernel
theorem dX10_isKind_69 : decode cX10_isKind 69 = .ok (.iconst 0, 1) := by decide +kernel
theorem dX10_isKind_70 : decode cX10_isKind 70 = .ok (.ireturn, 1) := by decide +kernel
theorem dX10_isKind_71 : decode cX10_isKind 71 = .ok (.iload_n 1, 1) := by decide +kernel
theorem dX10_isKind_72 : decode cX10_isKind 72 = .ok (.ifCond .ne 12, 3) := by decide +kernel
theorem dX10_isKind_75 : decode cX10_isKind 75 = .ok (.iload_n 2, 1) := by decide +kernel
theorem dX10_isKind_76 : decode cX10_isKind 76 = .ok (.iconst 1, 1) := by decide +kernel
theorem dX10_isKind_77 : decode cX10_isKind 77 = .ok (.if_icmp .ne 7, 3) := by decide +kernel
theorem dX10_isKind_80 : decode cX10_isKind 80 = .ok (.iconst 1, 1) := by decide +kernel
theorem dX10_isKind_81 : decode cX10_isKind 81 = .ok (.goto 4, 3) := by decide +kernel
theorem dX10_isKind_84 : decode cX10_isKind 84 = .ok (.iconst 0, 1) := by decide +kernel
theorem dX10_isKind_85 : decode cX10_isKind 85 = .ok (.ireturn, 1) := by decide +kernel
theorem dX10_isKind_86 : decode cX10_isKind 86 = .ok (.iconst 0, 1) := by decide +kernel
theorem dX10_isKind_87 : decode cX10_isKind 87 = .ok (.ireturn, 1) := by decide +kernel
theorem dX10_hasBit_0 : decode cX10_hasBit 0 = .ok (.iload_n 1, 1) := by decide +kernel
theorem dX10_hasBit_1 : decode cX10_hasBit 1 = .ok (.ifCond .lt 22, 3) := by decide +kernel
theorem dX10_hasBit_4 : decode cX10_hasBit 4 = .ok (.iload_n 1, 1) := by decide +kernel
theorem dX10_hasBit_5 : decode cX10_hasBit 5 = .ok (.bipush 32, 2) := by decide +kernel
theorem dX10_hasBit_7 : decode cX10_hasBit 7 = .ok (.if_icmp .ge 16, 3) := by decide +kernel
theorem dX10_hasBit_10 : decode cX10_hasBit 10 = .ok (.iload_n 0, 1) := by decide +kernel
theorem dX10_hasBit_11 : decode cX10_hasBit 11 = .ok (.iload_n 1, 1) := by decide +kernel
theorem dX10_hasBit_12 : decode cX10_hasBit 12 = .ok (.iushr, 1) := by decide +kernel
theorem dX10_hasBit_13 : decode cX10_hasBit 13 = .ok (.iconst 1, 1) := by decide +kernel
theorem dX10_hasBit_14 : decode cX10_hasBit 14 = .ok (.iand, 1) := by decide +kernel
theorem dX10_hasBit_15 : decode cX10_hasBit 15 = .ok (.iconst 1, 1) := by decide +kernel
theorem dX10_hasBit_16 : decode cX10_hasBit 16 = .ok (.if_icmp .ne 7, 3) := by decide +kernel
theorem dX10_hasBit_19 : decode cX10_hasBit 19 = .ok (.iconst 1, 1) := by decide +kernel
theorem dX10_hasBit_20 : decode cX10_hasBit 20 = .ok (.goto 4, 3) := by decide +kernel
theorem dX10_hasBit_23 : decode cX10_hasBit 23 = .ok (.iconst 0, 1) := by decide +kernel
theorem dX10_hasBit_24 : decode cX10_hasBit 24 = .ok (.ireturn, 1) := by decide +kernel
theorem dX10_nameOf_0 : decode cX10_nameOf 0 = .ok (.iload_n 0, 1) := by decide +kernel
theorem dX10_nameOf_1 : decode cX10_nameOf 1 = .ok (.ifCond .lt 10, 3) := by decide +kernel
theorem dX10_nameOf_4 : decode cX10_nameOf 4 = .ok (.iload_n 0, 1) := by decide +kernel
theorem dX10_nameOf_5 : decode cX10_nameOf 5 = .ok (.ldc_w 355, 3) := by decide +kernel
theorem dX10_nameOf_8 : decode cX10_nameOf 8 = .ok (.if_icmp .lt 5, 3) := by decide +kernel
theorem dX10_nameOf_11 : decode cX10_nameOf 11 = .ok (.lconst 0, 1) := by decide +kernel
theorem dX10_nameOf_12 : decode cX10_nameOf 12 = .ok (.lreturn, 1) := by decide +kernel
theorem dX10_nameOf_13 : decode cX10_nameOf 13 = .ok (.iconst 0, 1) := by decide +kernel
theorem dX10_nameOf_14 : decode cX10_nameOf 14 = .ok (.istore_n 1, 1) := by decide +kernel
theorem dX10_nameOf_15 : decode cX10_nameOf 15 = .ok (.bipush 25, 2) := by decide +kernel
theorem dX10_nameOf_17 : decode cX10_nameOf 17 = .ok (.istore_n 2, 1) := by decide +kernel
theorem dX10_nameOf_18 : decode cX10_nameOf 18 = .ok (.iload_n 2, 1) := by decide +kernel
theorem dX10_nameOf_19 : decode cX10_nameOf 19 = .ok (.ifCond .lt 42, 3) := by decide +kernel
theorem dX10_nameOf_22 : decode cX10_nameOf 22 = .ok (.iload_n 0, 1) := by decide +kernel
theorem dX10_nameOf_23 : decode cX10_nameOf 23 = .ok (.iload_n 2, 1) := by decide +kernel
theorem dX10_nameOf_24 : decode cX10_nameOf 24 = .ok (.ishr, 1) := by decide +kernel
theorem dX10_nameOf_25 : decode cX10_nameOf 25 = .ok (.bipush 31, 2) := by decide +kernel
theorem dX10_nameOf_27 : decode cX10_nameOf 27 = .ok (.iand, 1) := by decide +kernel
theorem dX10_nameOf_28 : decode cX10_nameOf 28 = .ok (.istore_n 3, 1) := by decide +kernel
theorem dX10_nameOf_29 : decode cX10_nameOf 29 = .ok (.iload_n 3, 1) := by decide +kernel
theorem dX10_nameOf_30 : decode cX10_nameOf 30 = .ok (.bipush 26, 2) := by decide +kernel
theorem dX10_nameOf_32 : decode cX10_nameOf 32 = .ok (.if_icmp .gt 11, 3) := by decide +kernel
theorem dX10_nameOf_35 : decode cX10_nameOf 35 = .ok (.iload_n 1, 1) := by decide +kernel
theorem dX10_nameOf_36 : decode cX10_nameOf 36 = .ok (.ifCond .eq 9, 3) := by decide +kernel
theorem dX10_nameOf_39 : decode cX10_nameOf 39 = .ok (.iload_n 3, 1) := by decide +kernel
theorem dX10_nameOf_40 : decode cX10_nameOf 40 = .ok (.ifCond .eq 5, 3) := by decide +kernel
theorem dX10_nameOf_43 : decode cX10_nameOf 43 = .ok (.lconst 0, 1) := by decide +kernel
theorem dX10_nameOf_44 : decode cX10_nameOf 44 = .ok (.lreturn, 1) := by decide +kernel
theorem dX10_nameOf_45 : decode cX10_nameOf 45 = .ok (.iload_n 3, 1) := by decide +kernel
theorem dX10_nameOf_46 : decode cX10_nameOf 46 = .ok (.ifCond .ne 7, 3) := by decide +kernel
theorem dX10_nameOf_49 : decode cX10_nameOf 49 = .ok (.iconst 1, 1) := by decide +kernel
theorem dX10_nameOf_50 : decode cX10_nameOf 50 = .ok (.goto 4, 3) := by decide +kernel
theorem dX10_nameOf_53 : decode cX10_nameOf 53 = .ok (.iconst 0, 1) := by decide +kernel
theorem dX10_nameOf_54 : decode cX10_nameOf 54 = .ok (.istore_n 1, 1) := by decide +kernel
theorem dX10_nameOf_55 : decode cX10_nameOf 55 = .ok (.iinc 2 (-5), 3) := by decide +kernel
theorem dX10_nameOf_58 : decode cX10_nameOf 58 = .ok (.goto (-40), 3) := by decide +kernel
theorem dX10_nameOf_61 : decode cX10_nameOf 61 = .ok (.iload_n 0, 1) := by decide +kernel
theorem dX10_nameOf_62 : decode cX10_nameOf 62 = .ok (.i2l, 1) := by decide +kernel
theorem dX10_nameOf_63 : decode cX10_nameOf 63 = .ok (.bipush 10, 2) := by decide +kernel
theorem dX10_nameOf_65 : decode cX10_nameOf 65 = .ok (.lshl, 1) := by decide +kernel
theorem dX10_nameOf_66 : decode cX10_nameOf 66 = .ok (.lreturn, 1) := by decide +kernel
theorem dX10_letterOf_0 : decode cX10_letterOf 0 = .ok (.iload_n 2, 1) := by decide +kernel
theorem dX10_letterOf_1 : decode cX10_letterOf 1 = .ok (.ifCond .lt 9, 3) := by decide +kernel
theorem dX10_letterOf_4 : decode cX10_letterOf 4 = .ok (.iload_n 2, 1) := by decide +kernel
theorem dX10_letterOf_5 : decode cX10_letterOf 5 = .ok (.bipush 8, 2) := by decide +kernel
theorem dX10_letterOf_7 : decode cX10_letterOf 7 = .ok (.if_icmp .lt 6, 3) := by decide +kernel
theorem dX10_letterOf_10 : decode cX10_letterOf 10 = .ok (.bipush (-2), 2) := by decide +kernel
theorem dX10_letterOf_12 : decode cX10_letterOf 12 = .ok (.ireturn, 1) := by decide +kernel
theorem dX10_letterOf_13 : decode cX10_letterOf 13 = .ok (.lload_n 0, 1) := by decide +kernel
theorem dX10_letterOf_14 : decode cX10_letterOf 14 = .ok (.bipush 35, 2) := by decide +kernel
theorem dX10_letterOf_16 : decode cX10_letterOf 16 = .ok (.iconst 5, 1) := by decide +kernel
theorem dX10_letterOf_17 : decode cX10_letterOf 17 = .ok (.iload_n 2, 1) := by decide +kernel
theorem dX10_letterOf_18 : decode cX10_letterOf 18 = .ok (.imul, 1) := by decide +kernel
theorem dX10_letterOf_19 : decode cX10_letterOf 19 = .ok (.isub, 1) := by decide +kernel
theorem dX10_letterOf_20 : decode cX10_letterOf 20 = .ok (.lshr, 1) := by decide +kernel
theorem dX10_letterOf_21 : decode cX10_letterOf 21 = .ok (.l2i, 1) := by decide +kernel
theorem dX10_letterOf_22 : decode cX10_letterOf 22 = .ok (.bipush 31, 2) := by decide +kernel
theorem dX10_letterOf_24 : decode cX10_letterOf 24 = .ok (.iand, 1) := by decide +kernel
theorem dX10_letterOf_25 : decode cX10_letterOf 25 = .ok (.istore_n 3, 1) := by decide +kernel
theorem dX10_letterOf_26 : decode cX10_letterOf 26 = .ok (.iload_n 3, 1) := by decide +kernel
theorem dX10_letterOf_27 : decode cX10_letterOf 27 = .ok (.ifCond .ne 8, 3) := by decide +kernel
theorem dX10_letterOf_30 : decode cX10_letterOf 30 = .ok (.bipush (-2), 2) := by decide +kernel
theorem dX10_letterOf_32 : decode cX10_letterOf 32 = .ok (.goto 7, 3) := by decide +kernel
theorem dX10_letterOf_35 : decode cX10_letterOf 35 = .ok (.bipush 96, 2) := by decide +kernel
theorem dX10_letterOf_37 : decode cX10_letterOf 37 = .ok (.iload_n 3, 1) := by decide +kernel
theorem dX10_letterOf_38 : decode cX10_letterOf 38 = .ok (.iadd, 1) := by decide +kernel
theorem dX10_letterOf_39 : decode cX10_letterOf 39 = .ok (.ireturn, 1) := by decide +kernel
theorem dX10_keyword_0 : decode cX10_keyword 0 = .ok (.iload_n 0, 1) := by decide +kernel
theorem dX10_keyword_1 : decode cX10_keyword 1 = .ok (.tableswitch 95 4 13 #[55, 59, 63, 67, 71, 75, 79, 83, 87, 91], 55) := by decide +kernel
theorem dX10_keyword_56 : decode cX10_keyword 56 = .ok (.ldc_w 356, 3) := by decide +kernel
theorem dX10_keyword_59 : decode cX10_keyword 59 = .ok (.areturn, 1) := by decide +kernel
theorem dX10_keyword_60 : decode cX10_keyword 60 = .ok (.ldc_w 357, 3) := by decide +kernel
theorem dX10_keyword_63 : decode cX10_keyword 63 = .ok (.areturn, 1) := by decide +kernel
theorem dX10_keyword_64 : decode cX10_keyword 64 = .ok (.ldc_w 358, 3) := by decide +kernel
theorem dX10_keyword_67 : decode cX10_keyword 67 = .ok (.areturn, 1) := by decide +kernel
theorem dX10_keyword_68 : decode cX10_keyword 68 = .ok (.ldc_w 360, 3) := by decide +kernel
theorem dX10_keyword_71 : decode cX10_keyword 71 = .ok (.areturn, 1) := by decide +kernel
theorem dX10_keyword_72 : decode cX10_keyword 72 = .ok (.ldc_w 361, 3) := by decide +kernel
theorem dX10_keyword_75 : decode cX10_keyword 75 = .ok (.areturn, 1) := by decide +kernel
theorem dX10_keyword_76 : decode cX10_keyword 76 = .ok (.ldc_w 363, 3) := by decide +kernel
theorem dX10_keyword_79 : decode cX10_keyword 79 = .ok (.areturn, 1) := by decide +kernel
theorem dX10_keyword_80 : decode cX10_keyword 80 = .ok (.ldc_w 365, 3) := by decide +kernel
theorem dX10_keyword_83 : decode cX10_keyword 83 = .ok (.areturn, 1) := by decide +kernel
theorem dX10_keyword_84 : decode cX10_keyword 84 = .ok (.ldc_w 367, 3) := by decide +kernel
theorem dX10_keyword_87 : decode cX10_keyword 87 = .ok (.areturn, 1) := by decide +kernel
theorem dX10_keyword_88 : decode cX10_keyword 88 = .ok (.ldc_w 369, 3) := by decide +kernel
theorem dX10_keyword_91 : decode cX10_keyword 91 = .ok (.areturn, 1) := by decide +kernel
theorem dX10_keyword_92 : decode cX10_keyword 92 = .ok (.ldc_w 371, 3) := by decide +kernel
theorem dX10_keyword_95 : decode cX10_keyword 95 = .ok (.areturn, 1) := by decide +kernel
theorem dX10_keyword_96 : decode cX10_keyword 96 = .ok (.ldc_w 373, 3) := by decide +kernel
theorem dX10_keyword_99 : decode cX10_keyword 99 = .ok (.areturn, 1) := by decide +kernel
theorem dL_law_0 : decode cL_law 0 = .ok (.new 7, 3) := by decide +kernel
theorem dL_law_3 : decode cL_law 3 = .ok (.dup, 1) := by decide +kernel
theorem dL_law_4 : decode cL_law 4 = .ok (.invokespecial 9, 3) := by decide +kernel
theorem dL_law_7 : decode cL_law 7 = .ok (.astore_n 1, 1) := by decide +kernel
theorem dL_law_8 : decode cL_law 8 = .ok (.new 10, 3) := by decide +kernel
theorem dL_law_11 : decode cL_law 11 = .ok (.dup, 1) := by decide +kernel
theorem dL_law_12 : decode cL_law 12 = .ok (.invokespecial 12, 3) := by decide +kernel
theorem dL_law_15 : decode cL_law 15 = .ok (.astore_n 2, 1) := by decide +kernel
theorem dL_law_16 : decode cL_law 16 = .ok (.iconst 0, 1) := by decide +kernel
theorem dL_law_17 : decode cL_law 17 = .ok (.istore_n 3, 1) := by decide +kernel
theorem dL_law_18 : decode cL_law 18 = .ok (.iload_n 3, 1) := by decide +kernel
theorem dL_law_19 : decode cL_law 19 = .ok (.aload_n 0, 1) := by decide +kernel
theorem dL_law_20 : decode cL_law 20 = .ok (.arraylength, 1) := by decide +kernel
theorem dL_law_21 : decode cL_law 21 = .ok (.bipush 6, 2) := by decide +kernel
theorem dL_law_23 : decode cL_law 23 = .ok (.isub, 1) := by decide +kernel
theorem dL_law_24 : decode cL_law 24 = .ok (.if_icmp .gt 1487, 3) := by decide +kernel
theorem dL_law_27 : decode cL_law 27 = .ok (.aload_n 0, 1) := by decide +kernel
theorem dL_law_28 : decode cL_law 28 = .ok (.iload_n 3, 1) := by decide +kernel
theorem dL_law_29 : decode cL_law 29 = .ok (.iaload, 1) := by decide +kernel
theorem dL_law_30 : decode cL_law 30 = .ok (.bipush 63, 2) := by decide +kernel
theorem dL_law_32 : decode cL_law 32 = .ok (.iand, 1) := by decide +kernel
theorem dL_law_33 : decode cL_law 33 = .ok (.tableswitch 1472 0 40 #[179, 242, 265, 278, 301, 324, 337, 370, 393, 436, 489, 502, 515, 558, 581, 594, 617, 650, 683, 706, 729, 752, 775, 798, 831, 864, 887, 910, 953, 996, 1019, 1072, 1125, 1158, 1207, 1292, 1315, 1364, 1423, 1436, 1459], 179) := by decide +kernel
theorem dL_law_212 : decode cL_law 212 = .ok (.aload_n 1, 1) := by decide +kernel
theorem dL_law_213 : decode cL_law 213 = .ok (.aload_n 0, 1) := by decide +kernel
theorem dL_law_214 : decode cL_law 214 = .ok (.iload_n 3, 1) := by decide +kernel
theorem dL_law_215 : decode cL_law 215 = .ok (.iconst 1, 1) := by decide +kernel
theorem dL_law_216 : decode cL_law 216 = .ok (.iadd, 1) := by decide +kernel
theorem dL_law_217 : decode cL_law 217 = .ok (.iaload, 1) := by decide +kernel
theorem dL_law_218 : decode cL_law 218 = .ok (.aload_n 0, 1) := by decide +kernel
theorem dL_law_219 : decode cL_law 219 = .ok (.iload_n 3, 1) := by decide +kernel
theorem dL_law_220 : decode cL_law 220 = .ok (.iconst 2, 1) := by decide +kernel
theorem dL_law_221 : decode cL_law 221 = .ok (.iadd, 1) := by decide +kernel
theorem dL_law_222 : decode cL_law 222 = .ok (.iaload, 1) := by decide +kernel
theorem dL_law_223 : decode cL_law 223 = .ok (.aload_n 0, 1) := by decide +kernel
theorem dL_law_224 : decode cL_law 224 = .ok (.iload_n 3, 1) := by decide +kernel
theorem dL_law_225 : decode cL_law 225 = .ok (.iconst 3, 1) := by decide +kernel
theorem dL_law_226 : decode cL_law 226 = .ok (.iadd, 1) := by decide +kernel
theorem dL_law_227 : decode cL_law 227 = .ok (.iaload, 1) := by decide +kernel
theorem dL_law_228 : decode cL_law 228 = .ok (.aload_n 0, 1) := by decide +kernel
theorem dL_law_229 : decode cL_law 229 = .ok (.iload_n 3, 1) := by decide +kernel
theorem dL_law_230 : decode cL_law 230 = .ok (.iconst 4, 1) := by decide +kernel
theorem dL_law_231 : decode cL_law 231 = .ok (.iadd, 1) := by decide +kernel
theorem dL_law_232 : decode cL_law 232 = .ok (.iaload, 1) := by decide +kernel
theorem dL_law_233 : decode cL_law 233 = .ok (.aload_n 0, 1) := by decide +kernel
theorem dL_law_234 : decode cL_law 234 = .ok (.iload_n 3, 1) := by decide +kernel
theorem dL_law_235 : decode cL_law 235 = .ok (.iconst 5, 1) := by decide +kernel
theorem dL_law_236 : decode cL_law 236 = .ok (.iadd, 1) := by decide +kernel
theorem dL_law_237 : decode cL_law 237 = .ok (.iaload, 1) := by decide +kernel
theorem dL_law_238 : decode cL_law 238 = .ok (.invokevirtual 13, 3) := by decide +kernel
theorem dL_law_241 : decode cL_law 241 = .ok (.aload_n 2, 1) := by decide +kernel
theorem dL_law_242 : decode cL_law 242 = .ok (.aload_n 0, 1) := by decide +kernel
theorem dL_law_243 : decode cL_law 243 = .ok (.iload_n 3, 1) := by decide +kernel
theorem dL_law_244 : decode cL_law 244 = .ok (.iconst 1, 1) := by decide +kernel
theorem dL_law_245 : decode cL_law 245 = .ok (.iadd, 1) := by decide +kernel
theorem dL_law_246 : decode cL_law 246 = .ok (.iaload, 1) := by decide +kernel
theorem dL_law_247 : decode cL_law 247 = .ok (.aload_n 0, 1) := by decide +kernel
theorem dL_law_248 : decode cL_law 248 = .ok (.iload_n 3, 1) := by decide +kernel
theorem dL_law_249 : decode cL_law 249 = .ok (.iconst 2, 1) := by decide +kernel
theorem dL_law_250 : decode cL_law 250 = .ok (.iadd, 1) := by decide +kernel
theorem dL_law_251 : decode cL_law 251 = .ok (.iaload, 1) := by decide +kernel
theorem dL_law_252 : decode cL_law 252 = .ok (.aload_n 0, 1) := by decide +kernel
theorem dL_law_253 : decode cL_law 253 = .ok (.iload_n 3, 1) := by decide +kernel
theorem dL_law_254 : decode cL_law 254 = .ok (.iconst 3, 1) := by decide +kernel
theorem dL_law_255 : decode cL_law 255 = .ok (.iadd, 1) := by decide +kernel
theorem dL_law_256 : decode cL_law 256 = .ok (.iaload, 1) := by decide +kernel
theorem dL_law_257 : decode cL_law 257 = .ok (.aload_n 0, 1) := by decide +kernel
theorem dL_law_258 : decode cL_law 258 = .ok (.iload_n 3, 1) := by decide +kernel
theorem dL_law_259 : decode cL_law 259 = .ok (.iconst 4, 1) := by decide +kernel
theorem dL_law_260 : decode cL_law 260 = .ok (.iadd, 1) := by decide +kernel
theorem dL_law_261 : decode cL_law 261 = .ok (.iaload, 1) := by decide +kernel
theorem dL_law_262 : decode cL_law 262 = .ok (.aload_n 0, 1) := by decide +kernel
theorem dL_law_263 : decode cL_law 263 = .ok (.iload_n 3, 1) := by decide +kernel
theorem dL_law_264 : decode cL_law 264 = .ok (.iconst 5, 1) := by decide +kernel
theorem dL_law_265 : decode cL_law 265 = .ok (.iadd, 1) := by decide +kernel
theorem dL_law_266 : decode cL_law 266 = .ok (.iaload, 1) := by decide +kernel
theorem dL_law_267 : decode cL_law 267 = .ok (.invokevirtual 17, 3) := by decide +kernel
theorem dL_law_270 : decode cL_law 270 = .ok (.if_icmp .eq 1235, 3) := by decide +kernel
theorem dL_law_273 : decode cL_law 273 = .ok (.iconst 0, 1) := by decide +kernel
theorem dL_law_274 : decode cL_law 274 = .ok (.ireturn, 1) := by decide +kernel
theorem dL_law_275 : decode cL_law 275 = .ok (.aload_n 1, 1) := by decide +kernel
theorem dL_law_276 : decode cL_law 276 = .ok (.aload_n 0, 1) := by decide +kernel
theorem dL_law_277 : decode cL_law 277 = .ok (.iload_n 3, 1) := by decide +kernel
theorem dL_law_278 : decode cL_law 278 = .ok (.iconst 1, 1) := by decide +kernel
theorem dL_law_279 : decode cL_law 279 = .ok (.iadd, 1) := by decide +kernel
theorem dL_law_280 : decode cL_law 280 = .ok (.iaload, 1) := by decide +kernel
theorem dL_law_281 : decode cL_law 281 = .ok (.invokevirtual 18, 3) := by decide +kernel
theorem dL_law_284 : decode cL_law 284 = .ok (.aload_n 2, 1) := by decide +kernel
theorem dL_law_285 : decode cL_law 285 = .ok (.aload_n 0, 1) := by decide +kernel
theorem dL_law_286 : decode cL_law 286 = .ok (.iload_n 3, 1) := by decide +kernel
theorem dL_law_287 : decode cL_law 287 = .ok (.iconst 1, 1) := by decide +kernel
theorem dL_law_288 : decode cL_law 288 = .ok (.iadd, 1) := by decide +kernel
theorem dL_law_289 : decode cL_law 289 = .ok (.iaload, 1) := by decide +kernel
theorem dL_law_290 : decode cL_law 290 = .ok (.invokevirtual 22, 3) := by decide +kernel
theorem dL_law_293 : decode cL_law 293 = .ok (.if_icmp .eq 1212, 3) := by decide +kernel
theorem dL_law_296 : decode cL_law 296 = .ok (.iconst 0, 1) := by decide +kernel
theorem dL_law_297 : decode cL_law 297 = .ok (.ireturn, 1) := by decide +kernel
theorem dL_law_298 : decode cL_law 298 = .ok (.aload_n 1, 1) := by decide +kernel
theorem dL_law_299 : decode cL_law 299 = .ok (.invokevirtual 23, 3) := by decide +kernel
theorem dL_law_302 : decode cL_law 302 = .ok (.aload_n 2, 1) := by decide +kernel
theorem dL_law_303 : decode cL_law 303 = .ok (.invokevirtual 27, 3) := by decide +kernel
theorem dL_law_306 : decode cL_law 306 = .ok (.if_icmp .eq 1199, 3) := by decide +kernel
theorem dL_law_309 : decode cL_law 309 = .ok (.iconst 0, 1) := by decide +kernel
theorem dL_law_310 : decode cL_law 310 = .ok (.ireturn, 1) := by decide +kernel
theorem dL_law_311 : decode cL_law 311 = .ok (.aload_n 1, 1) := by decide +kernel
theorem dL_law_312 : decode cL_law 312 = .ok (.aload_n 0, 1) := by decide +kernel
theorem dL_law_313 : decode cL_law 313 = .ok (.iload_n 3, 1) := by decide +kernel
theorem dL_law_314 : decode cL_law 314 = .ok (.iconst 1, 1) := by decide +kernel
theorem dL_law_315 : decode cL_law 315 = .ok (.iadd, 1) := by decide +kernel
theorem dL_law_316 : decode cL_law 316 = .ok (.iaload, 1) := by decide +kernel
theorem dL_law_317 : decode cL_law 317 = .ok (.invokevirtual 28, 3) := by decide +kernel
theorem dL_law_320 : decode cL_law 320 = .ok (.aload_n 2, 1) := by decide +kernel
theorem dL_law_321 : decode cL_law 321 = .ok (.aload_n 0, 1) := by decide +kernel
theorem dL_law_322 : decode cL_law 322 = .ok (.iload_n 3, 1) := by decide +kernel
theorem dL_law_323 : decode cL_law 323 = .ok (.iconst 1, 1) := by decide +kernel
theorem dL_law_324 : decode cL_law 324 = .ok (.iadd, 1) := by decide +kernel
theorem dL_law_325 : decode cL_law 325 = .ok (.iaload, 1) := by decide +kernel
theorem dL_law_326 : decode cL_law 326 = .ok (.invokevirtual 31, 3) := by decide +kernel
theorem dL_law_329 : decode cL_law 329 = .ok (.if_icmp .eq 1176, 3) := by decide +kernel
theorem dL_law_332 : decode cL_law 332 = .ok (.iconst 0, 1) := by decide +kernel
theorem dL_law_333 : decode cL_law 333 = .ok (.ireturn, 1) := by decide +kernel
theorem dL_law_334 : decode cL_law 334 = .ok (.aload_n 1, 1) := by decide +kernel
theorem dL_law_335 : decode cL_law 335 = .ok (.aload_n 0, 1) := by decide +kernel
theorem dL_law_336 : decode cL_law 336 = .ok (.iload_n 3, 1) := by decide +kernel
theorem dL_law_337 : decode cL_law 337 = .ok (.iconst 1, 1) := by decide +kernel
theorem dL_law_338 : decode cL_law 338 = .ok (.iadd, 1) := by decide +kernel
theorem dL_law_339 : decode cL_law 339 = .ok (.iaload, 1) := by decide +kernel
theorem dL_law_340 : decode cL_law 340 = .ok (.invokevirtual 32, 3) := by decide +kernel
theorem dL_law_343 : decode cL_law 343 = .ok (.aload_n 2, 1) := by decide +kernel
theorem dL_law_344 : decode cL_law 344 = .ok (.aload_n 0, 1) := by decide +kernel
theorem dL_law_345 : decode cL_law 345 = .ok (.iload_n 3, 1) := by decide +kernel
theorem dL_law_346 : decode cL_law 346 = .ok (.iconst 1, 1) := by decide +kernel
theorem dL_law_347 : decode cL_law 347 = .ok (.iadd, 1) := by decide +kernel
theorem dL_law_348 : decode cL_law 348 = .ok (.iaload, 1) := by decide +kernel
theorem dL_law_349 : decode cL_law 349 = .ok (.invokevirtual 35, 3) := by decide +kernel
theorem dL_law_352 : decode cL_law 352 = .ok (.if_icmp .eq 1153, 3) := by decide +kernel
theorem dL_law_355 : decode cL_law 355 = .ok (.iconst 0, 1) := by decide +kernel
theorem dL_law_356 : decode cL_law 356 = .ok (.ireturn, 1) := by decide +kernel
theorem dL_law_357 : decode cL_law 357 = .ok (.aload_n 1, 1) := by decide +kernel
theorem dL_law_358 : decode cL_law 358 = .ok (.invokevirtual 36, 3) := by decide +kernel
theorem dL_law_361 : decode cL_law 361 = .ok (.aload_n 2, 1) := by decide +kernel
theorem dL_law_362 : decode cL_law 362 = .ok (.invokevirtual 39, 3) := by decide +kernel
theorem dL_law_365 : decode cL_law 365 = .ok (.if_icmp .eq 1140, 3) := by decide +kernel
theorem dL_law_368 : decode cL_law 368 = .ok (.iconst 0, 1) := by decide +kernel
theorem dL_law_369 : decode cL_law 369 = .ok (.ireturn, 1) := by decide +kernel
theorem dL_law_370 : decode cL_law 370 = .ok (.aload_n 1, 1) := by decide +kernel
theorem dL_law_371 : decode cL_law 371 = .ok (.aload_n 0, 1) := by decide +kernel
theorem dL_law_372 : decode cL_law 372 = .ok (.iload_n 3, 1) := by decide +kernel
theorem dL_law_373 : decode cL_law 373 = .ok (.iconst 1, 1) := by decide +kernel
theorem dL_law_374 : decode cL_law 374 = .ok (.iadd, 1) := by decide +kernel
theorem dL_law_375 : decode cL_law 375 = .ok (.iaload, 1) := by decide +kernel
theorem dL_law_376 : decode cL_law 376 = .ok (.aload_n 0, 1) := by decide +kernel
theorem dL_law_377 : decode cL_law 377 = .ok (.iload_n 3, 1) := by decide +kernel
theorem dL_law_378 : decode cL_law 378 = .ok (.iconst 2, 1) := by decide +kernel
theorem dL_law_379 : decode cL_law 379 = .ok (.iadd, 1) := by decide +kernel
theorem dL_law_380 : decode cL_law 380 = .ok (.iaload, 1) := by decide +kernel
theorem dL_law_381 : decode cL_law 381 = .ok (.invokevirtual 40, 3) := by decide +kernel
theorem dL_law_384 : decode cL_law 384 = .ok (.aload_n 2, 1) := by decide +kernel
theorem dL_law_385 : decode cL_law 385 = .ok (.aload_n 0, 1) := by decide +kernel
theorem dL_law_386 : decode cL_law 386 = .ok (.iload_n 3, 1) := by decide +kernel
theorem dL_law_387 : decode cL_law 387 = .ok (.iconst 1, 1) := by decide +kernel
theorem dL_law_388 : decode cL_law 388 = .ok (.iadd, 1) := by decide +kernel
theorem dL_law_389 : decode cL_law 389 = .ok (.iaload, 1) := by decide +kernel
theorem dL_law_390 : decode cL_law 390 = .ok (.aload_n 0, 1) := by decide +kernel
theorem dL_law_391 : decode cL_law 391 = .ok (.iload_n 3, 1) := by decide +kernel
theorem dL_law_392 : decode cL_law 392 = .ok (.iconst 2, 1) := by decide +kernel
theorem dL_law_393 : decode cL_law 393 = .ok (.iadd, 1) := by decide +kernel
theorem dL_law_394 : decode cL_law 394 = .ok (.iaload, 1) := by decide +kernel
theorem dL_law_395 : decode cL_law 395 = .ok (.invokevirtual 44, 3) := by decide +kernel
theorem dL_law_398 : decode cL_law 398 = .ok (.if_icmp .eq 1107, 3) := by decide +kernel
theorem dL_law_401 : decode cL_law 401 = .ok (.iconst 0, 1) := by decide +kernel
theorem dL_law_402 : decode cL_law 402 = .ok (.ireturn, 1) := by decide +kernel
theorem dL_law_403 : decode cL_law 403 = .ok (.aload_n 1, 1) := by decide +kernel
theorem dL_law_404 : decode cL_law 404 = .ok (.aload_n 0, 1) := by decide +kernel
theorem dL_law_405 : decode cL_law 405 = .ok (.iload_n 3, 1) := by decide +kernel
theorem dL_law_406 : decode cL_law 406 = .ok (.iconst 1, 1) := by decide +kernel
theorem dL_law_407 : decode cL_law 407 = .ok (.iadd, 1) := by decide +kernel
theorem dL_law_408 : decode cL_law 408 = .ok (.iaload, 1) := by decide +kernel
theorem dL_law_409 : decode cL_law 409 = .ok (.invokevirtual 45, 3) := by decide +kernel
theorem dL_law_412 : decode cL_law 412 = .ok (.aload_n 2, 1) := by decide +kernel
theorem dL_law_413 : decode cL_law 413 = .ok (.aload_n 0, 1) := by decide +kernel
theorem dL_law_414 : decode cL_law 414 = .ok (.iload_n 3, 1) := by decide +kernel
theorem dL_law_415 : decode cL_law 415 = .ok (.iconst 1, 1) := by decide +kernel
theorem dL_law_416 : decode cL_law 416 = .ok (.iadd, 1) := by decide +kernel
theorem dL_law_417 : decode cL_law 417 = .ok (.iaload, 1) := by decide +kernel
theorem dL_law_418 : decode cL_law 418 = .ok (.invokevirtual 48, 3) := by decide +kernel
theorem dL_law_421 : decode cL_law 421 = .ok (.if_icmp .eq 1084, 3) := by decide +kernel
theorem dL_law_424 : decode cL_law 424 = .ok (.iconst 0, 1) := by decide +kernel
theorem dL_law_425 : decode cL_law 425 = .ok (.ireturn, 1) := by decide +kernel
theorem dL_law_426 : decode cL_law 426 = .ok (.aload_n 1, 1) := by decide +kernel
theorem dL_law_427 : decode cL_law 427 = .ok (.aload_n 0, 1) := by decide +kernel
theorem dL_law_428 : decode cL_law 428 = .ok (.iload_n 3, 1) := by decide +kernel
theorem dL_law_429 : decode cL_law 429 = .ok (.iconst 1, 1) := by decide +kernel
theorem dL_law_430 : decode cL_law 430 = .ok (.iadd, 1) := by decide +kernel
theorem dL_law_431 : decode cL_law 431 = .ok (.iaload, 1) := by decide +kernel
theorem dL_law_432 : decode cL_law 432 = .ok (.aload_n 0, 1) := by decide +kernel
theorem dL_law_433 : decode cL_law 433 = .ok (.iload_n 3, 1) := by decide +kernel
theorem dL_law_434 : decode cL_law 434 = .ok (.iconst 2, 1) := by decide +kernel
theorem dL_law_435 : decode cL_law 435 = .ok (.iadd, 1) := by decide +kernel
theorem dL_law_436 : decode cL_law 436 = .ok (.iaload, 1) := by decide +kernel
theorem dL_law_437 : decode cL_law 437 = .ok (.aload_n 0, 1) := by decide +kernel
theorem dL_law_438 : decode cL_law 438 = .ok (.iload_n 3, 1) := by decide +kernel
theorem dL_law_439 : decode cL_law 439 = .ok (.iconst 3, 1) := by decide +kernel
theorem dL_law_440 : decode cL_law 440 = .ok (.iadd, 1) := by decide +kernel
theorem dL_law_441 : decode cL_law 441 = .ok (.iaload, 1) := by decide +kernel
theorem dL_law_442 : decode cL_law 442 = .ok (.invokevirtual 49, 3) := by decide +kernel
theorem dL_law_445 : decode cL_law 445 = .ok (.aload_n 2, 1) := by decide +kernel
theorem dL_law_446 : decode cL_law 446 = .ok (.aload_n 0, 1) := by decide +kernel
theorem dL_law_447 : decode cL_law 447 = .ok (.iload_n 3, 1) := by decide +kernel
theorem dL_law_448 : decode cL_law 448 = .ok (.iconst 1, 1) := by decide +kernel
theorem dL_law_449 : decode cL_law 449 = .ok (.iadd, 1) := by decide +kernel
theorem dL_law_450 : decode cL_law 450 = .ok (.iaload, 1) := by decide +kernel
theorem dL_law_451 : decode cL_law 451 = .ok (.aload_n 0, 1) := by decide +kernel
theorem dL_law_452 : decode cL_law 452 = .ok (.iload_n 3, 1) := by decide +kernel
theorem dL_law_453 : decode cL_law 453 = .ok (.iconst 2, 1) := by decide +kernel
theorem dL_law_454 : decode cL_law 454 = .ok (.iadd, 1) := by decide +kernel
theorem dL_law_455 : decode cL_law 455 = .ok (.iaload, 1) := by decide +kernel
theorem dL_law_456 : decode cL_law 456 = .ok (.aload_n 0, 1) := by decide +kernel
theorem dL_law_457 : decode cL_law 457 = .ok (.iload_n 3, 1) := by decide +kernel
theorem dL_law_458 : decode cL_law 458 = .ok (.iconst 3, 1) := by decide +kernel
theorem dL_law_459 : decode cL_law 459 = .ok (.iadd, 1) := by decide +kernel
theorem dL_law_460 : decode cL_law 460 = .ok (.iaload, 1) := by decide +kernel
theorem dL_law_461 : decode cL_law 461 = .ok (.invokevirtual 53, 3) := by decide +kernel
theorem dL_law_464 : decode cL_law 464 = .ok (.if_icmp .eq 1041, 3) := by decide +kernel
theorem dL_law_467 : decode cL_law 467 = .ok (.iconst 0, 1) := by decide +kernel
theorem dL_law_468 : decode cL_law 468 = .ok (.ireturn, 1) := by decide +kernel
theorem dL_law_469 : decode cL_law 469 = .ok (.aload_n 1, 1) := by decide +kernel
theorem dL_law_470 : decode cL_law 470 = .ok (.aload_n 0, 1) := by decide +kernel
theorem dL_law_471 : decode cL_law 471 = .ok (.iload_n 3, 1) := by decide +kernel
theorem dL_law_472 : decode cL_law 472 = .ok (.iconst 1, 1) := by decide +kernel
theorem dL_law_473 : decode cL_law 473 = .ok (.iadd, 1) := by decide +kernel
theorem dL_law_474 : decode cL_law 474 = .ok (.iaload, 1) := by decide +kernel
theorem dL_law_475 : decode cL_law 475 = .ok (.aload_n 0, 1) := by decide +kernel
theorem dL_law_476 : decode cL_law 476 = .ok (.iload_n 3, 1) := by decide +kernel
theorem dL_law_477 : decode cL_law 477 = .ok (.iconst 2, 1) := by decide +kernel
theorem dL_law_478 : decode cL_law 478 = .ok (.iadd, 1) := by decide +kernel
theorem dL_law_479 : decode cL_law 479 = .ok (.iaload, 1) := by decide +kernel
theorem dL_law_480 : decode cL_law 480 = .ok (.aload_n 0, 1) := by decide +kernel
theorem dL_law_481 : decode cL_law 481 = .ok (.iload_n 3, 1) := by decide +kernel
theorem dL_law_482 : decode cL_law 482 = .ok (.iconst 3, 1) := by decide +kernel
theorem dL_law_483 : decode cL_law 483 = .ok (.iadd, 1) := by decide +kernel
theorem dL_law_484 : decode cL_law 484 = .ok (.iaload, 1) := by decide +kernel
theorem dL_law_485 : decode cL_law 485 = .ok (.aload_n 0, 1) := by decide +kernel
theorem dL_law_486 : decode cL_law 486 = .ok (.iload_n 3, 1) := by decide +kernel
theorem dL_law_487 : decode cL_law 487 = .ok (.iconst 4, 1) := by decide +kernel
theorem dL_law_488 : decode cL_law 488 = .ok (.iadd, 1) := by decide +kernel
theorem dL_law_489 : decode cL_law 489 = .ok (.iaload, 1) := by decide +kernel
theorem dL_law_490 : decode cL_law 490 = .ok (.invokevirtual 54, 3) := by decide +kernel
theorem dL_law_493 : decode cL_law 493 = .ok (.aload_n 2, 1) := by decide +kernel
theorem dL_law_494 : decode cL_law 494 = .ok (.aload_n 0, 1) := by decide +kernel
theorem dL_law_495 : decode cL_law 495 = .ok (.iload_n 3, 1) := by decide +kernel
theorem dL_law_496 : decode cL_law 496 = .ok (.iconst 1, 1) := by decide +kernel
theorem dL_law_497 : decode cL_law 497 = .ok (.iadd, 1) := by decide +kernel
theorem dL_law_498 : decode cL_law 498 = .ok (.iaload, 1) := by decide +kernel
theorem dL_law_499 : decode cL_law 499 = .ok (.aload_n 0, 1) := by decide +kernel
theorem dL_law_500 : decode cL_law 500 = .ok (.iload_n 3, 1) := by decide +kernel
theorem dL_law_501 : decode cL_law 501 = .ok (.iconst 2, 1) := by decide +kernel
theorem dL_law_502 : decode cL_law 502 = .ok (.iadd, 1) := by decide +kernel
theorem dL_law_503 : decode cL_law 503 = .ok (.iaload, 1) := by decide +kernel
theorem dL_law_504 : decode cL_law 504 = .ok (.aload_n 0, 1) := by decide +kernel
theorem dL_law_505 : decode cL_law 505 = .ok (.iload_n 3, 1) := by decide +kernel
theorem dL_law_506 : decode cL_law 506 = .ok (.iconst 3, 1) := by decide +kernel
theorem dL_law_507 : decode cL_law 507 = .ok (.iadd, 1) := by decide +kernel
theorem dL_law_508 : decode cL_law 508 = .ok (.iaload, 1) := by decide +kernel
theorem dL_law_509 : decode cL_law 509 = .ok (.aload_n 0, 1) := by decide +kernel
theorem dL_law_510 : decode cL_law 510 = .ok (.iload_n 3, 1) := by decide +kernel
theorem dL_law_511 : decode cL_law 511 = .ok (.iconst 4, 1) := by decide +kernel
theorem dL_law_512 : decode cL_law 512 = .ok (.iadd, 1) := by decide +kernel
theorem dL_law_513 : decode cL_law 513 = .ok (.iaload, 1) := by decide +kernel
theorem dL_law_514 : decode cL_law 514 = .ok (.invokevirtual 58, 3) := by decide +kernel
theorem dL_law_517 : decode cL_law 517 = .ok (.if_icmp .eq 988, 3) := by decide +kernel
theorem dL_law_520 : decode cL_law 520 = .ok (.iconst 0, 1) := by decide +kernel
theorem dL_law_521 : decode cL_law 521 = .ok (.ireturn, 1) := by decide +kernel
theorem dL_law_522 : decode cL_law 522 = .ok (.aload_n 1, 1) := by decide +kernel
theorem dL_law_523 : decode cL_law 523 = .ok (.invokevirtual 59, 3) := by decide +kernel
theorem dL_law_526 : decode cL_law 526 = .ok (.aload_n 2, 1) := by decide +kernel
theorem dL_law_527 : decode cL_law 527 = .ok (.invokevirtual 62, 3) := by decide +kernel
theorem dL_law_530 : decode cL_law 530 = .ok (.if_icmp .eq 975, 3) := by decide +kernel
theorem dL_law_533 : decode cL_law 533 = .ok (.iconst 0, 1) := by decide +kernel
theorem dL_law_534 : decode cL_law 534 = .ok (.ireturn, 1) := by decide +kernel
theorem dL_law_535 : decode cL_law 535 = .ok (.aload_n 1, 1) := by decide +kernel
theorem dL_law_536 : decode cL_law 536 = .ok (.invokevirtual 63, 3) := by decide +kernel
theorem dL_law_539 : decode cL_law 539 = .ok (.aload_n 2, 1) := by decide +kernel
theorem dL_law_540 : decode cL_law 540 = .ok (.invokevirtual 66, 3) := by decide +kernel
theorem dL_law_543 : decode cL_law 543 = .ok (.if_icmp .eq 962, 3) := by decide +kernel
theorem dL_law_546 : decode cL_law 546 = .ok (.iconst 0, 1) := by decide +kernel
theorem dL_law_547 : decode cL_law 547 = .ok (.ireturn, 1) := by decide +kernel
theorem dL_law_548 : decode cL_law 548 = .ok (.aload_n 1, 1) := by decide +kernel
theorem dL_law_549 : decode cL_law 549 = .ok (.aload_n 0, 1) := by decide +kernel
theorem dL_law_550 : decode cL_law 550 = .ok (.iload_n 3, 1) := by decide +kernel
theorem dL_law_551 : decode cL_law 551 = .ok (.iconst 1, 1) := by decide +kernel
theorem dL_law_552 : decode cL_law 552 = .ok (.iadd, 1) := by decide +kernel
theorem dL_law_553 : decode cL_law 553 = .ok (.iaload, 1) := by decide +kernel
theorem dL_law_554 : decode cL_law 554 = .ok (.aload_n 0, 1) := by decide +kernel
theorem dL_law_555 : decode cL_law 555 = .ok (.iload_n 3, 1) := by decide +kernel
theorem dL_law_556 : decode cL_law 556 = .ok (.iconst 2, 1) := by decide +kernel
theorem dL_law_557 : decode cL_law 557 = .ok (.iadd, 1) := by decide +kernel
theorem dL_law_558 : decode cL_law 558 = .ok (.iaload, 1) := by decide +kernel
theorem dL_law_559 : decode cL_law 559 = .ok (.aload_n 0, 1) := by decide +kernel
theorem dL_law_560 : decode cL_law 560 = .ok (.iload_n 3, 1) := by decide +kernel
theorem dL_law_561 : decode cL_law 561 = .ok (.iconst 3, 1) := by decide +kernel
theorem dL_law_562 : decode cL_law 562 = .ok (.iadd, 1) := by decide +kernel
theorem dL_law_563 : decode cL_law 563 = .ok (.iaload, 1) := by decide +kernel
theorem dL_law_564 : decode cL_law 564 = .ok (.invokevirtual 67, 3) := by decide +kernel
theorem dL_law_567 : decode cL_law 567 = .ok (.aload_n 2, 1) := by decide +kernel
theorem dL_law_568 : decode cL_law 568 = .ok (.aload_n 0, 1) := by decide +kernel
theorem dL_law_569 : decode cL_law 569 = .ok (.iload_n 3, 1) := by decide +kernel
theorem dL_law_570 : decode cL_law 570 = .ok (.iconst 1, 1) := by decide +kernel
theorem dL_law_571 : decode cL_law 571 = .ok (.iadd, 1) := by decide +kernel
theorem dL_law_572 : decode cL_law 572 = .ok (.iaload, 1) := by decide +kernel
theorem dL_law_573 : decode cL_law 573 = .ok (.aload_n 0, 1) := by decide +kernel
theorem dL_law_574 : decode cL_law 574 = .ok (.iload_n 3, 1) := by decide +kernel
theorem dL_law_575 : decode cL_law 575 = .ok (.iconst 2, 1) := by decide +kernel
theorem dL_law_576 : decode cL_law 576 = .ok (.iadd, 1) := by decide +kernel
theorem dL_law_577 : decode cL_law 577 = .ok (.iaload, 1) := by decide +kernel
theorem dL_law_578 : decode cL_law 578 = .ok (.aload_n 0, 1) := by decide +kernel
theorem dL_law_579 : decode cL_law 579 = .ok (.iload_n 3, 1) := by decide +kernel
theorem dL_law_580 : decode cL_law 580 = .ok (.iconst 3, 1) := by decide +kernel
theorem dL_law_581 : decode cL_law 581 = .ok (.iadd, 1) := by decide +kernel
theorem dL_law_582 : decode cL_law 582 = .ok (.iaload, 1) := by decide +kernel
theorem dL_law_583 : decode cL_law 583 = .ok (.invokevirtual 71, 3) := by decide +kernel
theorem dL_law_586 : decode cL_law 586 = .ok (.if_icmp .eq 919, 3) := by decide +kernel
theorem dL_law_589 : decode cL_law 589 = .ok (.iconst 0, 1) := by decide +kernel
theorem dL_law_590 : decode cL_law 590 = .ok (.ireturn, 1) := by decide +kernel
theorem dL_law_591 : decode cL_law 591 = .ok (.aload_n 1, 1) := by decide +kernel
theorem dL_law_592 : decode cL_law 592 = .ok (.aload_n 0, 1) := by decide +kernel
theorem dL_law_593 : decode cL_law 593 = .ok (.iload_n 3, 1) := by decide +kernel
theorem dL_law_594 : decode cL_law 594 = .ok (.iconst 1, 1) := by decide +kernel
theorem dL_law_595 : decode cL_law 595 = .ok (.iadd, 1) := by decide +kernel
theorem dL_law_596 : decode cL_law 596 = .ok (.iaload, 1) := by decide +kernel
theorem dL_law_597 : decode cL_law 597 = .ok (.invokevirtual 72, 3) := by decide +kernel
theorem dL_law_600 : decode cL_law 600 = .ok (.aload_n 2, 1) := by decide +kernel
theorem dL_law_601 : decode cL_law 601 = .ok (.aload_n 0, 1) := by decide +kernel
theorem dL_law_602 : decode cL_law 602 = .ok (.iload_n 3, 1) := by decide +kernel
theorem dL_law_603 : decode cL_law 603 = .ok (.iconst 1, 1) := by decide +kernel
theorem dL_law_604 : decode cL_law 604 = .ok (.iadd, 1) := by decide +kernel
theorem dL_law_605 : decode cL_law 605 = .ok (.iaload, 1) := by decide +kernel
theorem dL_law_606 : decode cL_law 606 = .ok (.invokevirtual 75, 3) := by decide +kernel
theorem dL_law_609 : decode cL_law 609 = .ok (.if_icmp .eq 896, 3) := by decide +kernel
theorem dL_law_612 : decode cL_law 612 = .ok (.iconst 0, 1) := by decide +kernel
theorem dL_law_613 : decode cL_law 613 = .ok (.ireturn, 1) := by decide +kernel
theorem dL_law_614 : decode cL_law 614 = .ok (.aload_n 1, 1) := by decide +kernel
theorem dL_law_615 : decode cL_law 615 = .ok (.invokevirtual 76, 3) := by decide +kernel
theorem dL_law_618 : decode cL_law 618 = .ok (.aload_n 2, 1) := by decide +kernel
theorem dL_law_619 : decode cL_law 619 = .ok (.invokevirtual 79, 3) := by decide +kernel
theorem dL_law_622 : decode cL_law 622 = .ok (.if_icmp .eq 883, 3) := by decide +kernel
theorem dL_law_625 : decode cL_law 625 = .ok (.iconst 0, 1) := by decide +kernel
theorem dL_law_626 : decode cL_law 626 = .ok (.ireturn, 1) := by decide +kernel
theorem dL_law_627 : decode cL_law 627 = .ok (.aload_n 1, 1) := by decide +kernel
theorem dL_law_628 : decode cL_law 628 = .ok (.aload_n 0, 1) := by decide +kernel
theorem dL_law_629 : decode cL_law 629 = .ok (.iload_n 3, 1) := by decide +kernel
theorem dL_law_630 : decode cL_law 630 = .ok (.iconst 1, 1) := by decide +kernel
theorem dL_law_631 : decode cL_law 631 = .ok (.iadd, 1) := by decide +kernel
theorem dL_law_632 : decode cL_law 632 = .ok (.iaload, 1) := by decide +kernel
theorem dL_law_633 : decode cL_law 633 = .ok (.invokevirtual 80, 3) := by decide +kernel
theorem dL_law_636 : decode cL_law 636 = .ok (.aload_n 2, 1) := by decide +kernel
theorem dL_law_637 : decode cL_law 637 = .ok (.aload_n 0, 1) := by decide +kernel
theorem dL_law_638 : decode cL_law 638 = .ok (.iload_n 3, 1) := by decide +kernel
theorem dL_law_639 : decode cL_law 639 = .ok (.iconst 1, 1) := by decide +kernel
theorem dL_law_640 : decode cL_law 640 = .ok (.iadd, 1) := by decide +kernel
theorem dL_law_641 : decode cL_law 641 = .ok (.iaload, 1) := by decide +kernel
theorem dL_law_642 : decode cL_law 642 = .ok (.invokevirtual 83, 3) := by decide +kernel
theorem dL_law_645 : decode cL_law 645 = .ok (.if_icmp .eq 860, 3) := by decide +kernel
theorem dL_law_648 : decode cL_law 648 = .ok (.iconst 0, 1) := by decide +kernel
theorem dL_law_649 : decode cL_law 649 = .ok (.ireturn, 1) := by decide +kernel
theorem dL_law_650 : decode cL_law 650 = .ok (.aload_n 1, 1) := by decide +kernel
theorem dL_law_651 : decode cL_law 651 = .ok (.aload_n 0, 1) := by decide +kernel
theorem dL_law_652 : decode cL_law 652 = .ok (.iload_n 3, 1) := by decide +kernel
theorem dL_law_653 : decode cL_law 653 = .ok (.iconst 1, 1) := by decide +kernel
theorem dL_law_654 : decode cL_law 654 = .ok (.iadd, 1) := by decide +kernel
theorem dL_law_655 : decode cL_law 655 = .ok (.iaload, 1) := by decide +kernel
theorem dL_law_656 : decode cL_law 656 = .ok (.aload_n 0, 1) := by decide +kernel
theorem dL_law_657 : decode cL_law 657 = .ok (.iload_n 3, 1) := by decide +kernel
theorem dL_law_658 : decode cL_law 658 = .ok (.iconst 2, 1) := by decide +kernel
theorem dL_law_659 : decode cL_law 659 = .ok (.iadd, 1) := by decide +kernel
theorem dL_law_660 : decode cL_law 660 = .ok (.iaload, 1) := by decide +kernel
theorem dL_law_661 : decode cL_law 661 = .ok (.invokevirtual 84, 3) := by decide +kernel
theorem dL_law_664 : decode cL_law 664 = .ok (.aload_n 2, 1) := by decide +kernel
theorem dL_law_665 : decode cL_law 665 = .ok (.aload_n 0, 1) := by decide +kernel
theorem dL_law_666 : decode cL_law 666 = .ok (.iload_n 3, 1) := by decide +kernel
theorem dL_law_667 : decode cL_law 667 = .ok (.iconst 1, 1) := by decide +kernel
theorem dL_law_668 : decode cL_law 668 = .ok (.iadd, 1) := by decide +kernel
theorem dL_law_669 : decode cL_law 669 = .ok (.iaload, 1) := by decide +kernel
theorem dL_law_670 : decode cL_law 670 = .ok (.aload_n 0, 1) := by decide +kernel
theorem dL_law_671 : decode cL_law 671 = .ok (.iload_n 3, 1) := by decide +kernel
theorem dL_law_672 : decode cL_law 672 = .ok (.iconst 2, 1) := by decide +kernel
theorem dL_law_673 : decode cL_law 673 = .ok (.iadd, 1) := by decide +kernel
theorem dL_law_674 : decode cL_law 674 = .ok (.iaload, 1) := by decide +kernel
theorem dL_law_675 : decode cL_law 675 = .ok (.invokevirtual 88, 3) := by decide +kernel
theorem dL_law_678 : decode cL_law 678 = .ok (.if_icmp .eq 827, 3) := by decide +kernel
theorem dL_law_681 : decode cL_law 681 = .ok (.iconst 0, 1) := by decide +kernel
theorem dL_law_682 : decode cL_law 682 = .ok (.ireturn, 1) := by decide +kernel
theorem dL_law_683 : decode cL_law 683 = .ok (.aload_n 1, 1) := by decide +kernel
theorem dL_law_684 : decode cL_law 684 = .ok (.aload_n 0, 1) := by decide +kernel
theorem dL_law_685 : decode cL_law 685 = .ok (.iload_n 3, 1) := by decide +kernel
theorem dL_law_686 : decode cL_law 686 = .ok (.iconst 1, 1) := by decide +kernel
theorem dL_law_687 : decode cL_law 687 = .ok (.iadd, 1) := by decide +kernel
theorem dL_law_688 : decode cL_law 688 = .ok (.iaload, 1) := by decide +kernel
theorem dL_law_689 : decode cL_law 689 = .ok (.aload_n 0, 1) := by decide +kernel
theorem dL_law_690 : decode cL_law 690 = .ok (.iload_n 3, 1) := by decide +kernel
theorem dL_law_691 : decode cL_law 691 = .ok (.iconst 2, 1) := by decide +kernel
theorem dL_law_692 : decode cL_law 692 = .ok (.iadd, 1) := by decide +kernel
theorem dL_law_693 : decode cL_law 693 = .ok (.iaload, 1) := by decide +kernel
theorem dL_law_694 : decode cL_law 694 = .ok (.invokevirtual 89, 3) := by decide +kernel
theorem dL_law_697 : decode cL_law 697 = .ok (.aload_n 2, 1) := by decide +kernel
theorem dL_law_698 : decode cL_law 698 = .ok (.aload_n 0, 1) := by decide +kernel
theorem dL_law_699 : decode cL_law 699 = .ok (.iload_n 3, 1) := by decide +kernel
theorem dL_law_700 : decode cL_law 700 = .ok (.iconst 1, 1) := by decide +kernel
theorem dL_law_701 : decode cL_law 701 = .ok (.iadd, 1) := by decide +kernel
theorem dL_law_702 : decode cL_law 702 = .ok (.iaload, 1) := by decide +kernel
theorem dL_law_703 : decode cL_law 703 = .ok (.aload_n 0, 1) := by decide +kernel
theorem dL_law_704 : decode cL_law 704 = .ok (.iload_n 3, 1) := by decide +kernel
theorem dL_law_705 : decode cL_law 705 = .ok (.iconst 2, 1) := by decide +kernel
theorem dL_law_706 : decode cL_law 706 = .ok (.iadd, 1) := by decide +kernel
theorem dL_law_707 : decode cL_law 707 = .ok (.iaload, 1) := by decide +kernel
theorem dL_law_708 : decode cL_law 708 = .ok (.invokevirtual 92, 3) := by decide +kernel
theorem dL_law_711 : decode cL_law 711 = .ok (.if_icmp .eq 794, 3) := by decide +kernel
theorem dL_law_714 : decode cL_law 714 = .ok (.iconst 0, 1) := by decide +kernel
theorem dL_law_715 : decode cL_law 715 = .ok (.ireturn, 1) := by decide +kernel
theorem dL_law_716 : decode cL_law 716 = .ok (.aload_n 1, 1) := by decide +kernel
theorem dL_law_717 : decode cL_law 717 = .ok (.aload_n 0, 1) := by decide +kernel
theorem dL_law_718 : decode cL_law 718 = .ok (.iload_n 3, 1) := by decide +kernel
theorem dL_law_719 : decode cL_law 719 = .ok (.iconst 1, 1) := by decide +kernel
theorem dL_law_720 : decode cL_law 720 = .ok (.iadd, 1) := by decide +kernel
theorem dL_law_721 : decode cL_law 721 = .ok (.iaload, 1) := by decide +kernel
theorem dL_law_722 : decode cL_law 722 = .ok (.invokevirtual 93, 3) := by decide +kernel
theorem dL_law_725 : decode cL_law 725 = .ok (.aload_n 2, 1) := by decide +kernel
theorem dL_law_726 : decode cL_law 726 = .ok (.aload_n 0, 1) := by decide +kernel
theorem dL_law_727 : decode cL_law 727 = .ok (.iload_n 3, 1) := by decide +kernel
theorem dL_law_728 : decode cL_law 728 = .ok (.iconst 1, 1) := by decide +kernel
theorem dL_law_729 : decode cL_law 729 = .ok (.iadd, 1) := by decide +kernel
theorem dL_law_730 : decode cL_law 730 = .ok (.iaload, 1) := by decide +kernel
theorem dL_law_731 : decode cL_law 731 = .ok (.invokevirtual 96, 3) := by decide +kernel
theorem dL_law_734 : decode cL_law 734 = .ok (.if_icmp .eq 771, 3) := by decide +kernel
theorem dL_law_737 : decode cL_law 737 = .ok (.iconst 0, 1) := by decide +kernel
theorem dL_law_738 : decode cL_law 738 = .ok (.ireturn, 1) := by decide +kernel
theorem dL_law_739 : decode cL_law 739 = .ok (.aload_n 1, 1) := by decide +kernel
theorem dL_law_740 : decode cL_law 740 = .ok (.aload_n 0, 1) := by decide +kernel
theorem dL_law_741 : decode cL_law 741 = .ok (.iload_n 3, 1) := by decide +kernel
theorem dL_law_742 : decode cL_law 742 = .ok (.iconst 1, 1) := by decide +kernel
theorem dL_law_743 : decode cL_law 743 = .ok (.iadd, 1) := by decide +kernel
theorem dL_law_744 : decode cL_law 744 = .ok (.iaload, 1) := by decide +kernel
theorem dL_law_745 : decode cL_law 745 = .ok (.invokevirtual 97, 3) := by decide +kernel
theorem dL_law_748 : decode cL_law 748 = .ok (.aload_n 2, 1) := by decide +kernel
theorem dL_law_749 : decode cL_law 749 = .ok (.aload_n 0, 1) := by decide +kernel
theorem dL_law_750 : decode cL_law 750 = .ok (.iload_n 3, 1) := by decide +kernel
theorem dL_law_751 : decode cL_law 751 = .ok (.iconst 1, 1) := by decide +kernel
theorem dL_law_752 : decode cL_law 752 = .ok (.iadd, 1) := by decide +kernel
theorem dL_law_753 : decode cL_law 753 = .ok (.iaload, 1) := by decide +kernel
theorem dL_law_754 : decode cL_law 754 = .ok (.invokevirtual 100, 3) := by decide +kernel
theorem dL_law_757 : decode cL_law 757 = .ok (.if_icmp .eq 748, 3) := by decide +kernel
theorem dL_law_760 : decode cL_law 760 = .ok (.iconst 0, 1) := by decide +kernel
theorem dL_law_761 : decode cL_law 761 = .ok (.ireturn, 1) := by decide +kernel
theorem dL_law_762 : decode cL_law 762 = .ok (.aload_n 1, 1) := by decide +kernel
theorem dL_law_763 : decode cL_law 763 = .ok (.aload_n 0, 1) := by decide +kernel
theorem dL_law_764 : decode cL_law 764 = .ok (.iload_n 3, 1) := by decide +kernel
theorem dL_law_765 : decode cL_law 765 = .ok (.iconst 1, 1) := by decide +kernel
theorem dL_law_766 : decode cL_law 766 = .ok (.iadd, 1) := by decide +kernel
theorem dL_law_767 : decode cL_law 767 = .ok (.iaload, 1) := by decide +kernel
theorem dL_law_768 : decode cL_law 768 = .ok (.invokevirtual 101, 3) := by decide +kernel
theorem dL_law_771 : decode cL_law 771 = .ok (.aload_n 2, 1) := by decide +kernel
theorem dL_law_772 : decode cL_law 772 = .ok (.aload_n 0, 1) := by decide +kernel
theorem dL_law_773 : decode cL_law 773 = .ok (.iload_n 3, 1) := by decide +kernel
theorem dL_law_774 : decode cL_law 774 = .ok (.iconst 1, 1) := by decide +kernel
theorem dL_law_775 : decode cL_law 775 = .ok (.iadd, 1) := by decide +kernel
theorem dL_law_776 : decode cL_law 776 = .ok (.iaload, 1) := by decide +kernel
theorem dL_law_777 : decode cL_law 777 = .ok (.invokevirtual 104, 3) := by decide +kernel
theorem dL_law_780 : decode cL_law 780 = .ok (.if_icmp .eq 725, 3) := by decide +kernel
theorem dL_law_783 : decode cL_law 783 = .ok (.iconst 0, 1) := by decide +kernel
theorem dL_law_784 : decode cL_law 784 = .ok (.ireturn, 1) := by decide +kernel
theorem dL_law_785 : decode cL_law 785 = .ok (.aload_n 1, 1) := by decide +kernel
theorem dL_law_786 : decode cL_law 786 = .ok (.aload_n 0, 1) := by decide +kernel
theorem dL_law_787 : decode cL_law 787 = .ok (.iload_n 3, 1) := by decide +kernel
theorem dL_law_788 : decode cL_law 788 = .ok (.iconst 1, 1) := by decide +kernel
theorem dL_law_789 : decode cL_law 789 = .ok (.iadd, 1) := by decide +kernel
theorem dL_law_790 : decode cL_law 790 = .ok (.iaload, 1) := by decide +kernel
theorem dL_law_791 : decode cL_law 791 = .ok (.invokevirtual 105, 3) := by decide +kernel
theorem dL_law_794 : decode cL_law 794 = .ok (.aload_n 2, 1) := by decide +kernel
theorem dL_law_795 : decode cL_law 795 = .ok (.aload_n 0, 1) := by decide +kernel
theorem dL_law_796 : decode cL_law 796 = .ok (.iload_n 3, 1) := by decide +kernel
theorem dL_law_797 : decode cL_law 797 = .ok (.iconst 1, 1) := by decide +kernel
theorem dL_law_798 : decode cL_law 798 = .ok (.iadd, 1) := by decide +kernel
theorem dL_law_799 : decode cL_law 799 = .ok (.iaload, 1) := by decide +kernel
theorem dL_law_800 : decode cL_law 800 = .ok (.invokevirtual 108, 3) := by decide +kernel
theorem dL_law_803 : decode cL_law 803 = .ok (.if_icmp .eq 702, 3) := by decide +kernel
theorem dL_law_806 : decode cL_law 806 = .ok (.iconst 0, 1) := by decide +kernel
theorem dL_law_807 : decode cL_law 807 = .ok (.ireturn, 1) := by decide +kernel
theorem dL_law_808 : decode cL_law 808 = .ok (.aload_n 1, 1) := by decide +kernel
theorem dL_law_809 : decode cL_law 809 = .ok (.aload_n 0, 1) := by decide +kernel
theorem dL_law_810 : decode cL_law 810 = .ok (.iload_n 3, 1) := by decide +kernel
theorem dL_law_811 : decode cL_law 811 = .ok (.iconst 1, 1) := by decide +kernel
theorem dL_law_812 : decode cL_law 812 = .ok (.iadd, 1) := by decide +kernel
theorem dL_law_813 : decode cL_law 813 = .ok (.iaload, 1) := by decide +kernel
theorem dL_law_814 : decode cL_law 814 = .ok (.invokevirtual 109, 3) := by decide +kernel
theorem dL_law_817 : decode cL_law 817 = .ok (.aload_n 2, 1) := by decide +kernel
theorem dL_law_818 : decode cL_law 818 = .ok (.aload_n 0, 1) := by decide +kernel
theorem dL_law_819 : decode cL_law 819 = .ok (.iload_n 3, 1) := by decide +kernel
theorem dL_law_820 : decode cL_law 820 = .ok (.iconst 1, 1) := by decide +kernel
theorem dL_law_821 : decode cL_law 821 = .ok (.iadd, 1) := by decide +kernel
theorem dL_law_822 : decode cL_law 822 = .ok (.iaload, 1) := by decide +kernel
theorem dL_law_823 : decode cL_law 823 = .ok (.invokevirtual 112, 3) := by decide +kernel
theorem dL_law_826 : decode cL_law 826 = .ok (.if_icmp .eq 679, 3) := by decide +kernel
theorem dL_law_829 : decode cL_law 829 = .ok (.iconst 0, 1) := by decide +kernel
theorem dL_law_830 : decode cL_law 830 = .ok (.ireturn, 1) := by decide +kernel
theorem dL_law_831 : decode cL_law 831 = .ok (.aload_n 1, 1) := by decide +kernel
theorem dL_law_832 : decode cL_law 832 = .ok (.aload_n 0, 1) := by decide +kernel
theorem dL_law_833 : decode cL_law 833 = .ok (.iload_n 3, 1) := by decide +kernel
theorem dL_law_834 : decode cL_law 834 = .ok (.iconst 1, 1) := by decide +kernel
theorem dL_law_835 : decode cL_law 835 = .ok (.iadd, 1) := by decide +kernel
theorem dL_law_836 : decode cL_law 836 = .ok (.iaload, 1) := by decide +kernel
theorem dL_law_837 : decode cL_law 837 = .ok (.aload_n 0, 1) := by decide +kernel
theorem dL_law_838 : decode cL_law 838 = .ok (.iload_n 3, 1) := by decide +kernel
theorem dL_law_839 : decode cL_law 839 = .ok (.iconst 2, 1) := by decide +kernel
theorem dL_law_840 : decode cL_law 840 = .ok (.iadd, 1) := by decide +kernel
theorem dL_law_841 : decode cL_law 841 = .ok (.iaload, 1) := by decide +kernel
theorem dL_law_842 : decode cL_law 842 = .ok (.invokevirtual 113, 3) := by decide +kernel
theorem dL_law_845 : decode cL_law 845 = .ok (.aload_n 2, 1) := by decide +kernel
theorem dL_law_846 : decode cL_law 846 = .ok (.aload_n 0, 1) := by decide +kernel
theorem dL_law_847 : decode cL_law 847 = .ok (.iload_n 3, 1) := by decide +kernel
theorem dL_law_848 : decode cL_law 848 = .ok (.iconst 1, 1) := by decide +kernel
theorem dL_law_849 : decode cL_law 849 = .ok (.iadd, 1) := by decide +kernel
theorem dL_law_850 : decode cL_law 850 = .ok (.iaload, 1) := by decide +kernel
theorem dL_law_851 : decode cL_law 851 = .ok (.aload_n 0, 1) := by decide +kernel
theorem dL_law_852 : decode cL_law 852 = .ok (.iload_n 3, 1) := by decide +kernel
theorem dL_law_853 : decode cL_law 853 = .ok (.iconst 2, 1) := by decide +kernel
theorem dL_law_854 : decode cL_law 854 = .ok (.iadd, 1) := by decide +kernel
theorem dL_law_855 : decode cL_law 855 = .ok (.iaload, 1) := by decide +kernel
theorem dL_law_856 : decode cL_law 856 = .ok (.invokevirtual 116, 3) := by decide +kernel
theorem dL_law_859 : decode cL_law 859 = .ok (.if_icmp .eq 646, 3) := by decide +kernel
theorem dL_law_862 : decode cL_law 862 = .ok (.iconst 0, 1) := by decide +kernel
theorem dL_law_863 : decode cL_law 863 = .ok (.ireturn, 1) := by decide +kernel
theorem dL_law_864 : decode cL_law 864 = .ok (.aload_n 1, 1) := by decide +kernel
theorem dL_law_865 : decode cL_law 865 = .ok (.aload_n 0, 1) := by decide +kernel
theorem dL_law_866 : decode cL_law 866 = .ok (.iload_n 3, 1) := by decide +kernel
theorem dL_law_867 : decode cL_law 867 = .ok (.iconst 1, 1) := by decide +kernel
theorem dL_law_868 : decode cL_law 868 = .ok (.iadd, 1) := by decide +kernel
theorem dL_law_869 : decode cL_law 869 = .ok (.iaload, 1) := by decide +kernel
theorem dL_law_870 : decode cL_law 870 = .ok (.aload_n 0, 1) := by decide +kernel
theorem dL_law_871 : decode cL_law 871 = .ok (.iload_n 3, 1) := by decide +kernel
theorem dL_law_872 : decode cL_law 872 = .ok (.iconst 2, 1) := by decide +kernel
theorem dL_law_873 : decode cL_law 873 = .ok (.iadd, 1) := by decide +kernel
theorem dL_law_874 : decode cL_law 874 = .ok (.iaload, 1) := by decide +kernel
theorem dL_law_875 : decode cL_law 875 = .ok (.invokevirtual 117, 3) := by decide +kernel
theorem dL_law_878 : decode cL_law 878 = .ok (.aload_n 2, 1) := by decide +kernel
theorem dL_law_879 : decode cL_law 879 = .ok (.aload_n 0, 1) := by decide +kernel
theorem dL_law_880 : decode cL_law 880 = .ok (.iload_n 3, 1) := by decide +kernel
theorem dL_law_881 : decode cL_law 881 = .ok (.iconst 1, 1) := by decide +kernel
theorem dL_law_882 : decode cL_law 882 = .ok (.iadd, 1) := by decide +kernel
theorem dL_law_883 : decode cL_law 883 = .ok (.iaload, 1) := by decide +kernel
theorem dL_law_884 : decode cL_law 884 = .ok (.aload_n 0, 1) := by decide +kernel
theorem dL_law_885 : decode cL_law 885 = .ok (.iload_n 3, 1) := by decide +kernel
theorem dL_law_886 : decode cL_law 886 = .ok (.iconst 2, 1) := by decide +kernel
theorem dL_law_887 : decode cL_law 887 = .ok (.iadd, 1) := by decide +kernel
theorem dL_law_888 : decode cL_law 888 = .ok (.iaload, 1) := by decide +kernel
theorem dL_law_889 : decode cL_law 889 = .ok (.invokevirtual 120, 3) := by decide +kernel
theorem dL_law_892 : decode cL_law 892 = .ok (.if_icmp .eq 613, 3) := by decide +kernel
theorem dL_law_895 : decode cL_law 895 = .ok (.iconst 0, 1) := by decide +kernel
theorem dL_law_896 : decode cL_law 896 = .ok (.ireturn, 1) := by decide +kernel
theorem dL_law_897 : decode cL_law 897 = .ok (.aload_n 1, 1) := by decide +kernel
theorem dL_law_898 : decode cL_law 898 = .ok (.aload_n 0, 1) := by decide +kernel
theorem dL_law_899 : decode cL_law 899 = .ok (.iload_n 3, 1) := by decide +kernel
theorem dL_law_900 : decode cL_law 900 = .ok (.iconst 1, 1) := by decide +kernel
theorem dL_law_901 : decode cL_law 901 = .ok (.iadd, 1) := by decide +kernel
theorem dL_law_902 : decode cL_law 902 = .ok (.iaload, 1) := by decide +kernel
theorem dL_law_903 : decode cL_law 903 = .ok (.invokevirtual 121, 3) := by decide +kernel
theorem dL_law_906 : decode cL_law 906 = .ok (.aload_n 2, 1) := by decide +kernel
theorem dL_law_907 : decode cL_law 907 = .ok (.aload_n 0, 1) := by decide +kernel
theorem dL_law_908 : decode cL_law 908 = .ok (.iload_n 3, 1) := by decide +kernel
theorem dL_law_909 : decode cL_law 909 = .ok (.iconst 1, 1) := by decide +kernel
theorem dL_law_910 : decode cL_law 910 = .ok (.iadd, 1) := by decide +kernel
theorem dL_law_911 : decode cL_law 911 = .ok (.iaload, 1) := by decide +kernel
theorem dL_law_912 : decode cL_law 912 = .ok (.invokevirtual 124, 3) := by decide +kernel
theorem dL_law_915 : decode cL_law 915 = .ok (.if_icmp .eq 590, 3) := by decide +kernel
theorem dL_law_918 : decode cL_law 918 = .ok (.iconst 0, 1) := by decide +kernel
theorem dL_law_919 : decode cL_law 919 = .ok (.ireturn, 1) := by decide +kernel
theorem dL_law_920 : decode cL_law 920 = .ok (.aload_n 1, 1) := by decide +kernel
theorem dL_law_921 : decode cL_law 921 = .ok (.aload_n 0, 1) := by decide +kernel
theorem dL_law_922 : decode cL_law 922 = .ok (.iload_n 3, 1) := by decide +kernel
theorem dL_law_923 : decode cL_law 923 = .ok (.iconst 1, 1) := by decide +kernel
theorem dL_law_924 : decode cL_law 924 = .ok (.iadd, 1) := by decide +kernel
theorem dL_law_925 : decode cL_law 925 = .ok (.iaload, 1) := by decide +kernel
theorem dL_law_926 : decode cL_law 926 = .ok (.invokevirtual 125, 3) := by decide +kernel
theorem dL_law_929 : decode cL_law 929 = .ok (.aload_n 2, 1) := by decide +kernel
theorem dL_law_930 : decode cL_law 930 = .ok (.aload_n 0, 1) := by decide +kernel
theorem dL_law_931 : decode cL_law 931 = .ok (.iload_n 3, 1) := by decide +kernel
theorem dL_law_932 : decode cL_law 932 = .ok (.iconst 1, 1) := by decide +kernel
theorem dL_law_933 : decode cL_law 933 = .ok (.iadd, 1) := by decide +kernel
theorem dL_law_934 : decode cL_law 934 = .ok (.iaload, 1) := by decide +kernel
theorem dL_law_935 : decode cL_law 935 = .ok (.invokevirtual 128, 3) := by decide +kernel
theorem dL_law_938 : decode cL_law 938 = .ok (.if_icmp .eq 567, 3) := by decide +kernel
theorem dL_law_941 : decode cL_law 941 = .ok (.iconst 0, 1) := by decide +kernel
theorem dL_law_942 : decode cL_law 942 = .ok (.ireturn, 1) := by decide +kernel
theorem dL_law_943 : decode cL_law 943 = .ok (.aload_n 1, 1) := by decide +kernel
theorem dL_law_944 : decode cL_law 944 = .ok (.aload_n 0, 1) := by decide +kernel
theorem dL_law_945 : decode cL_law 945 = .ok (.iload_n 3, 1) := by decide +kernel
theorem dL_law_946 : decode cL_law 946 = .ok (.iconst 1, 1) := by decide +kernel
theorem dL_law_947 : decode cL_law 947 = .ok (.iadd, 1) := by decide +kernel
theorem dL_law_948 : decode cL_law 948 = .ok (.iaload, 1) := by decide +kernel
theorem dL_law_949 : decode cL_law 949 = .ok (.aload_n 0, 1) := by decide +kernel
theorem dL_law_950 : decode cL_law 950 = .ok (.iload_n 3, 1) := by decide +kernel
theorem dL_law_951 : decode cL_law 951 = .ok (.iconst 2, 1) := by decide +kernel
theorem dL_law_952 : decode cL_law 952 = .ok (.iadd, 1) := by decide +kernel
theorem dL_law_953 : decode cL_law 953 = .ok (.iaload, 1) := by decide +kernel
theorem dL_law_954 : decode cL_law 954 = .ok (.aload_n 0, 1) := by decide +kernel
theorem dL_law_955 : decode cL_law 955 = .ok (.iload_n 3, 1) := by decide +kernel
theorem dL_law_956 : decode cL_law 956 = .ok (.iconst 3, 1) := by decide +kernel
theorem dL_law_957 : decode cL_law 957 = .ok (.iadd, 1) := by decide +kernel
theorem dL_law_958 : decode cL_law 958 = .ok (.iaload, 1) := by decide +kernel
theorem dL_law_959 : decode cL_law 959 = .ok (.invokevirtual 129, 3) := by decide +kernel
theorem dL_law_962 : decode cL_law 962 = .ok (.aload_n 2, 1) := by decide +kernel
theorem dL_law_963 : decode cL_law 963 = .ok (.aload_n 0, 1) := by decide +kernel
theorem dL_law_964 : decode cL_law 964 = .ok (.iload_n 3, 1) := by decide +kernel
theorem dL_law_965 : decode cL_law 965 = .ok (.iconst 1, 1) := by decide +kernel
theorem dL_law_966 : decode cL_law 966 = .ok (.iadd, 1) := by decide +kernel
theorem dL_law_967 : decode cL_law 967 = .ok (.iaload, 1) := by decide +kernel
theorem dL_law_968 : decode cL_law 968 = .ok (.aload_n 0, 1) := by decide +kernel
theorem dL_law_969 : decode cL_law 969 = .ok (.iload_n 3, 1) := by decide +kernel
theorem dL_law_970 : decode cL_law 970 = .ok (.iconst 2, 1) := by decide +kernel
theorem dL_law_971 : decode cL_law 971 = .ok (.iadd, 1) := by decide +kernel
theorem dL_law_972 : decode cL_law 972 = .ok (.iaload, 1) := by decide +kernel
theorem dL_law_973 : decode cL_law 973 = .ok (.aload_n 0, 1) := by decide +kernel
theorem dL_law_974 : decode cL_law 974 = .ok (.iload_n 3, 1) := by decide +kernel
theorem dL_law_975 : decode cL_law 975 = .ok (.iconst 3, 1) := by decide +kernel
theorem dL_law_976 : decode cL_law 976 = .ok (.iadd, 1) := by decide +kernel
theorem dL_law_977 : decode cL_law 977 = .ok (.iaload, 1) := by decide +kernel
theorem dL_law_978 : decode cL_law 978 = .ok (.invokevirtual 132, 3) := by decide +kernel
theorem dL_law_981 : decode cL_law 981 = .ok (.if_icmp .eq 524, 3) := by decide +kernel
theorem dL_law_984 : decode cL_law 984 = .ok (.iconst 0, 1) := by decide +kernel
theorem dL_law_985 : decode cL_law 985 = .ok (.ireturn, 1) := by decide +kernel
theorem dL_law_986 : decode cL_law 986 = .ok (.aload_n 1, 1) := by decide +kernel
theorem dL_law_987 : decode cL_law 987 = .ok (.aload_n 0, 1) := by decide +kernel
theorem dL_law_988 : decode cL_law 988 = .ok (.iload_n 3, 1) := by decide +kernel
theorem dL_law_989 : decode cL_law 989 = .ok (.iconst 1, 1) := by decide +kernel
theorem dL_law_990 : decode cL_law 990 = .ok (.iadd, 1) := by decide +kernel
theorem dL_law_991 : decode cL_law 991 = .ok (.iaload, 1) := by decide +kernel
theorem dL_law_992 : decode cL_law 992 = .ok (.aload_n 0, 1) := by decide +kernel
theorem dL_law_993 : decode cL_law 993 = .ok (.iload_n 3, 1) := by decide +kernel
theorem dL_law_994 : decode cL_law 994 = .ok (.iconst 2, 1) := by decide +kernel
theorem dL_law_995 : decode cL_law 995 = .ok (.iadd, 1) := by decide +kernel
theorem dL_law_996 : decode cL_law 996 = .ok (.iaload, 1) := by decide +kernel
theorem dL_law_997 : decode cL_law 997 = .ok (.aload_n 0, 1) := by decide +kernel
theorem dL_law_998 : decode cL_law 998 = .ok (.iload_n 3, 1) := by decide +kernel
theorem dL_law_999 : decode cL_law 999 = .ok (.iconst 3, 1) := by decide +kernel
theorem dL_law_1000 : decode cL_law 1000 = .ok (.iadd, 1) := by decide +kernel
theorem dL_law_1001 : decode cL_law 1001 = .ok (.iaload, 1) := by decide +kernel
theorem dL_law_1002 : decode cL_law 1002 = .ok (.invokevirtual 133, 3) := by decide +kernel
theorem dL_law_1005 : decode cL_law 1005 = .ok (.aload_n 2, 1) := by decide +kernel
theorem dL_law_1006 : decode cL_law 1006 = .ok (.aload_n 0, 1) := by decide +kernel
theorem dL_law_1007 : decode cL_law 1007 = .ok (.iload_n 3, 1) := by decide +kernel
theorem dL_law_1008 : decode cL_law 1008 = .ok (.iconst 1, 1) := by decide +kernel
theorem dL_law_1009 : decode cL_law 1009 = .ok (.iadd, 1) := by decide +kernel
theorem dL_law_1010 : decode cL_law 1010 = .ok (.iaload, 1) := by decide +kernel
theorem dL_law_1011 : decode cL_law 1011 = .ok (.aload_n 0, 1) := by decide +kernel
theorem dL_law_1012 : decode cL_law 1012 = .ok (.iload_n 3, 1) := by decide +kernel
theorem dL_law_1013 : decode cL_law 1013 = .ok (.iconst 2, 1) := by decide +kernel
theorem dL_law_1014 : decode cL_law 1014 = .ok (.iadd, 1) := by decide +kernel
theorem dL_law_1015 : decode cL_law 1015 = .ok (.iaload, 1) := by decide +kernel
theorem dL_law_1016 : decode cL_law 1016 = .ok (.aload_n 0, 1) := by decide +kernel
theorem dL_law_1017 : decode cL_law 1017 = .ok (.iload_n 3, 1) := by decide +kernel
theorem dL_law_1018 : decode cL_law 1018 = .ok (.iconst 3, 1) := by decide +kernel
theorem dL_law_1019 : decode cL_law 1019 = .ok (.iadd, 1) := by decide +kernel
theorem dL_law_1020 : decode cL_law 1020 = .ok (.iaload, 1) := by decide +kernel
theorem dL_law_1021 : decode cL_law 1021 = .ok (.invokevirtual 136, 3) := by decide +kernel
theorem dL_law_1024 : decode cL_law 1024 = .ok (.if_icmp .eq 481, 3) := by decide +kernel
theorem dL_law_1027 : decode cL_law 1027 = .ok (.iconst 0, 1) := by decide +kernel
theorem dL_law_1028 : decode cL_law 1028 = .ok (.ireturn, 1) := by decide +kernel
theorem dL_law_1029 : decode cL_law 1029 = .ok (.aload_n 1, 1) := by decide +kernel
theorem dL_law_1030 : decode cL_law 1030 = .ok (.aload_n 0, 1) := by decide +kernel
theorem dL_law_1031 : decode cL_law 1031 = .ok (.iload_n 3, 1) := by decide +kernel
theorem dL_law_1032 : decode cL_law 1032 = .ok (.iconst 1, 1) := by decide +kernel
theorem dL_law_1033 : decode cL_law 1033 = .ok (.iadd, 1) := by decide +kernel
theorem dL_law_1034 : decode cL_law 1034 = .ok (.iaload, 1) := by decide +kernel
theorem dL_law_1035 : decode cL_law 1035 = .ok (.invokevirtual 137, 3) := by decide +kernel
theorem dL_law_1038 : decode cL_law 1038 = .ok (.aload_n 2, 1) := by decide +kernel
theorem dL_law_1039 : decode cL_law 1039 = .ok (.aload_n 0, 1) := by decide +kernel
theorem dL_law_1040 : decode cL_law 1040 = .ok (.iload_n 3, 1) := by decide +kernel
theorem dL_law_1041 : decode cL_law 1041 = .ok (.iconst 1, 1) := by decide +kernel
theorem dL_law_1042 : decode cL_law 1042 = .ok (.iadd, 1) := by decide +kernel
theorem dL_law_1043 : decode cL_law 1043 = .ok (.iaload, 1) := by decide +kernel
theorem dL_law_1044 : decode cL_law 1044 = .ok (.invokevirtual 140, 3) := by decide +kernel
theorem dL_law_1047 : decode cL_law 1047 = .ok (.if_icmp .eq 458, 3) := by decide +kernel
theorem dL_law_1050 : decode cL_law 1050 = .ok (.iconst 0, 1) := by decide +kernel
theorem dL_law_1051 : decode cL_law 1051 = .ok (.ireturn, 1) := by decide +kernel
theorem dL_law_1052 : decode cL_law 1052 = .ok (.aload_n 1, 1) := by decide +kernel
theorem dL_law_1053 : decode cL_law 1053 = .ok (.aload_n 0, 1) := by decide +kernel
theorem dL_law_1054 : decode cL_law 1054 = .ok (.iload_n 3, 1) := by decide +kernel
theorem dL_law_1055 : decode cL_law 1055 = .ok (.iconst 1, 1) := by decide +kernel
theorem dL_law_1056 : decode cL_law 1056 = .ok (.iadd, 1) := by decide +kernel
theorem dL_law_1057 : decode cL_law 1057 = .ok (.iaload, 1) := by decide +kernel
theorem dL_law_1058 : decode cL_law 1058 = .ok (.invokevirtual 141, 3) := by decide +kernel
theorem dL_law_1061 : decode cL_law 1061 = .ok (.f2d, 1) := by decide +kernel
theorem dL_law_1062 : decode cL_law 1062 = .ok (.dstore 4, 2) := by decide +kernel
theorem dL_law_1064 : decode cL_law 1064 = .ok (.aload_n 2, 1) := by decide +kernel
theorem dL_law_1065 : decode cL_law 1065 = .ok (.aload_n 0, 1) := by decide +kernel
theorem dL_law_1066 : decode cL_law 1066 = .ok (.iload_n 3, 1) := by decide +kernel
theorem dL_law_1067 : decode cL_law 1067 = .ok (.iconst 1, 1) := by decide +kernel
theorem dL_law_1068 : decode cL_law 1068 = .ok (.iadd, 1) := by decide +kernel
theorem dL_law_1069 : decode cL_law 1069 = .ok (.iaload, 1) := by decide +kernel
theorem dL_law_1070 : decode cL_law 1070 = .ok (.invokevirtual 145, 3) := by decide +kernel
theorem dL_law_1073 : decode cL_law 1073 = .ok (.f2d, 1) := by decide +kernel
theorem dL_law_1074 : decode cL_law 1074 = .ok (.dstore 6, 2) := by decide +kernel
theorem dL_law_1076 : decode cL_law 1076 = .ok (.dload 4, 2) := by decide +kernel
theorem dL_law_1078 : decode cL_law 1078 = .ok (.dload 6, 2) := by decide +kernel
theorem dL_law_1080 : decode cL_law 1080 = .ok (.dcmp .l, 1) := by decide +kernel
theorem dL_law_1081 : decode cL_law 1081 = .ok (.ifCond .eq 21, 3) := by decide +kernel
theorem dL_law_1084 : decode cL_law 1084 = .ok (.dload 4, 2) := by decide +kernel
theorem dL_law_1086 : decode cL_law 1086 = .ok (.dload 4, 2) := by decide +kernel
theorem dL_law_1088 : decode cL_law 1088 = .ok (.dcmp .l, 1) := by decide +kernel
theorem dL_law_1089 : decode cL_law 1089 = .ok (.ifCond .eq 11, 3) := by decide +kernel
theorem dL_law_1092 : decode cL_law 1092 = .ok (.dload 6, 2) := by decide +kernel
theorem dL_law_1094 : decode cL_law 1094 = .ok (.dload 6, 2) := by decide +kernel
theorem dL_law_1096 : decode cL_law 1096 = .ok (.dcmp .l, 1) := by decide +kernel
theorem dL_law_1097 : decode cL_law 1097 = .ok (.ifCond .ne 5, 3) := by decide +kernel
theorem dL_law_1100 : decode cL_law 1100 = .ok (.iconst 0, 1) := by decide +kernel
theorem dL_law_1101 : decode cL_law 1101 = .ok (.ireturn, 1) := by decide +kernel
theorem dL_law_1102 : decode cL_law 1102 = .ok (.goto 403, 3) := by decide +kernel
theorem dL_law_1105 : decode cL_law 1105 = .ok (.aload_n 1, 1) := by decide +kernel
theorem dL_law_1106 : decode cL_law 1106 = .ok (.aload_n 0, 1) := by decide +kernel
theorem dL_law_1107 : decode cL_law 1107 = .ok (.iload_n 3, 1) := by decide +kernel
theorem dL_law_1108 : decode cL_law 1108 = .ok (.iconst 1, 1) := by decide +kernel
theorem dL_law_1109 : decode cL_law 1109 = .ok (.iadd, 1) := by decide +kernel
theorem dL_law_1110 : decode cL_law 1110 = .ok (.iaload, 1) := by decide +kernel
theorem dL_law_1111 : decode cL_law 1111 = .ok (.invokevirtual 146, 3) := by decide +kernel
theorem dL_law_1114 : decode cL_law 1114 = .ok (.f2d, 1) := by decide +kernel
theorem dL_law_1115 : decode cL_law 1115 = .ok (.dstore 4, 2) := by decide +kernel
theorem dL_law_1117 : decode cL_law 1117 = .ok (.aload_n 2, 1) := by decide +kernel
theorem dL_law_1118 : decode cL_law 1118 = .ok (.aload_n 0, 1) := by decide +kernel
theorem dL_law_1119 : decode cL_law 1119 = .ok (.iload_n 3, 1) := by decide +kernel
theorem dL_law_1120 : decode cL_law 1120 = .ok (.iconst 1, 1) := by decide +kernel
theorem dL_law_1121 : decode cL_law 1121 = .ok (.iadd, 1) := by decide +kernel
theorem dL_law_1122 : decode cL_law 1122 = .ok (.iaload, 1) := by decide +kernel
theorem dL_law_1123 : decode cL_law 1123 = .ok (.invokevirtual 149, 3) := by decide +kernel
theorem dL_law_1126 : decode cL_law 1126 = .ok (.f2d, 1) := by decide +kernel
theorem dL_law_1127 : decode cL_law 1127 = .ok (.dstore 6, 2) := by decide +kernel
theorem dL_law_1129 : decode cL_law 1129 = .ok (.dload 4, 2) := by decide +kernel
theorem dL_law_1131 : decode cL_law 1131 = .ok (.dload 6, 2) := by decide +kernel
theorem dL_law_1133 : decode cL_law 1133 = .ok (.dcmp .l, 1) := by decide +kernel
theorem dL_law_1134 : decode cL_law 1134 = .ok (.ifCond .eq 21, 3) := by decide +kernel
theorem dL_law_1137 : decode cL_law 1137 = .ok (.dload 4, 2) := by decide +kernel
theorem dL_law_1139 : decode cL_law 1139 = .ok (.dload 4, 2) := by decide +kernel
theorem dL_law_1141 : decode cL_law 1141 = .ok (.dcmp .l, 1) := by decide +kernel
theorem dL_law_1142 : decode cL_law 1142 = .ok (.ifCond .eq 11, 3) := by decide +kernel
theorem dL_law_1145 : decode cL_law 1145 = .ok (.dload 6, 2) := by decide +kernel
theorem dL_law_1147 : decode cL_law 1147 = .ok (.dload 6, 2) := by decide +kernel
theorem dL_law_1149 : decode cL_law 1149 = .ok (.dcmp .l, 1) := by decide +kernel
theorem dL_law_1150 : decode cL_law 1150 = .ok (.ifCond .ne 5, 3) := by decide +kernel
theorem dL_law_1153 : decode cL_law 1153 = .ok (.iconst 0, 1) := by decide +kernel
theorem dL_law_1154 : decode cL_law 1154 = .ok (.ireturn, 1) := by decide +kernel
theorem dL_law_1155 : decode cL_law 1155 = .ok (.goto 350, 3) := by decide +kernel
theorem dL_law_1158 : decode cL_law 1158 = .ok (.aload_n 1, 1) := by decide +kernel
theorem dL_law_1159 : decode cL_law 1159 = .ok (.aload_n 0, 1) := by decide +kernel
theorem dL_law_1160 : decode cL_law 1160 = .ok (.iload_n 3, 1) := by decide +kernel
theorem dL_law_1161 : decode cL_law 1161 = .ok (.iconst 1, 1) := by decide +kernel
theorem dL_law_1162 : decode cL_law 1162 = .ok (.iadd, 1) := by decide +kernel
theorem dL_law_1163 : decode cL_law 1163 = .ok (.iaload, 1) := by decide +kernel
theorem dL_law_1164 : decode cL_law 1164 = .ok (.aload_n 0, 1) := by decide +kernel
theorem dL_law_1165 : decode cL_law 1165 = .ok (.iload_n 3, 1) := by decide +kernel
theorem dL_law_1166 : decode cL_law 1166 = .ok (.iconst 2, 1) := by decide +kernel
theorem dL_law_1167 : decode cL_law 1167 = .ok (.iadd, 1) := by decide +kernel
theorem dL_law_1168 : decode cL_law 1168 = .ok (.iaload, 1) := by decide +kernel
theorem dL_law_1169 : decode cL_law 1169 = .ok (.invokevirtual 150, 3) := by decide +kernel
theorem dL_law_1172 : decode cL_law 1172 = .ok (.aload_n 2, 1) := by decide +kernel
theorem dL_law_1173 : decode cL_law 1173 = .ok (.aload_n 0, 1) := by decide +kernel
theorem dL_law_1174 : decode cL_law 1174 = .ok (.iload_n 3, 1) := by decide +kernel
theorem dL_law_1175 : decode cL_law 1175 = .ok (.iconst 1, 1) := by decide +kernel
theorem dL_law_1176 : decode cL_law 1176 = .ok (.iadd, 1) := by decide +kernel
theorem dL_law_1177 : decode cL_law 1177 = .ok (.iaload, 1) := by decide +kernel
theorem dL_law_1178 : decode cL_law 1178 = .ok (.aload_n 0, 1) := by decide +kernel
theorem dL_law_1179 : decode cL_law 1179 = .ok (.iload_n 3, 1) := by decide +kernel
theorem dL_law_1180 : decode cL_law 1180 = .ok (.iconst 2, 1) := by decide +kernel
theorem dL_law_1181 : decode cL_law 1181 = .ok (.iadd, 1) := by decide +kernel
theorem dL_law_1182 : decode cL_law 1182 = .ok (.iaload, 1) := by decide +kernel
theorem dL_law_1183 : decode cL_law 1183 = .ok (.invokevirtual 153, 3) := by decide +kernel
theorem dL_law_1186 : decode cL_law 1186 = .ok (.if_icmp .eq 319, 3) := by decide +kernel
theorem dL_law_1189 : decode cL_law 1189 = .ok (.iconst 0, 1) := by decide +kernel
theorem dL_law_1190 : decode cL_law 1190 = .ok (.ireturn, 1) := by decide +kernel
theorem dL_law_1191 : decode cL_law 1191 = .ok (.aload_n 1, 1) := by decide +kernel
theorem dL_law_1192 : decode cL_law 1192 = .ok (.aload_n 0, 1) := by decide +kernel
theorem dL_law_1193 : decode cL_law 1193 = .ok (.iload_n 3, 1) := by decide +kernel
theorem dL_law_1194 : decode cL_law 1194 = .ok (.iconst 1, 1) := by decide +kernel
theorem dL_law_1195 : decode cL_law 1195 = .ok (.iadd, 1) := by decide +kernel
theorem dL_law_1196 : decode cL_law 1196 = .ok (.iaload, 1) := by decide +kernel
theorem dL_law_1197 : decode cL_law 1197 = .ok (.ifCond .eq 7, 3) := by decide +kernel
theorem dL_law_1200 : decode cL_law 1200 = .ok (.iconst 1, 1) := by decide +kernel
theorem dL_law_1201 : decode cL_law 1201 = .ok (.goto 4, 3) := by decide +kernel
theorem dL_law_1204 : decode cL_law 1204 = .ok (.iconst 0, 1) := by decide +kernel
theorem dL_law_1205 : decode cL_law 1205 = .ok (.aload_n 0, 1) := by decide +kernel
theorem dL_law_1206 : decode cL_law 1206 = .ok (.iload_n 3, 1) := by decide +kernel
theorem dL_law_1207 : decode cL_law 1207 = .ok (.iconst 2, 1) := by decide +kernel
theorem dL_law_1208 : decode cL_law 1208 = .ok (.iadd, 1) := by decide +kernel
theorem dL_law_1209 : decode cL_law 1209 = .ok (.iaload, 1) := by decide +kernel
theorem dL_law_1210 : decode cL_law 1210 = .ok (.invokevirtual 154, 3) := by decide +kernel
theorem dL_law_1213 : decode cL_law 1213 = .ok (.aload_n 2, 1) := by decide +kernel
theorem dL_law_1214 : decode cL_law 1214 = .ok (.aload_n 0, 1) := by decide +kernel
theorem dL_law_1215 : decode cL_law 1215 = .ok (.iload_n 3, 1) := by decide +kernel
theorem dL_law_1216 : decode cL_law 1216 = .ok (.iconst 1, 1) := by decide +kernel
theorem dL_law_1217 : decode cL_law 1217 = .ok (.iadd, 1) := by decide +kernel
theorem dL_law_1218 : decode cL_law 1218 = .ok (.iaload, 1) := by decide +kernel
theorem dL_law_1219 : decode cL_law 1219 = .ok (.ifCond .eq 7, 3) := by decide +kernel
theorem dL_law_1222 : decode cL_law 1222 = .ok (.iconst 1, 1) := by decide +kernel
theorem dL_law_1223 : decode cL_law 1223 = .ok (.goto 4, 3) := by decide +kernel
theorem dL_law_1226 : decode cL_law 1226 = .ok (.iconst 0, 1) := by decide +kernel
theorem dL_law_1227 : decode cL_law 1227 = .ok (.aload_n 0, 1) := by decide +kernel
theorem dL_law_1228 : decode cL_law 1228 = .ok (.iload_n 3, 1) := by decide +kernel
theorem dL_law_1229 : decode cL_law 1229 = .ok (.iconst 2, 1) := by decide +kernel
theorem dL_law_1230 : decode cL_law 1230 = .ok (.iadd, 1) := by decide +kernel
theorem dL_law_1231 : decode cL_law 1231 = .ok (.iaload, 1) := by decide +kernel
theorem dL_law_1232 : decode cL_law 1232 = .ok (.invokevirtual 158, 3) := by decide +kernel
theorem dL_law_1235 : decode cL_law 1235 = .ok (.if_icmp .eq 270, 3) := by decide +kernel
theorem dL_law_1238 : decode cL_law 1238 = .ok (.iconst 0, 1) := by decide +kernel
theorem dL_law_1239 : decode cL_law 1239 = .ok (.ireturn, 1) := by decide +kernel
theorem dL_law_1240 : decode cL_law 1240 = .ok (.aload_n 1, 1) := by decide +kernel
theorem dL_law_1241 : decode cL_law 1241 = .ok (.aload_n 0, 1) := by decide +kernel
theorem dL_law_1242 : decode cL_law 1242 = .ok (.iload_n 3, 1) := by decide +kernel
theorem dL_law_1243 : decode cL_law 1243 = .ok (.iconst 1, 1) := by decide +kernel
theorem dL_law_1244 : decode cL_law 1244 = .ok (.iadd, 1) := by decide +kernel
theorem dL_law_1245 : decode cL_law 1245 = .ok (.iaload, 1) := by decide +kernel
theorem dL_law_1246 : decode cL_law 1246 = .ok (.ifCond .eq 7, 3) := by decide +kernel
theorem dL_law_1249 : decode cL_law 1249 = .ok (.iconst 1, 1) := by decide +kernel
theorem dL_law_1250 : decode cL_law 1250 = .ok (.goto 4, 3) := by decide +kernel
theorem dL_law_1253 : decode cL_law 1253 = .ok (.iconst 0, 1) := by decide +kernel
theorem dL_law_1254 : decode cL_law 1254 = .ok (.aload_n 0, 1) := by decide +kernel
theorem dL_law_1255 : decode cL_law 1255 = .ok (.iload_n 3, 1) := by decide +kernel
theorem dL_law_1256 : decode cL_law 1256 = .ok (.iconst 2, 1) := by decide +kernel
theorem dL_law_1257 : decode cL_law 1257 = .ok (.iadd, 1) := by decide +kernel
theorem dL_law_1258 : decode cL_law 1258 = .ok (.iaload, 1) := by decide +kernel
theorem dL_law_1259 : decode cL_law 1259 = .ok (.aload_n 0, 1) := by decide +kernel
theorem dL_law_1260 : decode cL_law 1260 = .ok (.iload_n 3, 1) := by decide +kernel
theorem dL_law_1261 : decode cL_law 1261 = .ok (.iconst 3, 1) := by decide +kernel
theorem dL_law_1262 : decode cL_law 1262 = .ok (.iadd, 1) := by decide +kernel
theorem dL_law_1263 : decode cL_law 1263 = .ok (.iaload, 1) := by decide +kernel
theorem dL_law_1264 : decode cL_law 1264 = .ok (.aload_n 0, 1) := by decide +kernel
theorem dL_law_1265 : decode cL_law 1265 = .ok (.iload_n 3, 1) := by decide +kernel
theorem dL_law_1266 : decode cL_law 1266 = .ok (.iconst 4, 1) := by decide +kernel
theorem dL_law_1267 : decode cL_law 1267 = .ok (.iadd, 1) := by decide +kernel
theorem dL_law_1268 : decode cL_law 1268 = .ok (.iaload, 1) := by decide +kernel
theorem dL_law_1269 : decode cL_law 1269 = .ok (.ifCond .eq 7, 3) := by decide +kernel
theorem dL_law_1272 : decode cL_law 1272 = .ok (.iconst 1, 1) := by decide +kernel
theorem dL_law_1273 : decode cL_law 1273 = .ok (.goto 4, 3) := by decide +kernel
theorem dL_law_1276 : decode cL_law 1276 = .ok (.iconst 0, 1) := by decide +kernel
theorem dL_law_1277 : decode cL_law 1277 = .ok (.invokevirtual 159, 3) := by decide +kernel
theorem dL_law_1280 : decode cL_law 1280 = .ok (.aload_n 2, 1) := by decide +kernel
theorem dL_law_1281 : decode cL_law 1281 = .ok (.aload_n 0, 1) := by decide +kernel
theorem dL_law_1282 : decode cL_law 1282 = .ok (.iload_n 3, 1) := by decide +kernel
theorem dL_law_1283 : decode cL_law 1283 = .ok (.iconst 1, 1) := by decide +kernel
theorem dL_law_1284 : decode cL_law 1284 = .ok (.iadd, 1) := by decide +kernel
theorem dL_law_1285 : decode cL_law 1285 = .ok (.iaload, 1) := by decide +kernel
theorem dL_law_1286 : decode cL_law 1286 = .ok (.ifCond .eq 7, 3) := by decide +kernel
theorem dL_law_1289 : decode cL_law 1289 = .ok (.iconst 1, 1) := by decide +kernel
theorem dL_law_1290 : decode cL_law 1290 = .ok (.goto 4, 3) := by decide +kernel
theorem dL_law_1293 : decode cL_law 1293 = .ok (.iconst 0, 1) := by decide +kernel
theorem dL_law_1294 : decode cL_law 1294 = .ok (.aload_n 0, 1) := by decide +kernel
theorem dL_law_1295 : decode cL_law 1295 = .ok (.iload_n 3, 1) := by decide +kernel
theorem dL_law_1296 : decode cL_law 1296 = .ok (.iconst 2, 1) := by decide +kernel
theorem dL_law_1297 : decode cL_law 1297 = .ok (.iadd, 1) := by decide +kernel
theorem dL_law_1298 : decode cL_law 1298 = .ok (.iaload, 1) := by decide +kernel
theorem dL_law_1299 : decode cL_law 1299 = .ok (.aload_n 0, 1) := by decide +kernel
theorem dL_law_1300 : decode cL_law 1300 = .ok (.iload_n 3, 1) := by decide +kernel
theorem dL_law_1301 : decode cL_law 1301 = .ok (.iconst 3, 1) := by decide +kernel
theorem dL_law_1302 : decode cL_law 1302 = .ok (.iadd, 1) := by decide +kernel
theorem dL_law_1303 : decode cL_law 1303 = .ok (.iaload, 1) := by decide +kernel
theorem dL_law_1304 : decode cL_law 1304 = .ok (.aload_n 0, 1) := by decide +kernel
theorem dL_law_1305 : decode cL_law 1305 = .ok (.iload_n 3, 1) := by decide +kernel
theorem dL_law_1306 : decode cL_law 1306 = .ok (.iconst 4, 1) := by decide +kernel
theorem dL_law_1307 : decode cL_law 1307 = .ok (.iadd, 1) := by decide +kernel
theorem dL_law_1308 : decode cL_law 1308 = .ok (.iaload, 1) := by decide +kernel
theorem dL_law_1309 : decode cL_law 1309 = .ok (.ifCond .eq 7, 3) := by decide +kernel
theorem dL_law_1312 : decode cL_law 1312 = .ok (.iconst 1, 1) := by decide +kernel
theorem dL_law_1313 : decode cL_law 1313 = .ok (.goto 4, 3) := by decide +kernel
theorem dL_law_1316 : decode cL_law 1316 = .ok (.iconst 0, 1) := by decide +kernel
theorem dL_law_1317 : decode cL_law 1317 = .ok (.invokevirtual 163, 3) := by decide +kernel
theorem dL_law_1320 : decode cL_law 1320 = .ok (.if_icmp .eq 185, 3) := by decide +kernel
theorem dL_law_1323 : decode cL_law 1323 = .ok (.iconst 0, 1) := by decide +kernel
theorem dL_law_1324 : decode cL_law 1324 = .ok (.ireturn, 1) := by decide +kernel
theorem dL_law_1325 : decode cL_law 1325 = .ok (.aload_n 1, 1) := by decide +kernel
theorem dL_law_1326 : decode cL_law 1326 = .ok (.aload_n 0, 1) := by decide +kernel
theorem dL_law_1327 : decode cL_law 1327 = .ok (.iload_n 3, 1) := by decide +kernel
theorem dL_law_1328 : decode cL_law 1328 = .ok (.iconst 1, 1) := by decide +kernel
theorem dL_law_1329 : decode cL_law 1329 = .ok (.iadd, 1) := by decide +kernel
theorem dL_law_1330 : decode cL_law 1330 = .ok (.iaload, 1) := by decide +kernel
theorem dL_law_1331 : decode cL_law 1331 = .ok (.invokevirtual 164, 3) := by decide +kernel
theorem dL_law_1334 : decode cL_law 1334 = .ok (.aload_n 2, 1) := by decide +kernel
theorem dL_law_1335 : decode cL_law 1335 = .ok (.aload_n 0, 1) := by decide +kernel
theorem dL_law_1336 : decode cL_law 1336 = .ok (.iload_n 3, 1) := by decide +kernel
theorem dL_law_1337 : decode cL_law 1337 = .ok (.iconst 1, 1) := by decide +kernel
theorem dL_law_1338 : decode cL_law 1338 = .ok (.iadd, 1) := by decide +kernel
theorem dL_law_1339 : decode cL_law 1339 = .ok (.iaload, 1) := by decide +kernel
theorem dL_law_1340 : decode cL_law 1340 = .ok (.invokevirtual 167, 3) := by decide +kernel
theorem dL_law_1343 : decode cL_law 1343 = .ok (.if_icmp .eq 162, 3) := by decide +kernel
theorem dL_law_1346 : decode cL_law 1346 = .ok (.iconst 0, 1) := by decide +kernel
theorem dL_law_1347 : decode cL_law 1347 = .ok (.ireturn, 1) := by decide +kernel
theorem dL_law_1348 : decode cL_law 1348 = .ok (.aload_n 1, 1) := by decide +kernel
theorem dL_law_1349 : decode cL_law 1349 = .ok (.aload_n 0, 1) := by decide +kernel
theorem dL_law_1350 : decode cL_law 1350 = .ok (.iload_n 3, 1) := by decide +kernel
theorem dL_law_1351 : decode cL_law 1351 = .ok (.iconst 1, 1) := by decide +kernel
theorem dL_law_1352 : decode cL_law 1352 = .ok (.iadd, 1) := by decide +kernel
theorem dL_law_1353 : decode cL_law 1353 = .ok (.iaload, 1) := by decide +kernel
theorem dL_law_1354 : decode cL_law 1354 = .ok (.ifCond .eq 7, 3) := by decide +kernel
theorem dL_law_1357 : decode cL_law 1357 = .ok (.iconst 1, 1) := by decide +kernel
theorem dL_law_1358 : decode cL_law 1358 = .ok (.goto 4, 3) := by decide +kernel
theorem dL_law_1361 : decode cL_law 1361 = .ok (.iconst 0, 1) := by decide +kernel
theorem dL_law_1362 : decode cL_law 1362 = .ok (.aload_n 0, 1) := by decide +kernel
theorem dL_law_1363 : decode cL_law 1363 = .ok (.iload_n 3, 1) := by decide +kernel
theorem dL_law_1364 : decode cL_law 1364 = .ok (.iconst 2, 1) := by decide +kernel
theorem dL_law_1365 : decode cL_law 1365 = .ok (.iadd, 1) := by decide +kernel
theorem dL_law_1366 : decode cL_law 1366 = .ok (.iaload, 1) := by decide +kernel
theorem dL_law_1367 : decode cL_law 1367 = .ok (.invokevirtual 168, 3) := by decide +kernel
theorem dL_law_1370 : decode cL_law 1370 = .ok (.aload_n 2, 1) := by decide +kernel
theorem dL_law_1371 : decode cL_law 1371 = .ok (.aload_n 0, 1) := by decide +kernel
theorem dL_law_1372 : decode cL_law 1372 = .ok (.iload_n 3, 1) := by decide +kernel
theorem dL_law_1373 : decode cL_law 1373 = .ok (.iconst 1, 1) := by decide +kernel
theorem dL_law_1374 : decode cL_law 1374 = .ok (.iadd, 1) := by decide +kernel
theorem dL_law_1375 : decode cL_law 1375 = .ok (.iaload, 1) := by decide +kernel
theorem dL_law_1376 : decode cL_law 1376 = .ok (.ifCond .eq 7, 3) := by decide +kernel
theorem dL_law_1379 : decode cL_law 1379 = .ok (.iconst 1, 1) := by decide +kernel
theorem dL_law_1380 : decode cL_law 1380 = .ok (.goto 4, 3) := by decide +kernel
theorem dL_law_1383 : decode cL_law 1383 = .ok (.iconst 0, 1) := by decide +kernel
theorem dL_law_1384 : decode cL_law 1384 = .ok (.aload_n 0, 1) := by decide +kernel
theorem dL_law_1385 : decode cL_law 1385 = .ok (.iload_n 3, 1) := by decide +kernel
theorem dL_law_1386 : decode cL_law 1386 = .ok (.iconst 2, 1) := by decide +kernel
theorem dL_law_1387 : decode cL_law 1387 = .ok (.iadd, 1) := by decide +kernel
theorem dL_law_1388 : decode cL_law 1388 = .ok (.iaload, 1) := by decide +kernel
theorem dL_law_1389 : decode cL_law 1389 = .ok (.invokevirtual 171, 3) := by decide +kernel
theorem dL_law_1392 : decode cL_law 1392 = .ok (.if_icmp .eq 113, 3) := by decide +kernel
theorem dL_law_1395 : decode cL_law 1395 = .ok (.iconst 0, 1) := by decide +kernel
theorem dL_law_1396 : decode cL_law 1396 = .ok (.ireturn, 1) := by decide +kernel
theorem dL_law_1397 : decode cL_law 1397 = .ok (.aload_n 1, 1) := by decide +kernel
theorem dL_law_1398 : decode cL_law 1398 = .ok (.aload_n 0, 1) := by decide +kernel
theorem dL_law_1399 : decode cL_law 1399 = .ok (.iload_n 3, 1) := by decide +kernel
theorem dL_law_1400 : decode cL_law 1400 = .ok (.iconst 1, 1) := by decide +kernel
theorem dL_law_1401 : decode cL_law 1401 = .ok (.iadd, 1) := by decide +kernel
theorem dL_law_1402 : decode cL_law 1402 = .ok (.iaload, 1) := by decide +kernel
theorem dL_law_1403 : decode cL_law 1403 = .ok (.ifCond .eq 7, 3) := by decide +kernel
theorem dL_law_1406 : decode cL_law 1406 = .ok (.iconst 1, 1) := by decide +kernel
theorem dL_law_1407 : decode cL_law 1407 = .ok (.goto 4, 3) := by decide +kernel
theorem dL_law_1410 : decode cL_law 1410 = .ok (.iconst 0, 1) := by decide +kernel
theorem dL_law_1411 : decode cL_law 1411 = .ok (.aload_n 0, 1) := by decide +kernel
theorem dL_law_1412 : decode cL_law 1412 = .ok (.iload_n 3, 1) := by decide +kernel
theorem dL_law_1413 : decode cL_law 1413 = .ok (.iconst 2, 1) := by decide +kernel
theorem dL_law_1414 : decode cL_law 1414 = .ok (.iadd, 1) := by decide +kernel
theorem dL_law_1415 : decode cL_law 1415 = .ok (.iaload, 1) := by decide +kernel
theorem dL_law_1416 : decode cL_law 1416 = .ok (.aload_n 0, 1) := by decide +kernel
theorem dL_law_1417 : decode cL_law 1417 = .ok (.iload_n 3, 1) := by decide +kernel
theorem dL_law_1418 : decode cL_law 1418 = .ok (.iconst 3, 1) := by decide +kernel
theorem dL_law_1419 : decode cL_law 1419 = .ok (.iadd, 1) := by decide +kernel
theorem dL_law_1420 : decode cL_law 1420 = .ok (.iaload, 1) := by decide +kernel
theorem dL_law_1421 : decode cL_law 1421 = .ok (.invokevirtual 172, 3) := by decide +kernel
theorem dL_law_1424 : decode cL_law 1424 = .ok (.aload_n 2, 1) := by decide +kernel
theorem dL_law_1425 : decode cL_law 1425 = .ok (.aload_n 0, 1) := by decide +kernel
theorem dL_law_1426 : decode cL_law 1426 = .ok (.iload_n 3, 1) := by decide +kernel
theorem dL_law_1427 : decode cL_law 1427 = .ok (.iconst 1, 1) := by decide +kernel
theorem dL_law_1428 : decode cL_law 1428 = .ok (.iadd, 1) := by decide +kernel
theorem dL_law_1429 : decode cL_law 1429 = .ok (.iaload, 1) := by decide +kernel
theorem dL_law_1430 : decode cL_law 1430 = .ok (.ifCond .eq 7, 3) := by decide +kernel
theorem dL_law_1433 : decode cL_law 1433 = .ok (.iconst 1, 1) := by decide +kernel
theorem dL_law_1434 : decode cL_law 1434 = .ok (.goto 4, 3) := by decide +kernel
theorem dL_law_1437 : decode cL_law 1437 = .ok (.iconst 0, 1) := by decide +kernel
theorem dL_law_1438 : decode cL_law 1438 = .ok (.aload_n 0, 1) := by decide +kernel
theorem dL_law_1439 : decode cL_law 1439 = .ok (.iload_n 3, 1) := by decide +kernel
theorem dL_law_1440 : decode cL_law 1440 = .ok (.iconst 2, 1) := by decide +kernel
theorem dL_law_1441 : decode cL_law 1441 = .ok (.iadd, 1) := by decide +kernel
theorem dL_law_1442 : decode cL_law 1442 = .ok (.iaload, 1) := by decide +kernel
theorem dL_law_1443 : decode cL_law 1443 = .ok (.aload_n 0, 1) := by decide +kernel
theorem dL_law_1444 : decode cL_law 1444 = .ok (.iload_n 3, 1) := by decide +kernel
theorem dL_law_1445 : decode cL_law 1445 = .ok (.iconst 3, 1) := by decide +kernel
theorem dL_law_1446 : decode cL_law 1446 = .ok (.iadd, 1) := by decide +kernel
theorem dL_law_1447 : decode cL_law 1447 = .ok (.iaload, 1) := by decide +kernel
theorem dL_law_1448 : decode cL_law 1448 = .ok (.invokevirtual 176, 3) := by decide +kernel
theorem dL_law_1451 : decode cL_law 1451 = .ok (.if_icmp .eq 54, 3) := by decide +kernel
theorem dL_law_1454 : decode cL_law 1454 = .ok (.iconst 0, 1) := by decide +kernel
theorem dL_law_1455 : decode cL_law 1455 = .ok (.ireturn, 1) := by decide +kernel
theorem dL_law_1456 : decode cL_law 1456 = .ok (.aload_n 1, 1) := by decide +kernel
theorem dL_law_1457 : decode cL_law 1457 = .ok (.invokevirtual 177, 3) := by decide +kernel
theorem dL_law_1460 : decode cL_law 1460 = .ok (.aload_n 2, 1) := by decide +kernel
theorem dL_law_1461 : decode cL_law 1461 = .ok (.invokevirtual 180, 3) := by decide +kernel
theorem dL_law_1464 : decode cL_law 1464 = .ok (.if_icmp .eq 41, 3) := by decide +kernel
theorem dL_law_1467 : decode cL_law 1467 = .ok (.iconst 0, 1) := by decide +kernel
theorem dL_law_1468 : decode cL_law 1468 = .ok (.ireturn, 1) := by decide +kernel
theorem dL_law_1469 : decode cL_law 1469 = .ok (.aload_n 1, 1) := by decide +kernel
theorem dL_law_1470 : decode cL_law 1470 = .ok (.aload_n 0, 1) := by decide +kernel
theorem dL_law_1471 : decode cL_law 1471 = .ok (.iload_n 3, 1) := by decide +kernel
theorem dL_law_1472 : decode cL_law 1472 = .ok (.iconst 1, 1) := by decide +kernel
theorem dL_law_1473 : decode cL_law 1473 = .ok (.iadd, 1) := by decide +kernel
theorem dL_law_1474 : decode cL_law 1474 = .ok (.iaload, 1) := by decide +kernel
theorem dL_law_1475 : decode cL_law 1475 = .ok (.invokevirtual 181, 3) := by decide +kernel
theorem dL_law_1478 : decode cL_law 1478 = .ok (.aload_n 2, 1) := by decide +kernel
theorem dL_law_1479 : decode cL_law 1479 = .ok (.aload_n 0, 1) := by decide +kernel
theorem dL_law_1480 : decode cL_law 1480 = .ok (.iload_n 3, 1) := by decide +kernel
theorem dL_law_1481 : decode cL_law 1481 = .ok (.iconst 1, 1) := by decide +kernel
theorem dL_law_1482 : decode cL_law 1482 = .ok (.iadd, 1) := by decide +kernel
theorem dL_law_1483 : decode cL_law 1483 = .ok (.iaload, 1) := by decide +kernel
theorem dL_law_1484 : decode cL_law 1484 = .ok (.invokevirtual 184, 3) := by decide +kernel
theorem dL_law_1487 : decode cL_law 1487 = .ok (.if_icmp .eq 18, 3) := by decide +kernel
theorem dL_law_1490 : decode cL_law 1490 = .ok (.iconst 0, 1) := by decide +kernel
theorem dL_law_1491 : decode cL_law 1491 = .ok (.ireturn, 1) := by decide +kernel
theorem dL_law_1492 : decode cL_law 1492 = .ok (.aload_n 1, 1) := by decide +kernel
theorem dL_law_1493 : decode cL_law 1493 = .ok (.invokevirtual 185, 3) := by decide +kernel
theorem dL_law_1496 : decode cL_law 1496 = .ok (.aload_n 2, 1) := by decide +kernel
theorem dL_law_1497 : decode cL_law 1497 = .ok (.invokevirtual 188, 3) := by decide +kernel
theorem dL_law_1500 : decode cL_law 1500 = .ok (.if_icmp .eq 5, 3) := by decide +kernel
theorem dL_law_1503 : decode cL_law 1503 = .ok (.iconst 0, 1) := by decide +kernel
theorem dL_law_1504 : decode cL_law 1504 = .ok (.ireturn, 1) := by decide +kernel
theorem dL_law_1505 : decode cL_law 1505 = .ok (.iinc 3 6, 3) := by decide +kernel
theorem dL_law_1508 : decode cL_law 1508 = .ok (.goto (-1490), 3) := by decide +kernel
theorem dL_law_1511 : decode cL_law 1511 = .ok (.iconst 1, 1) := by decide +kernel
theorem dL_law_1512 : decode cL_law 1512 = .ok (.ireturn, 1) := by decide +kernel
