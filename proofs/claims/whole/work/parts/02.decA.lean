theorem dX0_init_0 : decode cX0_init 0 = .ok (.aload_n 0, 1) := by decide +kernel
theorem dX0_init_1 : decode cX0_init 1 = .ok (.invokespecial 3, 3) := by decide +kernel
theorem dX0_init_4 : decode cX0_init 4 = .ok (.aload_n 0, 1) := by decide +kernel
theorem dX0_init_5 : decode cX0_init 5 = .ok (.bipush 40, 2) := by decide +kernel
theorem dX0_init_7 : decode cX0_init 7 = .ok (.putfield 9, 3) := by decide +kernel
theorem dX0_init_10 : decode cX0_init 10 = .ok (.aload_n 0, 1) := by decide +kernel
theorem dX0_init_11 : decode cX0_init 11 = .ok (.bipush 40, 2) := by decide +kernel
theorem dX0_init_13 : decode cX0_init 13 = .ok (.putfield 15, 3) := by decide +kernel
theorem dX0_init_16 : decode cX0_init 16 = .ok (.aload_n 0, 1) := by decide +kernel
theorem dX0_init_17 : decode cX0_init 17 = .ok (.bipush 20, 2) := by decide +kernel
theorem dX0_init_19 : decode cX0_init 19 = .ok (.putfield 18, 3) := by decide +kernel
theorem dX0_init_22 : decode cX0_init 22 = .ok (.aload_n 0, 1) := by decide +kernel
theorem dX0_init_23 : decode cX0_init 23 = .ok (.bipush 32, 2) := by decide +kernel
theorem dX0_init_25 : decode cX0_init 25 = .ok (.newarray .int, 2) := by decide +kernel
theorem dX0_init_27 : decode cX0_init 27 = .ok (.putfield 21, 3) := by decide +kernel
theorem dX0_init_30 : decode cX0_init 30 = .ok (.aload_n 0, 1) := by decide +kernel
theorem dX0_init_31 : decode cX0_init 31 = .ok (.bipush 32, 2) := by decide +kernel
theorem dX0_init_33 : decode cX0_init 33 = .ok (.newarray .int, 2) := by decide +kernel
theorem dX0_init_35 : decode cX0_init 35 = .ok (.putfield 25, 3) := by decide +kernel
theorem dX0_init_38 : decode cX0_init 38 = .ok (.aload_n 0, 1) := by decide +kernel
theorem dX0_init_39 : decode cX0_init 39 = .ok (.bipush 32, 2) := by decide +kernel
theorem dX0_init_41 : decode cX0_init 41 = .ok (.anewarray 28, 3) := by decide +kernel
theorem dX0_init_44 : decode cX0_init 44 = .ok (.putfield 30, 3) := by decide +kernel
theorem dX0_init_47 : decode cX0_init 47 = .ok (.iconst 0, 1) := by decide +kernel
theorem dX0_init_48 : decode cX0_init 48 = .ok (.istore_n 1, 1) := by decide +kernel
theorem dX0_init_49 : decode cX0_init 49 = .ok (.iload_n 1, 1) := by decide +kernel
theorem dX0_init_50 : decode cX0_init 50 = .ok (.bipush 32, 2) := by decide +kernel
theorem dX0_init_52 : decode cX0_init 52 = .ok (.if_icmp .ge 22, 3) := by decide +kernel
theorem dX0_init_55 : decode cX0_init 55 = .ok (.aload_n 0, 1) := by decide +kernel
theorem dX0_init_56 : decode cX0_init 56 = .ok (.getfield 30, 3) := by decide +kernel
theorem dX0_init_59 : decode cX0_init 59 = .ok (.iload_n 1, 1) := by decide +kernel
theorem dX0_init_60 : decode cX0_init 60 = .ok (.new 28, 3) := by decide +kernel
theorem dX0_init_63 : decode cX0_init 63 = .ok (.dup, 1) := by decide +kernel
theorem dX0_init_64 : decode cX0_init 64 = .ok (.invokespecial 34, 3) := by decide +kernel
theorem dX0_init_67 : decode cX0_init 67 = .ok (.aastore, 1) := by decide +kernel
theorem dX0_init_68 : decode cX0_init 68 = .ok (.iinc 1 1, 3) := by decide +kernel
theorem dX0_init_71 : decode cX0_init 71 = .ok (.goto (-22), 3) := by decide +kernel
theorem dX0_init_74 : decode cX0_init 74 = .ok (.return_, 1) := by decide +kernel
theorem dX0_clear_0 : decode cX0_clear 0 = .ok (.aload_n 0, 1) := by decide +kernel
theorem dX0_clear_1 : decode cX0_clear 1 = .ok (.iconst 0, 1) := by decide +kernel
theorem dX0_clear_2 : decode cX0_clear 2 = .ok (.putfield 35, 3) := by decide +kernel
theorem dX0_clear_5 : decode cX0_clear 5 = .ok (.aload_n 0, 1) := by decide +kernel
theorem dX0_clear_6 : decode cX0_clear 6 = .ok (.iconst 0, 1) := by decide +kernel
theorem dX0_clear_7 : decode cX0_clear 7 = .ok (.putfield 38, 3) := by decide +kernel
theorem dX0_clear_10 : decode cX0_clear 10 = .ok (.aload_n 0, 1) := by decide +kernel
theorem dX0_clear_11 : decode cX0_clear 11 = .ok (.iconst 0, 1) := by decide +kernel
theorem dX0_clear_12 : decode cX0_clear 12 = .ok (.putfield 41, 3) := by decide +kernel
theorem dX0_clear_15 : decode cX0_clear 15 = .ok (.iconst 0, 1) := by decide +kernel
theorem dX0_clear_16 : decode cX0_clear 16 = .ok (.istore_n 1, 1) := by decide +kernel
theorem dX0_clear_17 : decode cX0_clear 17 = .ok (.iload_n 1, 1) := by decide +kernel
theorem dX0_clear_18 : decode cX0_clear 18 = .ok (.bipush 32, 2) := by decide +kernel
theorem dX0_clear_20 : decode cX0_clear 20 = .ok (.if_icmp .ge 27, 3) := by decide +kernel
theorem dX0_clear_23 : decode cX0_clear 23 = .ok (.aload_n 0, 1) := by decide +kernel
theorem dX0_clear_24 : decode cX0_clear 24 = .ok (.getfield 30, 3) := by decide +kernel
theorem dX0_clear_27 : decode cX0_clear 27 = .ok (.iload_n 1, 1) := by decide +kernel
theorem dX0_clear_28 : decode cX0_clear 28 = .ok (.aaload, 1) := by decide +kernel
theorem dX0_clear_29 : decode cX0_clear 29 = .ok (.ifnull 12, 3) := by decide +kernel
theorem dX0_clear_32 : decode cX0_clear 32 = .ok (.aload_n 0, 1) := by decide +kernel
theorem dX0_clear_33 : decode cX0_clear 33 = .ok (.getfield 30, 3) := by decide +kernel
theorem dX0_clear_36 : decode cX0_clear 36 = .ok (.iload_n 1, 1) := by decide +kernel
theorem dX0_clear_37 : decode cX0_clear 37 = .ok (.aaload, 1) := by decide +kernel
theorem dX0_clear_38 : decode cX0_clear 38 = .ok (.invokevirtual 44, 3) := by decide +kernel
theorem dX0_clear_41 : decode cX0_clear 41 = .ok (.iinc 1 1, 3) := by decide +kernel
theorem dX0_clear_44 : decode cX0_clear 44 = .ok (.goto (-27), 3) := by decide +kernel
theorem dX0_clear_47 : decode cX0_clear 47 = .ok (.return_, 1) := by decide +kernel
theorem dX0_copyFrom_0 : decode cX0_copyFrom 0 = .ok (.aload_n 0, 1) := by decide +kernel
theorem dX0_copyFrom_1 : decode cX0_copyFrom 1 = .ok (.aload_n 1, 1) := by decide +kernel
theorem dX0_copyFrom_2 : decode cX0_copyFrom 2 = .ok (.getfield 9, 3) := by decide +kernel
theorem dX0_copyFrom_5 : decode cX0_copyFrom 5 = .ok (.putfield 9, 3) := by decide +kernel
theorem dX0_copyFrom_8 : decode cX0_copyFrom 8 = .ok (.aload_n 0, 1) := by decide +kernel
theorem dX0_copyFrom_9 : decode cX0_copyFrom 9 = .ok (.aload_n 1, 1) := by decide +kernel
theorem dX0_copyFrom_10 : decode cX0_copyFrom 10 = .ok (.getfield 15, 3) := by decide +kernel
theorem dX0_copyFrom_13 : decode cX0_copyFrom 13 = .ok (.putfield 15, 3) := by decide +kernel
theorem dX0_copyFrom_16 : decode cX0_copyFrom 16 = .ok (.aload_n 0, 1) := by decide +kernel
theorem dX0_copyFrom_17 : decode cX0_copyFrom 17 = .ok (.aload_n 1, 1) := by decide +kernel
theorem dX0_copyFrom_18 : decode cX0_copyFrom 18 = .ok (.getfield 18, 3) := by decide +kernel
theorem dX0_copyFrom_21 : decode cX0_copyFrom 21 = .ok (.putfield 18, 3) := by decide +kernel
theorem dX0_copyFrom_24 : decode cX0_copyFrom 24 = .ok (.aload_n 0, 1) := by decide +kernel
theorem dX0_copyFrom_25 : decode cX0_copyFrom 25 = .ok (.aload_n 1, 1) := by decide +kernel
theorem dX0_copyFrom_26 : decode cX0_copyFrom 26 = .ok (.getfield 35, 3) := by decide +kernel
theorem dX0_copyFrom_29 : decode cX0_copyFrom 29 = .ok (.putfield 35, 3) := by decide +kernel
theorem dX0_copyFrom_32 : decode cX0_copyFrom 32 = .ok (.aload_n 0, 1) := by decide +kernel
theorem dX0_copyFrom_33 : decode cX0_copyFrom 33 = .ok (.aload_n 1, 1) := by decide +kernel
theorem dX0_copyFrom_34 : decode cX0_copyFrom 34 = .ok (.getfield 38, 3) := by decide +kernel
theorem dX0_copyFrom_37 : decode cX0_copyFrom 37 = .ok (.putfield 38, 3) := by decide +kernel
theorem dX0_copyFrom_40 : decode cX0_copyFrom 40 = .ok (.aload_n 0, 1) := by decide +kernel
theorem dX0_copyFrom_41 : decode cX0_copyFrom 41 = .ok (.aload_n 1, 1) := by decide +kernel
theorem dX0_copyFrom_42 : decode cX0_copyFrom 42 = .ok (.getfield 41, 3) := by decide +kernel
theorem dX0_copyFrom_45 : decode cX0_copyFrom 45 = .ok (.putfield 41, 3) := by decide +kernel
theorem dX0_copyFrom_48 : decode cX0_copyFrom 48 = .ok (.iconst 0, 1) := by decide +kernel
theorem dX0_copyFrom_49 : decode cX0_copyFrom 49 = .ok (.istore_n 2, 1) := by decide +kernel
theorem dX0_copyFrom_50 : decode cX0_copyFrom 50 = .ok (.iload_n 2, 1) := by decide +kernel
theorem dX0_copyFrom_51 : decode cX0_copyFrom 51 = .ok (.bipush 32, 2) := by decide +kernel
theorem dX0_copyFrom_53 : decode cX0_copyFrom 53 = .ok (.if_icmp .ge 54, 3) := by decide +kernel
theorem dX0_copyFrom_56 : decode cX0_copyFrom 56 = .ok (.aload_n 0, 1) := by decide +kernel
theorem dX0_copyFrom_57 : decode cX0_copyFrom 57 = .ok (.getfield 21, 3) := by decide +kernel
theorem dX0_copyFrom_60 : decode cX0_copyFrom 60 = .ok (.iload_n 2, 1) := by decide +kernel
theorem dX0_copyFrom_61 : decode cX0_copyFrom 61 = .ok (.aload_n 1, 1) := by decide +kernel
theorem dX0_copyFrom_62 : decode cX0_copyFrom 62 = .ok (.getfield 21, 3) := by decide +kernel
theorem dX0_copyFrom_65 : decode cX0_copyFrom 65 = .ok (.iload_n 2, 1) := by decide +kernel
theorem dX0_copyFrom_66 : decode cX0_copyFrom 66 = .ok (.iaload, 1) := by decide +kernel
theorem dX0_copyFrom_67 : decode cX0_copyFrom 67 = .ok (.iastore, 1) := by decide +kernel
theorem dX0_copyFrom_68 : decode cX0_copyFrom 68 = .ok (.aload_n 0, 1) := by decide +kernel
theorem dX0_copyFrom_69 : decode cX0_copyFrom 69 = .ok (.getfield 30, 3) := by decide +kernel
theorem dX0_copyFrom_72 : decode cX0_copyFrom 72 = .ok (.iload_n 2, 1) := by decide +kernel
theorem dX0_copyFrom_73 : decode cX0_copyFrom 73 = .ok (.aaload, 1) := by decide +kernel
theorem dX0_copyFrom_74 : decode cX0_copyFrom 74 = .ok (.ifnull 27, 3) := by decide +kernel
theorem dX0_copyFrom_77 : decode cX0_copyFrom 77 = .ok (.aload_n 1, 1) := by decide +kernel
theorem dX0_copyFrom_78 : decode cX0_copyFrom 78 = .ok (.getfield 30, 3) := by decide +kernel
theorem dX0_copyFrom_81 : decode cX0_copyFrom 81 = .ok (.iload_n 2, 1) := by decide +kernel
theorem dX0_copyFrom_82 : decode cX0_copyFrom 82 = .ok (.aaload, 1) := by decide +kernel
theorem dX0_copyFrom_83 : decode cX0_copyFrom 83 = .ok (.ifnull 18, 3) := by decide +kernel
theorem dX0_copyFrom_86 : decode cX0_copyFrom 86 = .ok (.aload_n 0, 1) := by decide +kernel
theorem dX0_copyFrom_87 : decode cX0_copyFrom 87 = .ok (.getfield 30, 3) := by decide +kernel
theorem dX0_copyFrom_90 : decode cX0_copyFrom 90 = .ok (.iload_n 2, 1) := by decide +kernel
theorem dX0_copyFrom_91 : decode cX0_copyFrom 91 = .ok (.aaload, 1) := by decide +kernel
theorem dX0_copyFrom_92 : decode cX0_copyFrom 92 = .ok (.aload_n 1, 1) := by decide +kernel
theorem dX0_copyFrom_93 : decode cX0_copyFrom 93 = .ok (.getfield 30, 3) := by decide +kernel
theorem dX0_copyFrom_96 : decode cX0_copyFrom 96 = .ok (.iload_n 2, 1) := by decide +kernel
theorem dX0_copyFrom_97 : decode cX0_copyFrom 97 = .ok (.aaload, 1) := by decide +kernel
theorem dX0_copyFrom_98 : decode cX0_copyFrom 98 = .ok (.invokevirtual 47, 3) := by decide +kernel
theorem dX0_copyFrom_101 : decode cX0_copyFrom 101 = .ok (.iinc 2 1, 3) := by decide +kernel
theorem dX0_copyFrom_104 : decode cX0_copyFrom 104 = .ok (.goto (-54), 3) := by decide +kernel
theorem dX0_copyFrom_107 : decode cX0_copyFrom 107 = .ok (.return_, 1) := by decide +kernel
theorem dX0_find_0 : decode cX0_find 0 = .ok (.iload_n 1, 1) := by decide +kernel
theorem dX0_find_1 : decode cX0_find 1 = .ok (.ifCond .lt 9, 3) := by decide +kernel
theorem dX0_find_4 : decode cX0_find 4 = .ok (.iload_n 1, 1) := by decide +kernel
theorem dX0_find_5 : decode cX0_find 5 = .ok (.bipush 32, 2) := by decide +kernel
theorem dX0_find_7 : decode cX0_find 7 = .ok (.if_icmp .lt 5, 3) := by decide +kernel
theorem dX0_find_10 : decode cX0_find 10 = .ok (.aconst_null, 1) := by decide +kernel
theorem dX0_find_11 : decode cX0_find 11 = .ok (.areturn, 1) := by decide +kernel
theorem dX0_find_12 : decode cX0_find 12 = .ok (.aload_n 0, 1) := by decide +kernel
theorem dX0_find_13 : decode cX0_find 13 = .ok (.getfield 30, 3) := by decide +kernel
theorem dX0_find_16 : decode cX0_find 16 = .ok (.iload_n 1, 1) := by decide +kernel
theorem dX0_find_17 : decode cX0_find 17 = .ok (.aaload, 1) := by decide +kernel
theorem dX0_find_18 : decode cX0_find 18 = .ok (.astore_n 2, 1) := by decide +kernel
theorem dX0_find_19 : decode cX0_find 19 = .ok (.aload_n 2, 1) := by decide +kernel
theorem dX0_find_20 : decode cX0_find 20 = .ok (.ifnull 14, 3) := by decide +kernel
theorem dX0_find_23 : decode cX0_find 23 = .ok (.aload_n 2, 1) := by decide +kernel
theorem dX0_find_24 : decode cX0_find 24 = .ok (.getfield 51, 3) := by decide +kernel
theorem dX0_find_27 : decode cX0_find 27 = .ok (.ifCond .eq 7, 3) := by decide +kernel
theorem dX0_find_30 : decode cX0_find 30 = .ok (.aload_n 2, 1) := by decide +kernel
theorem dX0_find_31 : decode cX0_find 31 = .ok (.goto 4, 3) := by decide +kernel
theorem dX0_find_34 : decode cX0_find 34 = .ok (.aconst_null, 1) := by decide +kernel
theorem dX0_find_35 : decode cX0_find 35 = .ok (.areturn, 1) := by decide +kernel
theorem dX0_findField_0 : decode cX0_findField 0 = .ok (.iload_n 1, 1) := by decide +kernel
theorem dX0_findField_1 : decode cX0_findField 1 = .ok (.bipush 24, 2) := by decide +kernel
theorem dX0_findField_3 : decode cX0_findField 3 = .ok (.if_icmp .ge 11, 3) := by decide +kernel
theorem dX0_findField_6 : decode cX0_findField 6 = .ok (.aload_n 0, 1) := by decide +kernel
theorem dX0_findField_7 : decode cX0_findField 7 = .ok (.iload_n 1, 1) := by decide +kernel
theorem dX0_findField_8 : decode cX0_findField 8 = .ok (.invokevirtual 55, 3) := by decide +kernel
theorem dX0_findField_11 : decode cX0_findField 11 = .ok (.goto 4, 3) := by decide +kernel
theorem dX0_findField_14 : decode cX0_findField 14 = .ok (.aconst_null, 1) := by decide +kernel
theorem dX0_findField_15 : decode cX0_findField 15 = .ok (.areturn, 1) := by decide +kernel
theorem dX0_findGroup_0 : decode cX0_findGroup 0 = .ok (.iload_n 1, 1) := by decide +kernel
theorem dX0_findGroup_1 : decode cX0_findGroup 1 = .ok (.ifCond .lt 9, 3) := by decide +kernel
theorem dX0_findGroup_4 : decode cX0_findGroup 4 = .ok (.iload_n 1, 1) := by decide +kernel
theorem dX0_findGroup_5 : decode cX0_findGroup 5 = .ok (.bipush 8, 2) := by decide +kernel
theorem dX0_findGroup_7 : decode cX0_findGroup 7 = .ok (.if_icmp .lt 5, 3) := by decide +kernel
theorem dX0_findGroup_10 : decode cX0_findGroup 10 = .ok (.aconst_null, 1) := by decide +kernel
theorem dX0_findGroup_11 : decode cX0_findGroup 11 = .ok (.areturn, 1) := by decide +kernel
theorem dX0_findGroup_12 : decode cX0_findGroup 12 = .ok (.aload_n 0, 1) := by decide +kernel
theorem dX0_findGroup_13 : decode cX0_findGroup 13 = .ok (.getfield 30, 3) := by decide +kernel
theorem dX0_findGroup_16 : decode cX0_findGroup 16 = .ok (.bipush 24, 2) := by decide +kernel
theorem dX0_findGroup_18 : decode cX0_findGroup 18 = .ok (.iload_n 1, 1) := by decide +kernel
theorem dX0_findGroup_19 : decode cX0_findGroup 19 = .ok (.iadd, 1) := by decide +kernel
theorem dX0_findGroup_20 : decode cX0_findGroup 20 = .ok (.aaload, 1) := by decide +kernel
theorem dX0_findGroup_21 : decode cX0_findGroup 21 = .ok (.astore_n 2, 1) := by decide +kernel
theorem dX0_findGroup_22 : decode cX0_findGroup 22 = .ok (.aload_n 2, 1) := by decide +kernel
theorem dX0_findGroup_23 : decode cX0_findGroup 23 = .ok (.ifnull 14, 3) := by decide +kernel
theorem dX0_findGroup_26 : decode cX0_findGroup 26 = .ok (.aload_n 2, 1) := by decide +kernel
theorem dX0_findGroup_27 : decode cX0_findGroup 27 = .ok (.getfield 51, 3) := by decide +kernel
theorem dX0_findGroup_30 : decode cX0_findGroup 30 = .ok (.ifCond .eq 7, 3) := by decide +kernel
theorem dX0_findGroup_33 : decode cX0_findGroup 33 = .ok (.aload_n 2, 1) := by decide +kernel
theorem dX0_findGroup_34 : decode cX0_findGroup 34 = .ok (.goto 4, 3) := by decide +kernel
theorem dX0_findGroup_37 : decode cX0_findGroup 37 = .ok (.aconst_null, 1) := by decide +kernel
theorem dX0_findGroup_38 : decode cX0_findGroup 38 = .ok (.areturn, 1) := by decide +kernel
theorem dX0_takesGroup_0 : decode cX0_takesGroup 0 = .ok (.iload_n 1, 1) := by decide +kernel
theorem dX0_takesGroup_1 : decode cX0_takesGroup 1 = .ok (.bipush (-2), 2) := by decide +kernel
theorem dX0_takesGroup_3 : decode cX0_takesGroup 3 = .ok (.if_icmp .eq 11, 3) := by decide +kernel
theorem dX0_takesGroup_6 : decode cX0_takesGroup 6 = .ok (.aload_n 0, 1) := by decide +kernel
theorem dX0_takesGroup_7 : decode cX0_takesGroup 7 = .ok (.iload_n 1, 1) := by decide +kernel
theorem dX0_takesGroup_8 : decode cX0_takesGroup 8 = .ok (.invokevirtual 59, 3) := by decide +kernel
theorem dX0_takesGroup_11 : decode cX0_takesGroup 11 = .ok (.ifnull 7, 3) := by decide +kernel
theorem dX0_takesGroup_14 : decode cX0_takesGroup 14 = .ok (.iconst 1, 1) := by decide +kernel
theorem dX0_takesGroup_15 : decode cX0_takesGroup 15 = .ok (.goto 4, 3) := by decide +kernel
theorem dX0_takesGroup_18 : decode cX0_takesGroup 18 = .ok (.iconst 0, 1) := by decide +kernel
theorem dX0_takesGroup_19 : decode cX0_takesGroup 19 = .ok (.ireturn, 1) := by decide +kernel
theorem dX0_findName_0 : decode cX0_findName 0 = .ok (.iconst 0, 1) := by decide +kernel
theorem dX0_findName_1 : decode cX0_findName 1 = .ok (.istore_n 3, 1) := by decide +kernel
theorem dX0_findName_2 : decode cX0_findName 2 = .ok (.iload_n 3, 1) := by decide +kernel
theorem dX0_findName_3 : decode cX0_findName 3 = .ok (.bipush 32, 2) := by decide +kernel
theorem dX0_findName_5 : decode cX0_findName 5 = .ok (.if_icmp .ge 33, 3) := by decide +kernel
theorem dX0_findName_8 : decode cX0_findName 8 = .ok (.aload_n 0, 1) := by decide +kernel
theorem dX0_findName_9 : decode cX0_findName 9 = .ok (.iload_n 3, 1) := by decide +kernel
theorem dX0_findName_10 : decode cX0_findName 10 = .ok (.invokevirtual 55, 3) := by decide +kernel
theorem dX0_findName_13 : decode cX0_findName 13 = .ok (.astore 4, 2) := by decide +kernel
theorem dX0_findName_15 : decode cX0_findName 15 = .ok (.aload 4, 2) := by decide +kernel
theorem dX0_findName_17 : decode cX0_findName 17 = .ok (.ifnull 15, 3) := by decide +kernel
theorem dX0_findName_20 : decode cX0_findName 20 = .ok (.aload 4, 2) := by decide +kernel
theorem dX0_findName_22 : decode cX0_findName 22 = .ok (.getfield 62, 3) := by decide +kernel
theorem dX0_findName_25 : decode cX0_findName 25 = .ok (.lload_n 1, 1) := by decide +kernel
theorem dX0_findName_26 : decode cX0_findName 26 = .ok (.lcmp, 1) := by decide +kernel
theorem dX0_findName_27 : decode cX0_findName 27 = .ok (.ifCond .ne 5, 3) := by decide +kernel
theorem dX0_findName_30 : decode cX0_findName 30 = .ok (.iload_n 3, 1) := by decide +kernel
theorem dX0_findName_31 : decode cX0_findName 31 = .ok (.ireturn, 1) := by decide +kernel
theorem dX0_findName_32 : decode cX0_findName 32 = .ok (.iinc 3 1, 3) := by decide +kernel
theorem dX0_findName_35 : decode cX0_findName 35 = .ok (.goto (-33), 3) := by decide +kernel
theorem dX0_findName_38 : decode cX0_findName 38 = .ok (.bipush (-2), 2) := by decide +kernel
theorem dX0_findName_40 : decode cX0_findName 40 = .ok (.ireturn, 1) := by decide +kernel
theorem dX0_conditions_0 : decode cX0_conditions 0 = .ok (.iconst 0, 1) := by decide +kernel
theorem dX0_conditions_1 : decode cX0_conditions 1 = .ok (.istore_n 1, 1) := by decide +kernel
theorem dX0_conditions_2 : decode cX0_conditions 2 = .ok (.iconst 0, 1) := by decide +kernel
theorem dX0_conditions_3 : decode cX0_conditions 3 = .ok (.istore_n 2, 1) := by decide +kernel
theorem dX0_conditions_4 : decode cX0_conditions 4 = .ok (.iload_n 2, 1) := by decide +kernel
theorem dX0_conditions_5 : decode cX0_conditions 5 = .ok (.bipush 32, 2) := by decide +kernel
theorem dX0_conditions_7 : decode cX0_conditions 7 = .ok (.if_icmp .ge 29, 3) := by decide +kernel
theorem dX0_conditions_10 : decode cX0_conditions 10 = .ok (.aload_n 0, 1) := by decide +kernel
theorem dX0_conditions_11 : decode cX0_conditions 11 = .ok (.iload_n 2, 1) := by decide +kernel
theorem dX0_conditions_12 : decode cX0_conditions 12 = .ok (.invokevirtual 55, 3) := by decide +kernel
theorem dX0_conditions_15 : decode cX0_conditions 15 = .ok (.astore_n 3, 1) := by decide +kernel
theorem dX0_conditions_16 : decode cX0_conditions 16 = .ok (.aload_n 3, 1) := by decide +kernel
theorem dX0_conditions_17 : decode cX0_conditions 17 = .ok (.ifnull 13, 3) := by decide +kernel
theorem dX0_conditions_20 : decode cX0_conditions 20 = .ok (.aload_n 3, 1) := by decide +kernel
theorem dX0_conditions_21 : decode cX0_conditions 21 = .ok (.getfield 66, 3) := by decide +kernel
theorem dX0_conditions_24 : decode cX0_conditions 24 = .ok (.ifnull 6, 3) := by decide +kernel
theorem dX0_conditions_27 : decode cX0_conditions 27 = .ok (.iinc 1 1, 3) := by decide +kernel
theorem dX0_conditions_30 : decode cX0_conditions 30 = .ok (.iinc 2 1, 3) := by decide +kernel
theorem dX0_conditions_33 : decode cX0_conditions 33 = .ok (.goto (-29), 3) := by decide +kernel
theorem dX0_conditions_36 : decode cX0_conditions 36 = .ok (.iload_n 1, 1) := by decide +kernel
theorem dX0_conditions_37 : decode cX0_conditions 37 = .ok (.ireturn, 1) := by decide +kernel
theorem dX0_at_0 : decode cX0_at 0 = .ok (.iload_n 1, 1) := by decide +kernel
theorem dX0_at_1 : decode cX0_at 1 = .ok (.ifCond .lt 26, 3) := by decide +kernel
theorem dX0_at_4 : decode cX0_at 4 = .ok (.iload_n 1, 1) := by decide +kernel
theorem dX0_at_5 : decode cX0_at 5 = .ok (.aload_n 0, 1) := by decide +kernel
theorem dX0_at_6 : decode cX0_at 6 = .ok (.getfield 41, 3) := by decide +kernel
theorem dX0_at_9 : decode cX0_at 9 = .ok (.if_icmp .ge 18, 3) := by decide +kernel
theorem dX0_at_12 : decode cX0_at 12 = .ok (.iload_n 1, 1) := by decide +kernel
theorem dX0_at_13 : decode cX0_at 13 = .ok (.bipush 32, 2) := by decide +kernel
theorem dX0_at_15 : decode cX0_at 15 = .ok (.if_icmp .ge 12, 3) := by decide +kernel
theorem dX0_at_18 : decode cX0_at 18 = .ok (.aload_n 0, 1) := by decide +kernel
theorem dX0_at_19 : decode cX0_at 19 = .ok (.getfield 21, 3) := by decide +kernel
theorem dX0_at_22 : decode cX0_at 22 = .ok (.iload_n 1, 1) := by decide +kernel
theorem dX0_at_23 : decode cX0_at 23 = .ok (.iaload, 1) := by decide +kernel
theorem dX0_at_24 : decode cX0_at 24 = .ok (.goto 5, 3) := by decide +kernel
theorem dX0_at_27 : decode cX0_at 27 = .ok (.bipush (-2), 2) := by decide +kernel
theorem dX0_at_29 : decode cX0_at 29 = .ok (.ireturn, 1) := by decide +kernel
theorem dX0_put_0 : decode cX0_put 0 = .ok (.iload_n 1, 1) := by decide +kernel
theorem dX0_put_1 : decode cX0_put 1 = .ok (.ifCond .lt 16, 3) := by decide +kernel
theorem dX0_put_4 : decode cX0_put 4 = .ok (.iload_n 1, 1) := by decide +kernel
theorem dX0_put_5 : decode cX0_put 5 = .ok (.bipush 32, 2) := by decide +kernel
theorem dX0_put_7 : decode cX0_put 7 = .ok (.if_icmp .ge 10, 3) := by decide +kernel
theorem dX0_put_10 : decode cX0_put 10 = .ok (.aload_n 0, 1) := by decide +kernel
theorem dX0_put_11 : decode cX0_put 11 = .ok (.getfield 21, 3) := by decide +kernel
theorem dX0_put_14 : decode cX0_put 14 = .ok (.iload_n 1, 1) := by decide +kernel
theorem dX0_put_15 : decode cX0_put 15 = .ok (.iload_n 2, 1) := by decide +kernel
theorem dX0_put_16 : decode cX0_put 16 = .ok (.iastore, 1) := by decide +kernel
theorem dX0_put_17 : decode cX0_put 17 = .ok (.return_, 1) := by decide +kernel
theorem dX0_placeOf_0 : decode cX0_placeOf 0 = .ok (.iconst 0, 1) := by decide +kernel
theorem dX0_placeOf_1 : decode cX0_placeOf 1 = .ok (.istore_n 2, 1) := by decide +kernel
theorem dX0_placeOf_2 : decode cX0_placeOf 2 = .ok (.iload_n 2, 1) := by decide +kernel
theorem dX0_placeOf_3 : decode cX0_placeOf 3 = .ok (.aload_n 0, 1) := by decide +kernel
theorem dX0_placeOf_4 : decode cX0_placeOf 4 = .ok (.getfield 41, 3) := by decide +kernel
theorem dX0_placeOf_7 : decode cX0_placeOf 7 = .ok (.if_icmp .ge 20, 3) := by decide +kernel
theorem dX0_placeOf_10 : decode cX0_placeOf 10 = .ok (.aload_n 0, 1) := by decide +kernel
theorem dX0_placeOf_11 : decode cX0_placeOf 11 = .ok (.iload_n 2, 1) := by decide +kernel
theorem dX0_placeOf_12 : decode cX0_placeOf 12 = .ok (.invokevirtual 70, 3) := by decide +kernel
theorem dX0_placeOf_15 : decode cX0_placeOf 15 = .ok (.iload_n 1, 1) := by decide +kernel
theorem dX0_placeOf_16 : decode cX0_placeOf 16 = .ok (.if_icmp .ne 5, 3) := by decide +kernel
theorem dX0_placeOf_19 : decode cX0_placeOf 19 = .ok (.iload_n 2, 1) := by decide +kernel
theorem dX0_placeOf_20 : decode cX0_placeOf 20 = .ok (.ireturn, 1) := by decide +kernel
theorem dX0_placeOf_21 : decode cX0_placeOf 21 = .ok (.iinc 2 1, 3) := by decide +kernel
theorem dX0_placeOf_24 : decode cX0_placeOf 24 = .ok (.goto (-22), 3) := by decide +kernel
theorem dX0_placeOf_27 : decode cX0_placeOf 27 = .ok (.bipush (-2), 2) := by decide +kernel
theorem dX0_placeOf_29 : decode cX0_placeOf 29 = .ok (.ireturn, 1) := by decide +kernel
theorem dX0_levelOf_0 : decode cX0_levelOf 0 = .ok (.iconst 0, 1) := by decide +kernel
theorem dX0_levelOf_1 : decode cX0_levelOf 1 = .ok (.istore_n 2, 1) := by decide +kernel
theorem dX0_levelOf_2 : decode cX0_levelOf 2 = .ok (.aload_n 0, 1) := by decide +kernel
theorem dX0_levelOf_3 : decode cX0_levelOf 3 = .ok (.iload_n 1, 1) := by decide +kernel
theorem dX0_levelOf_4 : decode cX0_levelOf 4 = .ok (.invokevirtual 59, 3) := by decide +kernel
theorem dX0_levelOf_7 : decode cX0_levelOf 7 = .ok (.astore_n 3, 1) := by decide +kernel
theorem dX0_levelOf_8 : decode cX0_levelOf 8 = .ok (.iconst 0, 1) := by decide +kernel
theorem dX0_levelOf_9 : decode cX0_levelOf 9 = .ok (.istore 4, 2) := by decide +kernel
theorem dX0_levelOf_11 : decode cX0_levelOf 11 = .ok (.iload 4, 2) := by decide +kernel
theorem dX0_levelOf_13 : decode cX0_levelOf 13 = .ok (.bipush 8, 2) := by decide +kernel
theorem dX0_levelOf_15 : decode cX0_levelOf 15 = .ok (.if_icmp .ge 25, 3) := by decide +kernel
theorem dX0_levelOf_18 : decode cX0_levelOf 18 = .ok (.aload_n 3, 1) := by decide +kernel
theorem dX0_levelOf_19 : decode cX0_levelOf 19 = .ok (.ifnull 21, 3) := by decide +kernel
theorem dX0_levelOf_22 : decode cX0_levelOf 22 = .ok (.iinc 2 1, 3) := by decide +kernel
theorem dX0_levelOf_25 : decode cX0_levelOf 25 = .ok (.aload_n 0, 1) := by decide +kernel
theorem dX0_levelOf_26 : decode cX0_levelOf 26 = .ok (.aload_n 3, 1) := by decide +kernel
theorem dX0_levelOf_27 : decode cX0_levelOf 27 = .ok (.getfield 74, 3) := by decide +kernel
theorem dX0_levelOf_30 : decode cX0_levelOf 30 = .ok (.invokevirtual 59, 3) := by decide +kernel
theorem dX0_levelOf_33 : decode cX0_levelOf 33 = .ok (.astore_n 3, 1) := by decide +kernel
theorem dX0_levelOf_34 : decode cX0_levelOf 34 = .ok (.iinc 4 1, 3) := by decide +kernel
theorem dX0_levelOf_37 : decode cX0_levelOf 37 = .ok (.goto (-26), 3) := by decide +kernel
theorem dX0_levelOf_40 : decode cX0_levelOf 40 = .ok (.iload_n 2, 1) := by decide +kernel
theorem dX0_levelOf_41 : decode cX0_levelOf 41 = .ok (.ireturn, 1) := by decide +kernel
theorem dX0_isAround_0 : decode cX0_isAround 0 = .ok (.iload_n 2, 1) := by decide +kernel
theorem dX0_isAround_1 : decode cX0_isAround 1 = .ok (.istore_n 3, 1) := by decide +kernel
theorem dX0_isAround_2 : decode cX0_isAround 2 = .ok (.iconst 0, 1) := by decide +kernel
theorem dX0_isAround_3 : decode cX0_isAround 3 = .ok (.istore 4, 2) := by decide +kernel
theorem dX0_isAround_5 : decode cX0_isAround 5 = .ok (.iload 4, 2) := by decide +kernel
theorem dX0_isAround_7 : decode cX0_isAround 7 = .ok (.bipush 8, 2) := by decide +kernel
theorem dX0_isAround_9 : decode cX0_isAround 9 = .ok (.if_icmp .ge 39, 3) := by decide +kernel
theorem dX0_isAround_12 : decode cX0_isAround 12 = .ok (.aload_n 0, 1) := by decide +kernel
theorem dX0_isAround_13 : decode cX0_isAround 13 = .ok (.iload_n 3, 1) := by decide +kernel
theorem dX0_isAround_14 : decode cX0_isAround 14 = .ok (.invokevirtual 59, 3) := by decide +kernel
theorem dX0_isAround_17 : decode cX0_isAround 17 = .ok (.astore 5, 2) := by decide +kernel
theorem dX0_isAround_19 : decode cX0_isAround 19 = .ok (.aload 5, 2) := by decide +kernel
theorem dX0_isAround_21 : decode cX0_isAround 21 = .ok (.ifnonnull 5, 3) := by decide +kernel
theorem dX0_isAround_24 : decode cX0_isAround 24 = .ok (.iconst 0, 1) := by decide +kernel
theorem dX0_isAround_25 : decode cX0_isAround 25 = .ok (.ireturn, 1) := by decide +kernel
theorem dX0_isAround_26 : decode cX0_isAround 26 = .ok (.bipush 24, 2) := by decide +kernel
theorem dX0_isAround_28 : decode cX0_isAround 28 = .ok (.iload_n 3, 1) := by decide +kernel
theorem dX0_isAround_29 : decode cX0_isAround 29 = .ok (.iadd, 1) := by decide +kernel
theorem dX0_isAround_30 : decode cX0_isAround 30 = .ok (.iload_n 1, 1) := by decide +kernel
theorem dX0_isAround_31 : decode cX0_isAround 31 = .ok (.if_icmp .ne 5, 3) := by decide +kernel
theorem dX0_isAround_34 : decode cX0_isAround 34 = .ok (.iconst 1, 1) := by decide +kernel
theorem dX0_isAround_35 : decode cX0_isAround 35 = .ok (.ireturn, 1) := by decide +kernel
theorem dX0_isAround_36 : decode cX0_isAround 36 = .ok (.aload 5, 2) := by decide +kernel
theorem dX0_isAround_38 : decode cX0_isAround 38 = .ok (.getfield 74, 3) := by decide +kernel
theorem dX0_isAround_41 : decode cX0_isAround 41 = .ok (.istore_n 3, 1) := by decide +kernel
theorem dX0_isAround_42 : decode cX0_isAround 42 = .ok (.iinc 4 1, 3) := by decide +kernel
theorem dX0_isAround_45 : decode cX0_isAround 45 = .ok (.goto (-40), 3) := by decide +kernel
theorem dX0_isAround_48 : decode cX0_isAround 48 = .ok (.iconst 0, 1) := by decide +kernel
theorem dX0_isAround_49 : decode cX0_isAround 49 = .ok (.ireturn, 1) := by decide +kernel
theorem dX0_endOf_0 : decode cX0_endOf 0 = .ok (.aload_n 0, 1) := by decide +kernel
theorem dX0_endOf_1 : decode cX0_endOf 1 = .ok (.iload_n 1, 1) := by decide +kernel
theorem dX0_endOf_2 : decode cX0_endOf 2 = .ok (.invokevirtual 55, 3) := by decide +kernel
theorem dX0_endOf_5 : decode cX0_endOf 5 = .ok (.astore_n 2, 1) := by decide +kernel
theorem dX0_endOf_6 : decode cX0_endOf 6 = .ok (.aload_n 2, 1) := by decide +kernel
theorem dX0_endOf_7 : decode cX0_endOf 7 = .ok (.ifnonnull 7, 3) := by decide +kernel
theorem dX0_endOf_10 : decode cX0_endOf 10 = .ok (.iconst 0, 1) := by decide +kernel
theorem dX0_endOf_11 : decode cX0_endOf 11 = .ok (.goto 11, 3) := by decide +kernel
theorem dX0_endOf_14 : decode cX0_endOf 14 = .ok (.aload_n 0, 1) := by decide +kernel
theorem dX0_endOf_15 : decode cX0_endOf 15 = .ok (.aload_n 2, 1) := by decide +kernel
theorem dX0_endOf_16 : decode cX0_endOf 16 = .ok (.getfield 74, 3) := by decide +kernel
theorem dX0_endOf_19 : decode cX0_endOf 19 = .ok (.invokevirtual 77, 3) := by decide +kernel
theorem dX0_endOf_22 : decode cX0_endOf 22 = .ok (.istore_n 3, 1) := by decide +kernel
theorem dX0_endOf_23 : decode cX0_endOf 23 = .ok (.aload_n 0, 1) := by decide +kernel
theorem dX0_endOf_24 : decode cX0_endOf 24 = .ok (.iload_n 1, 1) := by decide +kernel
theorem dX0_endOf_25 : decode cX0_endOf 25 = .ok (.invokevirtual 80, 3) := by decide +kernel
theorem dX0_endOf_28 : decode cX0_endOf 28 = .ok (.iconst 1, 1) := by decide +kernel
theorem dX0_endOf_29 : decode cX0_endOf 29 = .ok (.iadd, 1) := by decide +kernel
theorem dX0_endOf_30 : decode cX0_endOf 30 = .ok (.istore 4, 2) := by decide +kernel
theorem dX0_endOf_32 : decode cX0_endOf 32 = .ok (.iload 4, 2) := by decide +kernel
theorem dX0_endOf_34 : decode cX0_endOf 34 = .ok (.aload_n 0, 1) := by decide +kernel
theorem dX0_endOf_35 : decode cX0_endOf 35 = .ok (.getfield 41, 3) := by decide +kernel
theorem dX0_endOf_38 : decode cX0_endOf 38 = .ok (.if_icmp .ge 42, 3) := by decide +kernel
theorem dX0_endOf_41 : decode cX0_endOf 41 = .ok (.aload_n 0, 1) := by decide +kernel
theorem dX0_endOf_42 : decode cX0_endOf 42 = .ok (.aload_n 0, 1) := by decide +kernel
theorem dX0_endOf_43 : decode cX0_endOf 43 = .ok (.iload 4, 2) := by decide +kernel
theorem dX0_endOf_45 : decode cX0_endOf 45 = .ok (.invokevirtual 70, 3) := by decide +kernel
theorem dX0_endOf_48 : decode cX0_endOf 48 = .ok (.invokevirtual 55, 3) := by decide +kernel
theorem dX0_endOf_51 : decode cX0_endOf 51 = .ok (.astore 5, 2) := by decide +kernel
theorem dX0_endOf_53 : decode cX0_endOf 53 = .ok (.aload 5, 2) := by decide +kernel
theorem dX0_endOf_55 : decode cX0_endOf 55 = .ok (.ifnull 16, 3) := by decide +kernel
theorem dX0_endOf_58 : decode cX0_endOf 58 = .ok (.aload_n 0, 1) := by decide +kernel
theorem dX0_endOf_59 : decode cX0_endOf 59 = .ok (.aload 5, 2) := by decide +kernel
theorem dX0_endOf_61 : decode cX0_endOf 61 = .ok (.getfield 74, 3) := by decide +kernel
theorem dX0_endOf_64 : decode cX0_endOf 64 = .ok (.invokevirtual 77, 3) := by decide +kernel
theorem dX0_endOf_67 : decode cX0_endOf 67 = .ok (.iload_n 3, 1) := by decide +kernel
theorem dX0_endOf_68 : decode cX0_endOf 68 = .ok (.if_icmp .gt 6, 3) := by decide +kernel
theorem dX0_endOf_71 : decode cX0_endOf 71 = .ok (.iload 4, 2) := by decide +kernel
theorem dX0_endOf_73 : decode cX0_endOf 73 = .ok (.ireturn, 1) := by decide +kernel
theorem dX0_endOf_74 : decode cX0_endOf 74 = .ok (.iinc 4 1, 3) := by decide +kernel
theorem dX0_endOf_77 : decode cX0_endOf 77 = .ok (.goto (-45), 3) := by decide +kernel
theorem dX0_endOf_80 : decode cX0_endOf 80 = .ok (.aload_n 0, 1) := by decide +kernel
theorem dX0_endOf_81 : decode cX0_endOf 81 = .ok (.getfield 41, 3) := by decide +kernel
theorem dX0_endOf_84 : decode cX0_endOf 84 = .ok (.ireturn, 1) := by decide +kernel
theorem dX0_listSize_0 : decode cX0_listSize 0 = .ok (.iconst 0, 1) := by decide +kernel
theorem dX0_listSize_1 : decode cX0_listSize 1 = .ok (.istore_n 2, 1) := by decide +kernel
theorem dX0_listSize_2 : decode cX0_listSize 2 = .ok (.iconst 0, 1) := by decide +kernel
theorem dX0_listSize_3 : decode cX0_listSize 3 = .ok (.istore_n 3, 1) := by decide +kernel
theorem dX0_listSize_4 : decode cX0_listSize 4 = .ok (.iload_n 3, 1) := by decide +kernel
theorem dX0_listSize_5 : decode cX0_listSize 5 = .ok (.aload_n 0, 1) := by decide +kernel
theorem dX0_listSize_6 : decode cX0_listSize 6 = .ok (.getfield 41, 3) := by decide +kernel
theorem dX0_listSize_9 : decode cX0_listSize 9 = .ok (.if_icmp .ge 37, 3) := by decide +kernel
theorem dX0_listSize_12 : decode cX0_listSize 12 = .ok (.aload_n 0, 1) := by decide +kernel
theorem dX0_listSize_13 : decode cX0_listSize 13 = .ok (.aload_n 0, 1) := by decide +kernel
theorem dX0_listSize_14 : decode cX0_listSize 14 = .ok (.iload_n 3, 1) := by decide +kernel
theorem dX0_listSize_15 : decode cX0_listSize 15 = .ok (.invokevirtual 70, 3) := by decide +kernel
theorem dX0_listSize_18 : decode cX0_listSize 18 = .ok (.invokevirtual 55, 3) := by decide +kernel
theorem dX0_listSize_21 : decode cX0_listSize 21 = .ok (.astore 4, 2) := by decide +kernel
theorem dX0_listSize_23 : decode cX0_listSize 23 = .ok (.aload 4, 2) := by decide +kernel
theorem dX0_listSize_25 : decode cX0_listSize 25 = .ok (.ifnull 15, 3) := by decide +kernel
theorem dX0_listSize_28 : decode cX0_listSize 28 = .ok (.aload 4, 2) := by decide +kernel
theorem dX0_listSize_30 : decode cX0_listSize 30 = .ok (.getfield 74, 3) := by decide +kernel
theorem dX0_listSize_33 : decode cX0_listSize 33 = .ok (.iload_n 1, 1) := by decide +kernel
theorem dX0_listSize_34 : decode cX0_listSize 34 = .ok (.if_icmp .ne 6, 3) := by decide +kernel
theorem dX0_listSize_37 : decode cX0_listSize 37 = .ok (.iinc 2 1, 3) := by decide +kernel
theorem dX0_listSize_40 : decode cX0_listSize 40 = .ok (.iinc 3 1, 3) := by decide +kernel
theorem dX0_listSize_43 : decode cX0_listSize 43 = .ok (.goto (-39), 3) := by decide +kernel
theorem dX0_listSize_46 : decode cX0_listSize 46 = .ok (.iload_n 2, 1) := by decide +kernel
theorem dX0_listSize_47 : decode cX0_listSize 47 = .ok (.ireturn, 1) := by decide +kernel
theorem dX0_indexOf_0 : decode cX0_indexOf 0 = .ok (.aload_n 0, 1) := by decide +kernel
theorem dX0_indexOf_1 : decode cX0_indexOf 1 = .ok (.iload_n 1, 1) := by decide +kernel
theorem dX0_indexOf_2 : decode cX0_indexOf 2 = .ok (.invokevirtual 55, 3) := by decide +kernel
theorem dX0_indexOf_5 : decode cX0_indexOf 5 = .ok (.astore_n 2, 1) := by decide +kernel
theorem dX0_indexOf_6 : decode cX0_indexOf 6 = .ok (.iconst 0, 1) := by decide +kernel
theorem dX0_indexOf_7 : decode cX0_indexOf 7 = .ok (.istore_n 3, 1) := by decide +kernel
theorem dX0_indexOf_8 : decode cX0_indexOf 8 = .ok (.iconst 0, 1) := by decide +kernel
theorem dX0_indexOf_9 : decode cX0_indexOf 9 = .ok (.istore 4, 2) := by decide +kernel
theorem dX0_indexOf_11 : decode cX0_indexOf 11 = .ok (.aload_n 2, 1) := by decide +kernel
theorem dX0_indexOf_12 : decode cX0_indexOf 12 = .ok (.ifnull 60, 3) := by decide +kernel
theorem dX0_indexOf_15 : decode cX0_indexOf 15 = .ok (.iload 4, 2) := by decide +kernel
theorem dX0_indexOf_17 : decode cX0_indexOf 17 = .ok (.aload_n 0, 1) := by decide +kernel
theorem dX0_indexOf_18 : decode cX0_indexOf 18 = .ok (.getfield 41, 3) := by decide +kernel
theorem dX0_indexOf_21 : decode cX0_indexOf 21 = .ok (.if_icmp .ge 51, 3) := by decide +kernel
theorem dX0_indexOf_24 : decode cX0_indexOf 24 = .ok (.aload_n 0, 1) := by decide +kernel
theorem dX0_indexOf_25 : decode cX0_indexOf 25 = .ok (.iload 4, 2) := by decide +kernel
theorem dX0_indexOf_27 : decode cX0_indexOf 27 = .ok (.invokevirtual 70, 3) := by decide +kernel
theorem dX0_indexOf_30 : decode cX0_indexOf 30 = .ok (.iload_n 1, 1) := by decide +kernel
theorem dX0_indexOf_31 : decode cX0_indexOf 31 = .ok (.if_icmp .eq 41, 3) := by decide +kernel
theorem dX0_indexOf_34 : decode cX0_indexOf 34 = .ok (.aload_n 0, 1) := by decide +kernel
theorem dX0_indexOf_35 : decode cX0_indexOf 35 = .ok (.aload_n 0, 1) := by decide +kernel
theorem dX0_indexOf_36 : decode cX0_indexOf 36 = .ok (.iload 4, 2) := by decide +kernel
theorem dX0_indexOf_38 : decode cX0_indexOf 38 = .ok (.invokevirtual 70, 3) := by decide +kernel
theorem dX0_indexOf_41 : decode cX0_indexOf 41 = .ok (.invokevirtual 55, 3) := by decide +kernel
theorem dX0_indexOf_44 : decode cX0_indexOf 44 = .ok (.astore 5, 2) := by decide +kernel
theorem dX0_indexOf_46 : decode cX0_indexOf 46 = .ok (.aload 5, 2) := by decide +kernel
theorem dX0_indexOf_48 : decode cX0_indexOf 48 = .ok (.ifnull 18, 3) := by decide +kernel
theorem dX0_indexOf_51 : decode cX0_indexOf 51 = .ok (.aload 5, 2) := by decide +kernel
theorem dX0_indexOf_53 : decode cX0_indexOf 53 = .ok (.getfield 74, 3) := by decide +kernel
theorem dX0_indexOf_56 : decode cX0_indexOf 56 = .ok (.aload_n 2, 1) := by decide +kernel
theorem dX0_indexOf_57 : decode cX0_indexOf 57 = .ok (.getfield 74, 3) := by decide +kernel
theorem dX0_indexOf_60 : decode cX0_indexOf 60 = .ok (.if_icmp .ne 6, 3) := by decide +kernel
theorem dX0_indexOf_63 : decode cX0_indexOf 63 = .ok (.iinc 3 1, 3) := by decide +kernel
theorem dX0_indexOf_66 : decode cX0_indexOf 66 = .ok (.iinc 4 1, 3) := by decide +kernel
theorem dX0_indexOf_69 : decode cX0_indexOf 69 = .ok (.goto (-58), 3) := by decide +kernel
theorem dX0_indexOf_72 : decode cX0_indexOf 72 = .ok (.iload_n 3, 1) := by decide +kernel
theorem dX0_indexOf_73 : decode cX0_indexOf 73 = .ok (.ireturn, 1) := by decide +kernel
theorem dX0_placeFor_0 : decode cX0_placeFor 0 = .ok (.iload_n 1, 1) := by decide +kernel
theorem dX0_placeFor_1 : decode cX0_placeFor 1 = .ok (.bipush (-2), 2) := by decide +kernel
theorem dX0_placeFor_3 : decode cX0_placeFor 3 = .ok (.if_icmp .ne 10, 3) := by decide +kernel
theorem dX0_placeFor_6 : decode cX0_placeFor 6 = .ok (.aload_n 0, 1) := by decide +kernel
theorem dX0_placeFor_7 : decode cX0_placeFor 7 = .ok (.getfield 41, 3) := by decide +kernel
theorem dX0_placeFor_10 : decode cX0_placeFor 10 = .ok (.goto 11, 3) := by decide +kernel
theorem dX0_placeFor_13 : decode cX0_placeFor 13 = .ok (.aload_n 0, 1) := by decide +kernel
theorem dX0_placeFor_14 : decode cX0_placeFor 14 = .ok (.bipush 24, 2) := by decide +kernel
theorem dX0_placeFor_16 : decode cX0_placeFor 16 = .ok (.iload_n 1, 1) := by decide +kernel
theorem dX0_placeFor_17 : decode cX0_placeFor 17 = .ok (.iadd, 1) := by decide +kernel
theorem dX0_placeFor_18 : decode cX0_placeFor 18 = .ok (.invokevirtual 83, 3) := by decide +kernel
theorem dX0_placeFor_21 : decode cX0_placeFor 21 = .ok (.istore_n 3, 1) := by decide +kernel
theorem dX0_placeFor_22 : decode cX0_placeFor 22 = .ok (.iconst 0, 1) := by decide +kernel
theorem dX0_placeFor_23 : decode cX0_placeFor 23 = .ok (.istore 4, 2) := by decide +kernel
theorem dX0_placeFor_25 : decode cX0_placeFor 25 = .ok (.iconst 0, 1) := by decide +kernel
theorem dX0_placeFor_26 : decode cX0_placeFor 26 = .ok (.istore 5, 2) := by decide +kernel
theorem dX0_placeFor_28 : decode cX0_placeFor 28 = .ok (.iload 5, 2) := by decide +kernel
theorem dX0_placeFor_30 : decode cX0_placeFor 30 = .ok (.iload_n 3, 1) := by decide +kernel
theorem dX0_placeFor_31 : decode cX0_placeFor 31 = .ok (.if_icmp .ge 47, 3) := by decide +kernel
theorem dX0_placeFor_34 : decode cX0_placeFor 34 = .ok (.aload_n 0, 1) := by decide +kernel
theorem dX0_placeFor_35 : decode cX0_placeFor 35 = .ok (.aload_n 0, 1) := by decide +kernel
theorem dX0_placeFor_36 : decode cX0_placeFor 36 = .ok (.iload 5, 2) := by decide +kernel
theorem dX0_placeFor_38 : decode cX0_placeFor 38 = .ok (.invokevirtual 70, 3) := by decide +kernel
theorem dX0_placeFor_41 : decode cX0_placeFor 41 = .ok (.invokevirtual 55, 3) := by decide +kernel
theorem dX0_placeFor_44 : decode cX0_placeFor 44 = .ok (.astore 6, 2) := by decide +kernel
theorem dX0_placeFor_46 : decode cX0_placeFor 46 = .ok (.aload 6, 2) := by decide +kernel
theorem dX0_placeFor_48 : decode cX0_placeFor 48 = .ok (.ifnull 24, 3) := by decide +kernel
theorem dX0_placeFor_51 : decode cX0_placeFor 51 = .ok (.aload 6, 2) := by decide +kernel
theorem dX0_placeFor_53 : decode cX0_placeFor 53 = .ok (.getfield 74, 3) := by decide +kernel
theorem dX0_placeFor_56 : decode cX0_placeFor 56 = .ok (.iload_n 1, 1) := by decide +kernel
theorem dX0_placeFor_57 : decode cX0_placeFor 57 = .ok (.if_icmp .ne 15, 3) := by decide +kernel
theorem dX0_placeFor_60 : decode cX0_placeFor 60 = .ok (.iload 4, 2) := by decide +kernel
theorem dX0_placeFor_62 : decode cX0_placeFor 62 = .ok (.iload_n 2, 1) := by decide +kernel
theorem dX0_placeFor_63 : decode cX0_placeFor 63 = .ok (.if_icmp .ne 6, 3) := by decide +kernel
theorem dX0_placeFor_66 : decode cX0_placeFor 66 = .ok (.iload 5, 2) := by decide +kernel
theorem dX0_placeFor_68 : decode cX0_placeFor 68 = .ok (.ireturn, 1) := by decide +kernel
theorem dX0_placeFor_69 : decode cX0_placeFor 69 = .ok (.iinc 4 1, 3) := by decide +kernel
theorem dX0_placeFor_72 : decode cX0_placeFor 72 = .ok (.iinc 5 1, 3) := by decide +kernel
theorem dX0_placeFor_75 : decode cX0_placeFor 75 = .ok (.goto (-47), 3) := by decide +kernel
theorem dX0_placeFor_78 : decode cX0_placeFor 78 = .ok (.iload_n 3, 1) := by decide +kernel
theorem dX0_placeFor_79 : decode cX0_placeFor 79 = .ok (.ireturn, 1) := by decide +kernel
theorem dX0_fieldsOf_0 : decode cX0_fieldsOf 0 = .ok (.iconst 0, 1) := by decide +kernel
theorem dX0_fieldsOf_1 : decode cX0_fieldsOf 1 = .ok (.istore_n 2, 1) := by decide +kernel
theorem dX0_fieldsOf_2 : decode cX0_fieldsOf 2 = .ok (.iconst 0, 1) := by decide +kernel
theorem dX0_fieldsOf_3 : decode cX0_fieldsOf 3 = .ok (.istore_n 3, 1) := by decide +kernel
theorem dX0_fieldsOf_4 : decode cX0_fieldsOf 4 = .ok (.iload_n 3, 1) := by decide +kernel
theorem dX0_fieldsOf_5 : decode cX0_fieldsOf 5 = .ok (.bipush 24, 2) := by decide +kernel
theorem dX0_fieldsOf_7 : decode cX0_fieldsOf 7 = .ok (.if_icmp .ge 51, 3) := by decide +kernel
theorem dX0_fieldsOf_10 : decode cX0_fieldsOf 10 = .ok (.aload_n 0, 1) := by decide +kernel
theorem dX0_fieldsOf_11 : decode cX0_fieldsOf 11 = .ok (.iload_n 3, 1) := by decide +kernel
theorem dX0_fieldsOf_12 : decode cX0_fieldsOf 12 = .ok (.invokevirtual 55, 3) := by decide +kernel
theorem dX0_fieldsOf_15 : decode cX0_fieldsOf 15 = .ok (.astore 4, 2) := by decide +kernel
theorem dX0_fieldsOf_17 : decode cX0_fieldsOf 17 = .ok (.aload 4, 2) := by decide +kernel
theorem dX0_fieldsOf_19 : decode cX0_fieldsOf 19 = .ok (.ifnull 33, 3) := by decide +kernel
theorem dX0_fieldsOf_22 : decode cX0_fieldsOf 22 = .ok (.iload_n 1, 1) := by decide +kernel
theorem dX0_fieldsOf_23 : decode cX0_fieldsOf 23 = .ok (.bipush (-2), 2) := by decide +kernel
theorem dX0_fieldsOf_25 : decode cX0_fieldsOf 25 = .ok (.if_icmp .eq 21, 3) := by decide +kernel
theorem dX0_fieldsOf_28 : decode cX0_fieldsOf 28 = .ok (.iload_n 3, 1) := by decide +kernel
theorem dX0_fieldsOf_29 : decode cX0_fieldsOf 29 = .ok (.iload_n 1, 1) := by decide +kernel
theorem dX0_fieldsOf_30 : decode cX0_fieldsOf 30 = .ok (.if_icmp .eq 16, 3) := by decide +kernel
theorem dX0_fieldsOf_33 : decode cX0_fieldsOf 33 = .ok (.aload_n 0, 1) := by decide +kernel
theorem dX0_fieldsOf_34 : decode cX0_fieldsOf 34 = .ok (.iload_n 1, 1) := by decide +kernel
theorem dX0_fieldsOf_35 : decode cX0_fieldsOf 35 = .ok (.aload 4, 2) := by decide +kernel
theorem dX0_fieldsOf_37 : decode cX0_fieldsOf 37 = .ok (.getfield 74, 3) := by decide +kernel
theorem dX0_fieldsOf_40 : decode cX0_fieldsOf 40 = .ok (.invokevirtual 86, 3) := by decide +kernel
theorem dX0_fieldsOf_43 : decode cX0_fieldsOf 43 = .ok (.ifCond .eq 9, 3) := by decide +kernel
theorem dX0_fieldsOf_46 : decode cX0_fieldsOf 46 = .ok (.iload_n 2, 1) := by decide +kernel
theorem dX0_fieldsOf_47 : decode cX0_fieldsOf 47 = .ok (.iconst 1, 1) := by decide +kernel
theorem dX0_fieldsOf_48 : decode cX0_fieldsOf 48 = .ok (.iload_n 3, 1) := by decide +kernel
theorem dX0_fieldsOf_49 : decode cX0_fieldsOf 49 = .ok (.ishl, 1) := by decide +kernel
theorem dX0_fieldsOf_50 : decode cX0_fieldsOf 50 = .ok (.ior, 1) := by decide +kernel
theorem dX0_fieldsOf_51 : decode cX0_fieldsOf 51 = .ok (.istore_n 2, 1) := by decide +kernel
theorem dX0_fieldsOf_52 : decode cX0_fieldsOf 52 = .ok (.iinc 3 1, 3) := by decide +kernel
theorem dX0_fieldsOf_55 : decode cX0_fieldsOf 55 = .ok (.goto (-51), 3) := by decide +kernel
theorem dX0_fieldsOf_58 : decode cX0_fieldsOf 58 = .ok (.iload_n 2, 1) := by decide +kernel
theorem dX0_fieldsOf_59 : decode cX0_fieldsOf 59 = .ok (.ireturn, 1) := by decide +kernel
theorem dX0_add_0 : decode cX0_add 0 = .ok (.iload_n 1, 1) := by decide +kernel
theorem dX0_add_1 : decode cX0_add 1 = .ok (.ifCond .lt 34, 3) := by decide +kernel
theorem dX0_add_4 : decode cX0_add 4 = .ok (.iload_n 1, 1) := by decide +kernel
theorem dX0_add_5 : decode cX0_add 5 = .ok (.bipush 32, 2) := by decide +kernel
theorem dX0_add_7 : decode cX0_add 7 = .ok (.if_icmp .ge 28, 3) := by decide +kernel
theorem dX0_add_10 : decode cX0_add 10 = .ok (.aload_n 0, 1) := by decide +kernel
theorem dX0_add_11 : decode cX0_add 11 = .ok (.getfield 30, 3) := by decide +kernel
theorem dX0_add_14 : decode cX0_add 14 = .ok (.iload_n 1, 1) := by decide +kernel
theorem dX0_add_15 : decode cX0_add 15 = .ok (.aaload, 1) := by decide +kernel
theorem dX0_add_16 : decode cX0_add 16 = .ok (.ifnull 19, 3) := by decide +kernel
theorem dX0_add_19 : decode cX0_add 19 = .ok (.aload_n 0, 1) := by decide +kernel
theorem dX0_add_20 : decode cX0_add 20 = .ok (.getfield 41, 3) := by decide +kernel
theorem dX0_add_23 : decode cX0_add 23 = .ok (.ifCond .lt 12, 3) := by decide +kernel
theorem dX0_add_26 : decode cX0_add 26 = .ok (.aload_n 0, 1) := by decide +kernel
theorem dX0_add_27 : decode cX0_add 27 = .ok (.getfield 41, 3) := by decide +kernel
theorem dX0_add_30 : decode cX0_add 30 = .ok (.bipush 32, 2) := by decide +kernel
theorem dX0_add_32 : decode cX0_add 32 = .ok (.if_icmp .lt 5, 3) := by decide +kernel
theorem dX0_add_35 : decode cX0_add 35 = .ok (.aconst_null, 1) := by decide +kernel
theorem dX0_add_36 : decode cX0_add 36 = .ok (.areturn, 1) := by decide +kernel
theorem dX0_add_37 : decode cX0_add 37 = .ok (.iload_n 2, 1) := by decide +kernel
theorem dX0_add_38 : decode cX0_add 38 = .ok (.bipush (-2), 2) := by decide +kernel
theorem dX0_add_40 : decode cX0_add 40 = .ok (.if_icmp .ne 10, 3) := by decide +kernel
theorem dX0_add_43 : decode cX0_add 43 = .ok (.aload_n 0, 1) := by decide +kernel
theorem dX0_add_44 : decode cX0_add 44 = .ok (.getfield 41, 3) := by decide +kernel
theorem dX0_add_47 : decode cX0_add 47 = .ok (.goto 11, 3) := by decide +kernel
theorem dX0_add_50 : decode cX0_add 50 = .ok (.aload_n 0, 1) := by decide +kernel
theorem dX0_add_51 : decode cX0_add 51 = .ok (.bipush 24, 2) := by decide +kernel
theorem dX0_add_53 : decode cX0_add 53 = .ok (.iload_n 2, 1) := by decide +kernel
theorem dX0_add_54 : decode cX0_add 54 = .ok (.iadd, 1) := by decide +kernel
theorem dX0_add_55 : decode cX0_add 55 = .ok (.invokevirtual 83, 3) := by decide +kernel
theorem dX0_add_58 : decode cX0_add 58 = .ok (.istore_n 3, 1) := by decide +kernel
theorem dX0_add_59 : decode cX0_add 59 = .ok (.aload_n 0, 1) := by decide +kernel
theorem dX0_add_60 : decode cX0_add 60 = .ok (.getfield 41, 3) := by decide +kernel
theorem dX0_add_63 : decode cX0_add 63 = .ok (.istore 4, 2) := by decide +kernel
theorem dX0_add_65 : decode cX0_add 65 = .ok (.iload 4, 2) := by decide +kernel
theorem dX0_add_67 : decode cX0_add 67 = .ok (.iload_n 3, 1) := by decide +kernel
theorem dX0_add_68 : decode cX0_add 68 = .ok (.if_icmp .le 23, 3) := by decide +kernel
theorem dX0_add_71 : decode cX0_add 71 = .ok (.aload_n 0, 1) := by decide +kernel
theorem dX0_add_72 : decode cX0_add 72 = .ok (.iload 4, 2) := by decide +kernel
theorem dX0_add_74 : decode cX0_add 74 = .ok (.aload_n 0, 1) := by decide +kernel
theorem dX0_add_75 : decode cX0_add 75 = .ok (.iload 4, 2) := by decide +kernel
theorem dX0_add_77 : decode cX0_add 77 = .ok (.iconst 1, 1) := by decide +kernel
theorem dX0_add_78 : decode cX0_add 78 = .ok (.isub, 1) := by decide +kernel
theorem dX0_add_79 : decode cX0_add 79 = .ok (.invokevirtual 70, 3) := by decide +kernel
theorem dX0_add_82 : decode cX0_add 82 = .ok (.invokevirtual 90, 3) := by decide +kernel
theorem dX0_add_85 : decode cX0_add 85 = .ok (.iinc 4 (-1), 3) := by decide +kernel
theorem dX0_add_88 : decode cX0_add 88 = .ok (.goto (-23), 3) := by decide +kernel
theorem dX0_add_91 : decode cX0_add 91 = .ok (.aload_n 0, 1) := by decide +kernel
theorem dX0_add_92 : decode cX0_add 92 = .ok (.iload_n 3, 1) := by decide +kernel
theorem dX0_add_93 : decode cX0_add 93 = .ok (.iload_n 1, 1) := by decide +kernel
theorem dX0_add_94 : decode cX0_add 94 = .ok (.invokevirtual 90, 3) := by decide +kernel
theorem dX0_add_97 : decode cX0_add 97 = .ok (.aload_n 0, 1) := by decide +kernel
theorem dX0_add_98 : decode cX0_add 98 = .ok (.dup, 1) := by decide +kernel
theorem dX0_add_99 : decode cX0_add 99 = .ok (.getfield 41, 3) := by decide +kernel
theorem dX0_add_102 : decode cX0_add 102 = .ok (.iconst 1, 1) := by decide +kernel
theorem dX0_add_103 : decode cX0_add 103 = .ok (.iadd, 1) := by decide +kernel
theorem dX0_add_104 : decode cX0_add 104 = .ok (.putfield 41, 3) := by decide +kernel
theorem dX0_add_107 : decode cX0_add 107 = .ok (.aload_n 0, 1) := by decide +kernel
theorem dX0_add_108 : decode cX0_add 108 = .ok (.getfield 30, 3) := by decide +kernel
theorem dX0_add_111 : decode cX0_add 111 = .ok (.iload_n 1, 1) := by decide +kernel
theorem dX0_add_112 : decode cX0_add 112 = .ok (.aaload, 1) := by decide +kernel
theorem dX0_add_113 : decode cX0_add 113 = .ok (.astore 4, 2) := by decide +kernel
theorem dX0_add_115 : decode cX0_add 115 = .ok (.aload 4, 2) := by decide +kernel
theorem dX0_add_117 : decode cX0_add 117 = .ok (.invokevirtual 44, 3) := by decide +kernel
theorem dX0_add_120 : decode cX0_add 120 = .ok (.aload 4, 2) := by decide +kernel
theorem dX0_add_122 : decode cX0_add 122 = .ok (.iconst 1, 1) := by decide +kernel
theorem dX0_add_123 : decode cX0_add 123 = .ok (.putfield 51, 3) := by decide +kernel
theorem dX0_add_126 : decode cX0_add 126 = .ok (.aload 4, 2) := by decide +kernel
theorem dX0_add_128 : decode cX0_add 128 = .ok (.iload_n 2, 1) := by decide +kernel
theorem dX0_add_129 : decode cX0_add 129 = .ok (.putfield 74, 3) := by decide +kernel
theorem dX0_add_132 : decode cX0_add 132 = .ok (.aload 4, 2) := by decide +kernel
theorem dX0_add_134 : decode cX0_add 134 = .ok (.areturn, 1) := by decide +kernel
theorem dX0_takeAway_0 : decode cX0_takeAway 0 = .ok (.aload_n 0, 1) := by decide +kernel
theorem dX0_takeAway_1 : decode cX0_takeAway 1 = .ok (.iload_n 1, 1) := by decide +kernel
theorem dX0_takeAway_2 : decode cX0_takeAway 2 = .ok (.invokevirtual 80, 3) := by decide +kernel
theorem dX0_takeAway_5 : decode cX0_takeAway 5 = .ok (.istore_n 2, 1) := by decide +kernel
theorem dX0_takeAway_6 : decode cX0_takeAway 6 = .ok (.iload_n 2, 1) := by decide +kernel
theorem dX0_takeAway_7 : decode cX0_takeAway 7 = .ok (.ifCond .ge 4, 3) := by decide +kernel
theorem dX0_takeAway_10 : decode cX0_takeAway 10 = .ok (.return_, 1) := by decide +kernel
theorem dX0_takeAway_11 : decode cX0_takeAway 11 = .ok (.aload_n 0, 1) := by decide +kernel
theorem dX0_takeAway_12 : decode cX0_takeAway 12 = .ok (.iload_n 1, 1) := by decide +kernel
theorem dX0_takeAway_13 : decode cX0_takeAway 13 = .ok (.invokevirtual 83, 3) := by decide +kernel
theorem dX0_takeAway_16 : decode cX0_takeAway 16 = .ok (.istore_n 3, 1) := by decide +kernel
theorem dX0_takeAway_17 : decode cX0_takeAway 17 = .ok (.iload_n 2, 1) := by decide +kernel
theorem dX0_takeAway_18 : decode cX0_takeAway 18 = .ok (.istore 4, 2) := by decide +kernel
theorem dX0_takeAway_20 : decode cX0_takeAway 20 = .ok (.iload 4, 2) := by decide +kernel
theorem dX0_takeAway_22 : decode cX0_takeAway 22 = .ok (.iload_n 3, 1) := by decide +kernel
theorem dX0_takeAway_23 : decode cX0_takeAway 23 = .ok (.if_icmp .ge 23, 3) := by decide +kernel
theorem dX0_takeAway_26 : decode cX0_takeAway 26 = .ok (.aload_n 0, 1) := by decide +kernel
theorem dX0_takeAway_27 : decode cX0_takeAway 27 = .ok (.iload 4, 2) := by decide +kernel
theorem dX0_takeAway_29 : decode cX0_takeAway 29 = .ok (.iload_n 2, 1) := by decide +kernel
theorem dX0_takeAway_30 : decode cX0_takeAway 30 = .ok (.isub, 1) := by decide +kernel
theorem dX0_takeAway_31 : decode cX0_takeAway 31 = .ok (.aload_n 0, 1) := by decide +kernel
theorem dX0_takeAway_32 : decode cX0_takeAway 32 = .ok (.iload 4, 2) := by decide +kernel
theorem dX0_takeAway_34 : decode cX0_takeAway 34 = .ok (.invokevirtual 70, 3) := by decide +kernel
theorem dX0_takeAway_37 : decode cX0_takeAway 37 = .ok (.invokevirtual 94, 3) := by decide +kernel
theorem dX0_takeAway_40 : decode cX0_takeAway 40 = .ok (.iinc 4 1, 3) := by decide +kernel
theorem dX0_takeAway_43 : decode cX0_takeAway 43 = .ok (.goto (-23), 3) := by decide +kernel
theorem dX0_takeAway_46 : decode cX0_takeAway 46 = .ok (.aload_n 0, 1) := by decide +kernel
theorem dX0_takeAway_47 : decode cX0_takeAway 47 = .ok (.iload_n 2, 1) := by decide +kernel
theorem dX0_takeAway_48 : decode cX0_takeAway 48 = .ok (.iload_n 3, 1) := by decide +kernel
theorem dX0_takeAway_49 : decode cX0_takeAway 49 = .ok (.invokevirtual 97, 3) := by decide +kernel
theorem dX0_takeAway_52 : decode cX0_takeAway 52 = .ok (.iconst 0, 1) := by decide +kernel
theorem dX0_takeAway_53 : decode cX0_takeAway 53 = .ok (.istore 4, 2) := by decide +kernel
theorem dX0_takeAway_55 : decode cX0_takeAway 55 = .ok (.iload 4, 2) := by decide +kernel
theorem dX0_takeAway_57 : decode cX0_takeAway 57 = .ok (.iload_n 3, 1) := by decide +kernel
theorem dX0_takeAway_58 : decode cX0_takeAway 58 = .ok (.iload_n 2, 1) := by decide +kernel
theorem dX0_takeAway_59 : decode cX0_takeAway 59 = .ok (.isub, 1) := by decide +kernel
theorem dX0_takeAway_60 : decode cX0_takeAway 60 = .ok (.if_icmp .ge 31, 3) := by decide +kernel
theorem dX0_takeAway_63 : decode cX0_takeAway 63 = .ok (.aload_n 0, 1) := by decide +kernel
theorem dX0_takeAway_64 : decode cX0_takeAway 64 = .ok (.aload_n 0, 1) := by decide +kernel
theorem dX0_takeAway_65 : decode cX0_takeAway 65 = .ok (.iload 4, 2) := by decide +kernel
theorem dX0_takeAway_67 : decode cX0_takeAway 67 = .ok (.invokevirtual 100, 3) := by decide +kernel
theorem dX0_takeAway_70 : decode cX0_takeAway 70 = .ok (.invokevirtual 55, 3) := by decide +kernel
theorem dX0_takeAway_73 : decode cX0_takeAway 73 = .ok (.astore 5, 2) := by decide +kernel
theorem dX0_takeAway_75 : decode cX0_takeAway 75 = .ok (.aload 5, 2) := by decide +kernel
theorem dX0_takeAway_77 : decode cX0_takeAway 77 = .ok (.ifnull 8, 3) := by decide +kernel
theorem dX0_takeAway_80 : decode cX0_takeAway 80 = .ok (.aload 5, 2) := by decide +kernel
theorem dX0_takeAway_82 : decode cX0_takeAway 82 = .ok (.invokevirtual 44, 3) := by decide +kernel
theorem dX0_takeAway_85 : decode cX0_takeAway 85 = .ok (.iinc 4 1, 3) := by decide +kernel
theorem dX0_takeAway_88 : decode cX0_takeAway 88 = .ok (.goto (-33), 3) := by decide +kernel
theorem dX0_takeAway_91 : decode cX0_takeAway 91 = .ok (.return_, 1) := by decide +kernel
theorem dX0_transfer_0 : decode cX0_transfer 0 = .ok (.aload_n 0, 1) := by decide +kernel
theorem dX0_transfer_1 : decode cX0_transfer 1 = .ok (.iload_n 1, 1) := by decide +kernel
theorem dX0_transfer_2 : decode cX0_transfer 2 = .ok (.invokevirtual 55, 3) := by decide +kernel
theorem dX0_transfer_5 : decode cX0_transfer 5 = .ok (.astore 4, 2) := by decide +kernel
theorem dX0_transfer_7 : decode cX0_transfer 7 = .ok (.aload_n 0, 1) := by decide +kernel
theorem dX0_transfer_8 : decode cX0_transfer 8 = .ok (.iload_n 1, 1) := by decide +kernel
theorem dX0_transfer_9 : decode cX0_transfer 9 = .ok (.invokevirtual 80, 3) := by decide +kernel
theorem dX0_transfer_12 : decode cX0_transfer 12 = .ok (.istore 5, 2) := by decide +kernel
theorem dX0_transfer_14 : decode cX0_transfer 14 = .ok (.aload 4, 2) := by decide +kernel
theorem dX0_transfer_16 : decode cX0_transfer 16 = .ok (.ifnull 8, 3) := by decide +kernel
theorem dX0_transfer_19 : decode cX0_transfer 19 = .ok (.iload 5, 2) := by decide +kernel
theorem dX0_transfer_21 : decode cX0_transfer 21 = .ok (.ifCond .ge 4, 3) := by decide +kernel
theorem dX0_transfer_24 : decode cX0_transfer 24 = .ok (.return_, 1) := by decide +kernel
theorem dX0_transfer_25 : decode cX0_transfer 25 = .ok (.aload_n 0, 1) := by decide +kernel
theorem dX0_transfer_26 : decode cX0_transfer 26 = .ok (.iload_n 1, 1) := by decide +kernel
theorem dX0_transfer_27 : decode cX0_transfer 27 = .ok (.invokevirtual 83, 3) := by decide +kernel
theorem dX0_transfer_30 : decode cX0_transfer 30 = .ok (.iload 5, 2) := by decide +kernel
theorem dX0_transfer_32 : decode cX0_transfer 32 = .ok (.isub, 1) := by decide +kernel
theorem dX0_transfer_33 : decode cX0_transfer 33 = .ok (.istore 6, 2) := by decide +kernel
theorem dX0_transfer_35 : decode cX0_transfer 35 = .ok (.iconst 0, 1) := by decide +kernel
theorem dX0_transfer_36 : decode cX0_transfer 36 = .ok (.istore 7, 2) := by decide +kernel
theorem dX0_transfer_38 : decode cX0_transfer 38 = .ok (.iload 7, 2) := by decide +kernel
theorem dX0_transfer_40 : decode cX0_transfer 40 = .ok (.iload 6, 2) := by decide +kernel
theorem dX0_transfer_42 : decode cX0_transfer 42 = .ok (.if_icmp .ge 24, 3) := by decide +kernel
theorem dX0_transfer_45 : decode cX0_transfer 45 = .ok (.aload_n 0, 1) := by decide +kernel
theorem dX0_transfer_46 : decode cX0_transfer 46 = .ok (.iload 7, 2) := by decide +kernel
theorem dX0_transfer_48 : decode cX0_transfer 48 = .ok (.aload_n 0, 1) := by decide +kernel
theorem dX0_transfer_49 : decode cX0_transfer 49 = .ok (.iload 5, 2) := by decide +kernel
theorem dX0_transfer_51 : decode cX0_transfer 51 = .ok (.iload 7, 2) := by decide +kernel
theorem dX0_transfer_53 : decode cX0_transfer 53 = .ok (.iadd, 1) := by decide +kernel
theorem dX0_transfer_54 : decode cX0_transfer 54 = .ok (.invokevirtual 70, 3) := by decide +kernel
theorem dX0_transfer_57 : decode cX0_transfer 57 = .ok (.invokevirtual 94, 3) := by decide +kernel
theorem dX0_transfer_60 : decode cX0_transfer 60 = .ok (.iinc 7 1, 3) := by decide +kernel
theorem dX0_transfer_63 : decode cX0_transfer 63 = .ok (.goto (-25), 3) := by decide +kernel
theorem dX0_transfer_66 : decode cX0_transfer 66 = .ok (.aload_n 0, 1) := by decide +kernel
theorem dX0_transfer_67 : decode cX0_transfer 67 = .ok (.iload 5, 2) := by decide +kernel
theorem dX0_transfer_69 : decode cX0_transfer 69 = .ok (.iload 5, 2) := by decide +kernel
theorem dX0_transfer_71 : decode cX0_transfer 71 = .ok (.iload 6, 2) := by decide +kernel
theorem dX0_transfer_73 : decode cX0_transfer 73 = .ok (.iadd, 1) := by decide +kernel
theorem dX0_transfer_74 : decode cX0_transfer 74 = .ok (.invokevirtual 97, 3) := by decide +kernel
theorem dX0_transfer_77 : decode cX0_transfer 77 = .ok (.aload_n 0, 1) := by decide +kernel
theorem dX0_transfer_78 : decode cX0_transfer 78 = .ok (.iload_n 2, 1) := by decide +kernel
theorem dX0_transfer_79 : decode cX0_transfer 79 = .ok (.iload_n 3, 1) := by decide +kernel
theorem dX0_transfer_80 : decode cX0_transfer 80 = .ok (.invokevirtual 103, 3) := by decide +kernel
theorem dX0_transfer_83 : decode cX0_transfer 83 = .ok (.istore 7, 2) := by decide +kernel
theorem dX0_transfer_85 : decode cX0_transfer 85 = .ok (.aload_n 0, 1) := by decide +kernel
theorem dX0_transfer_86 : decode cX0_transfer 86 = .ok (.dup, 1) := by decide +kernel
theorem dX0_transfer_87 : decode cX0_transfer 87 = .ok (.getfield 41, 3) := by decide +kernel
theorem dX0_transfer_90 : decode cX0_transfer 90 = .ok (.iload 6, 2) := by decide +kernel
theorem dX0_transfer_92 : decode cX0_transfer 92 = .ok (.iadd, 1) := by decide +kernel
theorem dX0_transfer_93 : decode cX0_transfer 93 = .ok (.putfield 41, 3) := by decide +kernel
theorem dX0_transfer_96 : decode cX0_transfer 96 = .ok (.aload_n 0, 1) := by decide +kernel
theorem dX0_transfer_97 : decode cX0_transfer 97 = .ok (.getfield 41, 3) := by decide +kernel
theorem dX0_transfer_100 : decode cX0_transfer 100 = .ok (.iconst 1, 1) := by decide +kernel
theorem dX0_transfer_101 : decode cX0_transfer 101 = .ok (.isub, 1) := by decide +kernel
theorem dX0_transfer_102 : decode cX0_transfer 102 = .ok (.istore 8, 2) := by decide +kernel
theorem dX0_transfer_104 : decode cX0_transfer 104 = .ok (.iload 8, 2) := by decide +kernel
theorem dX0_transfer_106 : decode cX0_transfer 106 = .ok (.iload 7, 2) := by decide +kernel
theorem dX0_transfer_108 : decode cX0_transfer 108 = .ok (.iload 6, 2) := by decide +kernel
theorem dX0_transfer_110 : decode cX0_transfer 110 = .ok (.iadd, 1) := by decide +kernel
theorem dX0_transfer_111 : decode cX0_transfer 111 = .ok (.if_icmp .lt 24, 3) := by decide +kernel
theorem dX0_transfer_114 : decode cX0_transfer 114 = .ok (.aload_n 0, 1) := by decide +kernel
theorem dX0_transfer_115 : decode cX0_transfer 115 = .ok (.iload 8, 2) := by decide +kernel
theorem dX0_transfer_117 : decode cX0_transfer 117 = .ok (.aload_n 0, 1) := by decide +kernel
theorem dX0_transfer_118 : decode cX0_transfer 118 = .ok (.iload 8, 2) := by decide +kernel
theorem dX0_transfer_120 : decode cX0_transfer 120 = .ok (.iload 6, 2) := by decide +kernel
theorem dX0_transfer_122 : decode cX0_transfer 122 = .ok (.isub, 1) := by decide +kernel
theorem dX0_transfer_123 : decode cX0_transfer 123 = .ok (.invokevirtual 70, 3) := by decide +kernel
theorem dX0_transfer_126 : decode cX0_transfer 126 = .ok (.invokevirtual 90, 3) := by decide +kernel
theorem dX0_transfer_129 : decode cX0_transfer 129 = .ok (.iinc 8 (-1), 3) := by decide +kernel
theorem dX0_transfer_132 : decode cX0_transfer 132 = .ok (.goto (-28), 3) := by decide +kernel
theorem dX0_transfer_135 : decode cX0_transfer 135 = .ok (.iconst 0, 1) := by decide +kernel
theorem dX0_transfer_136 : decode cX0_transfer 136 = .ok (.istore 8, 2) := by decide +kernel
theorem dX0_transfer_138 : decode cX0_transfer 138 = .ok (.iload 8, 2) := by decide +kernel
theorem dX0_transfer_140 : decode cX0_transfer 140 = .ok (.iload 6, 2) := by decide +kernel
theorem dX0_transfer_142 : decode cX0_transfer 142 = .ok (.if_icmp .ge 24, 3) := by decide +kernel
theorem dX0_transfer_145 : decode cX0_transfer 145 = .ok (.aload_n 0, 1) := by decide +kernel
theorem dX0_transfer_146 : decode cX0_transfer 146 = .ok (.iload 7, 2) := by decide +kernel
theorem dX0_transfer_148 : decode cX0_transfer 148 = .ok (.iload 8, 2) := by decide +kernel
theorem dX0_transfer_150 : decode cX0_transfer 150 = .ok (.iadd, 1) := by decide +kernel
theorem dX0_transfer_151 : decode cX0_transfer 151 = .ok (.aload_n 0, 1) := by decide +kernel
theorem dX0_transfer_152 : decode cX0_transfer 152 = .ok (.iload 8, 2) := by decide +kernel
theorem dX0_transfer_154 : decode cX0_transfer 154 = .ok (.invokevirtual 100, 3) := by decide +kernel
theorem dX0_transfer_157 : decode cX0_transfer 157 = .ok (.invokevirtual 90, 3) := by decide +kernel
theorem dX0_transfer_160 : decode cX0_transfer 160 = .ok (.iinc 8 1, 3) := by decide +kernel
theorem dX0_transfer_163 : decode cX0_transfer 163 = .ok (.goto (-25), 3) := by decide +kernel
theorem dX0_transfer_166 : decode cX0_transfer 166 = .ok (.aload 4, 2) := by decide +kernel
theorem dX0_transfer_168 : decode cX0_transfer 168 = .ok (.iload_n 2, 1) := by decide +kernel
theorem dX0_transfer_169 : decode cX0_transfer 169 = .ok (.putfield 74, 3) := by decide +kernel
theorem dX0_transfer_172 : decode cX0_transfer 172 = .ok (.return_, 1) := by decide +kernel
theorem dX0_hold_0 : decode cX0_hold 0 = .ok (.iload_n 1, 1) := by decide +kernel
theorem dX0_hold_1 : decode cX0_hold 1 = .ok (.ifCond .lt 16, 3) := by decide +kernel
theorem dX0_hold_4 : decode cX0_hold 4 = .ok (.iload_n 1, 1) := by decide +kernel
theorem dX0_hold_5 : decode cX0_hold 5 = .ok (.bipush 32, 2) := by decide +kernel
theorem dX0_hold_7 : decode cX0_hold 7 = .ok (.if_icmp .ge 10, 3) := by decide +kernel
theorem dX0_hold_10 : decode cX0_hold 10 = .ok (.aload_n 0, 1) := by decide +kernel
theorem dX0_hold_11 : decode cX0_hold 11 = .ok (.getfield 25, 3) := by decide +kernel
theorem dX0_hold_14 : decode cX0_hold 14 = .ok (.iload_n 1, 1) := by decide +kernel
theorem dX0_hold_15 : decode cX0_hold 15 = .ok (.iload_n 2, 1) := by decide +kernel
theorem dX0_hold_16 : decode cX0_hold 16 = .ok (.iastore, 1) := by decide +kernel
theorem dX0_hold_17 : decode cX0_hold 17 = .ok (.return_, 1) := by decide +kernel
theorem dX0_heldAt_0 : decode cX0_heldAt 0 = .ok (.iload_n 1, 1) := by decide +kernel
theorem dX0_heldAt_1 : decode cX0_heldAt 1 = .ok (.ifCond .lt 18, 3) := by decide +kernel
theorem dX0_heldAt_4 : decode cX0_heldAt 4 = .ok (.iload_n 1, 1) := by decide +kernel
theorem dX0_heldAt_5 : decode cX0_heldAt 5 = .ok (.bipush 32, 2) := by decide +kernel
theorem dX0_heldAt_7 : decode cX0_heldAt 7 = .ok (.if_icmp .ge 12, 3) := by decide +kernel
theorem dX0_heldAt_10 : decode cX0_heldAt 10 = .ok (.aload_n 0, 1) := by decide +kernel
theorem dX0_heldAt_11 : decode cX0_heldAt 11 = .ok (.getfield 25, 3) := by decide +kernel
theorem dX0_heldAt_14 : decode cX0_heldAt 14 = .ok (.iload_n 1, 1) := by decide +kernel
theorem dX0_heldAt_15 : decode cX0_heldAt 15 = .ok (.iaload, 1) := by decide +kernel
theorem dX0_heldAt_16 : decode cX0_heldAt 16 = .ok (.goto 5, 3) := by decide +kernel
theorem dX0_heldAt_19 : decode cX0_heldAt 19 = .ok (.bipush (-2), 2) := by decide +kernel
theorem dX0_heldAt_21 : decode cX0_heldAt 21 = .ok (.ireturn, 1) := by decide +kernel
theorem dX0_cut_0 : decode cX0_cut 0 = .ok (.iload_n 2, 1) := by decide +kernel
theorem dX0_cut_1 : decode cX0_cut 1 = .ok (.iload_n 1, 1) := by decide +kernel
theorem dX0_cut_2 : decode cX0_cut 2 = .ok (.isub, 1) := by decide +kernel
theorem dX0_cut_3 : decode cX0_cut 3 = .ok (.istore_n 3, 1) := by decide +kernel
theorem dX0_cut_4 : decode cX0_cut 4 = .ok (.iload_n 2, 1) := by decide +kernel
theorem dX0_cut_5 : decode cX0_cut 5 = .ok (.istore 4, 2) := by decide +kernel
theorem dX0_cut_7 : decode cX0_cut 7 = .ok (.iload 4, 2) := by decide +kernel
theorem dX0_cut_9 : decode cX0_cut 9 = .ok (.aload_n 0, 1) := by decide +kernel
theorem dX0_cut_10 : decode cX0_cut 10 = .ok (.getfield 41, 3) := by decide +kernel
theorem dX0_cut_13 : decode cX0_cut 13 = .ok (.if_icmp .ge 23, 3) := by decide +kernel
theorem dX0_cut_16 : decode cX0_cut 16 = .ok (.aload_n 0, 1) := by decide +kernel
theorem dX0_cut_17 : decode cX0_cut 17 = .ok (.iload 4, 2) := by decide +kernel
theorem dX0_cut_19 : decode cX0_cut 19 = .ok (.iload_n 3, 1) := by decide +kernel
theorem dX0_cut_20 : decode cX0_cut 20 = .ok (.isub, 1) := by decide +kernel
theorem dX0_cut_21 : decode cX0_cut 21 = .ok (.aload_n 0, 1) := by decide +kernel
theorem dX0_cut_22 : decode cX0_cut 22 = .ok (.iload 4, 2) := by decide +kernel
theorem dX0_cut_24 : decode cX0_cut 24 = .ok (.invokevirtual 70, 3) := by decide +kernel
theorem dX0_cut_27 : decode cX0_cut 27 = .ok (.invokevirtual 90, 3) := by decide +kernel
theorem dX0_cut_30 : decode cX0_cut 30 = .ok (.iinc 4 1, 3) := by decide +kernel
theorem dX0_cut_33 : decode cX0_cut 33 = .ok (.goto (-26), 3) := by decide +kernel
theorem dX0_cut_36 : decode cX0_cut 36 = .ok (.aload_n 0, 1) := by decide +kernel
theorem dX0_cut_37 : decode cX0_cut 37 = .ok (.dup, 1) := by decide +kernel
theorem dX0_cut_38 : decode cX0_cut 38 = .ok (.getfield 41, 3) := by decide +kernel
theorem dX0_cut_41 : decode cX0_cut 41 = .ok (.iload_n 3, 1) := by decide +kernel
theorem dX0_cut_42 : decode cX0_cut 42 = .ok (.isub, 1) := by decide +kernel
theorem dX0_cut_43 : decode cX0_cut 43 = .ok (.putfield 41, 3) := by decide +kernel
theorem dX0_cut_46 : decode cX0_cut 46 = .ok (.return_, 1) := by decide +kernel
theorem dX0_isTooDeep_0 : decode cX0_isTooDeep 0 = .ok (.iconst 0, 1) := by decide +kernel
theorem dX0_isTooDeep_1 : decode cX0_isTooDeep 1 = .ok (.istore_n 1, 1) := by decide +kernel
theorem dX0_isTooDeep_2 : decode cX0_isTooDeep 2 = .ok (.iload_n 1, 1) := by decide +kernel
theorem dX0_isTooDeep_3 : decode cX0_isTooDeep 3 = .ok (.bipush 8, 2) := by decide +kernel
theorem dX0_isTooDeep_5 : decode cX0_isTooDeep 5 = .ok (.if_icmp .ge 20, 3) := by decide +kernel
theorem dX0_isTooDeep_8 : decode cX0_isTooDeep 8 = .ok (.aload_n 0, 1) := by decide +kernel
theorem dX0_isTooDeep_9 : decode cX0_isTooDeep 9 = .ok (.iload_n 1, 1) := by decide +kernel
theorem dX0_isTooDeep_10 : decode cX0_isTooDeep 10 = .ok (.invokevirtual 77, 3) := by decide +kernel
theorem dX0_isTooDeep_13 : decode cX0_isTooDeep 13 = .ok (.iconst 4, 1) := by decide +kernel
theorem dX0_isTooDeep_14 : decode cX0_isTooDeep 14 = .ok (.if_icmp .le 5, 3) := by decide +kernel
theorem dX0_isTooDeep_17 : decode cX0_isTooDeep 17 = .ok (.iconst 1, 1) := by decide +kernel
theorem dX0_isTooDeep_18 : decode cX0_isTooDeep 18 = .ok (.ireturn, 1) := by decide +kernel
theorem dX0_isTooDeep_19 : decode cX0_isTooDeep 19 = .ok (.iinc 1 1, 3) := by decide +kernel
theorem dX0_isTooDeep_22 : decode cX0_isTooDeep 22 = .ok (.goto (-20), 3) := by decide +kernel
theorem dX0_isTooDeep_25 : decode cX0_isTooDeep 25 = .ok (.iconst 0, 1) := by decide +kernel
theorem dX0_isTooDeep_26 : decode cX0_isTooDeep 26 = .ok (.ireturn, 1) := by decide +kernel
theorem dX0_needs_0 : decode cX0_needs 0 = .ok (.aload_n 0, 1) := by decide +kernel
theorem dX0_needs_1 : decode cX0_needs 1 = .ok (.iload_n 1, 1) := by decide +kernel
theorem dX0_needs_2 : decode cX0_needs 2 = .ok (.invokevirtual 107, 3) := by decide +kernel
theorem dX0_needs_5 : decode cX0_needs 5 = .ok (.astore_n 2, 1) := by decide +kernel
theorem dX0_needs_6 : decode cX0_needs 6 = .ok (.iconst 0, 1) := by decide +kernel
theorem dX0_needs_7 : decode cX0_needs 7 = .ok (.istore_n 3, 1) := by decide +kernel
theorem dX0_needs_8 : decode cX0_needs 8 = .ok (.iconst 0, 1) := by decide +kernel
theorem dX0_needs_9 : decode cX0_needs 9 = .ok (.istore 4, 2) := by decide +kernel
theorem dX0_needs_11 : decode cX0_needs 11 = .ok (.iload 4, 2) := by decide +kernel
theorem dX0_needs_13 : decode cX0_needs 13 = .ok (.bipush 8, 2) := by decide +kernel
theorem dX0_needs_15 : decode cX0_needs 15 = .ok (.if_icmp .gt 29, 3) := by decide +kernel
theorem dX0_needs_18 : decode cX0_needs 18 = .ok (.aload_n 2, 1) := by decide +kernel
theorem dX0_needs_19 : decode cX0_needs 19 = .ok (.ifnull 25, 3) := by decide +kernel
theorem dX0_needs_22 : decode cX0_needs 22 = .ok (.iload_n 3, 1) := by decide +kernel
theorem dX0_needs_23 : decode cX0_needs 23 = .ok (.aload_n 2, 1) := by decide +kernel
theorem dX0_needs_24 : decode cX0_needs 24 = .ok (.getfield 110, 3) := by decide +kernel
theorem dX0_needs_27 : decode cX0_needs 27 = .ok (.ior, 1) := by decide +kernel
theorem dX0_needs_28 : decode cX0_needs 28 = .ok (.istore_n 3, 1) := by decide +kernel
theorem dX0_needs_29 : decode cX0_needs 29 = .ok (.aload_n 0, 1) := by decide +kernel
theorem dX0_needs_30 : decode cX0_needs 30 = .ok (.aload_n 2, 1) := by decide +kernel
theorem dX0_needs_31 : decode cX0_needs 31 = .ok (.getfield 74, 3) := by decide +kernel
theorem dX0_needs_34 : decode cX0_needs 34 = .ok (.invokevirtual 59, 3) := by decide +kernel
theorem dX0_needs_37 : decode cX0_needs 37 = .ok (.astore_n 2, 1) := by decide +kernel
theorem dX0_needs_38 : decode cX0_needs 38 = .ok (.iinc 4 1, 3) := by decide +kernel
theorem dX0_needs_41 : decode cX0_needs 41 = .ok (.goto (-30), 3) := by decide +kernel
theorem dX0_needs_44 : decode cX0_needs 44 = .ok (.iload_n 3, 1) := by decide +kernel
theorem dX0_needs_45 : decode cX0_needs 45 = .ok (.ireturn, 1) := by decide +kernel
theorem dX0_allNeeds_0 : decode cX0_allNeeds 0 = .ok (.aload_n 0, 1) := by decide +kernel
theorem dX0_allNeeds_1 : decode cX0_allNeeds 1 = .ok (.iload_n 1, 1) := by decide +kernel
theorem dX0_allNeeds_2 : decode cX0_allNeeds 2 = .ok (.invokevirtual 113, 3) := by decide +kernel
theorem dX0_allNeeds_5 : decode cX0_allNeeds 5 = .ok (.istore_n 2, 1) := by decide +kernel
theorem dX0_allNeeds_6 : decode cX0_allNeeds 6 = .ok (.iconst 0, 1) := by decide +kernel
theorem dX0_allNeeds_7 : decode cX0_allNeeds 7 = .ok (.istore_n 3, 1) := by decide +kernel
theorem dX0_allNeeds_8 : decode cX0_allNeeds 8 = .ok (.iload_n 3, 1) := by decide +kernel
theorem dX0_allNeeds_9 : decode cX0_allNeeds 9 = .ok (.bipush 24, 2) := by decide +kernel
theorem dX0_allNeeds_11 : decode cX0_allNeeds 11 = .ok (.if_icmp .ge 59, 3) := by decide +kernel
theorem dX0_allNeeds_14 : decode cX0_allNeeds 14 = .ok (.iload_n 2, 1) := by decide +kernel
theorem dX0_allNeeds_15 : decode cX0_allNeeds 15 = .ok (.istore 4, 2) := by decide +kernel
theorem dX0_allNeeds_17 : decode cX0_allNeeds 17 = .ok (.iconst 0, 1) := by decide +kernel
theorem dX0_allNeeds_18 : decode cX0_allNeeds 18 = .ok (.istore 5, 2) := by decide +kernel
theorem dX0_allNeeds_20 : decode cX0_allNeeds 20 = .ok (.iload 5, 2) := by decide +kernel
theorem dX0_allNeeds_22 : decode cX0_allNeeds 22 = .ok (.bipush 24, 2) := by decide +kernel
theorem dX0_allNeeds_24 : decode cX0_allNeeds 24 = .ok (.if_icmp .ge 29, 3) := by decide +kernel
theorem dX0_allNeeds_27 : decode cX0_allNeeds 27 = .ok (.iload_n 2, 1) := by decide +kernel
theorem dX0_allNeeds_28 : decode cX0_allNeeds 28 = .ok (.iload 5, 2) := by decide +kernel
theorem dX0_allNeeds_30 : decode cX0_allNeeds 30 = .ok (.invokestatic 116, 3) := by decide +kernel
theorem dX0_allNeeds_33 : decode cX0_allNeeds 33 = .ok (.ifCond .eq 14, 3) := by decide +kernel
theorem dX0_allNeeds_36 : decode cX0_allNeeds 36 = .ok (.iload 4, 2) := by decide +kernel
theorem dX0_allNeeds_38 : decode cX0_allNeeds 38 = .ok (.aload_n 0, 1) := by decide +kernel
theorem dX0_allNeeds_39 : decode cX0_allNeeds 39 = .ok (.iload 5, 2) := by decide +kernel
theorem dX0_allNeeds_41 : decode cX0_allNeeds 41 = .ok (.invokevirtual 113, 3) := by decide +kernel
theorem dX0_allNeeds_44 : decode cX0_allNeeds 44 = .ok (.ior, 1) := by decide +kernel
theorem dX0_allNeeds_45 : decode cX0_allNeeds 45 = .ok (.istore 4, 2) := by decide +kernel
theorem dX0_allNeeds_47 : decode cX0_allNeeds 47 = .ok (.iinc 5 1, 3) := by decide +kernel
theorem dX0_allNeeds_50 : decode cX0_allNeeds 50 = .ok (.goto (-30), 3) := by decide +kernel
theorem dX0_allNeeds_53 : decode cX0_allNeeds 53 = .ok (.iload 4, 2) := by decide +kernel
theorem dX0_allNeeds_55 : decode cX0_allNeeds 55 = .ok (.iload_n 2, 1) := by decide +kernel
theorem dX0_allNeeds_56 : decode cX0_allNeeds 56 = .ok (.if_icmp .ne 5, 3) := by decide +kernel
theorem dX0_allNeeds_59 : decode cX0_allNeeds 59 = .ok (.iload_n 2, 1) := by decide +kernel
theorem dX0_allNeeds_60 : decode cX0_allNeeds 60 = .ok (.ireturn, 1) := by decide +kernel
theorem dX0_allNeeds_61 : decode cX0_allNeeds 61 = .ok (.iload 4, 2) := by decide +kernel
theorem dX0_allNeeds_63 : decode cX0_allNeeds 63 = .ok (.istore_n 2, 1) := by decide +kernel
theorem dX0_allNeeds_64 : decode cX0_allNeeds 64 = .ok (.iinc 3 1, 3) := by decide +kernel
theorem dX0_allNeeds_67 : decode cX0_allNeeds 67 = .ok (.goto (-59), 3) := by decide +kernel
theorem dX0_allNeeds_70 : decode cX0_allNeeds 70 = .ok (.iload_n 2, 1) := by decide +kernel
theorem dX0_allNeeds_71 : decode cX0_allNeeds 71 = .ok (.ireturn, 1) := by decide +kernel
theorem dX0_refuses_0 : decode cX0_refuses 0 = .ok (.aload_n 0, 1) := by decide +kernel
theorem dX0_refuses_1 : decode cX0_refuses 1 = .ok (.iload_n 2, 1) := by decide +kernel
theorem dX0_refuses_2 : decode cX0_refuses 2 = .ok (.invokevirtual 119, 3) := by decide +kernel
theorem dX0_refuses_5 : decode cX0_refuses 5 = .ok (.ldc 122, 2) := by decide +kernel
theorem dX0_refuses_7 : decode cX0_refuses 7 = .ok (.iload_n 2, 1) := by decide +kernel
theorem dX0_refuses_8 : decode cX0_refuses 8 = .ok (.invokestatic 116, 3) := by decide +kernel
theorem dX0_refuses_11 : decode cX0_refuses 11 = .ok (.ifCond .eq 9, 3) := by decide +kernel
theorem dX0_refuses_14 : decode cX0_refuses 14 = .ok (.iconst 1, 1) := by decide +kernel
theorem dX0_refuses_15 : decode cX0_refuses 15 = .ok (.iload_n 2, 1) := by decide +kernel
theorem dX0_refuses_16 : decode cX0_refuses 16 = .ok (.ishl, 1) := by decide +kernel
theorem dX0_refuses_17 : decode cX0_refuses 17 = .ok (.goto 4, 3) := by decide +kernel
theorem dX0_refuses_20 : decode cX0_refuses 20 = .ok (.iconst 0, 1) := by decide +kernel
theorem dX0_refuses_21 : decode cX0_refuses 21 = .ok (.ior, 1) := by decide +kernel
theorem dX0_refuses_22 : decode cX0_refuses 22 = .ok (.istore_n 3, 1) := by decide +kernel
theorem dX0_refuses_23 : decode cX0_refuses 23 = .ok (.aload_n 0, 1) := by decide +kernel
theorem dX0_refuses_24 : decode cX0_refuses 24 = .ok (.iload_n 1, 1) := by decide +kernel
theorem dX0_refuses_25 : decode cX0_refuses 25 = .ok (.invokevirtual 123, 3) := by decide +kernel
theorem dX0_refuses_28 : decode cX0_refuses 28 = .ok (.iload_n 3, 1) := by decide +kernel
theorem dX0_refuses_29 : decode cX0_refuses 29 = .ok (.iand, 1) := by decide +kernel
theorem dX0_refuses_30 : decode cX0_refuses 30 = .ok (.ifCond .eq 7, 3) := by decide +kernel
theorem dX0_refuses_33 : decode cX0_refuses 33 = .ok (.iconst 1, 1) := by decide +kernel
theorem dX0_refuses_34 : decode cX0_refuses 34 = .ok (.goto 4, 3) := by decide +kernel
theorem dX0_refuses_37 : decode cX0_refuses 37 = .ok (.iconst 0, 1) := by decide +kernel
theorem dX0_refuses_38 : decode cX0_refuses 38 = .ok (.ireturn, 1) := by decide +kernel
theorem dX0_isCircular_0 : decode cX0_isCircular 0 = .ok (.iconst 0, 1) := by decide +kernel
theorem dX0_isCircular_1 : decode cX0_isCircular 1 = .ok (.istore_n 1, 1) := by decide +kernel
theorem dX0_isCircular_2 : decode cX0_isCircular 2 = .ok (.iload_n 1, 1) := by decide +kernel
theorem dX0_isCircular_3 : decode cX0_isCircular 3 = .ok (.bipush 24, 2) := by decide +kernel
theorem dX0_isCircular_5 : decode cX0_isCircular 5 = .ok (.if_icmp .ge 23, 3) := by decide +kernel
theorem dX0_isCircular_8 : decode cX0_isCircular 8 = .ok (.aload_n 0, 1) := by decide +kernel
theorem dX0_isCircular_9 : decode cX0_isCircular 9 = .ok (.iload_n 1, 1) := by decide +kernel
theorem dX0_isCircular_10 : decode cX0_isCircular 10 = .ok (.invokevirtual 119, 3) := by decide +kernel
theorem dX0_isCircular_13 : decode cX0_isCircular 13 = .ok (.iload_n 1, 1) := by decide +kernel
theorem dX0_isCircular_14 : decode cX0_isCircular 14 = .ok (.invokestatic 116, 3) := by decide +kernel
theorem dX0_isCircular_17 : decode cX0_isCircular 17 = .ok (.ifCond .eq 5, 3) := by decide +kernel
theorem dX0_isCircular_20 : decode cX0_isCircular 20 = .ok (.iconst 1, 1) := by decide +kernel
theorem dX0_isCircular_21 : decode cX0_isCircular 21 = .ok (.ireturn, 1) := by decide +kernel
theorem dX0_isCircular_22 : decode cX0_isCircular 22 = .ok (.iinc 1 1, 3) := by decide +kernel
theorem dX0_isCircular_25 : decode cX0_isCircular 25 = .ok (.goto (-23), 3) := by decide +kernel
theorem dX0_isCircular_28 : decode cX0_isCircular 28 = .ok (.iconst 0, 1) := by decide +kernel
theorem dX0_isCircular_29 : decode cX0_isCircular 29 = .ok (.ireturn, 1) := by decide +kernel
theorem dX0_isNeededOutside_0 : decode cX0_isNeededOutside 0 = .ok (.iconst 0, 1) := by decide +kernel
theorem dX0_isNeededOutside_1 : decode cX0_isNeededOutside 1 = .ok (.istore_n 3, 1) := by decide +kernel
theorem dX0_isNeededOutside_2 : decode cX0_isNeededOutside 2 = .ok (.iload_n 3, 1) := by decide +kernel
theorem dX0_isNeededOutside_3 : decode cX0_isNeededOutside 3 = .ok (.bipush 32, 2) := by decide +kernel
theorem dX0_isNeededOutside_5 : decode cX0_isNeededOutside 5 = .ok (.if_icmp .ge 51, 3) := by decide +kernel
theorem dX0_isNeededOutside_8 : decode cX0_isNeededOutside 8 = .ok (.aload_n 0, 1) := by decide +kernel
theorem dX0_isNeededOutside_9 : decode cX0_isNeededOutside 9 = .ok (.iload_n 3, 1) := by decide +kernel
theorem dX0_isNeededOutside_10 : decode cX0_isNeededOutside 10 = .ok (.invokevirtual 55, 3) := by decide +kernel
theorem dX0_isNeededOutside_13 : decode cX0_isNeededOutside 13 = .ok (.astore 4, 2) := by decide +kernel
theorem dX0_isNeededOutside_15 : decode cX0_isNeededOutside 15 = .ok (.aload 4, 2) := by decide +kernel
theorem dX0_isNeededOutside_17 : decode cX0_isNeededOutside 17 = .ok (.ifnull 33, 3) := by decide +kernel
theorem dX0_isNeededOutside_20 : decode cX0_isNeededOutside 20 = .ok (.iload_n 3, 1) := by decide +kernel
theorem dX0_isNeededOutside_21 : decode cX0_isNeededOutside 21 = .ok (.iload_n 1, 1) := by decide +kernel
theorem dX0_isNeededOutside_22 : decode cX0_isNeededOutside 22 = .ok (.if_icmp .eq 28, 3) := by decide +kernel
theorem dX0_isNeededOutside_25 : decode cX0_isNeededOutside 25 = .ok (.aload_n 0, 1) := by decide +kernel
theorem dX0_isNeededOutside_26 : decode cX0_isNeededOutside 26 = .ok (.iload_n 1, 1) := by decide +kernel
theorem dX0_isNeededOutside_27 : decode cX0_isNeededOutside 27 = .ok (.aload 4, 2) := by decide +kernel
theorem dX0_isNeededOutside_29 : decode cX0_isNeededOutside 29 = .ok (.getfield 74, 3) := by decide +kernel
theorem dX0_isNeededOutside_32 : decode cX0_isNeededOutside 32 = .ok (.invokevirtual 86, 3) := by decide +kernel
theorem dX0_isNeededOutside_35 : decode cX0_isNeededOutside 35 = .ok (.ifCond .ne 15, 3) := by decide +kernel
theorem dX0_isNeededOutside_38 : decode cX0_isNeededOutside 38 = .ok (.aload 4, 2) := by decide +kernel
theorem dX0_isNeededOutside_40 : decode cX0_isNeededOutside 40 = .ok (.getfield 110, 3) := by decide +kernel
theorem dX0_isNeededOutside_43 : decode cX0_isNeededOutside 43 = .ok (.iload_n 2, 1) := by decide +kernel
theorem dX0_isNeededOutside_44 : decode cX0_isNeededOutside 44 = .ok (.iand, 1) := by decide +kernel
theorem dX0_isNeededOutside_45 : decode cX0_isNeededOutside 45 = .ok (.ifCond .eq 5, 3) := by decide +kernel
theorem dX0_isNeededOutside_48 : decode cX0_isNeededOutside 48 = .ok (.iconst 1, 1) := by decide +kernel
theorem dX0_isNeededOutside_49 : decode cX0_isNeededOutside 49 = .ok (.ireturn, 1) := by decide +kernel
theorem dX0_isNeededOutside_50 : decode cX0_isNeededOutside 50 = .ok (.iinc 3 1, 3) := by decide +kernel
theorem dX0_isNeededOutside_53 : decode cX0_isNeededOutside 53 = .ok (.goto (-51), 3) := by decide +kernel
theorem dX0_isNeededOutside_56 : decode cX0_isNeededOutside 56 = .ok (.iconst 0, 1) := by decide +kernel
theorem dX0_isNeededOutside_57 : decode cX0_isNeededOutside 57 = .ok (.ireturn, 1) := by decide +kernel
theorem dX0_nextField_0 : decode cX0_nextField 0 = .ok (.iconst 0, 1) := by decide +kernel
theorem dX0_nextField_1 : decode cX0_nextField 1 = .ok (.istore_n 2, 1) := by decide +kernel
theorem dX0_nextField_2 : decode cX0_nextField 2 = .ok (.iload_n 2, 1) := by decide +kernel
theorem dX0_nextField_3 : decode cX0_nextField 3 = .ok (.bipush 24, 2) := by decide +kernel
theorem dX0_nextField_5 : decode cX0_nextField 5 = .ok (.if_icmp .ge 39, 3) := by decide +kernel
theorem dX0_nextField_8 : decode cX0_nextField 8 = .ok (.aload_n 0, 1) := by decide +kernel
theorem dX0_nextField_9 : decode cX0_nextField 9 = .ok (.iload_n 2, 1) := by decide +kernel
theorem dX0_nextField_10 : decode cX0_nextField 10 = .ok (.invokevirtual 55, 3) := by decide +kernel
theorem dX0_nextField_13 : decode cX0_nextField 13 = .ok (.ifnull 25, 3) := by decide +kernel
theorem dX0_nextField_16 : decode cX0_nextField 16 = .ok (.iload_n 1, 1) := by decide +kernel
theorem dX0_nextField_17 : decode cX0_nextField 17 = .ok (.iload_n 2, 1) := by decide +kernel
theorem dX0_nextField_18 : decode cX0_nextField 18 = .ok (.invokestatic 116, 3) := by decide +kernel
theorem dX0_nextField_21 : decode cX0_nextField 21 = .ok (.ifCond .ne 17, 3) := by decide +kernel
theorem dX0_nextField_24 : decode cX0_nextField 24 = .ok (.aload_n 0, 1) := by decide +kernel
theorem dX0_nextField_25 : decode cX0_nextField 25 = .ok (.iload_n 2, 1) := by decide +kernel
theorem dX0_nextField_26 : decode cX0_nextField 26 = .ok (.invokevirtual 113, 3) := by decide +kernel
theorem dX0_nextField_29 : decode cX0_nextField 29 = .ok (.iload_n 1, 1) := by decide +kernel
theorem dX0_nextField_30 : decode cX0_nextField 30 = .ok (.iconst (-1), 1) := by decide +kernel
theorem dX0_nextField_31 : decode cX0_nextField 31 = .ok (.ixor, 1) := by decide +kernel
theorem dX0_nextField_32 : decode cX0_nextField 32 = .ok (.iand, 1) := by decide +kernel
theorem dX0_nextField_33 : decode cX0_nextField 33 = .ok (.ifCond .ne 5, 3) := by decide +kernel
theorem dX0_nextField_36 : decode cX0_nextField 36 = .ok (.iload_n 2, 1) := by decide +kernel
theorem dX0_nextField_37 : decode cX0_nextField 37 = .ok (.ireturn, 1) := by decide +kernel
theorem dX0_nextField_38 : decode cX0_nextField 38 = .ok (.iinc 2 1, 3) := by decide +kernel
theorem dX0_nextField_41 : decode cX0_nextField 41 = .ok (.goto (-39), 3) := by decide +kernel
theorem dX0_nextField_44 : decode cX0_nextField 44 = .ok (.bipush (-2), 2) := by decide +kernel
theorem dX0_nextField_46 : decode cX0_nextField 46 = .ok (.ireturn, 1) := by decide +kernel
theorem dX1_init_0 : decode cX1_init 0 = .ok (.aload_n 0, 1) := by decide +kernel
theorem dX1_init_1 : decode cX1_init 1 = .ok (.invokespecial 3, 3) := by decide +kernel
theorem dX1_init_4 : decode cX1_init 4 = .ok (.aload_n 0, 1) := by decide +kernel
theorem dX1_init_5 : decode cX1_init 5 = .ok (.bipush 32, 2) := by decide +kernel
theorem dX1_init_7 : decode cX1_init 7 = .ok (.newarray .int, 2) := by decide +kernel
theorem dX1_init_9 : decode cX1_init 9 = .ok (.putfield 9, 3) := by decide +kernel
theorem dX1_init_12 : decode cX1_init 12 = .ok (.aload_n 0, 1) := by decide +kernel
theorem dX1_init_13 : decode cX1_init 13 = .ok (.bipush 32, 2) := by decide +kernel
theorem dX1_init_15 : decode cX1_init 15 = .ok (.newarray .int, 2) := by decide +kernel
theorem dX1_init_17 : decode cX1_init 17 = .ok (.putfield 15, 3) := by decide +kernel
theorem dX1_init_20 : decode cX1_init 20 = .ok (.return_, 1) := by decide +kernel
theorem dX1_arrange_0 : decode cX1_arrange 0 = .ok (.aload_n 0, 1) := by decide +kernel
theorem dX1_arrange_1 : decode cX1_arrange 1 = .ok (.invokevirtual 18, 3) := by decide +kernel
theorem dX1_arrange_4 : decode cX1_arrange 4 = .ok (.iconst 0, 1) := by decide +kernel
theorem dX1_arrange_5 : decode cX1_arrange 5 = .ok (.istore_n 3, 1) := by decide +kernel
theorem dX1_arrange_6 : decode cX1_arrange 6 = .ok (.iconst 0, 1) := by decide +kernel
theorem dX1_arrange_7 : decode cX1_arrange 7 = .ok (.istore 4, 2) := by decide +kernel
theorem dX1_arrange_9 : decode cX1_arrange 9 = .ok (.iload 4, 2) := by decide +kernel
theorem dX1_arrange_11 : decode cX1_arrange 11 = .ok (.aload_n 1, 1) := by decide +kernel
theorem dX1_arrange_12 : decode cX1_arrange 12 = .ok (.getfield 21, 3) := by decide +kernel
theorem dX1_arrange_15 : decode cX1_arrange 15 = .ok (.if_icmp .ge 193, 3) := by decide +kernel
theorem dX1_arrange_18 : decode cX1_arrange 18 = .ok (.aload_n 1, 1) := by decide +kernel
theorem dX1_arrange_19 : decode cX1_arrange 19 = .ok (.iload 4, 2) := by decide +kernel
theorem dX1_arrange_21 : decode cX1_arrange 21 = .ok (.invokevirtual 27, 3) := by decide +kernel
theorem dX1_arrange_24 : decode cX1_arrange 24 = .ok (.istore 5, 2) := by decide +kernel
theorem dX1_arrange_26 : decode cX1_arrange 26 = .ok (.aload_n 1, 1) := by decide +kernel
theorem dX1_arrange_27 : decode cX1_arrange 27 = .ok (.iload 5, 2) := by decide +kernel
theorem dX1_arrange_29 : decode cX1_arrange 29 = .ok (.invokevirtual 31, 3) := by decide +kernel
theorem dX1_arrange_32 : decode cX1_arrange 32 = .ok (.astore 6, 2) := by decide +kernel
theorem dX1_arrange_34 : decode cX1_arrange 34 = .ok (.aload 6, 2) := by decide +kernel
theorem dX1_arrange_36 : decode cX1_arrange 36 = .ok (.ifnull 166, 3) := by decide +kernel
theorem dX1_arrange_39 : decode cX1_arrange 39 = .ok (.aload_n 2, 1) := by decide +kernel
theorem dX1_arrange_40 : decode cX1_arrange 40 = .ok (.ifnull 15, 3) := by decide +kernel
theorem dX1_arrange_43 : decode cX1_arrange 43 = .ok (.aload_n 2, 1) := by decide +kernel
theorem dX1_arrange_44 : decode cX1_arrange 44 = .ok (.iload 5, 2) := by decide +kernel
theorem dX1_arrange_46 : decode cX1_arrange 46 = .ok (.invokevirtual 35, 3) := by decide +kernel
theorem dX1_arrange_49 : decode cX1_arrange 49 = .ok (.ifCond .ne 6, 3) := by decide +kernel
theorem dX1_arrange_52 : decode cX1_arrange 52 = .ok (.goto 150, 3) := by decide +kernel
theorem dX1_arrange_55 : decode cX1_arrange 55 = .ok (.aload_n 1, 1) := by decide +kernel
theorem dX1_arrange_56 : decode cX1_arrange 56 = .ok (.aload 6, 2) := by decide +kernel
theorem dX1_arrange_58 : decode cX1_arrange 58 = .ok (.getfield 41, 3) := by decide +kernel
theorem dX1_arrange_61 : decode cX1_arrange 61 = .ok (.invokevirtual 46, 3) := by decide +kernel
theorem dX1_arrange_64 : decode cX1_arrange 64 = .ok (.istore 7, 2) := by decide +kernel
theorem dX1_arrange_66 : decode cX1_arrange 66 = .ok (.iload 7, 2) := by decide +kernel
theorem dX1_arrange_68 : decode cX1_arrange 68 = .ok (.iload_n 3, 1) := by decide +kernel
theorem dX1_arrange_69 : decode cX1_arrange 69 = .ok (.if_icmp .ge 9, 3) := by decide +kernel
theorem dX1_arrange_72 : decode cX1_arrange 72 = .ok (.aload_n 0, 1) := by decide +kernel
theorem dX1_arrange_73 : decode cX1_arrange 73 = .ok (.iload 7, 2) := by decide +kernel
theorem dX1_arrange_75 : decode cX1_arrange 75 = .ok (.invokevirtual 49, 3) := by decide +kernel
theorem dX1_arrange_78 : decode cX1_arrange 78 = .ok (.iload 7, 2) := by decide +kernel
theorem dX1_arrange_80 : decode cX1_arrange 80 = .ok (.istore_n 3, 1) := by decide +kernel
theorem dX1_arrange_81 : decode cX1_arrange 81 = .ok (.aload 6, 2) := by decide +kernel
theorem dX1_arrange_83 : decode cX1_arrange 83 = .ok (.getfield 53, 3) := by decide +kernel
theorem dX1_arrange_86 : decode cX1_arrange 86 = .ok (.iconst 3, 1) := by decide +kernel
theorem dX1_arrange_87 : decode cX1_arrange 87 = .ok (.if_icmp .ne 31, 3) := by decide +kernel
theorem dX1_arrange_90 : decode cX1_arrange 90 = .ok (.aload_n 0, 1) := by decide +kernel
theorem dX1_arrange_91 : decode cX1_arrange 91 = .ok (.iload 5, 2) := by decide +kernel
theorem dX1_arrange_93 : decode cX1_arrange 93 = .ok (.iload 7, 2) := by decide +kernel
theorem dX1_arrange_95 : decode cX1_arrange 95 = .ok (.aload_n 2, 1) := by decide +kernel
theorem dX1_arrange_96 : decode cX1_arrange 96 = .ok (.ifnonnull 10, 3) := by decide +kernel
theorem dX1_arrange_99 : decode cX1_arrange 99 = .ok (.aload_n 1, 1) := by decide +kernel
theorem dX1_arrange_100 : decode cX1_arrange 100 = .ok (.getfield 56, 3) := by decide +kernel
theorem dX1_arrange_103 : decode cX1_arrange 103 = .ok (.goto 4, 3) := by decide +kernel
theorem dX1_arrange_106 : decode cX1_arrange 106 = .ok (.iconst 0, 1) := by decide +kernel
theorem dX1_arrange_107 : decode cX1_arrange 107 = .ok (.invokevirtual 59, 3) := by decide +kernel
theorem dX1_arrange_110 : decode cX1_arrange 110 = .ok (.iload 7, 2) := by decide +kernel
theorem dX1_arrange_112 : decode cX1_arrange 112 = .ok (.iconst 1, 1) := by decide +kernel
theorem dX1_arrange_113 : decode cX1_arrange 113 = .ok (.iadd, 1) := by decide +kernel
theorem dX1_arrange_114 : decode cX1_arrange 114 = .ok (.istore_n 3, 1) := by decide +kernel
theorem dX1_arrange_115 : decode cX1_arrange 115 = .ok (.goto 87, 3) := by decide +kernel
theorem dX1_arrange_118 : decode cX1_arrange 118 = .ok (.aload_n 2, 1) := by decide +kernel
theorem dX1_arrange_119 : decode cX1_arrange 119 = .ok (.ifnonnull 15, 3) := by decide +kernel
theorem dX1_arrange_122 : decode cX1_arrange 122 = .ok (.aload 6, 2) := by decide +kernel
theorem dX1_arrange_124 : decode cX1_arrange 124 = .ok (.getfield 63, 3) := by decide +kernel
theorem dX1_arrange_127 : decode cX1_arrange 127 = .ok (.ifnull 7, 3) := by decide +kernel
theorem dX1_arrange_130 : decode cX1_arrange 130 = .ok (.iconst 1, 1) := by decide +kernel
theorem dX1_arrange_131 : decode cX1_arrange 131 = .ok (.goto 4, 3) := by decide +kernel
theorem dX1_arrange_134 : decode cX1_arrange 134 = .ok (.iconst 0, 1) := by decide +kernel
theorem dX1_arrange_135 : decode cX1_arrange 135 = .ok (.istore 8, 2) := by decide +kernel
theorem dX1_arrange_137 : decode cX1_arrange 137 = .ok (.aload_n 2, 1) := by decide +kernel
theorem dX1_arrange_138 : decode cX1_arrange 138 = .ok (.ifnonnull 10, 3) := by decide +kernel
theorem dX1_arrange_141 : decode cX1_arrange 141 = .ok (.aload_n 1, 1) := by decide +kernel
theorem dX1_arrange_142 : decode cX1_arrange 142 = .ok (.getfield 67, 3) := by decide +kernel
theorem dX1_arrange_145 : decode cX1_arrange 145 = .ok (.goto 7, 3) := by decide +kernel
theorem dX1_arrange_148 : decode cX1_arrange 148 = .ok (.aload_n 1, 1) := by decide +kernel
theorem dX1_arrange_149 : decode cX1_arrange 149 = .ok (.getfield 70, 3) := by decide +kernel
theorem dX1_arrange_152 : decode cX1_arrange 152 = .ok (.istore 9, 2) := by decide +kernel
theorem dX1_arrange_154 : decode cX1_arrange 154 = .ok (.iload 8, 2) := by decide +kernel
theorem dX1_arrange_156 : decode cX1_arrange 156 = .ok (.ifCond .ne 18, 3) := by decide +kernel
theorem dX1_arrange_159 : decode cX1_arrange 159 = .ok (.aload_n 0, 1) := by decide +kernel
theorem dX1_arrange_160 : decode cX1_arrange 160 = .ok (.getfield 73, 3) := by decide +kernel
theorem dX1_arrange_163 : decode cX1_arrange 163 = .ok (.aload 6, 2) := by decide +kernel
theorem dX1_arrange_165 : decode cX1_arrange 165 = .ok (.getfield 76, 3) := by decide +kernel
theorem dX1_arrange_168 : decode cX1_arrange 168 = .ok (.iadd, 1) := by decide +kernel
theorem dX1_arrange_169 : decode cX1_arrange 169 = .ok (.iload 9, 2) := by decide +kernel
theorem dX1_arrange_171 : decode cX1_arrange 171 = .ok (.if_icmp .le 9, 3) := by decide +kernel
theorem dX1_arrange_174 : decode cX1_arrange 174 = .ok (.aload_n 0, 1) := by decide +kernel
theorem dX1_arrange_175 : decode cX1_arrange 175 = .ok (.iload 7, 2) := by decide +kernel
theorem dX1_arrange_177 : decode cX1_arrange 177 = .ok (.invokevirtual 49, 3) := by decide +kernel
theorem dX1_arrange_180 : decode cX1_arrange 180 = .ok (.aload_n 0, 1) := by decide +kernel
theorem dX1_arrange_181 : decode cX1_arrange 181 = .ok (.iload 5, 2) := by decide +kernel
theorem dX1_arrange_183 : decode cX1_arrange 183 = .ok (.invokevirtual 79, 3) := by decide +kernel
theorem dX1_arrange_186 : decode cX1_arrange 186 = .ok (.aload_n 0, 1) := by decide +kernel
theorem dX1_arrange_187 : decode cX1_arrange 187 = .ok (.dup, 1) := by decide +kernel
theorem dX1_arrange_188 : decode cX1_arrange 188 = .ok (.getfield 73, 3) := by decide +kernel
theorem dX1_arrange_191 : decode cX1_arrange 191 = .ok (.aload 6, 2) := by decide +kernel
theorem dX1_arrange_193 : decode cX1_arrange 193 = .ok (.getfield 76, 3) := by decide +kernel
theorem dX1_arrange_196 : decode cX1_arrange 196 = .ok (.iconst 1, 1) := by decide +kernel
theorem dX1_arrange_197 : decode cX1_arrange 197 = .ok (.iadd, 1) := by decide +kernel
theorem dX1_arrange_198 : decode cX1_arrange 198 = .ok (.iadd, 1) := by decide +kernel
theorem dX1_arrange_199 : decode cX1_arrange 199 = .ok (.putfield 73, 3) := by decide +kernel
theorem dX1_arrange_202 : decode cX1_arrange 202 = .ok (.iinc 4 1, 3) := by decide +kernel
theorem dX1_arrange_205 : decode cX1_arrange 205 = .ok (.goto (-196), 3) := by decide +kernel
theorem dX1_arrange_208 : decode cX1_arrange 208 = .ok (.return_, 1) := by decide +kernel
theorem dX1_rowOf_0 : decode cX1_rowOf 0 = .ok (.iload_n 1, 1) := by decide +kernel
theorem dX1_rowOf_1 : decode cX1_rowOf 1 = .ok (.ifCond .lt 18, 3) := by decide +kernel
theorem dX1_rowOf_4 : decode cX1_rowOf 4 = .ok (.iload_n 1, 1) := by decide +kernel
theorem dX1_rowOf_5 : decode cX1_rowOf 5 = .ok (.bipush 32, 2) := by decide +kernel
theorem dX1_rowOf_7 : decode cX1_rowOf 7 = .ok (.if_icmp .ge 12, 3) := by decide +kernel
theorem dX1_rowOf_10 : decode cX1_rowOf 10 = .ok (.aload_n 0, 1) := by decide +kernel
theorem dX1_rowOf_11 : decode cX1_rowOf 11 = .ok (.getfield 9, 3) := by decide +kernel
theorem dX1_rowOf_14 : decode cX1_rowOf 14 = .ok (.iload_n 1, 1) := by decide +kernel
theorem dX1_rowOf_15 : decode cX1_rowOf 15 = .ok (.iaload, 1) := by decide +kernel
theorem dX1_rowOf_16 : decode cX1_rowOf 16 = .ok (.goto 5, 3) := by decide +kernel
theorem dX1_rowOf_19 : decode cX1_rowOf 19 = .ok (.bipush (-2), 2) := by decide +kernel
theorem dX1_rowOf_21 : decode cX1_rowOf 21 = .ok (.ireturn, 1) := by decide +kernel
theorem dX1_columnOf_0 : decode cX1_columnOf 0 = .ok (.iload_n 1, 1) := by decide +kernel
theorem dX1_columnOf_1 : decode cX1_columnOf 1 = .ok (.ifCond .lt 18, 3) := by decide +kernel
theorem dX1_columnOf_4 : decode cX1_columnOf 4 = .ok (.iload_n 1, 1) := by decide +kernel
theorem dX1_columnOf_5 : decode cX1_columnOf 5 = .ok (.bipush 32, 2) := by decide +kernel
theorem dX1_columnOf_7 : decode cX1_columnOf 7 = .ok (.if_icmp .ge 12, 3) := by decide +kernel
theorem dX1_columnOf_10 : decode cX1_columnOf 10 = .ok (.aload_n 0, 1) := by decide +kernel
theorem dX1_columnOf_11 : decode cX1_columnOf 11 = .ok (.getfield 15, 3) := by decide +kernel
theorem dX1_columnOf_14 : decode cX1_columnOf 14 = .ok (.iload_n 1, 1) := by decide +kernel
theorem dX1_columnOf_15 : decode cX1_columnOf 15 = .ok (.iaload, 1) := by decide +kernel
theorem dX1_columnOf_16 : decode cX1_columnOf 16 = .ok (.goto 5, 3) := by decide +kernel
theorem dX1_columnOf_19 : decode cX1_columnOf 19 = .ok (.bipush (-2), 2) := by decide +kernel
theorem dX1_columnOf_21 : decode cX1_columnOf 21 = .ok (.ireturn, 1) := by decide +kernel
theorem dX1_start_0 : decode cX1_start 0 = .ok (.aload_n 0, 1) := by decide +kernel
theorem dX1_start_1 : decode cX1_start 1 = .ok (.iconst 0, 1) := by decide +kernel
theorem dX1_start_2 : decode cX1_start 2 = .ok (.putfield 82, 3) := by decide +kernel
theorem dX1_start_5 : decode cX1_start 5 = .ok (.aload_n 0, 1) := by decide +kernel
theorem dX1_start_6 : decode cX1_start 6 = .ok (.iconst 0, 1) := by decide +kernel
theorem dX1_start_7 : decode cX1_start 7 = .ok (.putfield 85, 3) := by decide +kernel
theorem dX1_start_10 : decode cX1_start 10 = .ok (.aload_n 0, 1) := by decide +kernel
theorem dX1_start_11 : decode cX1_start 11 = .ok (.iconst 0, 1) := by decide +kernel
theorem dX1_start_12 : decode cX1_start 12 = .ok (.putfield 73, 3) := by decide +kernel
theorem dX1_start_15 : decode cX1_start 15 = .ok (.aload_n 0, 1) := by decide +kernel
theorem dX1_start_16 : decode cX1_start 16 = .ok (.iconst 0, 1) := by decide +kernel
theorem dX1_start_17 : decode cX1_start 17 = .ok (.putfield 88, 3) := by decide +kernel
theorem dX1_start_20 : decode cX1_start 20 = .ok (.iconst 0, 1) := by decide +kernel
theorem dX1_start_21 : decode cX1_start 21 = .ok (.istore_n 1, 1) := by decide +kernel
theorem dX1_start_22 : decode cX1_start 22 = .ok (.iload_n 1, 1) := by decide +kernel
theorem dX1_start_23 : decode cX1_start 23 = .ok (.bipush 32, 2) := by decide +kernel
theorem dX1_start_25 : decode cX1_start 25 = .ok (.if_icmp .ge 25, 3) := by decide +kernel
theorem dX1_start_28 : decode cX1_start 28 = .ok (.aload_n 0, 1) := by decide +kernel
theorem dX1_start_29 : decode cX1_start 29 = .ok (.getfield 9, 3) := by decide +kernel
theorem dX1_start_32 : decode cX1_start 32 = .ok (.iload_n 1, 1) := by decide +kernel
theorem dX1_start_33 : decode cX1_start 33 = .ok (.bipush (-2), 2) := by decide +kernel
theorem dX1_start_35 : decode cX1_start 35 = .ok (.iastore, 1) := by decide +kernel
theorem dX1_start_36 : decode cX1_start 36 = .ok (.aload_n 0, 1) := by decide +kernel
theorem dX1_start_37 : decode cX1_start 37 = .ok (.getfield 15, 3) := by decide +kernel
theorem dX1_start_40 : decode cX1_start 40 = .ok (.iload_n 1, 1) := by decide +kernel
theorem dX1_start_41 : decode cX1_start 41 = .ok (.bipush (-2), 2) := by decide +kernel
theorem dX1_start_43 : decode cX1_start 43 = .ok (.iastore, 1) := by decide +kernel
theorem dX1_start_44 : decode cX1_start 44 = .ok (.iinc 1 1, 3) := by decide +kernel
theorem dX1_start_47 : decode cX1_start 47 = .ok (.goto (-25), 3) := by decide +kernel
theorem dX1_start_50 : decode cX1_start 50 = .ok (.return_, 1) := by decide +kernel
theorem dX1_arrangeGroup_0 : decode cX1_arrangeGroup 0 = .ok (.aload_n 0, 1) := by decide +kernel
theorem dX1_arrangeGroup_1 : decode cX1_arrangeGroup 1 = .ok (.iload_n 2, 1) := by decide +kernel
theorem dX1_arrangeGroup_2 : decode cX1_arrangeGroup 2 = .ok (.invokevirtual 49, 3) := by decide +kernel
theorem dX1_arrangeGroup_5 : decode cX1_arrangeGroup 5 = .ok (.iload_n 3, 1) := by decide +kernel
theorem dX1_arrangeGroup_6 : decode cX1_arrangeGroup 6 = .ok (.iconst 2, 1) := by decide +kernel
theorem dX1_arrangeGroup_7 : decode cX1_arrangeGroup 7 = .ok (.if_icmp .lt 25, 3) := by decide +kernel
theorem dX1_arrangeGroup_10 : decode cX1_arrangeGroup 10 = .ok (.aload_n 0, 1) := by decide +kernel
theorem dX1_arrangeGroup_11 : decode cX1_arrangeGroup 11 = .ok (.getfield 85, 3) := by decide +kernel
theorem dX1_arrangeGroup_14 : decode cX1_arrangeGroup 14 = .ok (.iload_n 3, 1) := by decide +kernel
theorem dX1_arrangeGroup_15 : decode cX1_arrangeGroup 15 = .ok (.irem, 1) := by decide +kernel
theorem dX1_arrangeGroup_16 : decode cX1_arrangeGroup 16 = .ok (.iload_n 3, 1) := by decide +kernel
theorem dX1_arrangeGroup_17 : decode cX1_arrangeGroup 17 = .ok (.iconst 1, 1) := by decide +kernel
theorem dX1_arrangeGroup_18 : decode cX1_arrangeGroup 18 = .ok (.isub, 1) := by decide +kernel
theorem dX1_arrangeGroup_19 : decode cX1_arrangeGroup 19 = .ok (.if_icmp .ne 13, 3) := by decide +kernel
theorem dX1_arrangeGroup_22 : decode cX1_arrangeGroup 22 = .ok (.aload_n 0, 1) := by decide +kernel
theorem dX1_arrangeGroup_23 : decode cX1_arrangeGroup 23 = .ok (.dup, 1) := by decide +kernel
theorem dX1_arrangeGroup_24 : decode cX1_arrangeGroup 24 = .ok (.getfield 85, 3) := by decide +kernel
theorem dX1_arrangeGroup_27 : decode cX1_arrangeGroup 27 = .ok (.iconst 1, 1) := by decide +kernel
theorem dX1_arrangeGroup_28 : decode cX1_arrangeGroup 28 = .ok (.iadd, 1) := by decide +kernel
theorem dX1_arrangeGroup_29 : decode cX1_arrangeGroup 29 = .ok (.putfield 85, 3) := by decide +kernel
theorem dX1_arrangeGroup_32 : decode cX1_arrangeGroup 32 = .ok (.aload_n 0, 1) := by decide +kernel
theorem dX1_arrangeGroup_33 : decode cX1_arrangeGroup 33 = .ok (.iload_n 1, 1) := by decide +kernel
theorem dX1_arrangeGroup_34 : decode cX1_arrangeGroup 34 = .ok (.invokevirtual 79, 3) := by decide +kernel
theorem dX1_arrangeGroup_37 : decode cX1_arrangeGroup 37 = .ok (.aload_n 0, 1) := by decide +kernel
theorem dX1_arrangeGroup_38 : decode cX1_arrangeGroup 38 = .ok (.iload_n 2, 1) := by decide +kernel
theorem dX1_arrangeGroup_39 : decode cX1_arrangeGroup 39 = .ok (.iconst 1, 1) := by decide +kernel
theorem dX1_arrangeGroup_40 : decode cX1_arrangeGroup 40 = .ok (.iadd, 1) := by decide +kernel
theorem dX1_arrangeGroup_41 : decode cX1_arrangeGroup 41 = .ok (.invokevirtual 49, 3) := by decide +kernel
theorem dX1_arrangeGroup_44 : decode cX1_arrangeGroup 44 = .ok (.return_, 1) := by decide +kernel
theorem dX1_beginRow_0 : decode cX1_beginRow 0 = .ok (.aload_n 0, 1) := by decide +kernel
theorem dX1_beginRow_1 : decode cX1_beginRow 1 = .ok (.getfield 88, 3) := by decide +kernel
theorem dX1_beginRow_4 : decode cX1_beginRow 4 = .ok (.ifCond .eq 18, 3) := by decide +kernel
theorem dX1_beginRow_7 : decode cX1_beginRow 7 = .ok (.aload_n 0, 1) := by decide +kernel
theorem dX1_beginRow_8 : decode cX1_beginRow 8 = .ok (.dup, 1) := by decide +kernel
theorem dX1_beginRow_9 : decode cX1_beginRow 9 = .ok (.getfield 85, 3) := by decide +kernel
theorem dX1_beginRow_12 : decode cX1_beginRow 12 = .ok (.iconst 1, 1) := by decide +kernel
theorem dX1_beginRow_13 : decode cX1_beginRow 13 = .ok (.iadd, 1) := by decide +kernel
theorem dX1_beginRow_14 : decode cX1_beginRow 14 = .ok (.putfield 85, 3) := by decide +kernel
theorem dX1_beginRow_17 : decode cX1_beginRow 17 = .ok (.aload_n 0, 1) := by decide +kernel
theorem dX1_beginRow_18 : decode cX1_beginRow 18 = .ok (.iconst 0, 1) := by decide +kernel
theorem dX1_beginRow_19 : decode cX1_beginRow 19 = .ok (.putfield 88, 3) := by decide +kernel
theorem dX1_beginRow_22 : decode cX1_beginRow 22 = .ok (.aload_n 0, 1) := by decide +kernel
theorem dX1_beginRow_23 : decode cX1_beginRow 23 = .ok (.iload_n 1, 1) := by decide +kernel
theorem dX1_beginRow_24 : decode cX1_beginRow 24 = .ok (.putfield 73, 3) := by decide +kernel
theorem dX1_beginRow_27 : decode cX1_beginRow 27 = .ok (.return_, 1) := by decide +kernel
theorem dX1_stand_0 : decode cX1_stand 0 = .ok (.iload_n 1, 1) := by decide +kernel
theorem dX1_stand_1 : decode cX1_stand 1 = .ok (.ifCond .lt 29, 3) := by decide +kernel
theorem dX1_stand_4 : decode cX1_stand 4 = .ok (.iload_n 1, 1) := by decide +kernel
theorem dX1_stand_5 : decode cX1_stand 5 = .ok (.bipush 32, 2) := by decide +kernel
theorem dX1_stand_7 : decode cX1_stand 7 = .ok (.if_icmp .ge 23, 3) := by decide +kernel
theorem dX1_stand_10 : decode cX1_stand 10 = .ok (.aload_n 0, 1) := by decide +kernel
theorem dX1_stand_11 : decode cX1_stand 11 = .ok (.getfield 9, 3) := by decide +kernel
theorem dX1_stand_14 : decode cX1_stand 14 = .ok (.iload_n 1, 1) := by decide +kernel
theorem dX1_stand_15 : decode cX1_stand 15 = .ok (.aload_n 0, 1) := by decide +kernel
theorem dX1_stand_16 : decode cX1_stand 16 = .ok (.getfield 85, 3) := by decide +kernel
theorem dX1_stand_19 : decode cX1_stand 19 = .ok (.iastore, 1) := by decide +kernel
theorem dX1_stand_20 : decode cX1_stand 20 = .ok (.aload_n 0, 1) := by decide +kernel
theorem dX1_stand_21 : decode cX1_stand 21 = .ok (.getfield 15, 3) := by decide +kernel
theorem dX1_stand_24 : decode cX1_stand 24 = .ok (.iload_n 1, 1) := by decide +kernel
theorem dX1_stand_25 : decode cX1_stand 25 = .ok (.aload_n 0, 1) := by decide +kernel
theorem dX1_stand_26 : decode cX1_stand 26 = .ok (.getfield 73, 3) := by decide +kernel
theorem dX1_stand_29 : decode cX1_stand 29 = .ok (.iastore, 1) := by decide +kernel
theorem dX1_stand_30 : decode cX1_stand 30 = .ok (.aload_n 0, 1) := by decide +kernel
theorem dX1_stand_31 : decode cX1_stand 31 = .ok (.iconst 1, 1) := by decide +kernel
theorem dX1_stand_32 : decode cX1_stand 32 = .ok (.putfield 88, 3) := by decide +kernel
theorem dX1_stand_35 : decode cX1_stand 35 = .ok (.aload_n 0, 1) := by decide +kernel
theorem dX1_stand_36 : decode cX1_stand 36 = .ok (.aload_n 0, 1) := by decide +kernel
theorem dX1_stand_37 : decode cX1_stand 37 = .ok (.getfield 85, 3) := by decide +kernel
theorem dX1_stand_40 : decode cX1_stand 40 = .ok (.iconst 1, 1) := by decide +kernel
theorem dX1_stand_41 : decode cX1_stand 41 = .ok (.iadd, 1) := by decide +kernel
theorem dX1_stand_42 : decode cX1_stand 42 = .ok (.putfield 82, 3) := by decide +kernel
theorem dX1_stand_45 : decode cX1_stand 45 = .ok (.return_, 1) := by decide +kernel
theorem dX2_init_0 : decode cX2_init 0 = .ok (.aload_n 0, 1) := by decide +kernel
theorem dX2_init_1 : decode cX2_init 1 = .ok (.invokespecial 3, 3) := by decide +kernel
theorem dX2_init_4 : decode cX2_init 4 = .ok (.aload_n 0, 1) := by decide +kernel
theorem dX2_init_5 : decode cX2_init 5 = .ok (.bipush (-2), 2) := by decide +kernel
theorem dX2_init_7 : decode cX2_init 7 = .ok (.putfield 9, 3) := by decide +kernel
theorem dX2_init_10 : decode cX2_init 10 = .ok (.return_, 1) := by decide +kernel
theorem dX2_clear_0 : decode cX2_clear 0 = .ok (.aload_n 0, 1) := by decide +kernel
theorem dX2_clear_1 : decode cX2_clear 1 = .ok (.iconst 0, 1) := by decide +kernel
theorem dX2_clear_2 : decode cX2_clear 2 = .ok (.putfield 15, 3) := by decide +kernel
theorem dX2_clear_5 : decode cX2_clear 5 = .ok (.aload_n 0, 1) := by decide +kernel
theorem dX2_clear_6 : decode cX2_clear 6 = .ok (.lconst 0, 1) := by decide +kernel
theorem dX2_clear_7 : decode cX2_clear 7 = .ok (.putfield 19, 3) := by decide +kernel
theorem dX2_clear_10 : decode cX2_clear 10 = .ok (.aload_n 0, 1) := by decide +kernel
theorem dX2_clear_11 : decode cX2_clear 11 = .ok (.iconst 0, 1) := by decide +kernel
theorem dX2_clear_12 : decode cX2_clear 12 = .ok (.putfield 23, 3) := by decide +kernel
theorem dX2_clear_15 : decode cX2_clear 15 = .ok (.aload_n 0, 1) := by decide +kernel
theorem dX2_clear_16 : decode cX2_clear 16 = .ok (.iconst 0, 1) := by decide +kernel
theorem dX2_clear_17 : decode cX2_clear 17 = .ok (.putfield 26, 3) := by decide +kernel
theorem dX2_clear_20 : decode cX2_clear 20 = .ok (.aload_n 0, 1) := by decide +kernel
theorem dX2_clear_21 : decode cX2_clear 21 = .ok (.iconst 0, 1) := by decide +kernel
theorem dX2_clear_22 : decode cX2_clear 22 = .ok (.putfield 29, 3) := by decide +kernel
theorem dX2_clear_25 : decode cX2_clear 25 = .ok (.aload_n 0, 1) := by decide +kernel
theorem dX2_clear_26 : decode cX2_clear 26 = .ok (.iconst 0, 1) := by decide +kernel
theorem dX2_clear_27 : decode cX2_clear 27 = .ok (.putfield 32, 3) := by decide +kernel
theorem dX2_clear_30 : decode cX2_clear 30 = .ok (.aload_n 0, 1) := by decide +kernel
theorem dX2_clear_31 : decode cX2_clear 31 = .ok (.bipush (-2), 2) := by decide +kernel
theorem dX2_clear_33 : decode cX2_clear 33 = .ok (.putfield 9, 3) := by decide +kernel
theorem dX2_clear_36 : decode cX2_clear 36 = .ok (.aload_n 0, 1) := by decide +kernel
theorem dX2_clear_37 : decode cX2_clear 37 = .ok (.aconst_null, 1) := by decide +kernel
theorem dX2_clear_38 : decode cX2_clear 38 = .ok (.putfield 35, 3) := by decide +kernel
theorem dX2_clear_41 : decode cX2_clear 41 = .ok (.aload_n 0, 1) := by decide +kernel
theorem dX2_clear_42 : decode cX2_clear 42 = .ok (.iconst 0, 1) := by decide +kernel
theorem dX2_clear_43 : decode cX2_clear 43 = .ok (.putfield 39, 3) := by decide +kernel
theorem dX2_clear_46 : decode cX2_clear 46 = .ok (.aload_n 0, 1) := by decide +kernel
theorem dX2_clear_47 : decode cX2_clear 47 = .ok (.iconst 0, 1) := by decide +kernel
theorem dX2_clear_48 : decode cX2_clear 48 = .ok (.putfield 42, 3) := by decide +kernel
theorem dX2_clear_51 : decode cX2_clear 51 = .ok (.return_, 1) := by decide +kernel
theorem dX2_copyFrom_0 : decode cX2_copyFrom 0 = .ok (.aload_n 0, 1) := by decide +kernel
theorem dX2_copyFrom_1 : decode cX2_copyFrom 1 = .ok (.aload_n 1, 1) := by decide +kernel
theorem dX2_copyFrom_2 : decode cX2_copyFrom 2 = .ok (.getfield 15, 3) := by decide +kernel
theorem dX2_copyFrom_5 : decode cX2_copyFrom 5 = .ok (.putfield 15, 3) := by decide +kernel
theorem dX2_copyFrom_8 : decode cX2_copyFrom 8 = .ok (.aload_n 0, 1) := by decide +kernel
theorem dX2_copyFrom_9 : decode cX2_copyFrom 9 = .ok (.aload_n 1, 1) := by decide +kernel
theorem dX2_copyFrom_10 : decode cX2_copyFrom 10 = .ok (.getfield 19, 3) := by decide +kernel
theorem dX2_copyFrom_13 : decode cX2_copyFrom 13 = .ok (.putfield 19, 3) := by decide +kernel
theorem dX2_copyFrom_16 : decode cX2_copyFrom 16 = .ok (.aload_n 0, 1) := by decide +kernel
theorem dX2_copyFrom_17 : decode cX2_copyFrom 17 = .ok (.aload_n 1, 1) := by decide +kernel
theorem dX2_copyFrom_18 : decode cX2_copyFrom 18 = .ok (.getfield 23, 3) := by decide +kernel
theorem dX2_copyFrom_21 : decode cX2_copyFrom 21 = .ok (.putfield 23, 3) := by decide +kernel
theorem dX2_copyFrom_24 : decode cX2_copyFrom 24 = .ok (.aload_n 0, 1) := by decide +kernel
theorem dX2_copyFrom_25 : decode cX2_copyFrom 25 = .ok (.aload_n 1, 1) := by decide +kernel
theorem dX2_copyFrom_26 : decode cX2_copyFrom 26 = .ok (.getfield 26, 3) := by decide +kernel
theorem dX2_copyFrom_29 : decode cX2_copyFrom 29 = .ok (.putfield 26, 3) := by decide +kernel
theorem dX2_copyFrom_32 : decode cX2_copyFrom 32 = .ok (.aload_n 0, 1) := by decide +kernel
theorem dX2_copyFrom_33 : decode cX2_copyFrom 33 = .ok (.aload_n 1, 1) := by decide +kernel
theorem dX2_copyFrom_34 : decode cX2_copyFrom 34 = .ok (.getfield 29, 3) := by decide +kernel
theorem dX2_copyFrom_37 : decode cX2_copyFrom 37 = .ok (.putfield 29, 3) := by decide +kernel
theorem dX2_copyFrom_40 : decode cX2_copyFrom 40 = .ok (.aload_n 0, 1) := by decide +kernel
theorem dX2_copyFrom_41 : decode cX2_copyFrom 41 = .ok (.aload_n 1, 1) := by decide +kernel
theorem dX2_copyFrom_42 : decode cX2_copyFrom 42 = .ok (.getfield 32, 3) := by decide +kernel
theorem dX2_copyFrom_45 : decode cX2_copyFrom 45 = .ok (.putfield 32, 3) := by decide +kernel
theorem dX2_copyFrom_48 : decode cX2_copyFrom 48 = .ok (.aload_n 0, 1) := by decide +kernel
theorem dX2_copyFrom_49 : decode cX2_copyFrom 49 = .ok (.aload_n 1, 1) := by decide +kernel
theorem dX2_copyFrom_50 : decode cX2_copyFrom 50 = .ok (.getfield 9, 3) := by decide +kernel
theorem dX2_copyFrom_53 : decode cX2_copyFrom 53 = .ok (.putfield 9, 3) := by decide +kernel
theorem dX2_copyFrom_56 : decode cX2_copyFrom 56 = .ok (.aload_n 0, 1) := by decide +kernel
theorem dX2_copyFrom_57 : decode cX2_copyFrom 57 = .ok (.aload_n 1, 1) := by decide +kernel
theorem dX2_copyFrom_58 : decode cX2_copyFrom 58 = .ok (.getfield 35, 3) := by decide +kernel
theorem dX2_copyFrom_61 : decode cX2_copyFrom 61 = .ok (.putfield 35, 3) := by decide +kernel
theorem dX2_copyFrom_64 : decode cX2_copyFrom 64 = .ok (.aload_n 0, 1) := by decide +kernel
theorem dX2_copyFrom_65 : decode cX2_copyFrom 65 = .ok (.aload_n 1, 1) := by decide +kernel
theorem dX2_copyFrom_66 : decode cX2_copyFrom 66 = .ok (.getfield 39, 3) := by decide +kernel
theorem dX2_copyFrom_69 : decode cX2_copyFrom 69 = .ok (.putfield 39, 3) := by decide +kernel
theorem dX2_copyFrom_72 : decode cX2_copyFrom 72 = .ok (.aload_n 0, 1) := by decide +kernel
theorem dX2_copyFrom_73 : decode cX2_copyFrom 73 = .ok (.aload_n 1, 1) := by decide +kernel
theorem dX2_copyFrom_74 : decode cX2_copyFrom 74 = .ok (.getfield 42, 3) := by decide +kernel
theorem dX2_copyFrom_77 : decode cX2_copyFrom 77 = .ok (.putfield 42, 3) := by decide +kernel
theorem dX2_copyFrom_80 : decode cX2_copyFrom 80 = .ok (.return_, 1) := by decide +kernel
theorem dX2_allows_0 : decode cX2_allows 0 = .ok (.iload_n 1, 1) := by decide +kernel
theorem dX2_allows_1 : decode cX2_allows 1 = .ok (.aload_n 0, 1) := by decide +kernel
theorem dX2_allows_2 : decode cX2_allows 2 = .ok (.getfield 26, 3) := by decide +kernel
theorem dX2_allows_5 : decode cX2_allows 5 = .ok (.if_icmp .lt 15, 3) := by decide +kernel
theorem dX2_allows_8 : decode cX2_allows 8 = .ok (.iload_n 1, 1) := by decide +kernel
theorem dX2_allows_9 : decode cX2_allows 9 = .ok (.aload_n 0, 1) := by decide +kernel
theorem dX2_allows_10 : decode cX2_allows 10 = .ok (.getfield 29, 3) := by decide +kernel
theorem dX2_allows_13 : decode cX2_allows 13 = .ok (.if_icmp .gt 7, 3) := by decide +kernel
theorem dX2_allows_16 : decode cX2_allows 16 = .ok (.iconst 1, 1) := by decide +kernel
theorem dX2_allows_17 : decode cX2_allows 17 = .ok (.goto 4, 3) := by decide +kernel
theorem dX2_allows_20 : decode cX2_allows 20 = .ok (.iconst 0, 1) := by decide +kernel
theorem dX2_allows_21 : decode cX2_allows 21 = .ok (.ireturn, 1) := by decide +kernel
theorem dX4_init_0 : decode cX4_init 0 = .ok (.aload_n 0, 1) := by decide +kernel
theorem dX4_init_1 : decode cX4_init 1 = .ok (.invokespecial 3, 3) := by decide +kernel
theorem dX4_init_4 : decode cX4_init 4 = .ok (.aload_n 0, 1) := by decide +kernel
theorem dX4_init_5 : decode cX4_init 5 = .ok (.bipush 24, 2) := by decide +kernel
theorem dX4_init_7 : decode cX4_init 7 = .ok (.newarray .int, 2) := by decide +kernel
theorem dX4_init_9 : decode cX4_init 9 = .ok (.putfield 9, 3) := by decide +kernel
theorem dX4_init_12 : decode cX4_init 12 = .ok (.return_, 1) := by decide +kernel
theorem dX4_clear_0 : decode cX4_clear 0 = .ok (.aload_n 0, 1) := by decide +kernel
theorem dX4_clear_1 : decode cX4_clear 1 = .ok (.iload_n 1, 1) := by decide +kernel
theorem dX4_clear_2 : decode cX4_clear 2 = .ok (.putfield 15, 3) := by decide +kernel
theorem dX4_clear_5 : decode cX4_clear 5 = .ok (.iconst 0, 1) := by decide +kernel
theorem dX4_clear_6 : decode cX4_clear 6 = .ok (.istore_n 2, 1) := by decide +kernel
theorem dX4_clear_7 : decode cX4_clear 7 = .ok (.iload_n 2, 1) := by decide +kernel
theorem dX4_clear_8 : decode cX4_clear 8 = .ok (.bipush 24, 2) := by decide +kernel
theorem dX4_clear_10 : decode cX4_clear 10 = .ok (.if_icmp .ge 17, 3) := by decide +kernel
theorem dX4_clear_13 : decode cX4_clear 13 = .ok (.aload_n 0, 1) := by decide +kernel
theorem dX4_clear_14 : decode cX4_clear 14 = .ok (.getfield 9, 3) := by decide +kernel
theorem dX4_clear_17 : decode cX4_clear 17 = .ok (.iload_n 2, 1) := by decide +kernel
theorem dX4_clear_18 : decode cX4_clear 18 = .ok (.bipush (-2), 2) := by decide +kernel
theorem dX4_clear_20 : decode cX4_clear 20 = .ok (.iastore, 1) := by decide +kernel
theorem dX4_clear_21 : decode cX4_clear 21 = .ok (.iinc 2 1, 3) := by decide +kernel
theorem dX4_clear_24 : decode cX4_clear 24 = .ok (.goto (-17), 3) := by decide +kernel
theorem dX4_clear_27 : decode cX4_clear 27 = .ok (.return_, 1) := by decide +kernel
theorem dX4_copyFrom_0 : decode cX4_copyFrom 0 = .ok (.aload_n 0, 1) := by decide +kernel
theorem dX4_copyFrom_1 : decode cX4_copyFrom 1 = .ok (.aload_n 1, 1) := by decide +kernel
theorem dX4_copyFrom_2 : decode cX4_copyFrom 2 = .ok (.getfield 15, 3) := by decide +kernel
theorem dX4_copyFrom_5 : decode cX4_copyFrom 5 = .ok (.putfield 15, 3) := by decide +kernel
theorem dX4_copyFrom_8 : decode cX4_copyFrom 8 = .ok (.iconst 0, 1) := by decide +kernel
theorem dX4_copyFrom_9 : decode cX4_copyFrom 9 = .ok (.istore_n 2, 1) := by decide +kernel
theorem dX4_copyFrom_10 : decode cX4_copyFrom 10 = .ok (.iload_n 2, 1) := by decide +kernel
theorem dX4_copyFrom_11 : decode cX4_copyFrom 11 = .ok (.bipush 24, 2) := by decide +kernel
theorem dX4_copyFrom_13 : decode cX4_copyFrom 13 = .ok (.if_icmp .ge 21, 3) := by decide +kernel
theorem dX4_copyFrom_16 : decode cX4_copyFrom 16 = .ok (.aload_n 0, 1) := by decide +kernel
theorem dX4_copyFrom_17 : decode cX4_copyFrom 17 = .ok (.getfield 9, 3) := by decide +kernel
theorem dX4_copyFrom_20 : decode cX4_copyFrom 20 = .ok (.iload_n 2, 1) := by decide +kernel
theorem dX4_copyFrom_21 : decode cX4_copyFrom 21 = .ok (.aload_n 1, 1) := by decide +kernel
theorem dX4_copyFrom_22 : decode cX4_copyFrom 22 = .ok (.getfield 9, 3) := by decide +kernel
theorem dX4_copyFrom_25 : decode cX4_copyFrom 25 = .ok (.iload_n 2, 1) := by decide +kernel
theorem dX4_copyFrom_26 : decode cX4_copyFrom 26 = .ok (.iaload, 1) := by decide +kernel
theorem dX4_copyFrom_27 : decode cX4_copyFrom 27 = .ok (.iastore, 1) := by decide +kernel
theorem dX4_copyFrom_28 : decode cX4_copyFrom 28 = .ok (.iinc 2 1, 3) := by decide +kernel
theorem dX4_copyFrom_31 : decode cX4_copyFrom 31 = .ok (.goto (-21), 3) := by decide +kernel
theorem dX4_copyFrom_34 : decode cX4_copyFrom 34 = .ok (.return_, 1) := by decide +kernel
theorem dX4_given_0 : decode cX4_given 0 = .ok (.iload_n 1, 1) := by decide +kernel
theorem dX4_given_1 : decode cX4_given 1 = .ok (.ifCond .lt 18, 3) := by decide +kernel
theorem dX4_given_4 : decode cX4_given 4 = .ok (.iload_n 1, 1) := by decide +kernel
theorem dX4_given_5 : decode cX4_given 5 = .ok (.bipush 24, 2) := by decide +kernel
theorem dX4_given_7 : decode cX4_given 7 = .ok (.if_icmp .ge 12, 3) := by decide +kernel
theorem dX4_given_10 : decode cX4_given 10 = .ok (.aload_n 0, 1) := by decide +kernel
theorem dX4_given_11 : decode cX4_given 11 = .ok (.getfield 9, 3) := by decide +kernel
theorem dX4_given_14 : decode cX4_given 14 = .ok (.iload_n 1, 1) := by decide +kernel
theorem dX4_given_15 : decode cX4_given 15 = .ok (.iaload, 1) := by decide +kernel
theorem dX4_given_16 : decode cX4_given 16 = .ok (.goto 5, 3) := by decide +kernel
theorem dX4_given_19 : decode cX4_given 19 = .ok (.bipush (-2), 2) := by decide +kernel
theorem dX4_given_21 : decode cX4_given 21 = .ok (.ireturn, 1) := by decide +kernel
theorem dX4_give_0 : decode cX4_give 0 = .ok (.iload_n 1, 1) := by decide +kernel
theorem dX4_give_1 : decode cX4_give 1 = .ok (.ifCond .lt 16, 3) := by decide +kernel
theorem dX4_give_4 : decode cX4_give 4 = .ok (.iload_n 1, 1) := by decide +kernel
theorem dX4_give_5 : decode cX4_give 5 = .ok (.bipush 24, 2) := by decide +kernel
theorem dX4_give_7 : decode cX4_give 7 = .ok (.if_icmp .ge 10, 3) := by decide +kernel
theorem dX4_give_10 : decode cX4_give 10 = .ok (.aload_n 0, 1) := by decide +kernel
theorem dX4_give_11 : decode cX4_give 11 = .ok (.getfield 9, 3) := by decide +kernel
theorem dX4_give_14 : decode cX4_give 14 = .ok (.iload_n 1, 1) := by decide +kernel
theorem dX4_give_15 : decode cX4_give 15 = .ok (.iload_n 2, 1) := by decide +kernel
theorem dX4_give_16 : decode cX4_give 16 = .ok (.iastore, 1) := by decide +kernel
theorem dX4_give_17 : decode cX4_give 17 = .ok (.return_, 1) := by decide +kernel
theorem dX5_init_0 : decode cX5_init 0 = .ok (.aload_n 0, 1) := by decide +kernel
theorem dX5_init_1 : decode cX5_init 1 = .ok (.invokespecial 3, 3) := by decide +kernel
theorem dX5_init_4 : decode cX5_init 4 = .ok (.aload_n 0, 1) := by decide +kernel
theorem dX5_init_5 : decode cX5_init 5 = .ok (.new 9, 3) := by decide +kernel
theorem dX5_init_8 : decode cX5_init 8 = .ok (.dup, 1) := by decide +kernel
theorem dX5_init_9 : decode cX5_init 9 = .ok (.invokespecial 11, 3) := by decide +kernel
theorem dX5_init_12 : decode cX5_init 12 = .ok (.putfield 12, 3) := by decide +kernel
theorem dX5_init_15 : decode cX5_init 15 = .ok (.aload_n 0, 1) := by decide +kernel
theorem dX5_init_16 : decode cX5_init 16 = .ok (.bipush 10, 2) := by decide +kernel
theorem dX5_init_18 : decode cX5_init 18 = .ok (.anewarray 18, 3) := by decide +kernel
theorem dX5_init_21 : decode cX5_init 21 = .ok (.putfield 20, 3) := by decide +kernel
theorem dX5_init_24 : decode cX5_init 24 = .ok (.iconst 0, 1) := by decide +kernel
theorem dX5_init_25 : decode cX5_init 25 = .ok (.istore_n 1, 1) := by decide +kernel
theorem dX5_init_26 : decode cX5_init 26 = .ok (.iload_n 1, 1) := by decide +kernel
theorem dX5_init_27 : decode cX5_init 27 = .ok (.bipush 10, 2) := by decide +kernel
theorem dX5_init_29 : decode cX5_init 29 = .ok (.if_icmp .ge 22, 3) := by decide +kernel
theorem dX5_init_32 : decode cX5_init 32 = .ok (.aload_n 0, 1) := by decide +kernel
theorem dX5_init_33 : decode cX5_init 33 = .ok (.getfield 20, 3) := by decide +kernel
theorem dX5_init_36 : decode cX5_init 36 = .ok (.iload_n 1, 1) := by decide +kernel
theorem dX5_init_37 : decode cX5_init 37 = .ok (.new 18, 3) := by decide +kernel
theorem dX5_init_40 : decode cX5_init 40 = .ok (.dup, 1) := by decide +kernel
theorem dX5_init_41 : decode cX5_init 41 = .ok (.invokespecial 24, 3) := by decide +kernel
theorem dX5_init_44 : decode cX5_init 44 = .ok (.aastore, 1) := by decide +kernel
theorem dX5_init_45 : decode cX5_init 45 = .ok (.iinc 1 1, 3) := by decide +kernel
theorem dX5_init_48 : decode cX5_init 48 = .ok (.goto (-22), 3) := by decide +kernel
theorem dX5_init_51 : decode cX5_init 51 = .ok (.return_, 1) := by decide +kernel
theorem dX5_copyFrom_0 : decode cX5_copyFrom 0 = .ok (.aload_n 0, 1) := by decide +kernel
theorem dX5_copyFrom_1 : decode cX5_copyFrom 1 = .ok (.getfield 12, 3) := by decide +kernel
theorem dX5_copyFrom_4 : decode cX5_copyFrom 4 = .ok (.aload_n 1, 1) := by decide +kernel
theorem dX5_copyFrom_5 : decode cX5_copyFrom 5 = .ok (.getfield 12, 3) := by decide +kernel
theorem dX5_copyFrom_8 : decode cX5_copyFrom 8 = .ok (.invokevirtual 25, 3) := by decide +kernel
theorem dX5_copyFrom_11 : decode cX5_copyFrom 11 = .ok (.aload_n 0, 1) := by decide +kernel
theorem dX5_copyFrom_12 : decode cX5_copyFrom 12 = .ok (.aload_n 1, 1) := by decide +kernel
theorem dX5_copyFrom_13 : decode cX5_copyFrom 13 = .ok (.getfield 29, 3) := by decide +kernel
theorem dX5_copyFrom_16 : decode cX5_copyFrom 16 = .ok (.putfield 29, 3) := by decide +kernel
theorem dX5_copyFrom_19 : decode cX5_copyFrom 19 = .ok (.aload_n 0, 1) := by decide +kernel
theorem dX5_copyFrom_20 : decode cX5_copyFrom 20 = .ok (.aload_n 1, 1) := by decide +kernel
theorem dX5_copyFrom_21 : decode cX5_copyFrom 21 = .ok (.getfield 33, 3) := by decide +kernel
theorem dX5_copyFrom_24 : decode cX5_copyFrom 24 = .ok (.putfield 33, 3) := by decide +kernel
theorem dX5_copyFrom_27 : decode cX5_copyFrom 27 = .ok (.iconst 0, 1) := by decide +kernel
theorem dX5_copyFrom_28 : decode cX5_copyFrom 28 = .ok (.istore_n 2, 1) := by decide +kernel
theorem dX5_copyFrom_29 : decode cX5_copyFrom 29 = .ok (.iload_n 2, 1) := by decide +kernel
theorem dX5_copyFrom_30 : decode cX5_copyFrom 30 = .ok (.bipush 10, 2) := by decide +kernel
theorem dX5_copyFrom_32 : decode cX5_copyFrom 32 = .ok (.if_icmp .ge 42, 3) := by decide +kernel
theorem dX5_copyFrom_35 : decode cX5_copyFrom 35 = .ok (.aload_n 0, 1) := by decide +kernel
theorem dX5_copyFrom_36 : decode cX5_copyFrom 36 = .ok (.getfield 20, 3) := by decide +kernel
theorem dX5_copyFrom_39 : decode cX5_copyFrom 39 = .ok (.iload_n 2, 1) := by decide +kernel
theorem dX5_copyFrom_40 : decode cX5_copyFrom 40 = .ok (.aaload, 1) := by decide +kernel
theorem dX5_copyFrom_41 : decode cX5_copyFrom 41 = .ok (.ifnull 27, 3) := by decide +kernel
theorem dX5_copyFrom_44 : decode cX5_copyFrom 44 = .ok (.aload_n 1, 1) := by decide +kernel
theorem dX5_copyFrom_45 : decode cX5_copyFrom 45 = .ok (.getfield 20, 3) := by decide +kernel
theorem dX5_copyFrom_48 : decode cX5_copyFrom 48 = .ok (.iload_n 2, 1) := by decide +kernel
theorem dX5_copyFrom_49 : decode cX5_copyFrom 49 = .ok (.aaload, 1) := by decide +kernel
theorem dX5_copyFrom_50 : decode cX5_copyFrom 50 = .ok (.ifnull 18, 3) := by decide +kernel
theorem dX5_copyFrom_53 : decode cX5_copyFrom 53 = .ok (.aload_n 0, 1) := by decide +kernel
theorem dX5_copyFrom_54 : decode cX5_copyFrom 54 = .ok (.getfield 20, 3) := by decide +kernel
theorem dX5_copyFrom_57 : decode cX5_copyFrom 57 = .ok (.iload_n 2, 1) := by decide +kernel
theorem dX5_copyFrom_58 : decode cX5_copyFrom 58 = .ok (.aaload, 1) := by decide +kernel
theorem dX5_copyFrom_59 : decode cX5_copyFrom 59 = .ok (.aload_n 1, 1) := by decide +kernel
theorem dX5_copyFrom_60 : decode cX5_copyFrom 60 = .ok (.getfield 20, 3) := by decide +kernel
theorem dX5_copyFrom_63 : decode cX5_copyFrom 63 = .ok (.iload_n 2, 1) := by decide +kernel
theorem dX5_copyFrom_64 : decode cX5_copyFrom 64 = .ok (.aaload, 1) := by decide +kernel
theorem dX5_copyFrom_65 : decode cX5_copyFrom 65 = .ok (.invokevirtual 36, 3) := by decide +kernel
theorem dX5_copyFrom_68 : decode cX5_copyFrom 68 = .ok (.iinc 2 1, 3) := by decide +kernel
theorem dX5_copyFrom_71 : decode cX5_copyFrom 71 = .ok (.goto (-42), 3) := by decide +kernel
theorem dX5_copyFrom_74 : decode cX5_copyFrom 74 = .ok (.return_, 1) := by decide +kernel
theorem dX5_findSheet_0 : decode cX5_findSheet 0 = .ok (.iload_n 1, 1) := by decide +kernel
theorem dX5_findSheet_1 : decode cX5_findSheet 1 = .ok (.ifCond .lt 26, 3) := by decide +kernel
theorem dX5_findSheet_4 : decode cX5_findSheet 4 = .ok (.iload_n 1, 1) := by decide +kernel
theorem dX5_findSheet_5 : decode cX5_findSheet 5 = .ok (.aload_n 0, 1) := by decide +kernel
theorem dX5_findSheet_6 : decode cX5_findSheet 6 = .ok (.getfield 33, 3) := by decide +kernel
theorem dX5_findSheet_9 : decode cX5_findSheet 9 = .ok (.if_icmp .ge 18, 3) := by decide +kernel
theorem dX5_findSheet_12 : decode cX5_findSheet 12 = .ok (.iload_n 1, 1) := by decide +kernel
theorem dX5_findSheet_13 : decode cX5_findSheet 13 = .ok (.bipush 10, 2) := by decide +kernel
theorem dX5_findSheet_15 : decode cX5_findSheet 15 = .ok (.if_icmp .ge 12, 3) := by decide +kernel
theorem dX5_findSheet_18 : decode cX5_findSheet 18 = .ok (.aload_n 0, 1) := by decide +kernel
theorem dX5_findSheet_19 : decode cX5_findSheet 19 = .ok (.getfield 20, 3) := by decide +kernel
theorem dX5_findSheet_22 : decode cX5_findSheet 22 = .ok (.iload_n 1, 1) := by decide +kernel
theorem dX5_findSheet_23 : decode cX5_findSheet 23 = .ok (.aaload, 1) := by decide +kernel
theorem dX5_findSheet_24 : decode cX5_findSheet 24 = .ok (.goto 4, 3) := by decide +kernel
theorem dX5_findSheet_27 : decode cX5_findSheet 27 = .ok (.aconst_null, 1) := by decide +kernel
theorem dX5_findSheet_28 : decode cX5_findSheet 28 = .ok (.areturn, 1) := by decide +kernel
theorem dX6_init_0 : decode cX6_init 0 = .ok (.aload_n 0, 1) := by decide +kernel
theorem dX6_init_1 : decode cX6_init 1 = .ok (.invokespecial 3, 3) := by decide +kernel
theorem dX6_init_4 : decode cX6_init 4 = .ok (.aload_n 0, 1) := by decide +kernel
theorem dX6_init_5 : decode cX6_init 5 = .ok (.bipush (-2), 2) := by decide +kernel
theorem dX6_init_7 : decode cX6_init 7 = .ok (.putfield 9, 3) := by decide +kernel
theorem dX6_init_10 : decode cX6_init 10 = .ok (.aload_n 0, 1) := by decide +kernel
theorem dX6_init_11 : decode cX6_init 11 = .ok (.iload_n 1, 1) := by decide +kernel
theorem dX6_init_12 : decode cX6_init 12 = .ok (.putfield 15, 3) := by decide +kernel
theorem dX6_init_15 : decode cX6_init 15 = .ok (.return_, 1) := by decide +kernel
theorem dX8_init_0 : decode cX8_init 0 = .ok (.aload_n 0, 1) := by decide +kernel
theorem dX8_init_1 : decode cX8_init 1 = .ok (.invokespecial 3, 3) := by decide +kernel
theorem dX8_init_4 : decode cX8_init 4 = .ok (.aload_n 0, 1) := by decide +kernel
theorem dX8_init_5 : decode cX8_init 5 = .ok (.bipush 24, 2) := by decide +kernel
theorem dX8_init_7 : decode cX8_init 7 = .ok (.newarray .int, 2) := by decide +kernel
theorem dX8_init_9 : decode cX8_init 9 = .ok (.putfield 9, 3) := by decide +kernel
theorem dX8_init_12 : decode cX8_init 12 = .ok (.return_, 1) := by decide +kernel
theorem dX8_look_0 : decode cX8_look 0 = .ok (.aload_n 0, 1) := by decide +kernel
theorem dX8_look_1 : decode cX8_look 1 = .ok (.iconst 0, 1) := by decide +kernel
theorem dX8_look_2 : decode cX8_look 2 = .ok (.putfield 15, 3) := by decide +kernel
theorem dX8_look_5 : decode cX8_look 5 = .ok (.aload_n 0, 1) := by decide +kernel
theorem dX8_look_6 : decode cX8_look 6 = .ok (.iconst 0, 1) := by decide +kernel
theorem dX8_look_7 : decode cX8_look 7 = .ok (.putfield 19, 3) := by decide +kernel
theorem dX8_look_10 : decode cX8_look 10 = .ok (.iconst 0, 1) := by decide +kernel
theorem dX8_look_11 : decode cX8_look 11 = .ok (.istore_n 3, 1) := by decide +kernel
theorem dX8_look_12 : decode cX8_look 12 = .ok (.iload_n 3, 1) := by decide +kernel
theorem dX8_look_13 : decode cX8_look 13 = .ok (.bipush 24, 2) := by decide +kernel
theorem dX8_look_15 : decode cX8_look 15 = .ok (.if_icmp .ge 17, 3) := by decide +kernel
theorem dX8_look_18 : decode cX8_look 18 = .ok (.aload_n 0, 1) := by decide +kernel
theorem dX8_look_19 : decode cX8_look 19 = .ok (.getfield 9, 3) := by decide +kernel
theorem dX8_look_22 : decode cX8_look 22 = .ok (.iload_n 3, 1) := by decide +kernel
theorem dX8_look_23 : decode cX8_look 23 = .ok (.bipush (-2), 2) := by decide +kernel
theorem dX8_look_25 : decode cX8_look 25 = .ok (.iastore, 1) := by decide +kernel
theorem dX8_look_26 : decode cX8_look 26 = .ok (.iinc 3 1, 3) := by decide +kernel
theorem dX8_look_29 : decode cX8_look 29 = .ok (.goto (-17), 3) := by decide +kernel
theorem dX8_look_32 : decode cX8_look 32 = .ok (.iconst 0, 1) := by decide +kernel
theorem dX8_look_33 : decode cX8_look 33 = .ok (.istore_n 3, 1) := by decide +kernel
theorem dX8_look_34 : decode cX8_look 34 = .ok (.iconst 0, 1) := by decide +kernel
theorem dX8_look_35 : decode cX8_look 35 = .ok (.istore 4, 2) := by decide +kernel
theorem dX8_look_37 : decode cX8_look 37 = .ok (.iload 4, 2) := by decide +kernel
theorem dX8_look_39 : decode cX8_look 39 = .ok (.bipush 24, 2) := by decide +kernel
theorem dX8_look_41 : decode cX8_look 41 = .ok (.if_icmp .ge 36, 3) := by decide +kernel
theorem dX8_look_44 : decode cX8_look 44 = .ok (.aload_n 1, 1) := by decide +kernel
theorem dX8_look_45 : decode cX8_look 45 = .ok (.iload_n 3, 1) := by decide +kernel
theorem dX8_look_46 : decode cX8_look 46 = .ok (.invokevirtual 22, 3) := by decide +kernel
theorem dX8_look_49 : decode cX8_look 49 = .ok (.istore 5, 2) := by decide +kernel
theorem dX8_look_51 : decode cX8_look 51 = .ok (.iload 5, 2) := by decide +kernel
theorem dX8_look_53 : decode cX8_look 53 = .ok (.ifCond .lt 18, 3) := by decide +kernel
theorem dX8_look_56 : decode cX8_look 56 = .ok (.iload_n 3, 1) := by decide +kernel
theorem dX8_look_57 : decode cX8_look 57 = .ok (.iconst 1, 1) := by decide +kernel
theorem dX8_look_58 : decode cX8_look 58 = .ok (.iload 5, 2) := by decide +kernel
theorem dX8_look_60 : decode cX8_look 60 = .ok (.ishl, 1) := by decide +kernel
theorem dX8_look_61 : decode cX8_look 61 = .ok (.ior, 1) := by decide +kernel
theorem dX8_look_62 : decode cX8_look 62 = .ok (.istore_n 3, 1) := by decide +kernel
theorem dX8_look_63 : decode cX8_look 63 = .ok (.aload_n 0, 1) := by decide +kernel
theorem dX8_look_64 : decode cX8_look 64 = .ok (.aload_n 1, 1) := by decide +kernel
theorem dX8_look_65 : decode cX8_look 65 = .ok (.aload_n 2, 1) := by decide +kernel
theorem dX8_look_66 : decode cX8_look 66 = .ok (.iload 5, 2) := by decide +kernel
theorem dX8_look_68 : decode cX8_look 68 = .ok (.invokevirtual 28, 3) := by decide +kernel
theorem dX8_look_71 : decode cX8_look 71 = .ok (.iinc 4 1, 3) := by decide +kernel
theorem dX8_look_74 : decode cX8_look 74 = .ok (.goto (-37), 3) := by decide +kernel
theorem dX8_look_77 : decode cX8_look 77 = .ok (.bipush 24, 2) := by decide +kernel
theorem dX8_look_79 : decode cX8_look 79 = .ok (.istore 4, 2) := by decide +kernel
theorem dX8_look_81 : decode cX8_look 81 = .ok (.iload 4, 2) := by decide +kernel
theorem dX8_look_83 : decode cX8_look 83 = .ok (.bipush 32, 2) := by decide +kernel
theorem dX8_look_85 : decode cX8_look 85 = .ok (.if_icmp .ge 32, 3) := by decide +kernel
theorem dX8_look_88 : decode cX8_look 88 = .ok (.aload_n 0, 1) := by decide +kernel
theorem dX8_look_89 : decode cX8_look 89 = .ok (.aload_n 1, 1) := by decide +kernel
theorem dX8_look_90 : decode cX8_look 90 = .ok (.iload 4, 2) := by decide +kernel
theorem dX8_look_92 : decode cX8_look 92 = .ok (.invokevirtual 32, 3) := by decide +kernel
theorem dX8_look_95 : decode cX8_look 95 = .ok (.ifCond .eq 16, 3) := by decide +kernel
theorem dX8_look_98 : decode cX8_look 98 = .ok (.aload_n 0, 1) := by decide +kernel
theorem dX8_look_99 : decode cX8_look 99 = .ok (.dup, 1) := by decide +kernel
theorem dX8_look_100 : decode cX8_look 100 = .ok (.getfield 15, 3) := by decide +kernel
theorem dX8_look_103 : decode cX8_look 103 = .ok (.iconst 1, 1) := by decide +kernel
theorem dX8_look_104 : decode cX8_look 104 = .ok (.iload 4, 2) := by decide +kernel
theorem dX8_look_106 : decode cX8_look 106 = .ok (.ishl, 1) := by decide +kernel
theorem dX8_look_107 : decode cX8_look 107 = .ok (.ior, 1) := by decide +kernel
theorem dX8_look_108 : decode cX8_look 108 = .ok (.putfield 15, 3) := by decide +kernel
theorem dX8_look_111 : decode cX8_look 111 = .ok (.iinc 4 1, 3) := by decide +kernel
theorem dX8_look_114 : decode cX8_look 114 = .ok (.goto (-33), 3) := by decide +kernel
theorem dX8_look_117 : decode cX8_look 117 = .ok (.return_, 1) := by decide +kernel
theorem dX8_shows_0 : decode cX8_shows 0 = .ok (.aload_n 0, 1) := by decide +kernel
theorem dX8_shows_1 : decode cX8_shows 1 = .ok (.getfield 15, 3) := by decide +kernel
theorem dX8_shows_4 : decode cX8_shows 4 = .ok (.iload_n 1, 1) := by decide +kernel
theorem dX8_shows_5 : decode cX8_shows 5 = .ok (.invokestatic 36, 3) := by decide +kernel
theorem dX8_shows_8 : decode cX8_shows 8 = .ok (.ireturn, 1) := by decide +kernel
theorem dX8_force_0 : decode cX8_force 0 = .ok (.iload_n 1, 1) := by decide +kernel
theorem dX8_force_1 : decode cX8_force 1 = .ok (.ifCond .lt 18, 3) := by decide +kernel
theorem dX8_force_4 : decode cX8_force 4 = .ok (.iload_n 1, 1) := by decide +kernel
theorem dX8_force_5 : decode cX8_force 5 = .ok (.bipush 24, 2) := by decide +kernel
theorem dX8_force_7 : decode cX8_force 7 = .ok (.if_icmp .ge 12, 3) := by decide +kernel
theorem dX8_force_10 : decode cX8_force 10 = .ok (.aload_n 0, 1) := by decide +kernel
theorem dX8_force_11 : decode cX8_force 11 = .ok (.getfield 9, 3) := by decide +kernel
theorem dX8_force_14 : decode cX8_force 14 = .ok (.iload_n 1, 1) := by decide +kernel
theorem dX8_force_15 : decode cX8_force 15 = .ok (.iaload, 1) := by decide +kernel
theorem dX8_force_16 : decode cX8_force 16 = .ok (.goto 5, 3) := by decide +kernel
theorem dX8_force_19 : decode cX8_force 19 = .ok (.bipush (-2), 2) := by decide +kernel
theorem dX8_force_21 : decode cX8_force 21 = .ok (.ireturn, 1) := by decide +kernel
theorem dX8_lookAtField_0 : decode cX8_lookAtField 0 = .ok (.aload_n 1, 1) := by decide +kernel
theorem dX8_lookAtField_1 : decode cX8_lookAtField 1 = .ok (.iload_n 3, 1) := by decide +kernel
theorem dX8_lookAtField_2 : decode cX8_lookAtField 2 = .ok (.invokevirtual 40, 3) := by decide +kernel
theorem dX8_lookAtField_5 : decode cX8_lookAtField 5 = .ok (.astore 4, 2) := by decide +kernel
theorem dX8_lookAtField_7 : decode cX8_lookAtField 7 = .ok (.aload 4, 2) := by decide +kernel
theorem dX8_lookAtField_9 : decode cX8_lookAtField 9 = .ok (.ifnull 22, 3) := by decide +kernel
theorem dX8_lookAtField_12 : decode cX8_lookAtField 12 = .ok (.iload_n 3, 1) := by decide +kernel
theorem dX8_lookAtField_13 : decode cX8_lookAtField 13 = .ok (.ifCond .lt 18, 3) := by decide +kernel
theorem dX8_lookAtField_16 : decode cX8_lookAtField 16 = .ok (.iload_n 3, 1) := by decide +kernel
theorem dX8_lookAtField_17 : decode cX8_lookAtField 17 = .ok (.bipush 24, 2) := by decide +kernel
theorem dX8_lookAtField_19 : decode cX8_lookAtField 19 = .ok (.if_icmp .ge 12, 3) := by decide +kernel
theorem dX8_lookAtField_22 : decode cX8_lookAtField 22 = .ok (.aload_n 0, 1) := by decide +kernel
theorem dX8_lookAtField_23 : decode cX8_lookAtField 23 = .ok (.aload_n 1, 1) := by decide +kernel
theorem dX8_lookAtField_24 : decode cX8_lookAtField 24 = .ok (.iload_n 3, 1) := by decide +kernel
theorem dX8_lookAtField_25 : decode cX8_lookAtField 25 = .ok (.invokevirtual 32, 3) := by decide +kernel
theorem dX8_lookAtField_28 : decode cX8_lookAtField 28 = .ok (.ifCond .ne 4, 3) := by decide +kernel
theorem dX8_lookAtField_31 : decode cX8_lookAtField 31 = .ok (.return_, 1) := by decide +kernel
theorem dX8_lookAtField_32 : decode cX8_lookAtField 32 = .ok (.aload_n 0, 1) := by decide +kernel
theorem dX8_lookAtField_33 : decode cX8_lookAtField 33 = .ok (.dup, 1) := by decide +kernel
theorem dX8_lookAtField_34 : decode cX8_lookAtField 34 = .ok (.getfield 15, 3) := by decide +kernel
theorem dX8_lookAtField_37 : decode cX8_lookAtField 37 = .ok (.iconst 1, 1) := by decide +kernel
theorem dX8_lookAtField_38 : decode cX8_lookAtField 38 = .ok (.iload_n 3, 1) := by decide +kernel
theorem dX8_lookAtField_39 : decode cX8_lookAtField 39 = .ok (.ishl, 1) := by decide +kernel
theorem dX8_lookAtField_40 : decode cX8_lookAtField 40 = .ok (.ior, 1) := by decide +kernel
theorem dX8_lookAtField_41 : decode cX8_lookAtField 41 = .ok (.putfield 15, 3) := by decide +kernel
theorem dX8_lookAtField_44 : decode cX8_lookAtField 44 = .ok (.aload_n 2, 1) := by decide +kernel
theorem dX8_lookAtField_45 : decode cX8_lookAtField 45 = .ok (.iload_n 3, 1) := by decide +kernel
theorem dX8_lookAtField_46 : decode cX8_lookAtField 46 = .ok (.invokevirtual 44, 3) := by decide +kernel
theorem dX8_lookAtField_49 : decode cX8_lookAtField 49 = .ok (.istore 5, 2) := by decide +kernel
theorem dX8_lookAtField_51 : decode cX8_lookAtField 51 = .ok (.iload 5, 2) := by decide +kernel
theorem dX8_lookAtField_53 : decode cX8_lookAtField 53 = .ok (.bipush (-2), 2) := by decide +kernel
theorem dX8_lookAtField_55 : decode cX8_lookAtField 55 = .ok (.if_icmp .eq 33, 3) := by decide +kernel
theorem dX8_lookAtField_58 : decode cX8_lookAtField 58 = .ok (.aload 4, 2) := by decide +kernel
theorem dX8_lookAtField_60 : decode cX8_lookAtField 60 = .ok (.iload 5, 2) := by decide +kernel
theorem dX8_lookAtField_62 : decode cX8_lookAtField 62 = .ok (.invokevirtual 49, 3) := by decide +kernel
theorem dX8_lookAtField_65 : decode cX8_lookAtField 65 = .ok (.ifCond .eq 23, 3) := by decide +kernel
theorem dX8_lookAtField_68 : decode cX8_lookAtField 68 = .ok (.aload_n 0, 1) := by decide +kernel
theorem dX8_lookAtField_69 : decode cX8_lookAtField 69 = .ok (.dup, 1) := by decide +kernel
theorem dX8_lookAtField_70 : decode cX8_lookAtField 70 = .ok (.getfield 19, 3) := by decide +kernel
theorem dX8_lookAtField_73 : decode cX8_lookAtField 73 = .ok (.iconst 1, 1) := by decide +kernel
theorem dX8_lookAtField_74 : decode cX8_lookAtField 74 = .ok (.iload_n 3, 1) := by decide +kernel
theorem dX8_lookAtField_75 : decode cX8_lookAtField 75 = .ok (.ishl, 1) := by decide +kernel
theorem dX8_lookAtField_76 : decode cX8_lookAtField 76 = .ok (.ior, 1) := by decide +kernel
theorem dX8_lookAtField_77 : decode cX8_lookAtField 77 = .ok (.putfield 19, 3) := by decide +kernel
theorem dX8_lookAtField_80 : decode cX8_lookAtField 80 = .ok (.aload_n 0, 1) := by decide +kernel
theorem dX8_lookAtField_81 : decode cX8_lookAtField 81 = .ok (.getfield 9, 3) := by decide +kernel
theorem dX8_lookAtField_84 : decode cX8_lookAtField 84 = .ok (.iload_n 3, 1) := by decide +kernel
theorem dX8_lookAtField_85 : decode cX8_lookAtField 85 = .ok (.iload 5, 2) := by decide +kernel
theorem dX8_lookAtField_87 : decode cX8_lookAtField 87 = .ok (.iastore, 1) := by decide +kernel
theorem dX8_lookAtField_88 : decode cX8_lookAtField 88 = .ok (.return_, 1) := by decide +kernel
theorem dX8_isVisible_0 : decode cX8_isVisible 0 = .ok (.aload_n 1, 1) := by decide +kernel
theorem dX8_isVisible_1 : decode cX8_isVisible 1 = .ok (.iload_n 2, 1) := by decide +kernel
theorem dX8_isVisible_2 : decode cX8_isVisible 2 = .ok (.invokevirtual 55, 3) := by decide +kernel
theorem dX8_isVisible_5 : decode cX8_isVisible 5 = .ok (.astore_n 3, 1) := by decide +kernel
theorem dX8_isVisible_6 : decode cX8_isVisible 6 = .ok (.aload_n 3, 1) := by decide +kernel
theorem dX8_isVisible_7 : decode cX8_isVisible 7 = .ok (.ifnonnull 5, 3) := by decide +kernel
theorem dX8_isVisible_10 : decode cX8_isVisible 10 = .ok (.iconst 0, 1) := by decide +kernel
theorem dX8_isVisible_11 : decode cX8_isVisible 11 = .ok (.ireturn, 1) := by decide +kernel
theorem dX8_isVisible_12 : decode cX8_isVisible 12 = .ok (.iconst 0, 1) := by decide +kernel
theorem dX8_isVisible_13 : decode cX8_isVisible 13 = .ok (.istore 4, 2) := by decide +kernel
theorem dX8_isVisible_15 : decode cX8_isVisible 15 = .ok (.iload 4, 2) := by decide +kernel
theorem dX8_isVisible_17 : decode cX8_isVisible 17 = .ok (.bipush 8, 2) := by decide +kernel
theorem dX8_isVisible_19 : decode cX8_isVisible 19 = .ok (.if_icmp .gt 43, 3) := by decide +kernel
theorem dX8_isVisible_22 : decode cX8_isVisible 22 = .ok (.aload_n 3, 1) := by decide +kernel
theorem dX8_isVisible_23 : decode cX8_isVisible 23 = .ok (.ifnull 39, 3) := by decide +kernel
theorem dX8_isVisible_26 : decode cX8_isVisible 26 = .ok (.aload_n 3, 1) := by decide +kernel
theorem dX8_isVisible_27 : decode cX8_isVisible 27 = .ok (.getfield 58, 3) := by decide +kernel
theorem dX8_isVisible_30 : decode cX8_isVisible 30 = .ok (.ifnull 17, 3) := by decide +kernel
theorem dX8_isVisible_33 : decode cX8_isVisible 33 = .ok (.aload_n 0, 1) := by decide +kernel
theorem dX8_isVisible_34 : decode cX8_isVisible 34 = .ok (.aload_n 3, 1) := by decide +kernel
theorem dX8_isVisible_35 : decode cX8_isVisible 35 = .ok (.getfield 58, 3) := by decide +kernel
theorem dX8_isVisible_38 : decode cX8_isVisible 38 = .ok (.iconst 0, 1) := by decide +kernel
theorem dX8_isVisible_39 : decode cX8_isVisible 39 = .ok (.invokestatic 62, 3) := by decide +kernel
theorem dX8_isVisible_42 : decode cX8_isVisible 42 = .ok (.ifCond .ne 5, 3) := by decide +kernel
theorem dX8_isVisible_45 : decode cX8_isVisible 45 = .ok (.iconst 0, 1) := by decide +kernel
theorem dX8_isVisible_46 : decode cX8_isVisible 46 = .ok (.ireturn, 1) := by decide +kernel
theorem dX8_isVisible_47 : decode cX8_isVisible 47 = .ok (.aload_n 1, 1) := by decide +kernel
theorem dX8_isVisible_48 : decode cX8_isVisible 48 = .ok (.aload_n 3, 1) := by decide +kernel
theorem dX8_isVisible_49 : decode cX8_isVisible 49 = .ok (.getfield 66, 3) := by decide +kernel
theorem dX8_isVisible_52 : decode cX8_isVisible 52 = .ok (.invokevirtual 69, 3) := by decide +kernel
theorem dX8_isVisible_55 : decode cX8_isVisible 55 = .ok (.astore_n 3, 1) := by decide +kernel
theorem dX8_isVisible_56 : decode cX8_isVisible 56 = .ok (.iinc 4 1, 3) := by decide +kernel
theorem dX8_isVisible_59 : decode cX8_isVisible 59 = .ok (.goto (-44), 3) := by decide +kernel
theorem dX8_isVisible_62 : decode cX8_isVisible 62 = .ok (.iconst 1, 1) := by decide +kernel
theorem dX8_isVisible_63 : decode cX8_isVisible 63 = .ok (.ireturn, 1) := by decide +kernel
theorem dX8_holds_0 : decode cX8_holds 0 = .ok (.aload_n 1, 1) := by decide +kernel
theorem dX8_holds_1 : decode cX8_holds 1 = .ok (.ifnull 9, 3) := by decide +kernel
theorem dX8_holds_4 : decode cX8_holds 4 = .ok (.iload_n 2, 1) := by decide +kernel
theorem dX8_holds_5 : decode cX8_holds 5 = .ok (.bipush 40, 2) := by decide +kernel
theorem dX8_holds_7 : decode cX8_holds 7 = .ok (.if_icmp .le 5, 3) := by decide +kernel
theorem dX8_holds_10 : decode cX8_holds 10 = .ok (.iconst 0, 1) := by decide +kernel
theorem dX8_holds_11 : decode cX8_holds 11 = .ok (.ireturn, 1) := by decide +kernel
theorem dX8_holds_12 : decode cX8_holds 12 = .ok (.aload_n 1, 1) := by decide +kernel
theorem dX8_holds_13 : decode cX8_holds 13 = .ok (.getfield 72, 3) := by decide +kernel
theorem dX8_holds_16 : decode cX8_holds 16 = .ok (.bipush 13, 2) := by decide +kernel
theorem dX8_holds_18 : decode cX8_holds 18 = .ok (.if_icmp .ne 23, 3) := by decide +kernel
theorem dX8_holds_21 : decode cX8_holds 21 = .ok (.aload_n 0, 1) := by decide +kernel
theorem dX8_holds_22 : decode cX8_holds 22 = .ok (.aload_n 1, 1) := by decide +kernel
theorem dX8_holds_23 : decode cX8_holds 23 = .ok (.getfield 77, 3) := by decide +kernel
theorem dX8_holds_26 : decode cX8_holds 26 = .ok (.iload_n 2, 1) := by decide +kernel
theorem dX8_holds_27 : decode cX8_holds 27 = .ok (.iconst 1, 1) := by decide +kernel
theorem dX8_holds_28 : decode cX8_holds 28 = .ok (.iadd, 1) := by decide +kernel
theorem dX8_holds_29 : decode cX8_holds 29 = .ok (.invokestatic 62, 3) := by decide +kernel
theorem dX8_holds_32 : decode cX8_holds 32 = .ok (.ifCond .ne 7, 3) := by decide +kernel
theorem dX8_holds_35 : decode cX8_holds 35 = .ok (.iconst 1, 1) := by decide +kernel
theorem dX8_holds_36 : decode cX8_holds 36 = .ok (.goto 4, 3) := by decide +kernel
theorem dX8_holds_39 : decode cX8_holds 39 = .ok (.iconst 0, 1) := by decide +kernel
theorem dX8_holds_40 : decode cX8_holds 40 = .ok (.ireturn, 1) := by decide +kernel
theorem dX8_holds_41 : decode cX8_holds 41 = .ok (.aload_n 1, 1) := by decide +kernel
theorem dX8_holds_42 : decode cX8_holds 42 = .ok (.getfield 72, 3) := by decide +kernel
theorem dX8_holds_45 : decode cX8_holds 45 = .ok (.iconst 2, 1) := by decide +kernel
theorem dX8_holds_46 : decode cX8_holds 46 = .ok (.if_icmp .ne 9, 3) := by decide +kernel
theorem dX8_holds_49 : decode cX8_holds 49 = .ok (.aload_n 0, 1) := by decide +kernel
theorem dX8_holds_50 : decode cX8_holds 50 = .ok (.aload_n 1, 1) := by decide +kernel
theorem dX8_holds_51 : decode cX8_holds 51 = .ok (.invokevirtual 80, 3) := by decide +kernel
theorem dX8_holds_54 : decode cX8_holds 54 = .ok (.ireturn, 1) := by decide +kernel
theorem dX8_holds_55 : decode cX8_holds 55 = .ok (.aload_n 1, 1) := by decide +kernel
theorem dX8_holds_56 : decode cX8_holds 56 = .ok (.getfield 72, 3) := by decide +kernel
theorem dX8_holds_59 : decode cX8_holds 59 = .ok (.bipush 11, 2) := by decide +kernel
theorem dX8_holds_61 : decode cX8_holds 61 = .ok (.if_icmp .ne 7, 3) := by decide +kernel
theorem dX8_holds_64 : decode cX8_holds 64 = .ok (.iconst 1, 1) := by decide +kernel
theorem dX8_holds_65 : decode cX8_holds 65 = .ok (.goto 4, 3) := by decide +kernel
theorem dX8_holds_68 : decode cX8_holds 68 = .ok (.iconst 0, 1) := by decide +kernel
theorem dX8_holds_69 : decode cX8_holds 69 = .ok (.istore_n 3, 1) := by decide +kernel
theorem dX8_holds_70 : decode cX8_holds 70 = .ok (.aload_n 1, 1) := by decide +kernel
theorem dX8_holds_71 : decode cX8_holds 71 = .ok (.getfield 77, 3) := by decide +kernel
theorem dX8_holds_74 : decode cX8_holds 74 = .ok (.astore 4, 2) := by decide +kernel
theorem dX8_holds_76 : decode cX8_holds 76 = .ok (.aload 4, 2) := by decide +kernel
theorem dX8_holds_78 : decode cX8_holds 78 = .ok (.ifnull 28, 3) := by decide +kernel
theorem dX8_holds_81 : decode cX8_holds 81 = .ok (.aload_n 0, 1) := by decide +kernel
theorem dX8_holds_82 : decode cX8_holds 82 = .ok (.aload 4, 2) := by decide +kernel
theorem dX8_holds_84 : decode cX8_holds 84 = .ok (.iload_n 2, 1) := by decide +kernel
theorem dX8_holds_85 : decode cX8_holds 85 = .ok (.iconst 1, 1) := by decide +kernel
theorem dX8_holds_86 : decode cX8_holds 86 = .ok (.iadd, 1) := by decide +kernel
theorem dX8_holds_87 : decode cX8_holds 87 = .ok (.invokestatic 62, 3) := by decide +kernel
theorem dX8_holds_90 : decode cX8_holds 90 = .ok (.iload_n 3, 1) := by decide +kernel
theorem dX8_holds_91 : decode cX8_holds 91 = .ok (.if_icmp .ne 5, 3) := by decide +kernel
theorem dX8_holds_94 : decode cX8_holds 94 = .ok (.iload_n 3, 1) := by decide +kernel
theorem dX8_holds_95 : decode cX8_holds 95 = .ok (.ireturn, 1) := by decide +kernel
theorem dX8_holds_96 : decode cX8_holds 96 = .ok (.aload 4, 2) := by decide +kernel
theorem dX8_holds_98 : decode cX8_holds 98 = .ok (.getfield 84, 3) := by decide +kernel
theorem dX8_holds_101 : decode cX8_holds 101 = .ok (.astore 4, 2) := by decide +kernel
theorem dX8_holds_103 : decode cX8_holds 103 = .ok (.goto (-27), 3) := by decide +kernel
theorem dX8_holds_106 : decode cX8_holds 106 = .ok (.iload_n 3, 1) := by decide +kernel
theorem dX8_holds_107 : decode cX8_holds 107 = .ok (.ifCond .ne 7, 3) := by decide +kernel
theorem dX8_holds_110 : decode cX8_holds 110 = .ok (.iconst 1, 1) := by decide +kernel
theorem dX8_holds_111 : decode cX8_holds 111 = .ok (.goto 4, 3) := by decide +kernel
theorem dX8_holds_114 : decode cX8_holds 114 = .ok (.iconst 0, 1) := by decide +kernel
theorem dX8_holds_115 : decode cX8_holds 115 = .ok (.ireturn, 1) := by decide +kernel
theorem dX8_passes_0 : decode cX8_passes 0 = .ok (.aload_n 0, 1) := by decide +kernel
theorem dX8_passes_1 : decode cX8_passes 1 = .ok (.aload_n 1, 1) := by decide +kernel
theorem dX8_passes_2 : decode cX8_passes 2 = .ok (.getfield 87, 3) := by decide +kernel
theorem dX8_passes_5 : decode cX8_passes 5 = .ok (.invokevirtual 90, 3) := by decide +kernel
theorem dX8_passes_8 : decode cX8_passes 8 = .ok (.istore_n 2, 1) := by decide +kernel
theorem dX8_passes_9 : decode cX8_passes 9 = .ok (.iload_n 2, 1) := by decide +kernel
theorem dX8_passes_10 : decode cX8_passes 10 = .ok (.ifCond .ge 5, 3) := by decide +kernel
theorem dX8_passes_13 : decode cX8_passes 13 = .ok (.iconst 0, 1) := by decide +kernel
theorem dX8_passes_14 : decode cX8_passes 14 = .ok (.ireturn, 1) := by decide +kernel
theorem dX8_passes_15 : decode cX8_passes 15 = .ok (.aload_n 1, 1) := by decide +kernel
theorem dX8_passes_16 : decode cX8_passes 16 = .ok (.getfield 93, 3) := by decide +kernel
theorem dX8_passes_19 : decode cX8_passes 19 = .ok (.tableswitch 67 60 62 #[39, 25, 53], 25) := by decide +kernel
theorem dX8_passes_44 : decode cX8_passes 44 = .ok (.iload_n 2, 1) := by decide +kernel
theorem dX8_passes_45 : decode cX8_passes 45 = .ok (.aload_n 1, 1) := by decide +kernel
theorem dX8_passes_46 : decode cX8_passes 46 = .ok (.getfield 96, 3) := by decide +kernel
theorem dX8_passes_49 : decode cX8_passes 49 = .ok (.if_icmp .ne 7, 3) := by decide +kernel
theorem dX8_passes_52 : decode cX8_passes 52 = .ok (.iconst 1, 1) := by decide +kernel
theorem dX8_passes_53 : decode cX8_passes 53 = .ok (.goto 4, 3) := by decide +kernel
theorem dX8_passes_56 : decode cX8_passes 56 = .ok (.iconst 0, 1) := by decide +kernel
theorem dX8_passes_57 : decode cX8_passes 57 = .ok (.ireturn, 1) := by decide +kernel
theorem dX8_passes_58 : decode cX8_passes 58 = .ok (.iload_n 2, 1) := by decide +kernel
theorem dX8_passes_59 : decode cX8_passes 59 = .ok (.aload_n 1, 1) := by decide +kernel
theorem dX8_passes_60 : decode cX8_passes 60 = .ok (.getfield 96, 3) := by decide +kernel
theorem dX8_passes_63 : decode cX8_passes 63 = .ok (.if_icmp .ge 7, 3) := by decide +kernel
theorem dX8_passes_66 : decode cX8_passes 66 = .ok (.iconst 1, 1) := by decide +kernel
theorem dX8_passes_67 : decode cX8_passes 67 = .ok (.goto 4, 3) := by decide +kernel
theorem dX8_passes_70 : decode cX8_passes 70 = .ok (.iconst 0, 1) := by decide +kernel
theorem dX8_passes_71 : decode cX8_passes 71 = .ok (.ireturn, 1) := by decide +kernel
theorem dX8_passes_72 : decode cX8_passes 72 = .ok (.iload_n 2, 1) := by decide +kernel
theorem dX8_passes_73 : decode cX8_passes 73 = .ok (.aload_n 1, 1) := by decide +kernel
theorem dX8_passes_74 : decode cX8_passes 74 = .ok (.getfield 96, 3) := by decide +kernel
theorem dX8_passes_77 : decode cX8_passes 77 = .ok (.if_icmp .le 7, 3) := by decide +kernel
theorem dX8_passes_80 : decode cX8_passes 80 = .ok (.iconst 1, 1) := by decide +kernel
theorem dX8_passes_81 : decode cX8_passes 81 = .ok (.goto 4, 3) := by decide +kernel
theorem dX8_passes_84 : decode cX8_passes 84 = .ok (.iconst 0, 1) := by decide +kernel
theorem dX8_passes_85 : decode cX8_passes 85 = .ok (.ireturn, 1) := by decide +kernel
theorem dX8_passes_86 : decode cX8_passes 86 = .ok (.iload_n 2, 1) := by decide +kernel
theorem dX8_passes_87 : decode cX8_passes 87 = .ok (.ifCond .eq 7, 3) := by decide +kernel
theorem dX8_passes_90 : decode cX8_passes 90 = .ok (.iconst 1, 1) := by decide +kernel
theorem dX8_passes_91 : decode cX8_passes 91 = .ok (.goto 4, 3) := by decide +kernel
theorem dX8_passes_94 : decode cX8_passes 94 = .ok (.iconst 0, 1) := by decide +kernel
theorem dX8_passes_95 : decode cX8_passes 95 = .ok (.ireturn, 1) := by decide +kernel
