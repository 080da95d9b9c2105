theorem dX0_init_0 : decode cX0_init 0 = .ok (.aload_n 0, 1) := by decide +kernel
theorem dX0_init_1 : decode cX0_init 1 = .ok (.invokespecial 3, 3) := by decide +kernel
theorem dX0_init_4 : decode cX0_init 4 = .ok (.aload_n 0, 1) := by decide +kernel
theorem dX0_init_5 : decode cX0_init 5 = .ok (.sipush 1024, 3) := by decide +kernel
theorem dX0_init_8 : decode cX0_init 8 = .ok (.newarray .int, 2) := by decide +kernel
theorem dX0_init_10 : decode cX0_init 10 = .ok (.putfield 9, 3) := by decide +kernel
theorem dX0_init_13 : decode cX0_init 13 = .ok (.aload_n 0, 1) := by decide +kernel
theorem dX0_init_14 : decode cX0_init 14 = .ok (.sipush 1024, 3) := by decide +kernel
theorem dX0_init_17 : decode cX0_init 17 = .ok (.newarray .int, 2) := by decide +kernel
theorem dX0_init_19 : decode cX0_init 19 = .ok (.putfield 15, 3) := by decide +kernel
theorem dX0_init_22 : decode cX0_init 22 = .ok (.aload_n 0, 1) := by decide +kernel
theorem dX0_init_23 : decode cX0_init 23 = .ok (.sipush 1024, 3) := by decide +kernel
theorem dX0_init_26 : decode cX0_init 26 = .ok (.newarray .int, 2) := by decide +kernel
theorem dX0_init_28 : decode cX0_init 28 = .ok (.putfield 18, 3) := by decide +kernel
theorem dX0_init_31 : decode cX0_init 31 = .ok (.aload_n 0, 1) := by decide +kernel
theorem dX0_init_32 : decode cX0_init 32 = .ok (.sipush 1024, 3) := by decide +kernel
theorem dX0_init_35 : decode cX0_init 35 = .ok (.newarray .int, 2) := by decide +kernel
theorem dX0_init_37 : decode cX0_init 37 = .ok (.putfield 21, 3) := by decide +kernel
theorem dX0_init_40 : decode cX0_init 40 = .ok (.aload_n 0, 1) := by decide +kernel
theorem dX0_init_41 : decode cX0_init 41 = .ok (.sipush 1024, 3) := by decide +kernel
theorem dX0_init_44 : decode cX0_init 44 = .ok (.newarray .int, 2) := by decide +kernel
theorem dX0_init_46 : decode cX0_init 46 = .ok (.putfield 24, 3) := by decide +kernel
theorem dX0_init_49 : decode cX0_init 49 = .ok (.aload_n 0, 1) := by decide +kernel
theorem dX0_init_50 : decode cX0_init 50 = .ok (.sipush 1024, 3) := by decide +kernel
theorem dX0_init_53 : decode cX0_init 53 = .ok (.newarray .int, 2) := by decide +kernel
theorem dX0_init_55 : decode cX0_init 55 = .ok (.putfield 27, 3) := by decide +kernel
theorem dX0_init_58 : decode cX0_init 58 = .ok (.aload_n 0, 1) := by decide +kernel
theorem dX0_init_59 : decode cX0_init 59 = .ok (.bipush 16, 2) := by decide +kernel
theorem dX0_init_61 : decode cX0_init 61 = .ok (.newarray .int, 2) := by decide +kernel
theorem dX0_init_63 : decode cX0_init 63 = .ok (.putfield 30, 3) := by decide +kernel
theorem dX0_init_66 : decode cX0_init 66 = .ok (.return_, 1) := by decide +kernel
theorem dX0_forget_0 : decode cX0_forget 0 = .ok (.aload_n 0, 1) := by decide +kernel
theorem dX0_forget_1 : decode cX0_forget 1 = .ok (.iconst 0, 1) := by decide +kernel
theorem dX0_forget_2 : decode cX0_forget 2 = .ok (.putfield 33, 3) := by decide +kernel
theorem dX0_forget_5 : decode cX0_forget 5 = .ok (.return_, 1) := by decide +kernel
theorem dX0_prepare_0 : decode cX0_prepare 0 = .ok (.aload_n 0, 1) := by decide +kernel
theorem dX0_prepare_1 : decode cX0_prepare 1 = .ok (.getfield 33, 3) := by decide +kernel
theorem dX0_prepare_4 : decode cX0_prepare 4 = .ok (.ifCond .eq 24, 3) := by decide +kernel
theorem dX0_prepare_7 : decode cX0_prepare 7 = .ok (.aload_n 0, 1) := by decide +kernel
theorem dX0_prepare_8 : decode cX0_prepare 8 = .ok (.getfield 37, 3) := by decide +kernel
theorem dX0_prepare_11 : decode cX0_prepare 11 = .ok (.aload_n 2, 1) := by decide +kernel
theorem dX0_prepare_12 : decode cX0_prepare 12 = .ok (.getfield 41, 3) := by decide +kernel
theorem dX0_prepare_15 : decode cX0_prepare 15 = .ok (.if_icmp .ne 13, 3) := by decide +kernel
theorem dX0_prepare_18 : decode cX0_prepare 18 = .ok (.aload_n 0, 1) := by decide +kernel
theorem dX0_prepare_19 : decode cX0_prepare 19 = .ok (.aload_n 1, 1) := by decide +kernel
theorem dX0_prepare_20 : decode cX0_prepare 20 = .ok (.aload_n 2, 1) := by decide +kernel
theorem dX0_prepare_21 : decode cX0_prepare 21 = .ok (.invokevirtual 46, 3) := by decide +kernel
theorem dX0_prepare_24 : decode cX0_prepare 24 = .ok (.ifCond .eq 4, 3) := by decide +kernel
theorem dX0_prepare_27 : decode cX0_prepare 27 = .ok (.return_, 1) := by decide +kernel
theorem dX0_prepare_28 : decode cX0_prepare 28 = .ok (.aload_n 0, 1) := by decide +kernel
theorem dX0_prepare_29 : decode cX0_prepare 29 = .ok (.iconst 1, 1) := by decide +kernel
theorem dX0_prepare_30 : decode cX0_prepare 30 = .ok (.aload_n 1, 1) := by decide +kernel
theorem dX0_prepare_31 : decode cX0_prepare 31 = .ok (.getfield 50, 3) := by decide +kernel
theorem dX0_prepare_34 : decode cX0_prepare 34 = .ok (.ishl, 1) := by decide +kernel
theorem dX0_prepare_35 : decode cX0_prepare 35 = .ok (.putfield 55, 3) := by decide +kernel
theorem dX0_prepare_38 : decode cX0_prepare 38 = .ok (.iconst 0, 1) := by decide +kernel
theorem dX0_prepare_39 : decode cX0_prepare 39 = .ok (.istore 4, 2) := by decide +kernel
theorem dX0_prepare_41 : decode cX0_prepare 41 = .ok (.iload 4, 2) := by decide +kernel
theorem dX0_prepare_43 : decode cX0_prepare 43 = .ok (.aload_n 0, 1) := by decide +kernel
theorem dX0_prepare_44 : decode cX0_prepare 44 = .ok (.getfield 55, 3) := by decide +kernel
theorem dX0_prepare_47 : decode cX0_prepare 47 = .ok (.if_icmp .ge 32, 3) := by decide +kernel
theorem dX0_prepare_50 : decode cX0_prepare 50 = .ok (.iload 4, 2) := by decide +kernel
theorem dX0_prepare_52 : decode cX0_prepare 52 = .ok (.sipush 1024, 3) := by decide +kernel
theorem dX0_prepare_55 : decode cX0_prepare 55 = .ok (.if_icmp .ge 24, 3) := by decide +kernel
theorem dX0_prepare_58 : decode cX0_prepare 58 = .ok (.aload_n 0, 1) := by decide +kernel
theorem dX0_prepare_59 : decode cX0_prepare 59 = .ok (.getfield 9, 3) := by decide +kernel
theorem dX0_prepare_62 : decode cX0_prepare 62 = .ok (.iload 4, 2) := by decide +kernel
theorem dX0_prepare_64 : decode cX0_prepare 64 = .ok (.aload_n 3, 1) := by decide +kernel
theorem dX0_prepare_65 : decode cX0_prepare 65 = .ok (.aload_n 1, 1) := by decide +kernel
theorem dX0_prepare_66 : decode cX0_prepare 66 = .ok (.aload_n 2, 1) := by decide +kernel
theorem dX0_prepare_67 : decode cX0_prepare 67 = .ok (.iload 4, 2) := by decide +kernel
theorem dX0_prepare_69 : decode cX0_prepare 69 = .ok (.invokevirtual 58, 3) := by decide +kernel
theorem dX0_prepare_72 : decode cX0_prepare 72 = .ok (.iastore, 1) := by decide +kernel
theorem dX0_prepare_73 : decode cX0_prepare 73 = .ok (.iinc 4 1, 3) := by decide +kernel
theorem dX0_prepare_76 : decode cX0_prepare 76 = .ok (.goto (-35), 3) := by decide +kernel
theorem dX0_prepare_79 : decode cX0_prepare 79 = .ok (.aload_n 0, 1) := by decide +kernel
theorem dX0_prepare_80 : decode cX0_prepare 80 = .ok (.aload_n 2, 1) := by decide +kernel
theorem dX0_prepare_81 : decode cX0_prepare 81 = .ok (.getfield 41, 3) := by decide +kernel
theorem dX0_prepare_84 : decode cX0_prepare 84 = .ok (.putfield 37, 3) := by decide +kernel
theorem dX0_prepare_87 : decode cX0_prepare 87 = .ok (.aload_n 2, 1) := by decide +kernel
theorem dX0_prepare_88 : decode cX0_prepare 88 = .ok (.getfield 64, 3) := by decide +kernel
theorem dX0_prepare_91 : decode cX0_prepare 91 = .ok (.iconst 0, 1) := by decide +kernel
theorem dX0_prepare_92 : decode cX0_prepare 92 = .ok (.aload_n 0, 1) := by decide +kernel
theorem dX0_prepare_93 : decode cX0_prepare 93 = .ok (.getfield 30, 3) := by decide +kernel
theorem dX0_prepare_96 : decode cX0_prepare 96 = .ok (.iconst 0, 1) := by decide +kernel
theorem dX0_prepare_97 : decode cX0_prepare 97 = .ok (.bipush 16, 2) := by decide +kernel
theorem dX0_prepare_99 : decode cX0_prepare 99 = .ok (.invokestatic 67, 3) := by decide +kernel
theorem dX0_prepare_102 : decode cX0_prepare 102 = .ok (.aload_n 0, 1) := by decide +kernel
theorem dX0_prepare_103 : decode cX0_prepare 103 = .ok (.iconst 1, 1) := by decide +kernel
theorem dX0_prepare_104 : decode cX0_prepare 104 = .ok (.putfield 33, 3) := by decide +kernel
theorem dX0_prepare_107 : decode cX0_prepare 107 = .ok (.aload_n 0, 1) := by decide +kernel
theorem dX0_prepare_108 : decode cX0_prepare 108 = .ok (.iconst 0, 1) := by decide +kernel
theorem dX0_prepare_109 : decode cX0_prepare 109 = .ok (.putfield 73, 3) := by decide +kernel
theorem dX0_prepare_112 : decode cX0_prepare 112 = .ok (.return_, 1) := by decide +kernel
theorem dX0_isFromSame_0 : decode cX0_isFromSame 0 = .ok (.iconst 0, 1) := by decide +kernel
theorem dX0_isFromSame_1 : decode cX0_isFromSame 1 = .ok (.istore_n 3, 1) := by decide +kernel
theorem dX0_isFromSame_2 : decode cX0_isFromSame 2 = .ok (.iload_n 3, 1) := by decide +kernel
theorem dX0_isFromSame_3 : decode cX0_isFromSame 3 = .ok (.aload_n 1, 1) := by decide +kernel
theorem dX0_isFromSame_4 : decode cX0_isFromSame 4 = .ok (.getfield 76, 3) := by decide +kernel
theorem dX0_isFromSame_7 : decode cX0_isFromSame 7 = .ok (.if_icmp .ge 26, 3) := by decide +kernel
theorem dX0_isFromSame_10 : decode cX0_isFromSame 10 = .ok (.aload_n 2, 1) := by decide +kernel
theorem dX0_isFromSame_11 : decode cX0_isFromSame 11 = .ok (.getfield 64, 3) := by decide +kernel
theorem dX0_isFromSame_14 : decode cX0_isFromSame 14 = .ok (.iload_n 3, 1) := by decide +kernel
theorem dX0_isFromSame_15 : decode cX0_isFromSame 15 = .ok (.iaload, 1) := by decide +kernel
theorem dX0_isFromSame_16 : decode cX0_isFromSame 16 = .ok (.aload_n 0, 1) := by decide +kernel
theorem dX0_isFromSame_17 : decode cX0_isFromSame 17 = .ok (.getfield 30, 3) := by decide +kernel
theorem dX0_isFromSame_20 : decode cX0_isFromSame 20 = .ok (.iload_n 3, 1) := by decide +kernel
theorem dX0_isFromSame_21 : decode cX0_isFromSame 21 = .ok (.iaload, 1) := by decide +kernel
theorem dX0_isFromSame_22 : decode cX0_isFromSame 22 = .ok (.if_icmp .eq 5, 3) := by decide +kernel
theorem dX0_isFromSame_25 : decode cX0_isFromSame 25 = .ok (.iconst 0, 1) := by decide +kernel
theorem dX0_isFromSame_26 : decode cX0_isFromSame 26 = .ok (.ireturn, 1) := by decide +kernel
theorem dX0_isFromSame_27 : decode cX0_isFromSame 27 = .ok (.iinc 3 1, 3) := by decide +kernel
theorem dX0_isFromSame_30 : decode cX0_isFromSame 30 = .ok (.goto (-28), 3) := by decide +kernel
theorem dX0_isFromSame_33 : decode cX0_isFromSame 33 = .ok (.iconst 1, 1) := by decide +kernel
theorem dX0_isFromSame_34 : decode cX0_isFromSame 34 = .ok (.ireturn, 1) := by decide +kernel
theorem dX0_prepareRings_0 : decode cX0_prepareRings 0 = .ok (.aload_n 0, 1) := by decide +kernel
theorem dX0_prepareRings_1 : decode cX0_prepareRings 1 = .ok (.getfield 73, 3) := by decide +kernel
theorem dX0_prepareRings_4 : decode cX0_prepareRings 4 = .ok (.ifCond .eq 4, 3) := by decide +kernel
theorem dX0_prepareRings_7 : decode cX0_prepareRings 7 = .ok (.return_, 1) := by decide +kernel
theorem dX0_prepareRings_8 : decode cX0_prepareRings 8 = .ok (.aload_n 0, 1) := by decide +kernel
theorem dX0_prepareRings_9 : decode cX0_prepareRings 9 = .ok (.getfield 21, 3) := by decide +kernel
theorem dX0_prepareRings_12 : decode cX0_prepareRings 12 = .ok (.iconst (-1), 1) := by decide +kernel
theorem dX0_prepareRings_13 : decode cX0_prepareRings 13 = .ok (.invokestatic 79, 3) := by decide +kernel
theorem dX0_prepareRings_16 : decode cX0_prepareRings 16 = .ok (.aload_n 0, 1) := by decide +kernel
theorem dX0_prepareRings_17 : decode cX0_prepareRings 17 = .ok (.getfield 27, 3) := by decide +kernel
theorem dX0_prepareRings_20 : decode cX0_prepareRings 20 = .ok (.iconst (-1), 1) := by decide +kernel
theorem dX0_prepareRings_21 : decode cX0_prepareRings 21 = .ok (.invokestatic 79, 3) := by decide +kernel
theorem dX0_prepareRings_24 : decode cX0_prepareRings 24 = .ok (.iconst 0, 1) := by decide +kernel
theorem dX0_prepareRings_25 : decode cX0_prepareRings 25 = .ok (.istore_n 1, 1) := by decide +kernel
theorem dX0_prepareRings_26 : decode cX0_prepareRings 26 = .ok (.iload_n 1, 1) := by decide +kernel
theorem dX0_prepareRings_27 : decode cX0_prepareRings 27 = .ok (.aload_n 0, 1) := by decide +kernel
theorem dX0_prepareRings_28 : decode cX0_prepareRings 28 = .ok (.getfield 55, 3) := by decide +kernel
theorem dX0_prepareRings_31 : decode cX0_prepareRings 31 = .ok (.if_icmp .ge 24, 3) := by decide +kernel
theorem dX0_prepareRings_34 : decode cX0_prepareRings 34 = .ok (.aload_n 0, 1) := by decide +kernel
theorem dX0_prepareRings_35 : decode cX0_prepareRings 35 = .ok (.getfield 21, 3) := by decide +kernel
theorem dX0_prepareRings_38 : decode cX0_prepareRings 38 = .ok (.iload_n 1, 1) := by decide +kernel
theorem dX0_prepareRings_39 : decode cX0_prepareRings 39 = .ok (.iaload, 1) := by decide +kernel
theorem dX0_prepareRings_40 : decode cX0_prepareRings 40 = .ok (.iconst (-1), 1) := by decide +kernel
theorem dX0_prepareRings_41 : decode cX0_prepareRings 41 = .ok (.if_icmp .ne 8, 3) := by decide +kernel
theorem dX0_prepareRings_44 : decode cX0_prepareRings 44 = .ok (.aload_n 0, 1) := by decide +kernel
theorem dX0_prepareRings_45 : decode cX0_prepareRings 45 = .ok (.iload_n 1, 1) := by decide +kernel
theorem dX0_prepareRings_46 : decode cX0_prepareRings 46 = .ok (.invokevirtual 85, 3) := by decide +kernel
theorem dX0_prepareRings_49 : decode cX0_prepareRings 49 = .ok (.iinc 1 1, 3) := by decide +kernel
theorem dX0_prepareRings_52 : decode cX0_prepareRings 52 = .ok (.goto (-26), 3) := by decide +kernel
theorem dX0_prepareRings_55 : decode cX0_prepareRings 55 = .ok (.aload_n 0, 1) := by decide +kernel
theorem dX0_prepareRings_56 : decode cX0_prepareRings 56 = .ok (.iconst 1, 1) := by decide +kernel
theorem dX0_prepareRings_57 : decode cX0_prepareRings 57 = .ok (.putfield 73, 3) := by decide +kernel
theorem dX0_prepareRings_60 : decode cX0_prepareRings 60 = .ok (.return_, 1) := by decide +kernel
theorem dX0_goAlong_0 : decode cX0_goAlong 0 = .ok (.iconst 0, 1) := by decide +kernel
theorem dX0_goAlong_1 : decode cX0_goAlong 1 = .ok (.istore_n 2, 1) := by decide +kernel
theorem dX0_goAlong_2 : decode cX0_goAlong 2 = .ok (.iload_n 1, 1) := by decide +kernel
theorem dX0_goAlong_3 : decode cX0_goAlong 3 = .ok (.istore_n 3, 1) := by decide +kernel
theorem dX0_goAlong_4 : decode cX0_goAlong 4 = .ok (.iload_n 2, 1) := by decide +kernel
theorem dX0_goAlong_5 : decode cX0_goAlong 5 = .ok (.aload_n 0, 1) := by decide +kernel
theorem dX0_goAlong_6 : decode cX0_goAlong 6 = .ok (.getfield 55, 3) := by decide +kernel
theorem dX0_goAlong_9 : decode cX0_goAlong 9 = .ok (.if_icmp .ge 50, 3) := by decide +kernel
theorem dX0_goAlong_12 : decode cX0_goAlong 12 = .ok (.aload_n 0, 1) := by decide +kernel
theorem dX0_goAlong_13 : decode cX0_goAlong 13 = .ok (.getfield 21, 3) := by decide +kernel
theorem dX0_goAlong_16 : decode cX0_goAlong 16 = .ok (.iload_n 3, 1) := by decide +kernel
theorem dX0_goAlong_17 : decode cX0_goAlong 17 = .ok (.iaload, 1) := by decide +kernel
theorem dX0_goAlong_18 : decode cX0_goAlong 18 = .ok (.iconst (-1), 1) := by decide +kernel
theorem dX0_goAlong_19 : decode cX0_goAlong 19 = .ok (.if_icmp .ne 40, 3) := by decide +kernel
theorem dX0_goAlong_22 : decode cX0_goAlong 22 = .ok (.aload_n 0, 1) := by decide +kernel
theorem dX0_goAlong_23 : decode cX0_goAlong 23 = .ok (.getfield 27, 3) := by decide +kernel
theorem dX0_goAlong_26 : decode cX0_goAlong 26 = .ok (.iload_n 3, 1) := by decide +kernel
theorem dX0_goAlong_27 : decode cX0_goAlong 27 = .ok (.iaload, 1) := by decide +kernel
theorem dX0_goAlong_28 : decode cX0_goAlong 28 = .ok (.iconst (-1), 1) := by decide +kernel
theorem dX0_goAlong_29 : decode cX0_goAlong 29 = .ok (.if_icmp .ne 30, 3) := by decide +kernel
theorem dX0_goAlong_32 : decode cX0_goAlong 32 = .ok (.aload_n 0, 1) := by decide +kernel
theorem dX0_goAlong_33 : decode cX0_goAlong 33 = .ok (.getfield 27, 3) := by decide +kernel
theorem dX0_goAlong_36 : decode cX0_goAlong 36 = .ok (.iload_n 3, 1) := by decide +kernel
theorem dX0_goAlong_37 : decode cX0_goAlong 37 = .ok (.iload_n 2, 1) := by decide +kernel
theorem dX0_goAlong_38 : decode cX0_goAlong 38 = .ok (.iastore, 1) := by decide +kernel
theorem dX0_goAlong_39 : decode cX0_goAlong 39 = .ok (.aload_n 0, 1) := by decide +kernel
theorem dX0_goAlong_40 : decode cX0_goAlong 40 = .ok (.getfield 24, 3) := by decide +kernel
theorem dX0_goAlong_43 : decode cX0_goAlong 43 = .ok (.iload_n 2, 1) := by decide +kernel
theorem dX0_goAlong_44 : decode cX0_goAlong 44 = .ok (.iload_n 3, 1) := by decide +kernel
theorem dX0_goAlong_45 : decode cX0_goAlong 45 = .ok (.iastore, 1) := by decide +kernel
theorem dX0_goAlong_46 : decode cX0_goAlong 46 = .ok (.iinc 2 1, 3) := by decide +kernel
theorem dX0_goAlong_49 : decode cX0_goAlong 49 = .ok (.aload_n 0, 1) := by decide +kernel
theorem dX0_goAlong_50 : decode cX0_goAlong 50 = .ok (.getfield 9, 3) := by decide +kernel
theorem dX0_goAlong_53 : decode cX0_goAlong 53 = .ok (.iload_n 3, 1) := by decide +kernel
theorem dX0_goAlong_54 : decode cX0_goAlong 54 = .ok (.iaload, 1) := by decide +kernel
theorem dX0_goAlong_55 : decode cX0_goAlong 55 = .ok (.istore_n 3, 1) := by decide +kernel
theorem dX0_goAlong_56 : decode cX0_goAlong 56 = .ok (.goto (-52), 3) := by decide +kernel
theorem dX0_goAlong_59 : decode cX0_goAlong 59 = .ok (.iload_n 2, 1) := by decide +kernel
theorem dX0_goAlong_60 : decode cX0_goAlong 60 = .ok (.istore 4, 2) := by decide +kernel
theorem dX0_goAlong_62 : decode cX0_goAlong 62 = .ok (.aload_n 0, 1) := by decide +kernel
theorem dX0_goAlong_63 : decode cX0_goAlong 63 = .ok (.getfield 21, 3) := by decide +kernel
theorem dX0_goAlong_66 : decode cX0_goAlong 66 = .ok (.iload_n 3, 1) := by decide +kernel
theorem dX0_goAlong_67 : decode cX0_goAlong 67 = .ok (.iaload, 1) := by decide +kernel
theorem dX0_goAlong_68 : decode cX0_goAlong 68 = .ok (.iconst (-1), 1) := by decide +kernel
theorem dX0_goAlong_69 : decode cX0_goAlong 69 = .ok (.if_icmp .ne 18, 3) := by decide +kernel
theorem dX0_goAlong_72 : decode cX0_goAlong 72 = .ok (.aload_n 0, 1) := by decide +kernel
theorem dX0_goAlong_73 : decode cX0_goAlong 73 = .ok (.getfield 27, 3) := by decide +kernel
theorem dX0_goAlong_76 : decode cX0_goAlong 76 = .ok (.iload_n 3, 1) := by decide +kernel
theorem dX0_goAlong_77 : decode cX0_goAlong 77 = .ok (.iaload, 1) := by decide +kernel
theorem dX0_goAlong_78 : decode cX0_goAlong 78 = .ok (.istore 4, 2) := by decide +kernel
theorem dX0_goAlong_80 : decode cX0_goAlong 80 = .ok (.aload_n 0, 1) := by decide +kernel
theorem dX0_goAlong_81 : decode cX0_goAlong 81 = .ok (.iload 4, 2) := by decide +kernel
theorem dX0_goAlong_83 : decode cX0_goAlong 83 = .ok (.iload_n 2, 1) := by decide +kernel
theorem dX0_goAlong_84 : decode cX0_goAlong 84 = .ok (.invokevirtual 89, 3) := by decide +kernel
theorem dX0_goAlong_87 : decode cX0_goAlong 87 = .ok (.iload 4, 2) := by decide +kernel
theorem dX0_goAlong_89 : decode cX0_goAlong 89 = .ok (.iconst 1, 1) := by decide +kernel
theorem dX0_goAlong_90 : decode cX0_goAlong 90 = .ok (.isub, 1) := by decide +kernel
theorem dX0_goAlong_91 : decode cX0_goAlong 91 = .ok (.istore 5, 2) := by decide +kernel
theorem dX0_goAlong_93 : decode cX0_goAlong 93 = .ok (.iload 5, 2) := by decide +kernel
theorem dX0_goAlong_95 : decode cX0_goAlong 95 = .ok (.ifCond .lt 71, 3) := by decide +kernel
theorem dX0_goAlong_98 : decode cX0_goAlong 98 = .ok (.aload_n 0, 1) := by decide +kernel
theorem dX0_goAlong_99 : decode cX0_goAlong 99 = .ok (.getfield 24, 3) := by decide +kernel
theorem dX0_goAlong_102 : decode cX0_goAlong 102 = .ok (.iload 5, 2) := by decide +kernel
theorem dX0_goAlong_104 : decode cX0_goAlong 104 = .ok (.iaload, 1) := by decide +kernel
theorem dX0_goAlong_105 : decode cX0_goAlong 105 = .ok (.istore 6, 2) := by decide +kernel
theorem dX0_goAlong_107 : decode cX0_goAlong 107 = .ok (.aload_n 0, 1) := by decide +kernel
theorem dX0_goAlong_108 : decode cX0_goAlong 108 = .ok (.getfield 9, 3) := by decide +kernel
theorem dX0_goAlong_111 : decode cX0_goAlong 111 = .ok (.iload 6, 2) := by decide +kernel
theorem dX0_goAlong_113 : decode cX0_goAlong 113 = .ok (.iaload, 1) := by decide +kernel
theorem dX0_goAlong_114 : decode cX0_goAlong 114 = .ok (.istore 7, 2) := by decide +kernel
theorem dX0_goAlong_116 : decode cX0_goAlong 116 = .ok (.aload_n 0, 1) := by decide +kernel
theorem dX0_goAlong_117 : decode cX0_goAlong 117 = .ok (.getfield 15, 3) := by decide +kernel
theorem dX0_goAlong_120 : decode cX0_goAlong 120 = .ok (.iload 6, 2) := by decide +kernel
theorem dX0_goAlong_122 : decode cX0_goAlong 122 = .ok (.aload_n 0, 1) := by decide +kernel
theorem dX0_goAlong_123 : decode cX0_goAlong 123 = .ok (.getfield 15, 3) := by decide +kernel
theorem dX0_goAlong_126 : decode cX0_goAlong 126 = .ok (.iload 7, 2) := by decide +kernel
theorem dX0_goAlong_128 : decode cX0_goAlong 128 = .ok (.iaload, 1) := by decide +kernel
theorem dX0_goAlong_129 : decode cX0_goAlong 129 = .ok (.iconst 1, 1) := by decide +kernel
theorem dX0_goAlong_130 : decode cX0_goAlong 130 = .ok (.iadd, 1) := by decide +kernel
theorem dX0_goAlong_131 : decode cX0_goAlong 131 = .ok (.iastore, 1) := by decide +kernel
theorem dX0_goAlong_132 : decode cX0_goAlong 132 = .ok (.aload_n 0, 1) := by decide +kernel
theorem dX0_goAlong_133 : decode cX0_goAlong 133 = .ok (.getfield 18, 3) := by decide +kernel
theorem dX0_goAlong_136 : decode cX0_goAlong 136 = .ok (.iload 6, 2) := by decide +kernel
theorem dX0_goAlong_138 : decode cX0_goAlong 138 = .ok (.aload_n 0, 1) := by decide +kernel
theorem dX0_goAlong_139 : decode cX0_goAlong 139 = .ok (.getfield 18, 3) := by decide +kernel
theorem dX0_goAlong_142 : decode cX0_goAlong 142 = .ok (.iload 7, 2) := by decide +kernel
theorem dX0_goAlong_144 : decode cX0_goAlong 144 = .ok (.iaload, 1) := by decide +kernel
theorem dX0_goAlong_145 : decode cX0_goAlong 145 = .ok (.iastore, 1) := by decide +kernel
theorem dX0_goAlong_146 : decode cX0_goAlong 146 = .ok (.aload_n 0, 1) := by decide +kernel
theorem dX0_goAlong_147 : decode cX0_goAlong 147 = .ok (.getfield 21, 3) := by decide +kernel
theorem dX0_goAlong_150 : decode cX0_goAlong 150 = .ok (.iload 6, 2) := by decide +kernel
theorem dX0_goAlong_152 : decode cX0_goAlong 152 = .ok (.aload_n 0, 1) := by decide +kernel
theorem dX0_goAlong_153 : decode cX0_goAlong 153 = .ok (.getfield 21, 3) := by decide +kernel
theorem dX0_goAlong_156 : decode cX0_goAlong 156 = .ok (.iload 7, 2) := by decide +kernel
theorem dX0_goAlong_158 : decode cX0_goAlong 158 = .ok (.iaload, 1) := by decide +kernel
theorem dX0_goAlong_159 : decode cX0_goAlong 159 = .ok (.iastore, 1) := by decide +kernel
theorem dX0_goAlong_160 : decode cX0_goAlong 160 = .ok (.iinc 5 (-1), 3) := by decide +kernel
theorem dX0_goAlong_163 : decode cX0_goAlong 163 = .ok (.goto (-70), 3) := by decide +kernel
theorem dX0_goAlong_166 : decode cX0_goAlong 166 = .ok (.return_, 1) := by decide +kernel
theorem dX0_closeRing_0 : decode cX0_closeRing 0 = .ok (.aload_n 0, 1) := by decide +kernel
theorem dX0_closeRing_1 : decode cX0_closeRing 1 = .ok (.getfield 24, 3) := by decide +kernel
theorem dX0_closeRing_4 : decode cX0_closeRing 4 = .ok (.iload_n 1, 1) := by decide +kernel
theorem dX0_closeRing_5 : decode cX0_closeRing 5 = .ok (.iaload, 1) := by decide +kernel
theorem dX0_closeRing_6 : decode cX0_closeRing 6 = .ok (.istore_n 3, 1) := by decide +kernel
theorem dX0_closeRing_7 : decode cX0_closeRing 7 = .ok (.iload_n 1, 1) := by decide +kernel
theorem dX0_closeRing_8 : decode cX0_closeRing 8 = .ok (.istore 4, 2) := by decide +kernel
theorem dX0_closeRing_10 : decode cX0_closeRing 10 = .ok (.iload 4, 2) := by decide +kernel
theorem dX0_closeRing_12 : decode cX0_closeRing 12 = .ok (.iload_n 2, 1) := by decide +kernel
theorem dX0_closeRing_13 : decode cX0_closeRing 13 = .ok (.if_icmp .ge 21, 3) := by decide +kernel
theorem dX0_closeRing_16 : decode cX0_closeRing 16 = .ok (.iload_n 3, 1) := by decide +kernel
theorem dX0_closeRing_17 : decode cX0_closeRing 17 = .ok (.aload_n 0, 1) := by decide +kernel
theorem dX0_closeRing_18 : decode cX0_closeRing 18 = .ok (.getfield 24, 3) := by decide +kernel
theorem dX0_closeRing_21 : decode cX0_closeRing 21 = .ok (.iload 4, 2) := by decide +kernel
theorem dX0_closeRing_23 : decode cX0_closeRing 23 = .ok (.iaload, 1) := by decide +kernel
theorem dX0_closeRing_24 : decode cX0_closeRing 24 = .ok (.invokestatic 93, 3) := by decide +kernel
theorem dX0_closeRing_27 : decode cX0_closeRing 27 = .ok (.istore_n 3, 1) := by decide +kernel
theorem dX0_closeRing_28 : decode cX0_closeRing 28 = .ok (.iinc 4 1, 3) := by decide +kernel
theorem dX0_closeRing_31 : decode cX0_closeRing 31 = .ok (.goto (-21), 3) := by decide +kernel
theorem dX0_closeRing_34 : decode cX0_closeRing 34 = .ok (.iload_n 1, 1) := by decide +kernel
theorem dX0_closeRing_35 : decode cX0_closeRing 35 = .ok (.istore 4, 2) := by decide +kernel
theorem dX0_closeRing_37 : decode cX0_closeRing 37 = .ok (.iload 4, 2) := by decide +kernel
theorem dX0_closeRing_39 : decode cX0_closeRing 39 = .ok (.iload_n 2, 1) := by decide +kernel
theorem dX0_closeRing_40 : decode cX0_closeRing 40 = .ok (.if_icmp .ge 44, 3) := by decide +kernel
theorem dX0_closeRing_43 : decode cX0_closeRing 43 = .ok (.aload_n 0, 1) := by decide +kernel
theorem dX0_closeRing_44 : decode cX0_closeRing 44 = .ok (.getfield 24, 3) := by decide +kernel
theorem dX0_closeRing_47 : decode cX0_closeRing 47 = .ok (.iload 4, 2) := by decide +kernel
theorem dX0_closeRing_49 : decode cX0_closeRing 49 = .ok (.iaload, 1) := by decide +kernel
theorem dX0_closeRing_50 : decode cX0_closeRing 50 = .ok (.istore 5, 2) := by decide +kernel
theorem dX0_closeRing_52 : decode cX0_closeRing 52 = .ok (.aload_n 0, 1) := by decide +kernel
theorem dX0_closeRing_53 : decode cX0_closeRing 53 = .ok (.getfield 15, 3) := by decide +kernel
theorem dX0_closeRing_56 : decode cX0_closeRing 56 = .ok (.iload 5, 2) := by decide +kernel
theorem dX0_closeRing_58 : decode cX0_closeRing 58 = .ok (.iconst 0, 1) := by decide +kernel
theorem dX0_closeRing_59 : decode cX0_closeRing 59 = .ok (.iastore, 1) := by decide +kernel
theorem dX0_closeRing_60 : decode cX0_closeRing 60 = .ok (.aload_n 0, 1) := by decide +kernel
theorem dX0_closeRing_61 : decode cX0_closeRing 61 = .ok (.getfield 18, 3) := by decide +kernel
theorem dX0_closeRing_64 : decode cX0_closeRing 64 = .ok (.iload 5, 2) := by decide +kernel
theorem dX0_closeRing_66 : decode cX0_closeRing 66 = .ok (.iload_n 2, 1) := by decide +kernel
theorem dX0_closeRing_67 : decode cX0_closeRing 67 = .ok (.iload_n 1, 1) := by decide +kernel
theorem dX0_closeRing_68 : decode cX0_closeRing 68 = .ok (.isub, 1) := by decide +kernel
theorem dX0_closeRing_69 : decode cX0_closeRing 69 = .ok (.iastore, 1) := by decide +kernel
theorem dX0_closeRing_70 : decode cX0_closeRing 70 = .ok (.aload_n 0, 1) := by decide +kernel
theorem dX0_closeRing_71 : decode cX0_closeRing 71 = .ok (.getfield 21, 3) := by decide +kernel
theorem dX0_closeRing_74 : decode cX0_closeRing 74 = .ok (.iload 5, 2) := by decide +kernel
theorem dX0_closeRing_76 : decode cX0_closeRing 76 = .ok (.iload_n 3, 1) := by decide +kernel
theorem dX0_closeRing_77 : decode cX0_closeRing 77 = .ok (.iastore, 1) := by decide +kernel
theorem dX0_closeRing_78 : decode cX0_closeRing 78 = .ok (.iinc 4 1, 3) := by decide +kernel
theorem dX0_closeRing_81 : decode cX0_closeRing 81 = .ok (.goto (-44), 3) := by decide +kernel
theorem dX0_closeRing_84 : decode cX0_closeRing 84 = .ok (.return_, 1) := by decide +kernel
theorem dX0_clearPicked_0 : decode cX0_clearPicked 0 = .ok (.aload_n 0, 1) := by decide +kernel
theorem dX0_clearPicked_1 : decode cX0_clearPicked 1 = .ok (.iconst 0, 1) := by decide +kernel
theorem dX0_clearPicked_2 : decode cX0_clearPicked 2 = .ok (.putfield 99, 3) := by decide +kernel
theorem dX0_clearPicked_5 : decode cX0_clearPicked 5 = .ok (.return_, 1) := by decide +kernel
theorem dX0_pick_0 : decode cX0_pick 0 = .ok (.aload_n 0, 1) := by decide +kernel
theorem dX0_pick_1 : decode cX0_pick 1 = .ok (.getfield 99, 3) := by decide +kernel
theorem dX0_pick_4 : decode cX0_pick 4 = .ok (.sipush 1024, 3) := by decide +kernel
theorem dX0_pick_7 : decode cX0_pick 7 = .ok (.if_icmp .ge 23, 3) := by decide +kernel
theorem dX0_pick_10 : decode cX0_pick 10 = .ok (.aload_n 0, 1) := by decide +kernel
theorem dX0_pick_11 : decode cX0_pick 11 = .ok (.getfield 24, 3) := by decide +kernel
theorem dX0_pick_14 : decode cX0_pick 14 = .ok (.aload_n 0, 1) := by decide +kernel
theorem dX0_pick_15 : decode cX0_pick 15 = .ok (.getfield 99, 3) := by decide +kernel
theorem dX0_pick_18 : decode cX0_pick 18 = .ok (.iload_n 1, 1) := by decide +kernel
theorem dX0_pick_19 : decode cX0_pick 19 = .ok (.iastore, 1) := by decide +kernel
theorem dX0_pick_20 : decode cX0_pick 20 = .ok (.aload_n 0, 1) := by decide +kernel
theorem dX0_pick_21 : decode cX0_pick 21 = .ok (.dup, 1) := by decide +kernel
theorem dX0_pick_22 : decode cX0_pick 22 = .ok (.getfield 99, 3) := by decide +kernel
theorem dX0_pick_25 : decode cX0_pick 25 = .ok (.iconst 1, 1) := by decide +kernel
theorem dX0_pick_26 : decode cX0_pick 26 = .ok (.iadd, 1) := by decide +kernel
theorem dX0_pick_27 : decode cX0_pick 27 = .ok (.putfield 99, 3) := by decide +kernel
theorem dX0_pick_30 : decode cX0_pick 30 = .ok (.return_, 1) := by decide +kernel
theorem dX0_pickedAt_0 : decode cX0_pickedAt 0 = .ok (.iload_n 1, 1) := by decide +kernel
theorem dX0_pickedAt_1 : decode cX0_pickedAt 1 = .ok (.iconst (-1), 1) := by decide +kernel
theorem dX0_pickedAt_2 : decode cX0_pickedAt 2 = .ok (.if_icmp .ne 8, 3) := by decide +kernel
theorem dX0_pickedAt_5 : decode cX0_pickedAt 5 = .ok (.aload_n 0, 1) := by decide +kernel
theorem dX0_pickedAt_6 : decode cX0_pickedAt 6 = .ok (.getfield 99, 3) := by decide +kernel
theorem dX0_pickedAt_9 : decode cX0_pickedAt 9 = .ok (.ireturn, 1) := by decide +kernel
theorem dX0_pickedAt_10 : decode cX0_pickedAt 10 = .ok (.iload_n 1, 1) := by decide +kernel
theorem dX0_pickedAt_11 : decode cX0_pickedAt 11 = .ok (.ifCond .lt 20, 3) := by decide +kernel
theorem dX0_pickedAt_14 : decode cX0_pickedAt 14 = .ok (.iload_n 1, 1) := by decide +kernel
theorem dX0_pickedAt_15 : decode cX0_pickedAt 15 = .ok (.aload_n 0, 1) := by decide +kernel
theorem dX0_pickedAt_16 : decode cX0_pickedAt 16 = .ok (.getfield 99, 3) := by decide +kernel
theorem dX0_pickedAt_19 : decode cX0_pickedAt 19 = .ok (.if_icmp .ge 12, 3) := by decide +kernel
theorem dX0_pickedAt_22 : decode cX0_pickedAt 22 = .ok (.aload_n 0, 1) := by decide +kernel
theorem dX0_pickedAt_23 : decode cX0_pickedAt 23 = .ok (.getfield 24, 3) := by decide +kernel
theorem dX0_pickedAt_26 : decode cX0_pickedAt 26 = .ok (.iload_n 1, 1) := by decide +kernel
theorem dX0_pickedAt_27 : decode cX0_pickedAt 27 = .ok (.iaload, 1) := by decide +kernel
theorem dX0_pickedAt_28 : decode cX0_pickedAt 28 = .ok (.goto 4, 3) := by decide +kernel
theorem dX0_pickedAt_31 : decode cX0_pickedAt 31 = .ok (.iconst (-1), 1) := by decide +kernel
theorem dX0_pickedAt_32 : decode cX0_pickedAt 32 = .ok (.ireturn, 1) := by decide +kernel
theorem dX0_fromNone_0 : decode cX0_fromNone 0 = .ok (.aload_n 0, 1) := by decide +kernel
theorem dX0_fromNone_1 : decode cX0_fromNone 1 = .ok (.getfield 24, 3) := by decide +kernel
theorem dX0_fromNone_4 : decode cX0_fromNone 4 = .ok (.iconst 0, 1) := by decide +kernel
theorem dX0_fromNone_5 : decode cX0_fromNone 5 = .ok (.invokestatic 79, 3) := by decide +kernel
theorem dX0_fromNone_8 : decode cX0_fromNone 8 = .ok (.iconst 0, 1) := by decide +kernel
theorem dX0_fromNone_9 : decode cX0_fromNone 9 = .ok (.istore_n 1, 1) := by decide +kernel
theorem dX0_fromNone_10 : decode cX0_fromNone 10 = .ok (.iload_n 1, 1) := by decide +kernel
theorem dX0_fromNone_11 : decode cX0_fromNone 11 = .ok (.aload_n 0, 1) := by decide +kernel
theorem dX0_fromNone_12 : decode cX0_fromNone 12 = .ok (.getfield 55, 3) := by decide +kernel
theorem dX0_fromNone_15 : decode cX0_fromNone 15 = .ok (.if_icmp .ge 21, 3) := by decide +kernel
theorem dX0_fromNone_18 : decode cX0_fromNone 18 = .ok (.aload_n 0, 1) := by decide +kernel
theorem dX0_fromNone_19 : decode cX0_fromNone 19 = .ok (.getfield 24, 3) := by decide +kernel
theorem dX0_fromNone_22 : decode cX0_fromNone 22 = .ok (.aload_n 0, 1) := by decide +kernel
theorem dX0_fromNone_23 : decode cX0_fromNone 23 = .ok (.getfield 9, 3) := by decide +kernel
theorem dX0_fromNone_26 : decode cX0_fromNone 26 = .ok (.iload_n 1, 1) := by decide +kernel
theorem dX0_fromNone_27 : decode cX0_fromNone 27 = .ok (.iaload, 1) := by decide +kernel
theorem dX0_fromNone_28 : decode cX0_fromNone 28 = .ok (.iconst 1, 1) := by decide +kernel
theorem dX0_fromNone_29 : decode cX0_fromNone 29 = .ok (.iastore, 1) := by decide +kernel
theorem dX0_fromNone_30 : decode cX0_fromNone 30 = .ok (.iinc 1 1, 3) := by decide +kernel
theorem dX0_fromNone_33 : decode cX0_fromNone 33 = .ok (.goto (-23), 3) := by decide +kernel
theorem dX0_fromNone_36 : decode cX0_fromNone 36 = .ok (.iconst 0, 1) := by decide +kernel
theorem dX0_fromNone_37 : decode cX0_fromNone 37 = .ok (.istore_n 1, 1) := by decide +kernel
theorem dX0_fromNone_38 : decode cX0_fromNone 38 = .ok (.iconst 0, 1) := by decide +kernel
theorem dX0_fromNone_39 : decode cX0_fromNone 39 = .ok (.istore_n 2, 1) := by decide +kernel
theorem dX0_fromNone_40 : decode cX0_fromNone 40 = .ok (.iload_n 2, 1) := by decide +kernel
theorem dX0_fromNone_41 : decode cX0_fromNone 41 = .ok (.aload_n 0, 1) := by decide +kernel
theorem dX0_fromNone_42 : decode cX0_fromNone 42 = .ok (.getfield 55, 3) := by decide +kernel
theorem dX0_fromNone_45 : decode cX0_fromNone 45 = .ok (.if_icmp .ge 20, 3) := by decide +kernel
theorem dX0_fromNone_48 : decode cX0_fromNone 48 = .ok (.iload_n 1, 1) := by decide +kernel
theorem dX0_fromNone_49 : decode cX0_fromNone 49 = .ok (.iconst 1, 1) := by decide +kernel
theorem dX0_fromNone_50 : decode cX0_fromNone 50 = .ok (.aload_n 0, 1) := by decide +kernel
theorem dX0_fromNone_51 : decode cX0_fromNone 51 = .ok (.getfield 24, 3) := by decide +kernel
theorem dX0_fromNone_54 : decode cX0_fromNone 54 = .ok (.iload_n 2, 1) := by decide +kernel
theorem dX0_fromNone_55 : decode cX0_fromNone 55 = .ok (.iaload, 1) := by decide +kernel
theorem dX0_fromNone_56 : decode cX0_fromNone 56 = .ok (.isub, 1) := by decide +kernel
theorem dX0_fromNone_57 : decode cX0_fromNone 57 = .ok (.iadd, 1) := by decide +kernel
theorem dX0_fromNone_58 : decode cX0_fromNone 58 = .ok (.istore_n 1, 1) := by decide +kernel
theorem dX0_fromNone_59 : decode cX0_fromNone 59 = .ok (.iinc 2 1, 3) := by decide +kernel
theorem dX0_fromNone_62 : decode cX0_fromNone 62 = .ok (.goto (-22), 3) := by decide +kernel
theorem dX0_fromNone_65 : decode cX0_fromNone 65 = .ok (.iload_n 1, 1) := by decide +kernel
theorem dX0_fromNone_66 : decode cX0_fromNone 66 = .ok (.ireturn, 1) := by decide +kernel
theorem dX0_otherwiseBehind_0 : decode cX0_otherwiseBehind 0 = .ok (.iconst 0, 1) := by decide +kernel
theorem dX0_otherwiseBehind_1 : decode cX0_otherwiseBehind 1 = .ok (.istore_n 3, 1) := by decide +kernel
theorem dX0_otherwiseBehind_2 : decode cX0_otherwiseBehind 2 = .ok (.iload_n 3, 1) := by decide +kernel
theorem dX0_otherwiseBehind_3 : decode cX0_otherwiseBehind 3 = .ok (.aload_n 0, 1) := by decide +kernel
theorem dX0_otherwiseBehind_4 : decode cX0_otherwiseBehind 4 = .ok (.getfield 55, 3) := by decide +kernel
theorem dX0_otherwiseBehind_7 : decode cX0_otherwiseBehind 7 = .ok (.if_icmp .ge 16, 3) := by decide +kernel
theorem dX0_otherwiseBehind_10 : decode cX0_otherwiseBehind 10 = .ok (.aload_n 0, 1) := by decide +kernel
theorem dX0_otherwiseBehind_11 : decode cX0_otherwiseBehind 11 = .ok (.getfield 24, 3) := by decide +kernel
theorem dX0_otherwiseBehind_14 : decode cX0_otherwiseBehind 14 = .ok (.iload_n 3, 1) := by decide +kernel
theorem dX0_otherwiseBehind_15 : decode cX0_otherwiseBehind 15 = .ok (.iload_n 3, 1) := by decide +kernel
theorem dX0_otherwiseBehind_16 : decode cX0_otherwiseBehind 16 = .ok (.iastore, 1) := by decide +kernel
theorem dX0_otherwiseBehind_17 : decode cX0_otherwiseBehind 17 = .ok (.iinc 3 1, 3) := by decide +kernel
theorem dX0_otherwiseBehind_20 : decode cX0_otherwiseBehind 20 = .ok (.goto (-18), 3) := by decide +kernel
theorem dX0_otherwiseBehind_23 : decode cX0_otherwiseBehind 23 = .ok (.iconst 0, 1) := by decide +kernel
theorem dX0_otherwiseBehind_24 : decode cX0_otherwiseBehind 24 = .ok (.istore_n 3, 1) := by decide +kernel
theorem dX0_otherwiseBehind_25 : decode cX0_otherwiseBehind 25 = .ok (.iload_n 3, 1) := by decide +kernel
theorem dX0_otherwiseBehind_26 : decode cX0_otherwiseBehind 26 = .ok (.iload_n 2, 1) := by decide +kernel
theorem dX0_otherwiseBehind_27 : decode cX0_otherwiseBehind 27 = .ok (.if_icmp .ge 46, 3) := by decide +kernel
theorem dX0_otherwiseBehind_30 : decode cX0_otherwiseBehind 30 = .ok (.iconst 0, 1) := by decide +kernel
theorem dX0_otherwiseBehind_31 : decode cX0_otherwiseBehind 31 = .ok (.istore 4, 2) := by decide +kernel
theorem dX0_otherwiseBehind_33 : decode cX0_otherwiseBehind 33 = .ok (.iload 4, 2) := by decide +kernel
theorem dX0_otherwiseBehind_35 : decode cX0_otherwiseBehind 35 = .ok (.aload_n 0, 1) := by decide +kernel
theorem dX0_otherwiseBehind_36 : decode cX0_otherwiseBehind 36 = .ok (.getfield 55, 3) := by decide +kernel
theorem dX0_otherwiseBehind_39 : decode cX0_otherwiseBehind 39 = .ok (.if_icmp .ge 28, 3) := by decide +kernel
theorem dX0_otherwiseBehind_42 : decode cX0_otherwiseBehind 42 = .ok (.aload_n 0, 1) := by decide +kernel
theorem dX0_otherwiseBehind_43 : decode cX0_otherwiseBehind 43 = .ok (.getfield 24, 3) := by decide +kernel
theorem dX0_otherwiseBehind_46 : decode cX0_otherwiseBehind 46 = .ok (.iload 4, 2) := by decide +kernel
theorem dX0_otherwiseBehind_48 : decode cX0_otherwiseBehind 48 = .ok (.aload_n 0, 1) := by decide +kernel
theorem dX0_otherwiseBehind_49 : decode cX0_otherwiseBehind 49 = .ok (.getfield 9, 3) := by decide +kernel
theorem dX0_otherwiseBehind_52 : decode cX0_otherwiseBehind 52 = .ok (.aload_n 0, 1) := by decide +kernel
theorem dX0_otherwiseBehind_53 : decode cX0_otherwiseBehind 53 = .ok (.getfield 24, 3) := by decide +kernel
theorem dX0_otherwiseBehind_56 : decode cX0_otherwiseBehind 56 = .ok (.iload 4, 2) := by decide +kernel
theorem dX0_otherwiseBehind_58 : decode cX0_otherwiseBehind 58 = .ok (.iaload, 1) := by decide +kernel
theorem dX0_otherwiseBehind_59 : decode cX0_otherwiseBehind 59 = .ok (.iaload, 1) := by decide +kernel
theorem dX0_otherwiseBehind_60 : decode cX0_otherwiseBehind 60 = .ok (.iastore, 1) := by decide +kernel
theorem dX0_otherwiseBehind_61 : decode cX0_otherwiseBehind 61 = .ok (.iinc 4 1, 3) := by decide +kernel
theorem dX0_otherwiseBehind_64 : decode cX0_otherwiseBehind 64 = .ok (.goto (-31), 3) := by decide +kernel
theorem dX0_otherwiseBehind_67 : decode cX0_otherwiseBehind 67 = .ok (.iinc 3 1, 3) := by decide +kernel
theorem dX0_otherwiseBehind_70 : decode cX0_otherwiseBehind 70 = .ok (.goto (-45), 3) := by decide +kernel
theorem dX0_otherwiseBehind_73 : decode cX0_otherwiseBehind 73 = .ok (.iconst 0, 1) := by decide +kernel
theorem dX0_otherwiseBehind_74 : decode cX0_otherwiseBehind 74 = .ok (.istore_n 3, 1) := by decide +kernel
theorem dX0_otherwiseBehind_75 : decode cX0_otherwiseBehind 75 = .ok (.iconst 0, 1) := by decide +kernel
theorem dX0_otherwiseBehind_76 : decode cX0_otherwiseBehind 76 = .ok (.istore 4, 2) := by decide +kernel
theorem dX0_otherwiseBehind_78 : decode cX0_otherwiseBehind 78 = .ok (.iload 4, 2) := by decide +kernel
theorem dX0_otherwiseBehind_80 : decode cX0_otherwiseBehind 80 = .ok (.aload_n 0, 1) := by decide +kernel
theorem dX0_otherwiseBehind_81 : decode cX0_otherwiseBehind 81 = .ok (.getfield 55, 3) := by decide +kernel
theorem dX0_otherwiseBehind_84 : decode cX0_otherwiseBehind 84 = .ok (.if_icmp .ge 44, 3) := by decide +kernel
theorem dX0_otherwiseBehind_87 : decode cX0_otherwiseBehind 87 = .ok (.iload 4, 2) := by decide +kernel
theorem dX0_otherwiseBehind_89 : decode cX0_otherwiseBehind 89 = .ok (.iload_n 1, 1) := by decide +kernel
theorem dX0_otherwiseBehind_90 : decode cX0_otherwiseBehind 90 = .ok (.ixor, 1) := by decide +kernel
theorem dX0_otherwiseBehind_91 : decode cX0_otherwiseBehind 91 = .ok (.istore 5, 2) := by decide +kernel
theorem dX0_otherwiseBehind_93 : decode cX0_otherwiseBehind 93 = .ok (.iload 5, 2) := by decide +kernel
theorem dX0_otherwiseBehind_95 : decode cX0_otherwiseBehind 95 = .ok (.aload_n 0, 1) := by decide +kernel
theorem dX0_otherwiseBehind_96 : decode cX0_otherwiseBehind 96 = .ok (.getfield 55, 3) := by decide +kernel
theorem dX0_otherwiseBehind_99 : decode cX0_otherwiseBehind 99 = .ok (.if_icmp .ge 23, 3) := by decide +kernel
theorem dX0_otherwiseBehind_102 : decode cX0_otherwiseBehind 102 = .ok (.aload_n 0, 1) := by decide +kernel
theorem dX0_otherwiseBehind_103 : decode cX0_otherwiseBehind 103 = .ok (.getfield 24, 3) := by decide +kernel
theorem dX0_otherwiseBehind_106 : decode cX0_otherwiseBehind 106 = .ok (.iload 4, 2) := by decide +kernel
theorem dX0_otherwiseBehind_108 : decode cX0_otherwiseBehind 108 = .ok (.iaload, 1) := by decide +kernel
theorem dX0_otherwiseBehind_109 : decode cX0_otherwiseBehind 109 = .ok (.aload_n 0, 1) := by decide +kernel
theorem dX0_otherwiseBehind_110 : decode cX0_otherwiseBehind 110 = .ok (.getfield 24, 3) := by decide +kernel
theorem dX0_otherwiseBehind_113 : decode cX0_otherwiseBehind 113 = .ok (.iload 5, 2) := by decide +kernel
theorem dX0_otherwiseBehind_115 : decode cX0_otherwiseBehind 115 = .ok (.iaload, 1) := by decide +kernel
theorem dX0_otherwiseBehind_116 : decode cX0_otherwiseBehind 116 = .ok (.if_icmp .eq 6, 3) := by decide +kernel
theorem dX0_otherwiseBehind_119 : decode cX0_otherwiseBehind 119 = .ok (.iinc 3 1, 3) := by decide +kernel
theorem dX0_otherwiseBehind_122 : decode cX0_otherwiseBehind 122 = .ok (.iinc 4 1, 3) := by decide +kernel
theorem dX0_otherwiseBehind_125 : decode cX0_otherwiseBehind 125 = .ok (.goto (-47), 3) := by decide +kernel
theorem dX0_otherwiseBehind_128 : decode cX0_otherwiseBehind 128 = .ok (.iload_n 3, 1) := by decide +kernel
theorem dX0_otherwiseBehind_129 : decode cX0_otherwiseBehind 129 = .ok (.ireturn, 1) := by decide +kernel
theorem dX1_init_0 : decode cX1_init 0 = .ok (.aload_n 0, 1) := by decide +kernel
theorem dX1_init_1 : decode cX1_init 1 = .ok (.invokespecial 3, 3) := by decide +kernel
theorem dX1_init_4 : decode cX1_init 4 = .ok (.aload_n 0, 1) := by decide +kernel
theorem dX1_init_5 : decode cX1_init 5 = .ok (.sipush 1024, 3) := by decide +kernel
theorem dX1_init_8 : decode cX1_init 8 = .ok (.newarray .int, 2) := by decide +kernel
theorem dX1_init_10 : decode cX1_init 10 = .ok (.putfield 9, 3) := by decide +kernel
theorem dX1_init_13 : decode cX1_init 13 = .ok (.aload_n 0, 1) := by decide +kernel
theorem dX1_init_14 : decode cX1_init 14 = .ok (.sipush 1024, 3) := by decide +kernel
theorem dX1_init_17 : decode cX1_init 17 = .ok (.newarray .int, 2) := by decide +kernel
theorem dX1_init_19 : decode cX1_init 19 = .ok (.putfield 15, 3) := by decide +kernel
theorem dX1_init_22 : decode cX1_init 22 = .ok (.aload_n 0, 1) := by decide +kernel
theorem dX1_init_23 : decode cX1_init 23 = .ok (.sipush 1024, 3) := by decide +kernel
theorem dX1_init_26 : decode cX1_init 26 = .ok (.newarray .int, 2) := by decide +kernel
theorem dX1_init_28 : decode cX1_init 28 = .ok (.putfield 18, 3) := by decide +kernel
theorem dX1_init_31 : decode cX1_init 31 = .ok (.aload_n 0, 1) := by decide +kernel
theorem dX1_init_32 : decode cX1_init 32 = .ok (.bipush 30, 2) := by decide +kernel
theorem dX1_init_34 : decode cX1_init 34 = .ok (.newarray .int, 2) := by decide +kernel
theorem dX1_init_36 : decode cX1_init 36 = .ok (.putfield 21, 3) := by decide +kernel
theorem dX1_init_39 : decode cX1_init 39 = .ok (.return_, 1) := by decide +kernel
theorem dX1_takeFilm_0 : decode cX1_takeFilm 0 = .ok (.aload_n 0, 1) := by decide +kernel
theorem dX1_takeFilm_1 : decode cX1_takeFilm 1 = .ok (.iconst 0, 1) := by decide +kernel
theorem dX1_takeFilm_2 : decode cX1_takeFilm 2 = .ok (.putfield 24, 3) := by decide +kernel
theorem dX1_takeFilm_5 : decode cX1_takeFilm 5 = .ok (.iconst 0, 1) := by decide +kernel
theorem dX1_takeFilm_6 : decode cX1_takeFilm 6 = .ok (.istore_n 3, 1) := by decide +kernel
theorem dX1_takeFilm_7 : decode cX1_takeFilm 7 = .ok (.iload_n 3, 1) := by decide +kernel
theorem dX1_takeFilm_8 : decode cX1_takeFilm 8 = .ok (.aload_n 1, 1) := by decide +kernel
theorem dX1_takeFilm_9 : decode cX1_takeFilm 9 = .ok (.getfield 28, 3) := by decide +kernel
theorem dX1_takeFilm_12 : decode cX1_takeFilm 12 = .ok (.if_icmp .ge 61, 3) := by decide +kernel
theorem dX1_takeFilm_15 : decode cX1_takeFilm 15 = .ok (.iload_n 3, 1) := by decide +kernel
theorem dX1_takeFilm_16 : decode cX1_takeFilm 16 = .ok (.bipush 30, 2) := by decide +kernel
theorem dX1_takeFilm_18 : decode cX1_takeFilm 18 = .ok (.if_icmp .ge 55, 3) := by decide +kernel
theorem dX1_takeFilm_21 : decode cX1_takeFilm 21 = .ok (.aload_n 1, 1) := by decide +kernel
theorem dX1_takeFilm_22 : decode cX1_takeFilm 22 = .ok (.getfield 33, 3) := by decide +kernel
theorem dX1_takeFilm_25 : decode cX1_takeFilm 25 = .ok (.iload_n 3, 1) := by decide +kernel
theorem dX1_takeFilm_26 : decode cX1_takeFilm 26 = .ok (.laload, 1) := by decide +kernel
theorem dX1_takeFilm_27 : decode cX1_takeFilm 27 = .ok (.iload_n 2, 1) := by decide +kernel
theorem dX1_takeFilm_28 : decode cX1_takeFilm 28 = .ok (.i2l, 1) := by decide +kernel
theorem dX1_takeFilm_29 : decode cX1_takeFilm 29 = .ok (.ldc2_w 37, 3) := by decide +kernel
theorem dX1_takeFilm_32 : decode cX1_takeFilm 32 = .ok (.lxor, 1) := by decide +kernel
theorem dX1_takeFilm_33 : decode cX1_takeFilm 33 = .ok (.land, 1) := by decide +kernel
theorem dX1_takeFilm_34 : decode cX1_takeFilm 34 = .ok (.lconst 0, 1) := by decide +kernel
theorem dX1_takeFilm_35 : decode cX1_takeFilm 35 = .ok (.lcmp, 1) := by decide +kernel
theorem dX1_takeFilm_36 : decode cX1_takeFilm 36 = .ok (.ifCond .eq 5, 3) := by decide +kernel
theorem dX1_takeFilm_39 : decode cX1_takeFilm 39 = .ok (.iconst 0, 1) := by decide +kernel
theorem dX1_takeFilm_40 : decode cX1_takeFilm 40 = .ok (.ireturn, 1) := by decide +kernel
theorem dX1_takeFilm_41 : decode cX1_takeFilm 41 = .ok (.aload_n 0, 1) := by decide +kernel
theorem dX1_takeFilm_42 : decode cX1_takeFilm 42 = .ok (.getfield 21, 3) := by decide +kernel
theorem dX1_takeFilm_45 : decode cX1_takeFilm 45 = .ok (.aload_n 0, 1) := by decide +kernel
theorem dX1_takeFilm_46 : decode cX1_takeFilm 46 = .ok (.getfield 24, 3) := by decide +kernel
theorem dX1_takeFilm_49 : decode cX1_takeFilm 49 = .ok (.aload_n 1, 1) := by decide +kernel
theorem dX1_takeFilm_50 : decode cX1_takeFilm 50 = .ok (.getfield 33, 3) := by decide +kernel
theorem dX1_takeFilm_53 : decode cX1_takeFilm 53 = .ok (.iload_n 3, 1) := by decide +kernel
theorem dX1_takeFilm_54 : decode cX1_takeFilm 54 = .ok (.laload, 1) := by decide +kernel
theorem dX1_takeFilm_55 : decode cX1_takeFilm 55 = .ok (.l2i, 1) := by decide +kernel
theorem dX1_takeFilm_56 : decode cX1_takeFilm 56 = .ok (.iastore, 1) := by decide +kernel
theorem dX1_takeFilm_57 : decode cX1_takeFilm 57 = .ok (.aload_n 0, 1) := by decide +kernel
theorem dX1_takeFilm_58 : decode cX1_takeFilm 58 = .ok (.dup, 1) := by decide +kernel
theorem dX1_takeFilm_59 : decode cX1_takeFilm 59 = .ok (.getfield 24, 3) := by decide +kernel
theorem dX1_takeFilm_62 : decode cX1_takeFilm 62 = .ok (.iconst 1, 1) := by decide +kernel
theorem dX1_takeFilm_63 : decode cX1_takeFilm 63 = .ok (.iadd, 1) := by decide +kernel
theorem dX1_takeFilm_64 : decode cX1_takeFilm 64 = .ok (.putfield 24, 3) := by decide +kernel
theorem dX1_takeFilm_67 : decode cX1_takeFilm 67 = .ok (.iinc 3 1, 3) := by decide +kernel
theorem dX1_takeFilm_70 : decode cX1_takeFilm 70 = .ok (.goto (-63), 3) := by decide +kernel
theorem dX1_takeFilm_73 : decode cX1_takeFilm 73 = .ok (.iconst 1, 1) := by decide +kernel
theorem dX1_takeFilm_74 : decode cX1_takeFilm 74 = .ok (.ireturn, 1) := by decide +kernel
theorem dX1_gather_0 : decode cX1_gather 0 = .ok (.aload_n 0, 1) := by decide +kernel
theorem dX1_gather_1 : decode cX1_gather 1 = .ok (.iconst 0, 1) := by decide +kernel
theorem dX1_gather_2 : decode cX1_gather 2 = .ok (.putfield 39, 3) := by decide +kernel
theorem dX1_gather_5 : decode cX1_gather 5 = .ok (.aload_n 0, 1) := by decide +kernel
theorem dX1_gather_6 : decode cX1_gather 6 = .ok (.iconst 0, 1) := by decide +kernel
theorem dX1_gather_7 : decode cX1_gather 7 = .ok (.putfield 42, 3) := by decide +kernel
theorem dX1_gather_10 : decode cX1_gather 10 = .ok (.iconst 1, 1) := by decide +kernel
theorem dX1_gather_11 : decode cX1_gather 11 = .ok (.istore_n 3, 1) := by decide +kernel
theorem dX1_gather_12 : decode cX1_gather 12 = .ok (.iload_n 3, 1) := by decide +kernel
theorem dX1_gather_13 : decode cX1_gather 13 = .ok (.iload_n 1, 1) := by decide +kernel
theorem dX1_gather_14 : decode cX1_gather 14 = .ok (.if_icmp .gt 30, 3) := by decide +kernel
theorem dX1_gather_17 : decode cX1_gather 17 = .ok (.iload_n 3, 1) := by decide +kernel
theorem dX1_gather_18 : decode cX1_gather 18 = .ok (.sipush 1024, 3) := by decide +kernel
theorem dX1_gather_21 : decode cX1_gather 21 = .ok (.if_icmp .ge 23, 3) := by decide +kernel
theorem dX1_gather_24 : decode cX1_gather 24 = .ok (.iload_n 3, 1) := by decide +kernel
theorem dX1_gather_25 : decode cX1_gather 25 = .ok (.iload_n 2, 1) := by decide +kernel
theorem dX1_gather_26 : decode cX1_gather 26 = .ok (.invokestatic 45, 3) := by decide +kernel
theorem dX1_gather_29 : decode cX1_gather 29 = .ok (.ifCond .ne 9, 3) := by decide +kernel
theorem dX1_gather_32 : decode cX1_gather 32 = .ok (.aload_n 0, 1) := by decide +kernel
theorem dX1_gather_33 : decode cX1_gather 33 = .ok (.iload_n 3, 1) := by decide +kernel
theorem dX1_gather_34 : decode cX1_gather 34 = .ok (.iload_n 2, 1) := by decide +kernel
theorem dX1_gather_35 : decode cX1_gather 35 = .ok (.invokevirtual 49, 3) := by decide +kernel
theorem dX1_gather_38 : decode cX1_gather 38 = .ok (.iinc 3 1, 3) := by decide +kernel
theorem dX1_gather_41 : decode cX1_gather 41 = .ok (.goto (-29), 3) := by decide +kernel
theorem dX1_gather_44 : decode cX1_gather 44 = .ok (.return_, 1) := by decide +kernel
theorem dX1_addSet_0 : decode cX1_addSet 0 = .ok (.iconst 1, 1) := by decide +kernel
theorem dX1_addSet_1 : decode cX1_addSet 1 = .ok (.istore_n 3, 1) := by decide +kernel
theorem dX1_addSet_2 : decode cX1_addSet 2 = .ok (.iload_n 1, 1) := by decide +kernel
theorem dX1_addSet_3 : decode cX1_addSet 3 = .ok (.invokestatic 53, 3) := by decide +kernel
theorem dX1_addSet_6 : decode cX1_addSet 6 = .ok (.istore 4, 2) := by decide +kernel
theorem dX1_addSet_8 : decode cX1_addSet 8 = .ok (.iconst 0, 1) := by decide +kernel
theorem dX1_addSet_9 : decode cX1_addSet 9 = .ok (.istore 5, 2) := by decide +kernel
theorem dX1_addSet_11 : decode cX1_addSet 11 = .ok (.iload 5, 2) := by decide +kernel
theorem dX1_addSet_13 : decode cX1_addSet 13 = .ok (.iconst 1, 1) := by decide +kernel
theorem dX1_addSet_14 : decode cX1_addSet 14 = .ok (.iadd, 1) := by decide +kernel
theorem dX1_addSet_15 : decode cX1_addSet 15 = .ok (.aload_n 0, 1) := by decide +kernel
theorem dX1_addSet_16 : decode cX1_addSet 16 = .ok (.getfield 24, 3) := by decide +kernel
theorem dX1_addSet_19 : decode cX1_addSet 19 = .ok (.if_icmp .ge 67, 3) := by decide +kernel
theorem dX1_addSet_22 : decode cX1_addSet 22 = .ok (.iload_n 3, 1) := by decide +kernel
theorem dX1_addSet_23 : decode cX1_addSet 23 = .ok (.iload 4, 2) := by decide +kernel
theorem dX1_addSet_25 : decode cX1_addSet 25 = .ok (.if_icmp .gt 61, 3) := by decide +kernel
theorem dX1_addSet_28 : decode cX1_addSet 28 = .ok (.aload_n 0, 1) := by decide +kernel
theorem dX1_addSet_29 : decode cX1_addSet 29 = .ok (.getfield 21, 3) := by decide +kernel
theorem dX1_addSet_32 : decode cX1_addSet 32 = .ok (.iload 5, 2) := by decide +kernel
theorem dX1_addSet_34 : decode cX1_addSet 34 = .ok (.iaload, 1) := by decide +kernel
theorem dX1_addSet_35 : decode cX1_addSet 35 = .ok (.iload_n 1, 1) := by decide +kernel
theorem dX1_addSet_36 : decode cX1_addSet 36 = .ok (.iand, 1) := by decide +kernel
theorem dX1_addSet_37 : decode cX1_addSet 37 = .ok (.invokestatic 53, 3) := by decide +kernel
theorem dX1_addSet_40 : decode cX1_addSet 40 = .ok (.istore 6, 2) := by decide +kernel
theorem dX1_addSet_42 : decode cX1_addSet 42 = .ok (.aload_n 0, 1) := by decide +kernel
theorem dX1_addSet_43 : decode cX1_addSet 43 = .ok (.getfield 21, 3) := by decide +kernel
theorem dX1_addSet_46 : decode cX1_addSet 46 = .ok (.iload 5, 2) := by decide +kernel
theorem dX1_addSet_48 : decode cX1_addSet 48 = .ok (.iconst 1, 1) := by decide +kernel
theorem dX1_addSet_49 : decode cX1_addSet 49 = .ok (.iadd, 1) := by decide +kernel
theorem dX1_addSet_50 : decode cX1_addSet 50 = .ok (.iaload, 1) := by decide +kernel
theorem dX1_addSet_51 : decode cX1_addSet 51 = .ok (.iload_n 2, 1) := by decide +kernel
theorem dX1_addSet_52 : decode cX1_addSet 52 = .ok (.invokestatic 45, 3) := by decide +kernel
theorem dX1_addSet_55 : decode cX1_addSet 55 = .ok (.iconst 1, 1) := by decide +kernel
theorem dX1_addSet_56 : decode cX1_addSet 56 = .ok (.if_icmp .ne 15, 3) := by decide +kernel
theorem dX1_addSet_59 : decode cX1_addSet 59 = .ok (.iload 4, 2) := by decide +kernel
theorem dX1_addSet_61 : decode cX1_addSet 61 = .ok (.iload 6, 2) := by decide +kernel
theorem dX1_addSet_63 : decode cX1_addSet 63 = .ok (.invokestatic 59, 3) := by decide +kernel
theorem dX1_addSet_66 : decode cX1_addSet 66 = .ok (.istore 4, 2) := by decide +kernel
theorem dX1_addSet_68 : decode cX1_addSet 68 = .ok (.goto 12, 3) := by decide +kernel
theorem dX1_addSet_71 : decode cX1_addSet 71 = .ok (.iload_n 3, 1) := by decide +kernel
theorem dX1_addSet_72 : decode cX1_addSet 72 = .ok (.iload 6, 2) := by decide +kernel
theorem dX1_addSet_74 : decode cX1_addSet 74 = .ok (.iconst 1, 1) := by decide +kernel
theorem dX1_addSet_75 : decode cX1_addSet 75 = .ok (.iadd, 1) := by decide +kernel
theorem dX1_addSet_76 : decode cX1_addSet 76 = .ok (.invokestatic 64, 3) := by decide +kernel
theorem dX1_addSet_79 : decode cX1_addSet 79 = .ok (.istore_n 3, 1) := by decide +kernel
theorem dX1_addSet_80 : decode cX1_addSet 80 = .ok (.iinc 5 1, 3) := by decide +kernel
theorem dX1_addSet_83 : decode cX1_addSet 83 = .ok (.goto (-72), 3) := by decide +kernel
theorem dX1_addSet_86 : decode cX1_addSet 86 = .ok (.iload_n 3, 1) := by decide +kernel
theorem dX1_addSet_87 : decode cX1_addSet 87 = .ok (.iload 4, 2) := by decide +kernel
theorem dX1_addSet_89 : decode cX1_addSet 89 = .ok (.if_icmp .gt 59, 3) := by decide +kernel
theorem dX1_addSet_92 : decode cX1_addSet 92 = .ok (.aload_n 0, 1) := by decide +kernel
theorem dX1_addSet_93 : decode cX1_addSet 93 = .ok (.getfield 9, 3) := by decide +kernel
theorem dX1_addSet_96 : decode cX1_addSet 96 = .ok (.aload_n 0, 1) := by decide +kernel
theorem dX1_addSet_97 : decode cX1_addSet 97 = .ok (.getfield 39, 3) := by decide +kernel
theorem dX1_addSet_100 : decode cX1_addSet 100 = .ok (.iload_n 1, 1) := by decide +kernel
theorem dX1_addSet_101 : decode cX1_addSet 101 = .ok (.iastore, 1) := by decide +kernel
theorem dX1_addSet_102 : decode cX1_addSet 102 = .ok (.aload_n 0, 1) := by decide +kernel
theorem dX1_addSet_103 : decode cX1_addSet 103 = .ok (.getfield 15, 3) := by decide +kernel
theorem dX1_addSet_106 : decode cX1_addSet 106 = .ok (.aload_n 0, 1) := by decide +kernel
theorem dX1_addSet_107 : decode cX1_addSet 107 = .ok (.getfield 39, 3) := by decide +kernel
theorem dX1_addSet_110 : decode cX1_addSet 110 = .ok (.iload_n 3, 1) := by decide +kernel
theorem dX1_addSet_111 : decode cX1_addSet 111 = .ok (.iastore, 1) := by decide +kernel
theorem dX1_addSet_112 : decode cX1_addSet 112 = .ok (.aload_n 0, 1) := by decide +kernel
theorem dX1_addSet_113 : decode cX1_addSet 113 = .ok (.getfield 18, 3) := by decide +kernel
theorem dX1_addSet_116 : decode cX1_addSet 116 = .ok (.aload_n 0, 1) := by decide +kernel
theorem dX1_addSet_117 : decode cX1_addSet 117 = .ok (.getfield 39, 3) := by decide +kernel
theorem dX1_addSet_120 : decode cX1_addSet 120 = .ok (.iload 4, 2) := by decide +kernel
theorem dX1_addSet_122 : decode cX1_addSet 122 = .ok (.iastore, 1) := by decide +kernel
theorem dX1_addSet_123 : decode cX1_addSet 123 = .ok (.aload_n 0, 1) := by decide +kernel
theorem dX1_addSet_124 : decode cX1_addSet 124 = .ok (.dup, 1) := by decide +kernel
theorem dX1_addSet_125 : decode cX1_addSet 125 = .ok (.getfield 39, 3) := by decide +kernel
theorem dX1_addSet_128 : decode cX1_addSet 128 = .ok (.iconst 1, 1) := by decide +kernel
theorem dX1_addSet_129 : decode cX1_addSet 129 = .ok (.iadd, 1) := by decide +kernel
theorem dX1_addSet_130 : decode cX1_addSet 130 = .ok (.putfield 39, 3) := by decide +kernel
theorem dX1_addSet_133 : decode cX1_addSet 133 = .ok (.aload_n 0, 1) := by decide +kernel
theorem dX1_addSet_134 : decode cX1_addSet 134 = .ok (.dup, 1) := by decide +kernel
theorem dX1_addSet_135 : decode cX1_addSet 135 = .ok (.getfield 42, 3) := by decide +kernel
theorem dX1_addSet_138 : decode cX1_addSet 138 = .ok (.iload 4, 2) := by decide +kernel
theorem dX1_addSet_140 : decode cX1_addSet 140 = .ok (.iload_n 3, 1) := by decide +kernel
theorem dX1_addSet_141 : decode cX1_addSet 141 = .ok (.isub, 1) := by decide +kernel
theorem dX1_addSet_142 : decode cX1_addSet 142 = .ok (.iconst 1, 1) := by decide +kernel
theorem dX1_addSet_143 : decode cX1_addSet 143 = .ok (.iadd, 1) := by decide +kernel
theorem dX1_addSet_144 : decode cX1_addSet 144 = .ok (.iadd, 1) := by decide +kernel
theorem dX1_addSet_145 : decode cX1_addSet 145 = .ok (.putfield 42, 3) := by decide +kernel
theorem dX1_addSet_148 : decode cX1_addSet 148 = .ok (.return_, 1) := by decide +kernel
theorem dX1_smallest_0 : decode cX1_smallest 0 = .ok (.iconst (-1), 1) := by decide +kernel
theorem dX1_smallest_1 : decode cX1_smallest 1 = .ok (.istore_n 1, 1) := by decide +kernel
theorem dX1_smallest_2 : decode cX1_smallest 2 = .ok (.iconst 0, 1) := by decide +kernel
theorem dX1_smallest_3 : decode cX1_smallest 3 = .ok (.istore_n 2, 1) := by decide +kernel
theorem dX1_smallest_4 : decode cX1_smallest 4 = .ok (.iload_n 2, 1) := by decide +kernel
theorem dX1_smallest_5 : decode cX1_smallest 5 = .ok (.aload_n 0, 1) := by decide +kernel
theorem dX1_smallest_6 : decode cX1_smallest 6 = .ok (.getfield 39, 3) := by decide +kernel
theorem dX1_smallest_9 : decode cX1_smallest 9 = .ok (.if_icmp .ge 37, 3) := by decide +kernel
theorem dX1_smallest_12 : decode cX1_smallest 12 = .ok (.iload_n 1, 1) := by decide +kernel
theorem dX1_smallest_13 : decode cX1_smallest 13 = .ok (.iconst (-1), 1) := by decide +kernel
theorem dX1_smallest_14 : decode cX1_smallest 14 = .ok (.if_icmp .eq 24, 3) := by decide +kernel
theorem dX1_smallest_17 : decode cX1_smallest 17 = .ok (.aload_n 0, 1) := by decide +kernel
theorem dX1_smallest_18 : decode cX1_smallest 18 = .ok (.getfield 9, 3) := by decide +kernel
theorem dX1_smallest_21 : decode cX1_smallest 21 = .ok (.iload_n 2, 1) := by decide +kernel
theorem dX1_smallest_22 : decode cX1_smallest 22 = .ok (.iaload, 1) := by decide +kernel
theorem dX1_smallest_23 : decode cX1_smallest 23 = .ok (.invokestatic 53, 3) := by decide +kernel
theorem dX1_smallest_26 : decode cX1_smallest 26 = .ok (.aload_n 0, 1) := by decide +kernel
theorem dX1_smallest_27 : decode cX1_smallest 27 = .ok (.getfield 9, 3) := by decide +kernel
theorem dX1_smallest_30 : decode cX1_smallest 30 = .ok (.iload_n 1, 1) := by decide +kernel
theorem dX1_smallest_31 : decode cX1_smallest 31 = .ok (.iaload, 1) := by decide +kernel
theorem dX1_smallest_32 : decode cX1_smallest 32 = .ok (.invokestatic 53, 3) := by decide +kernel
theorem dX1_smallest_35 : decode cX1_smallest 35 = .ok (.if_icmp .ge 5, 3) := by decide +kernel
theorem dX1_smallest_38 : decode cX1_smallest 38 = .ok (.iload_n 2, 1) := by decide +kernel
theorem dX1_smallest_39 : decode cX1_smallest 39 = .ok (.istore_n 1, 1) := by decide +kernel
theorem dX1_smallest_40 : decode cX1_smallest 40 = .ok (.iinc 2 1, 3) := by decide +kernel
theorem dX1_smallest_43 : decode cX1_smallest 43 = .ok (.goto (-39), 3) := by decide +kernel
theorem dX1_smallest_46 : decode cX1_smallest 46 = .ok (.iload_n 1, 1) := by decide +kernel
theorem dX1_smallest_47 : decode cX1_smallest 47 = .ok (.ireturn, 1) := by decide +kernel
theorem dX1_inAll_0 : decode cX1_inAll 0 = .ok (.iconst (-1), 1) := by decide +kernel
theorem dX1_inAll_1 : decode cX1_inAll 1 = .ok (.istore_n 1, 1) := by decide +kernel
theorem dX1_inAll_2 : decode cX1_inAll 2 = .ok (.iconst 0, 1) := by decide +kernel
theorem dX1_inAll_3 : decode cX1_inAll 3 = .ok (.istore_n 2, 1) := by decide +kernel
theorem dX1_inAll_4 : decode cX1_inAll 4 = .ok (.iload_n 2, 1) := by decide +kernel
theorem dX1_inAll_5 : decode cX1_inAll 5 = .ok (.aload_n 0, 1) := by decide +kernel
theorem dX1_inAll_6 : decode cX1_inAll 6 = .ok (.getfield 39, 3) := by decide +kernel
theorem dX1_inAll_9 : decode cX1_inAll 9 = .ok (.if_icmp .ge 18, 3) := by decide +kernel
theorem dX1_inAll_12 : decode cX1_inAll 12 = .ok (.iload_n 1, 1) := by decide +kernel
theorem dX1_inAll_13 : decode cX1_inAll 13 = .ok (.aload_n 0, 1) := by decide +kernel
theorem dX1_inAll_14 : decode cX1_inAll 14 = .ok (.getfield 9, 3) := by decide +kernel
theorem dX1_inAll_17 : decode cX1_inAll 17 = .ok (.iload_n 2, 1) := by decide +kernel
theorem dX1_inAll_18 : decode cX1_inAll 18 = .ok (.iaload, 1) := by decide +kernel
theorem dX1_inAll_19 : decode cX1_inAll 19 = .ok (.iand, 1) := by decide +kernel
theorem dX1_inAll_20 : decode cX1_inAll 20 = .ok (.istore_n 1, 1) := by decide +kernel
theorem dX1_inAll_21 : decode cX1_inAll 21 = .ok (.iinc 2 1, 3) := by decide +kernel
theorem dX1_inAll_24 : decode cX1_inAll 24 = .ok (.goto (-20), 3) := by decide +kernel
theorem dX1_inAll_27 : decode cX1_inAll 27 = .ok (.iload_n 1, 1) := by decide +kernel
theorem dX1_inAll_28 : decode cX1_inAll 28 = .ok (.ireturn, 1) := by decide +kernel
theorem dX1_mostTelling_0 : decode cX1_mostTelling 0 = .ok (.iconst 0, 1) := by decide +kernel
theorem dX1_mostTelling_1 : decode cX1_mostTelling 1 = .ok (.istore_n 3, 1) := by decide +kernel
theorem dX1_mostTelling_2 : decode cX1_mostTelling 2 = .ok (.aload_n 0, 1) := by decide +kernel
theorem dX1_mostTelling_3 : decode cX1_mostTelling 3 = .ok (.getfield 42, 3) := by decide +kernel
theorem dX1_mostTelling_6 : decode cX1_mostTelling 6 = .ok (.iconst 1, 1) := by decide +kernel
theorem dX1_mostTelling_7 : decode cX1_mostTelling 7 = .ok (.iadd, 1) := by decide +kernel
theorem dX1_mostTelling_8 : decode cX1_mostTelling 8 = .ok (.istore 4, 2) := by decide +kernel
theorem dX1_mostTelling_10 : decode cX1_mostTelling 10 = .ok (.iconst 0, 1) := by decide +kernel
theorem dX1_mostTelling_11 : decode cX1_mostTelling 11 = .ok (.istore 5, 2) := by decide +kernel
theorem dX1_mostTelling_13 : decode cX1_mostTelling 13 = .ok (.iload 5, 2) := by decide +kernel
theorem dX1_mostTelling_15 : decode cX1_mostTelling 15 = .ok (.iload_n 1, 1) := by decide +kernel
theorem dX1_mostTelling_16 : decode cX1_mostTelling 16 = .ok (.if_icmp .gt 52, 3) := by decide +kernel
theorem dX1_mostTelling_19 : decode cX1_mostTelling 19 = .ok (.iload 5, 2) := by decide +kernel
theorem dX1_mostTelling_21 : decode cX1_mostTelling 21 = .ok (.iload_n 2, 1) := by decide +kernel
theorem dX1_mostTelling_22 : decode cX1_mostTelling 22 = .ok (.iand, 1) := by decide +kernel
theorem dX1_mostTelling_23 : decode cX1_mostTelling 23 = .ok (.ifCond .ne 39, 3) := by decide +kernel
theorem dX1_mostTelling_26 : decode cX1_mostTelling 26 = .ok (.aload_n 0, 1) := by decide +kernel
theorem dX1_mostTelling_27 : decode cX1_mostTelling 27 = .ok (.iload 5, 2) := by decide +kernel
theorem dX1_mostTelling_29 : decode cX1_mostTelling 29 = .ok (.invokevirtual 67, 3) := by decide +kernel
theorem dX1_mostTelling_32 : decode cX1_mostTelling 32 = .ok (.istore 6, 2) := by decide +kernel
theorem dX1_mostTelling_34 : decode cX1_mostTelling 34 = .ok (.iload 6, 2) := by decide +kernel
theorem dX1_mostTelling_36 : decode cX1_mostTelling 36 = .ok (.aload_n 0, 1) := by decide +kernel
theorem dX1_mostTelling_37 : decode cX1_mostTelling 37 = .ok (.getfield 42, 3) := by decide +kernel
theorem dX1_mostTelling_40 : decode cX1_mostTelling 40 = .ok (.iload 6, 2) := by decide +kernel
theorem dX1_mostTelling_42 : decode cX1_mostTelling 42 = .ok (.isub, 1) := by decide +kernel
theorem dX1_mostTelling_43 : decode cX1_mostTelling 43 = .ok (.invokestatic 64, 3) := by decide +kernel
theorem dX1_mostTelling_46 : decode cX1_mostTelling 46 = .ok (.istore 7, 2) := by decide +kernel
theorem dX1_mostTelling_48 : decode cX1_mostTelling 48 = .ok (.iload 7, 2) := by decide +kernel
theorem dX1_mostTelling_50 : decode cX1_mostTelling 50 = .ok (.iload 4, 2) := by decide +kernel
theorem dX1_mostTelling_52 : decode cX1_mostTelling 52 = .ok (.if_icmp .ge 10, 3) := by decide +kernel
theorem dX1_mostTelling_55 : decode cX1_mostTelling 55 = .ok (.iload 5, 2) := by decide +kernel
theorem dX1_mostTelling_57 : decode cX1_mostTelling 57 = .ok (.istore_n 3, 1) := by decide +kernel
theorem dX1_mostTelling_58 : decode cX1_mostTelling 58 = .ok (.iload 7, 2) := by decide +kernel
theorem dX1_mostTelling_60 : decode cX1_mostTelling 60 = .ok (.istore 4, 2) := by decide +kernel
theorem dX1_mostTelling_62 : decode cX1_mostTelling 62 = .ok (.iinc 5 1, 3) := by decide +kernel
theorem dX1_mostTelling_65 : decode cX1_mostTelling 65 = .ok (.goto (-52), 3) := by decide +kernel
theorem dX1_mostTelling_68 : decode cX1_mostTelling 68 = .ok (.iload_n 3, 1) := by decide +kernel
theorem dX1_mostTelling_69 : decode cX1_mostTelling 69 = .ok (.ireturn, 1) := by decide +kernel
theorem dX1_upBehind_0 : decode cX1_upBehind 0 = .ok (.iconst 0, 1) := by decide +kernel
theorem dX1_upBehind_1 : decode cX1_upBehind 1 = .ok (.istore_n 2, 1) := by decide +kernel
theorem dX1_upBehind_2 : decode cX1_upBehind 2 = .ok (.iconst 0, 1) := by decide +kernel
theorem dX1_upBehind_3 : decode cX1_upBehind 3 = .ok (.istore_n 3, 1) := by decide +kernel
theorem dX1_upBehind_4 : decode cX1_upBehind 4 = .ok (.iload_n 3, 1) := by decide +kernel
theorem dX1_upBehind_5 : decode cX1_upBehind 5 = .ok (.aload_n 0, 1) := by decide +kernel
theorem dX1_upBehind_6 : decode cX1_upBehind 6 = .ok (.getfield 39, 3) := by decide +kernel
theorem dX1_upBehind_9 : decode cX1_upBehind 9 = .ok (.if_icmp .ge 49, 3) := by decide +kernel
theorem dX1_upBehind_12 : decode cX1_upBehind 12 = .ok (.aload_n 0, 1) := by decide +kernel
theorem dX1_upBehind_13 : decode cX1_upBehind 13 = .ok (.getfield 18, 3) := by decide +kernel
theorem dX1_upBehind_16 : decode cX1_upBehind 16 = .ok (.iload_n 3, 1) := by decide +kernel
theorem dX1_upBehind_17 : decode cX1_upBehind 17 = .ok (.iaload, 1) := by decide +kernel
theorem dX1_upBehind_18 : decode cX1_upBehind 18 = .ok (.iload_n 1, 1) := by decide +kernel
theorem dX1_upBehind_19 : decode cX1_upBehind 19 = .ok (.aload_n 0, 1) := by decide +kernel
theorem dX1_upBehind_20 : decode cX1_upBehind 20 = .ok (.getfield 9, 3) := by decide +kernel
theorem dX1_upBehind_23 : decode cX1_upBehind 23 = .ok (.iload_n 3, 1) := by decide +kernel
theorem dX1_upBehind_24 : decode cX1_upBehind 24 = .ok (.iaload, 1) := by decide +kernel
theorem dX1_upBehind_25 : decode cX1_upBehind 25 = .ok (.iand, 1) := by decide +kernel
theorem dX1_upBehind_26 : decode cX1_upBehind 26 = .ok (.invokestatic 53, 3) := by decide +kernel
theorem dX1_upBehind_29 : decode cX1_upBehind 29 = .ok (.invokestatic 59, 3) := by decide +kernel
theorem dX1_upBehind_32 : decode cX1_upBehind 32 = .ok (.istore 4, 2) := by decide +kernel
theorem dX1_upBehind_34 : decode cX1_upBehind 34 = .ok (.iload_n 2, 1) := by decide +kernel
theorem dX1_upBehind_35 : decode cX1_upBehind 35 = .ok (.iconst 0, 1) := by decide +kernel
theorem dX1_upBehind_36 : decode cX1_upBehind 36 = .ok (.iload 4, 2) := by decide +kernel
theorem dX1_upBehind_38 : decode cX1_upBehind 38 = .ok (.aload_n 0, 1) := by decide +kernel
theorem dX1_upBehind_39 : decode cX1_upBehind 39 = .ok (.getfield 15, 3) := by decide +kernel
theorem dX1_upBehind_42 : decode cX1_upBehind 42 = .ok (.iload_n 3, 1) := by decide +kernel
theorem dX1_upBehind_43 : decode cX1_upBehind 43 = .ok (.iaload, 1) := by decide +kernel
theorem dX1_upBehind_44 : decode cX1_upBehind 44 = .ok (.isub, 1) := by decide +kernel
theorem dX1_upBehind_45 : decode cX1_upBehind 45 = .ok (.iconst 1, 1) := by decide +kernel
theorem dX1_upBehind_46 : decode cX1_upBehind 46 = .ok (.iadd, 1) := by decide +kernel
theorem dX1_upBehind_47 : decode cX1_upBehind 47 = .ok (.invokestatic 64, 3) := by decide +kernel
theorem dX1_upBehind_50 : decode cX1_upBehind 50 = .ok (.iadd, 1) := by decide +kernel
theorem dX1_upBehind_51 : decode cX1_upBehind 51 = .ok (.istore_n 2, 1) := by decide +kernel
theorem dX1_upBehind_52 : decode cX1_upBehind 52 = .ok (.iinc 3 1, 3) := by decide +kernel
theorem dX1_upBehind_55 : decode cX1_upBehind 55 = .ok (.goto (-51), 3) := by decide +kernel
theorem dX1_upBehind_58 : decode cX1_upBehind 58 = .ok (.iload_n 2, 1) := by decide +kernel
theorem dX1_upBehind_59 : decode cX1_upBehind 59 = .ok (.ireturn, 1) := by decide +kernel
theorem dX2_init_0 : decode cX2_init 0 = .ok (.aload_n 0, 1) := by decide +kernel
theorem dX2_init_1 : decode cX2_init 1 = .ok (.invokespecial 3, 3) := by decide +kernel
theorem dX2_init_4 : decode cX2_init 4 = .ok (.aload_n 0, 1) := by decide +kernel
theorem dX2_init_5 : decode cX2_init 5 = .ok (.bipush 10, 2) := by decide +kernel
theorem dX2_init_7 : decode cX2_init 7 = .ok (.newarray .int, 2) := by decide +kernel
theorem dX2_init_9 : decode cX2_init 9 = .ok (.putfield 9, 3) := by decide +kernel
theorem dX2_init_12 : decode cX2_init 12 = .ok (.aload_n 0, 1) := by decide +kernel
theorem dX2_init_13 : decode cX2_init 13 = .ok (.bipush 64, 2) := by decide +kernel
theorem dX2_init_15 : decode cX2_init 15 = .ok (.newarray .int, 2) := by decide +kernel
theorem dX2_init_17 : decode cX2_init 17 = .ok (.putfield 15, 3) := by decide +kernel
theorem dX2_init_20 : decode cX2_init 20 = .ok (.return_, 1) := by decide +kernel
theorem dX2_pullAll_0 : decode cX2_pullAll 0 = .ok (.aload_n 0, 1) := by decide +kernel
theorem dX2_pullAll_1 : decode cX2_pullAll 1 = .ok (.getfield 9, 3) := by decide +kernel
theorem dX2_pullAll_4 : decode cX2_pullAll 4 = .ok (.iconst 0, 1) := by decide +kernel
theorem dX2_pullAll_5 : decode cX2_pullAll 5 = .ok (.invokestatic 18, 3) := by decide +kernel
theorem dX2_pullAll_8 : decode cX2_pullAll 8 = .ok (.iconst 0, 1) := by decide +kernel
theorem dX2_pullAll_9 : decode cX2_pullAll 9 = .ok (.istore 4, 2) := by decide +kernel
theorem dX2_pullAll_11 : decode cX2_pullAll 11 = .ok (.iconst 0, 1) := by decide +kernel
theorem dX2_pullAll_12 : decode cX2_pullAll 12 = .ok (.istore 5, 2) := by decide +kernel
theorem dX2_pullAll_14 : decode cX2_pullAll 14 = .ok (.iload 5, 2) := by decide +kernel
theorem dX2_pullAll_16 : decode cX2_pullAll 16 = .ok (.aload_n 1, 1) := by decide +kernel
theorem dX2_pullAll_17 : decode cX2_pullAll 17 = .ok (.getfield 24, 3) := by decide +kernel
theorem dX2_pullAll_20 : decode cX2_pullAll 20 = .ok (.if_icmp .ge 80, 3) := by decide +kernel
theorem dX2_pullAll_23 : decode cX2_pullAll 23 = .ok (.aload_n 2, 1) := by decide +kernel
theorem dX2_pullAll_24 : decode cX2_pullAll 24 = .ok (.getfield 30, 3) := by decide +kernel
theorem dX2_pullAll_27 : decode cX2_pullAll 27 = .ok (.iload 5, 2) := by decide +kernel
theorem dX2_pullAll_29 : decode cX2_pullAll 29 = .ok (.invokestatic 35, 3) := by decide +kernel
theorem dX2_pullAll_32 : decode cX2_pullAll 32 = .ok (.iconst 1, 1) := by decide +kernel
theorem dX2_pullAll_33 : decode cX2_pullAll 33 = .ok (.if_icmp .ne 61, 3) := by decide +kernel
theorem dX2_pullAll_36 : decode cX2_pullAll 36 = .ok (.aload_n 1, 1) := by decide +kernel
theorem dX2_pullAll_37 : decode cX2_pullAll 37 = .ok (.getfield 39, 3) := by decide +kernel
theorem dX2_pullAll_40 : decode cX2_pullAll 40 = .ok (.iload 5, 2) := by decide +kernel
theorem dX2_pullAll_42 : decode cX2_pullAll 42 = .ok (.iaload, 1) := by decide +kernel
theorem dX2_pullAll_43 : decode cX2_pullAll 43 = .ok (.istore 6, 2) := by decide +kernel
theorem dX2_pullAll_45 : decode cX2_pullAll 45 = .ok (.iload 4, 2) := by decide +kernel
theorem dX2_pullAll_47 : decode cX2_pullAll 47 = .ok (.iconst 1, 1) := by decide +kernel
theorem dX2_pullAll_48 : decode cX2_pullAll 48 = .ok (.iload 6, 2) := by decide +kernel
theorem dX2_pullAll_50 : decode cX2_pullAll 50 = .ok (.ishl, 1) := by decide +kernel
theorem dX2_pullAll_51 : decode cX2_pullAll 51 = .ok (.ior, 1) := by decide +kernel
theorem dX2_pullAll_52 : decode cX2_pullAll 52 = .ok (.istore 4, 2) := by decide +kernel
theorem dX2_pullAll_54 : decode cX2_pullAll 54 = .ok (.iload_n 3, 1) := by decide +kernel
theorem dX2_pullAll_55 : decode cX2_pullAll 55 = .ok (.aload_n 2, 1) := by decide +kernel
theorem dX2_pullAll_56 : decode cX2_pullAll 56 = .ok (.getfield 42, 3) := by decide +kernel
theorem dX2_pullAll_59 : decode cX2_pullAll 59 = .ok (.iload 5, 2) := by decide +kernel
theorem dX2_pullAll_61 : decode cX2_pullAll 61 = .ok (.iaload, 1) := by decide +kernel
theorem dX2_pullAll_62 : decode cX2_pullAll 62 = .ok (.invokestatic 35, 3) := by decide +kernel
theorem dX2_pullAll_65 : decode cX2_pullAll 65 = .ok (.aload_n 1, 1) := by decide +kernel
theorem dX2_pullAll_66 : decode cX2_pullAll 66 = .ok (.getfield 45, 3) := by decide +kernel
theorem dX2_pullAll_69 : decode cX2_pullAll 69 = .ok (.iload 5, 2) := by decide +kernel
theorem dX2_pullAll_71 : decode cX2_pullAll 71 = .ok (.invokestatic 35, 3) := by decide +kernel
theorem dX2_pullAll_74 : decode cX2_pullAll 74 = .ok (.if_icmp .eq 20, 3) := by decide +kernel
theorem dX2_pullAll_77 : decode cX2_pullAll 77 = .ok (.aload_n 0, 1) := by decide +kernel
theorem dX2_pullAll_78 : decode cX2_pullAll 78 = .ok (.getfield 9, 3) := by decide +kernel
theorem dX2_pullAll_81 : decode cX2_pullAll 81 = .ok (.iload 6, 2) := by decide +kernel
theorem dX2_pullAll_83 : decode cX2_pullAll 83 = .ok (.dup2, 1) := by decide +kernel
theorem dX2_pullAll_84 : decode cX2_pullAll 84 = .ok (.iaload, 1) := by decide +kernel
theorem dX2_pullAll_85 : decode cX2_pullAll 85 = .ok (.aload_n 1, 1) := by decide +kernel
theorem dX2_pullAll_86 : decode cX2_pullAll 86 = .ok (.getfield 48, 3) := by decide +kernel
theorem dX2_pullAll_89 : decode cX2_pullAll 89 = .ok (.iload 5, 2) := by decide +kernel
theorem dX2_pullAll_91 : decode cX2_pullAll 91 = .ok (.iaload, 1) := by decide +kernel
theorem dX2_pullAll_92 : decode cX2_pullAll 92 = .ok (.iadd, 1) := by decide +kernel
theorem dX2_pullAll_93 : decode cX2_pullAll 93 = .ok (.iastore, 1) := by decide +kernel
theorem dX2_pullAll_94 : decode cX2_pullAll 94 = .ok (.iinc 5 1, 3) := by decide +kernel
theorem dX2_pullAll_97 : decode cX2_pullAll 97 = .ok (.goto (-83), 3) := by decide +kernel
theorem dX2_pullAll_100 : decode cX2_pullAll 100 = .ok (.iload 4, 2) := by decide +kernel
theorem dX2_pullAll_102 : decode cX2_pullAll 102 = .ok (.ireturn, 1) := by decide +kernel
theorem dX2_behind_0 : decode cX2_behind 0 = .ok (.aload_n 0, 1) := by decide +kernel
theorem dX2_behind_1 : decode cX2_behind 1 = .ok (.aload_n 1, 1) := by decide +kernel
theorem dX2_behind_2 : decode cX2_behind 2 = .ok (.aload_n 2, 1) := by decide +kernel
theorem dX2_behind_3 : decode cX2_behind 3 = .ok (.iload_n 3, 1) := by decide +kernel
theorem dX2_behind_4 : decode cX2_behind 4 = .ok (.invokevirtual 51, 3) := by decide +kernel
theorem dX2_behind_7 : decode cX2_behind 7 = .ok (.istore 4, 2) := by decide +kernel
theorem dX2_behind_9 : decode cX2_behind 9 = .ok (.iconst 0, 1) := by decide +kernel
theorem dX2_behind_10 : decode cX2_behind 10 = .ok (.istore 5, 2) := by decide +kernel
theorem dX2_behind_12 : decode cX2_behind 12 = .ok (.iconst 0, 1) := by decide +kernel
theorem dX2_behind_13 : decode cX2_behind 13 = .ok (.istore 6, 2) := by decide +kernel
theorem dX2_behind_15 : decode cX2_behind 15 = .ok (.iload 6, 2) := by decide +kernel
theorem dX2_behind_17 : decode cX2_behind 17 = .ok (.aload_n 1, 1) := by decide +kernel
theorem dX2_behind_18 : decode cX2_behind 18 = .ok (.getfield 55, 3) := by decide +kernel
theorem dX2_behind_21 : decode cX2_behind 21 = .ok (.if_icmp .ge 52, 3) := by decide +kernel
theorem dX2_behind_24 : decode cX2_behind 24 = .ok (.aload_n 0, 1) := by decide +kernel
theorem dX2_behind_25 : decode cX2_behind 25 = .ok (.aload_n 1, 1) := by decide +kernel
theorem dX2_behind_26 : decode cX2_behind 26 = .ok (.iload 6, 2) := by decide +kernel
theorem dX2_behind_28 : decode cX2_behind 28 = .ok (.iload_n 3, 1) := by decide +kernel
theorem dX2_behind_29 : decode cX2_behind 29 = .ok (.aload_n 0, 1) := by decide +kernel
theorem dX2_behind_30 : decode cX2_behind 30 = .ok (.getfield 9, 3) := by decide +kernel
theorem dX2_behind_33 : decode cX2_behind 33 = .ok (.iload 6, 2) := by decide +kernel
theorem dX2_behind_35 : decode cX2_behind 35 = .ok (.iaload, 1) := by decide +kernel
theorem dX2_behind_36 : decode cX2_behind 36 = .ok (.iload 4, 2) := by decide +kernel
theorem dX2_behind_38 : decode cX2_behind 38 = .ok (.iload 6, 2) := by decide +kernel
theorem dX2_behind_40 : decode cX2_behind 40 = .ok (.invokestatic 35, 3) := by decide +kernel
theorem dX2_behind_43 : decode cX2_behind 43 = .ok (.iconst 1, 1) := by decide +kernel
theorem dX2_behind_44 : decode cX2_behind 44 = .ok (.if_icmp .ne 7, 3) := by decide +kernel
theorem dX2_behind_47 : decode cX2_behind 47 = .ok (.iconst 1, 1) := by decide +kernel
theorem dX2_behind_48 : decode cX2_behind 48 = .ok (.goto 4, 3) := by decide +kernel
theorem dX2_behind_51 : decode cX2_behind 51 = .ok (.iconst 0, 1) := by decide +kernel
theorem dX2_behind_52 : decode cX2_behind 52 = .ok (.invokevirtual 58, 3) := by decide +kernel
theorem dX2_behind_55 : decode cX2_behind 55 = .ok (.ifCond .eq 12, 3) := by decide +kernel
theorem dX2_behind_58 : decode cX2_behind 58 = .ok (.iload 5, 2) := by decide +kernel
theorem dX2_behind_60 : decode cX2_behind 60 = .ok (.iconst 1, 1) := by decide +kernel
theorem dX2_behind_61 : decode cX2_behind 61 = .ok (.iload 6, 2) := by decide +kernel
theorem dX2_behind_63 : decode cX2_behind 63 = .ok (.ishl, 1) := by decide +kernel
theorem dX2_behind_64 : decode cX2_behind 64 = .ok (.ior, 1) := by decide +kernel
theorem dX2_behind_65 : decode cX2_behind 65 = .ok (.istore 5, 2) := by decide +kernel
theorem dX2_behind_67 : decode cX2_behind 67 = .ok (.iinc 6 1, 3) := by decide +kernel
theorem dX2_behind_70 : decode cX2_behind 70 = .ok (.goto (-55), 3) := by decide +kernel
theorem dX2_behind_73 : decode cX2_behind 73 = .ok (.iload 5, 2) := by decide +kernel
theorem dX2_behind_75 : decode cX2_behind 75 = .ok (.ireturn, 1) := by decide +kernel
theorem dX2_isUpThen_0 : decode cX2_isUpThen 0 = .ok (.aload_n 1, 1) := by decide +kernel
theorem dX2_isUpThen_1 : decode cX2_isUpThen 1 = .ok (.getfield 62, 3) := by decide +kernel
theorem dX2_isUpThen_4 : decode cX2_isUpThen 4 = .ok (.iload_n 2, 1) := by decide +kernel
theorem dX2_isUpThen_5 : decode cX2_isUpThen 5 = .ok (.invokestatic 35, 3) := by decide +kernel
theorem dX2_isUpThen_8 : decode cX2_isUpThen 8 = .ok (.iconst 1, 1) := by decide +kernel
theorem dX2_isUpThen_9 : decode cX2_isUpThen 9 = .ok (.if_icmp .ne 13, 3) := by decide +kernel
theorem dX2_isUpThen_12 : decode cX2_isUpThen 12 = .ok (.aload_n 0, 1) := by decide +kernel
theorem dX2_isUpThen_13 : decode cX2_isUpThen 13 = .ok (.aload_n 1, 1) := by decide +kernel
theorem dX2_isUpThen_14 : decode cX2_isUpThen 14 = .ok (.iload_n 2, 1) := by decide +kernel
theorem dX2_isUpThen_15 : decode cX2_isUpThen 15 = .ok (.iload_n 3, 1) := by decide +kernel
theorem dX2_isUpThen_16 : decode cX2_isUpThen 16 = .ok (.iload 4, 2) := by decide +kernel
theorem dX2_isUpThen_18 : decode cX2_isUpThen 18 = .ok (.invokevirtual 65, 3) := by decide +kernel
theorem dX2_isUpThen_21 : decode cX2_isUpThen 21 = .ok (.ireturn, 1) := by decide +kernel
theorem dX2_isUpThen_22 : decode cX2_isUpThen 22 = .ok (.iload 5, 2) := by decide +kernel
theorem dX2_isUpThen_24 : decode cX2_isUpThen 24 = .ok (.ifCond .eq 22, 3) := by decide +kernel
theorem dX2_isUpThen_27 : decode cX2_isUpThen 27 = .ok (.iload 4, 2) := by decide +kernel
theorem dX2_isUpThen_29 : decode cX2_isUpThen 29 = .ok (.aload_n 1, 1) := by decide +kernel
theorem dX2_isUpThen_30 : decode cX2_isUpThen 30 = .ok (.getfield 69, 3) := by decide +kernel
theorem dX2_isUpThen_33 : decode cX2_isUpThen 33 = .ok (.iload_n 2, 1) := by decide +kernel
theorem dX2_isUpThen_34 : decode cX2_isUpThen 34 = .ok (.iaload, 1) := by decide +kernel
theorem dX2_isUpThen_35 : decode cX2_isUpThen 35 = .ok (.if_icmp .lt 7, 3) := by decide +kernel
theorem dX2_isUpThen_38 : decode cX2_isUpThen 38 = .ok (.iconst 1, 1) := by decide +kernel
theorem dX2_isUpThen_39 : decode cX2_isUpThen 39 = .ok (.goto 21, 3) := by decide +kernel
theorem dX2_isUpThen_42 : decode cX2_isUpThen 42 = .ok (.iconst 0, 1) := by decide +kernel
theorem dX2_isUpThen_43 : decode cX2_isUpThen 43 = .ok (.goto 17, 3) := by decide +kernel
theorem dX2_isUpThen_46 : decode cX2_isUpThen 46 = .ok (.iload_n 3, 1) := by decide +kernel
theorem dX2_isUpThen_47 : decode cX2_isUpThen 47 = .ok (.iload_n 2, 1) := by decide +kernel
theorem dX2_isUpThen_48 : decode cX2_isUpThen 48 = .ok (.invokestatic 35, 3) := by decide +kernel
theorem dX2_isUpThen_51 : decode cX2_isUpThen 51 = .ok (.iconst 1, 1) := by decide +kernel
theorem dX2_isUpThen_52 : decode cX2_isUpThen 52 = .ok (.if_icmp .ne 7, 3) := by decide +kernel
theorem dX2_isUpThen_55 : decode cX2_isUpThen 55 = .ok (.iconst 1, 1) := by decide +kernel
theorem dX2_isUpThen_56 : decode cX2_isUpThen 56 = .ok (.goto 4, 3) := by decide +kernel
theorem dX2_isUpThen_59 : decode cX2_isUpThen 59 = .ok (.iconst 0, 1) := by decide +kernel
theorem dX2_isUpThen_60 : decode cX2_isUpThen 60 = .ok (.ireturn, 1) := by decide +kernel
theorem dX2_holds_0 : decode cX2_holds 0 = .ok (.iconst 0, 1) := by decide +kernel
theorem dX2_holds_1 : decode cX2_holds 1 = .ok (.istore 5, 2) := by decide +kernel
theorem dX2_holds_3 : decode cX2_holds 3 = .ok (.aload_n 1, 1) := by decide +kernel
theorem dX2_holds_4 : decode cX2_holds 4 = .ok (.getfield 72, 3) := by decide +kernel
theorem dX2_holds_7 : decode cX2_holds 7 = .ok (.iload_n 2, 1) := by decide +kernel
theorem dX2_holds_8 : decode cX2_holds 8 = .ok (.iaload, 1) := by decide +kernel
theorem dX2_holds_9 : decode cX2_holds 9 = .ok (.istore 6, 2) := by decide +kernel
theorem dX2_holds_11 : decode cX2_holds 11 = .ok (.iload 6, 2) := by decide +kernel
theorem dX2_holds_13 : decode cX2_holds 13 = .ok (.aload_n 1, 1) := by decide +kernel
theorem dX2_holds_14 : decode cX2_holds 14 = .ok (.getfield 75, 3) := by decide +kernel
theorem dX2_holds_17 : decode cX2_holds 17 = .ok (.iload_n 2, 1) := by decide +kernel
theorem dX2_holds_18 : decode cX2_holds 18 = .ok (.iaload, 1) := by decide +kernel
theorem dX2_holds_19 : decode cX2_holds 19 = .ok (.if_icmp .ge 153, 3) := by decide +kernel
theorem dX2_holds_22 : decode cX2_holds 22 = .ok (.iload 6, 2) := by decide +kernel
theorem dX2_holds_24 : decode cX2_holds 24 = .ok (.sipush 900, 3) := by decide +kernel
theorem dX2_holds_27 : decode cX2_holds 27 = .ok (.if_icmp .ge 145, 3) := by decide +kernel
theorem dX2_holds_30 : decode cX2_holds 30 = .ok (.aload_n 1, 1) := by decide +kernel
theorem dX2_holds_31 : decode cX2_holds 31 = .ok (.getfield 78, 3) := by decide +kernel
theorem dX2_holds_34 : decode cX2_holds 34 = .ok (.iload 6, 2) := by decide +kernel
theorem dX2_holds_36 : decode cX2_holds 36 = .ok (.iaload, 1) := by decide +kernel
theorem dX2_holds_37 : decode cX2_holds 37 = .ok (.sipush 1024, 3) := by decide +kernel
theorem dX2_holds_40 : decode cX2_holds 40 = .ok (.idiv, 1) := by decide +kernel
theorem dX2_holds_41 : decode cX2_holds 41 = .ok (.istore 7, 2) := by decide +kernel
theorem dX2_holds_43 : decode cX2_holds 43 = .ok (.aload_n 1, 1) := by decide +kernel
theorem dX2_holds_44 : decode cX2_holds 44 = .ok (.getfield 78, 3) := by decide +kernel
theorem dX2_holds_47 : decode cX2_holds 47 = .ok (.iload 6, 2) := by decide +kernel
theorem dX2_holds_49 : decode cX2_holds 49 = .ok (.iaload, 1) := by decide +kernel
theorem dX2_holds_50 : decode cX2_holds 50 = .ok (.sipush 1024, 3) := by decide +kernel
theorem dX2_holds_53 : decode cX2_holds 53 = .ok (.irem, 1) := by decide +kernel
theorem dX2_holds_54 : decode cX2_holds 54 = .ok (.istore 8, 2) := by decide +kernel
theorem dX2_holds_56 : decode cX2_holds 56 = .ok (.iload 7, 2) := by decide +kernel
theorem dX2_holds_58 : decode cX2_holds 58 = .ok (.iconst 3, 1) := by decide +kernel
theorem dX2_holds_59 : decode cX2_holds 59 = .ok (.if_icmp .gt 34, 3) := by decide +kernel
theorem dX2_holds_62 : decode cX2_holds 62 = .ok (.iload 5, 2) := by decide +kernel
theorem dX2_holds_64 : decode cX2_holds 64 = .ok (.bipush 64, 2) := by decide +kernel
theorem dX2_holds_66 : decode cX2_holds 66 = .ok (.if_icmp .ge 100, 3) := by decide +kernel
theorem dX2_holds_69 : decode cX2_holds 69 = .ok (.aload_n 0, 1) := by decide +kernel
theorem dX2_holds_70 : decode cX2_holds 70 = .ok (.getfield 15, 3) := by decide +kernel
theorem dX2_holds_73 : decode cX2_holds 73 = .ok (.iload 5, 2) := by decide +kernel
theorem dX2_holds_75 : decode cX2_holds 75 = .ok (.iload 7, 2) := by decide +kernel
theorem dX2_holds_77 : decode cX2_holds 77 = .ok (.iload 8, 2) := by decide +kernel
theorem dX2_holds_79 : decode cX2_holds 79 = .ok (.iload_n 3, 1) := by decide +kernel
theorem dX2_holds_80 : decode cX2_holds 80 = .ok (.iload_n 2, 1) := by decide +kernel
theorem dX2_holds_81 : decode cX2_holds 81 = .ok (.iload 4, 2) := by decide +kernel
theorem dX2_holds_83 : decode cX2_holds 83 = .ok (.invokestatic 83, 3) := by decide +kernel
theorem dX2_holds_86 : decode cX2_holds 86 = .ok (.iastore, 1) := by decide +kernel
theorem dX2_holds_87 : decode cX2_holds 87 = .ok (.iinc 5 1, 3) := by decide +kernel
theorem dX2_holds_90 : decode cX2_holds 90 = .ok (.goto 76, 3) := by decide +kernel
theorem dX2_holds_93 : decode cX2_holds 93 = .ok (.iload 7, 2) := by decide +kernel
theorem dX2_holds_95 : decode cX2_holds 95 = .ok (.iconst 4, 1) := by decide +kernel
theorem dX2_holds_96 : decode cX2_holds 96 = .ok (.if_icmp .ne 31, 3) := by decide +kernel
theorem dX2_holds_99 : decode cX2_holds 99 = .ok (.iload 5, 2) := by decide +kernel
theorem dX2_holds_101 : decode cX2_holds 101 = .ok (.ifCond .le 65, 3) := by decide +kernel
theorem dX2_holds_104 : decode cX2_holds 104 = .ok (.aload_n 0, 1) := by decide +kernel
theorem dX2_holds_105 : decode cX2_holds 105 = .ok (.getfield 15, 3) := by decide +kernel
theorem dX2_holds_108 : decode cX2_holds 108 = .ok (.iload 5, 2) := by decide +kernel
theorem dX2_holds_110 : decode cX2_holds 110 = .ok (.iconst 1, 1) := by decide +kernel
theorem dX2_holds_111 : decode cX2_holds 111 = .ok (.isub, 1) := by decide +kernel
theorem dX2_holds_112 : decode cX2_holds 112 = .ok (.iconst 1, 1) := by decide +kernel
theorem dX2_holds_113 : decode cX2_holds 113 = .ok (.aload_n 0, 1) := by decide +kernel
theorem dX2_holds_114 : decode cX2_holds 114 = .ok (.getfield 15, 3) := by decide +kernel
theorem dX2_holds_117 : decode cX2_holds 117 = .ok (.iload 5, 2) := by decide +kernel
theorem dX2_holds_119 : decode cX2_holds 119 = .ok (.iconst 1, 1) := by decide +kernel
theorem dX2_holds_120 : decode cX2_holds 120 = .ok (.isub, 1) := by decide +kernel
theorem dX2_holds_121 : decode cX2_holds 121 = .ok (.iaload, 1) := by decide +kernel
theorem dX2_holds_122 : decode cX2_holds 122 = .ok (.isub, 1) := by decide +kernel
theorem dX2_holds_123 : decode cX2_holds 123 = .ok (.iastore, 1) := by decide +kernel
theorem dX2_holds_124 : decode cX2_holds 124 = .ok (.goto 42, 3) := by decide +kernel
theorem dX2_holds_127 : decode cX2_holds 127 = .ok (.iload 5, 2) := by decide +kernel
theorem dX2_holds_129 : decode cX2_holds 129 = .ok (.iconst 1, 1) := by decide +kernel
theorem dX2_holds_130 : decode cX2_holds 130 = .ok (.if_icmp .le 36, 3) := by decide +kernel
theorem dX2_holds_133 : decode cX2_holds 133 = .ok (.iinc 5 (-1), 3) := by decide +kernel
theorem dX2_holds_136 : decode cX2_holds 136 = .ok (.aload_n 0, 1) := by decide +kernel
theorem dX2_holds_137 : decode cX2_holds 137 = .ok (.getfield 15, 3) := by decide +kernel
theorem dX2_holds_140 : decode cX2_holds 140 = .ok (.iload 5, 2) := by decide +kernel
theorem dX2_holds_142 : decode cX2_holds 142 = .ok (.iconst 1, 1) := by decide +kernel
theorem dX2_holds_143 : decode cX2_holds 143 = .ok (.isub, 1) := by decide +kernel
theorem dX2_holds_144 : decode cX2_holds 144 = .ok (.iload 7, 2) := by decide +kernel
theorem dX2_holds_146 : decode cX2_holds 146 = .ok (.aload_n 0, 1) := by decide +kernel
theorem dX2_holds_147 : decode cX2_holds 147 = .ok (.getfield 15, 3) := by decide +kernel
theorem dX2_holds_150 : decode cX2_holds 150 = .ok (.iload 5, 2) := by decide +kernel
theorem dX2_holds_152 : decode cX2_holds 152 = .ok (.iconst 1, 1) := by decide +kernel
theorem dX2_holds_153 : decode cX2_holds 153 = .ok (.isub, 1) := by decide +kernel
theorem dX2_holds_154 : decode cX2_holds 154 = .ok (.iaload, 1) := by decide +kernel
theorem dX2_holds_155 : decode cX2_holds 155 = .ok (.aload_n 0, 1) := by decide +kernel
theorem dX2_holds_156 : decode cX2_holds 156 = .ok (.getfield 15, 3) := by decide +kernel
theorem dX2_holds_159 : decode cX2_holds 159 = .ok (.iload 5, 2) := by decide +kernel
theorem dX2_holds_161 : decode cX2_holds 161 = .ok (.iaload, 1) := by decide +kernel
theorem dX2_holds_162 : decode cX2_holds 162 = .ok (.invokestatic 87, 3) := by decide +kernel
theorem dX2_holds_165 : decode cX2_holds 165 = .ok (.iastore, 1) := by decide +kernel
theorem dX2_holds_166 : decode cX2_holds 166 = .ok (.iinc 6 1, 3) := by decide +kernel
theorem dX2_holds_169 : decode cX2_holds 169 = .ok (.goto (-158), 3) := by decide +kernel
theorem dX2_holds_172 : decode cX2_holds 172 = .ok (.iload 5, 2) := by decide +kernel
theorem dX2_holds_174 : decode cX2_holds 174 = .ok (.ifCond .le 16, 3) := by decide +kernel
theorem dX2_holds_177 : decode cX2_holds 177 = .ok (.aload_n 0, 1) := by decide +kernel
theorem dX2_holds_178 : decode cX2_holds 178 = .ok (.getfield 15, 3) := by decide +kernel
theorem dX2_holds_181 : decode cX2_holds 181 = .ok (.iconst 0, 1) := by decide +kernel
theorem dX2_holds_182 : decode cX2_holds 182 = .ok (.iaload, 1) := by decide +kernel
theorem dX2_holds_183 : decode cX2_holds 183 = .ok (.ifCond .eq 7, 3) := by decide +kernel
theorem dX2_holds_186 : decode cX2_holds 186 = .ok (.iconst 1, 1) := by decide +kernel
theorem dX2_holds_187 : decode cX2_holds 187 = .ok (.goto 4, 3) := by decide +kernel
theorem dX2_holds_190 : decode cX2_holds 190 = .ok (.iconst 0, 1) := by decide +kernel
theorem dX2_holds_191 : decode cX2_holds 191 = .ok (.ireturn, 1) := by decide +kernel
theorem dX2_valueOf_0 : decode cX2_valueOf 0 = .ok (.iload_n 0, 1) := by decide +kernel
theorem dX2_valueOf_1 : decode cX2_valueOf 1 = .ok (.tableswitch 42 1 3 #[27, 33, 39], 27) := by decide +kernel
theorem dX2_valueOf_28 : decode cX2_valueOf 28 = .ok (.iload_n 2, 1) := by decide +kernel
theorem dX2_valueOf_29 : decode cX2_valueOf 29 = .ok (.iload_n 1, 1) := by decide +kernel
theorem dX2_valueOf_30 : decode cX2_valueOf 30 = .ok (.ishr, 1) := by decide +kernel
theorem dX2_valueOf_31 : decode cX2_valueOf 31 = .ok (.iconst 1, 1) := by decide +kernel
theorem dX2_valueOf_32 : decode cX2_valueOf 32 = .ok (.iand, 1) := by decide +kernel
theorem dX2_valueOf_33 : decode cX2_valueOf 33 = .ok (.ireturn, 1) := by decide +kernel
theorem dX2_valueOf_34 : decode cX2_valueOf 34 = .ok (.iload_n 2, 1) := by decide +kernel
theorem dX2_valueOf_35 : decode cX2_valueOf 35 = .ok (.iload_n 3, 1) := by decide +kernel
theorem dX2_valueOf_36 : decode cX2_valueOf 36 = .ok (.ishr, 1) := by decide +kernel
theorem dX2_valueOf_37 : decode cX2_valueOf 37 = .ok (.iconst 1, 1) := by decide +kernel
theorem dX2_valueOf_38 : decode cX2_valueOf 38 = .ok (.iand, 1) := by decide +kernel
theorem dX2_valueOf_39 : decode cX2_valueOf 39 = .ok (.ireturn, 1) := by decide +kernel
theorem dX2_valueOf_40 : decode cX2_valueOf 40 = .ok (.iload 4, 2) := by decide +kernel
theorem dX2_valueOf_42 : decode cX2_valueOf 42 = .ok (.ireturn, 1) := by decide +kernel
theorem dX2_valueOf_43 : decode cX2_valueOf 43 = .ok (.iload_n 1, 1) := by decide +kernel
theorem dX2_valueOf_44 : decode cX2_valueOf 44 = .ok (.ireturn, 1) := by decide +kernel
theorem dX2_joined_0 : decode cX2_joined 0 = .ok (.iload_n 0, 1) := by decide +kernel
theorem dX2_joined_1 : decode cX2_joined 1 = .ok (.tableswitch 76 5 9 #[35, 39, 43, 54, 65], 35) := by decide +kernel
theorem dX2_joined_36 : decode cX2_joined 36 = .ok (.iload_n 1, 1) := by decide +kernel
theorem dX2_joined_37 : decode cX2_joined 37 = .ok (.iload_n 2, 1) := by decide +kernel
theorem dX2_joined_38 : decode cX2_joined 38 = .ok (.iand, 1) := by decide +kernel
theorem dX2_joined_39 : decode cX2_joined 39 = .ok (.ireturn, 1) := by decide +kernel
theorem dX2_joined_40 : decode cX2_joined 40 = .ok (.iload_n 1, 1) := by decide +kernel
theorem dX2_joined_41 : decode cX2_joined 41 = .ok (.iload_n 2, 1) := by decide +kernel
theorem dX2_joined_42 : decode cX2_joined 42 = .ok (.ior, 1) := by decide +kernel
theorem dX2_joined_43 : decode cX2_joined 43 = .ok (.ireturn, 1) := by decide +kernel
theorem dX2_joined_44 : decode cX2_joined 44 = .ok (.iload_n 1, 1) := by decide +kernel
theorem dX2_joined_45 : decode cX2_joined 45 = .ok (.iload_n 2, 1) := by decide +kernel
theorem dX2_joined_46 : decode cX2_joined 46 = .ok (.if_icmp .ne 7, 3) := by decide +kernel
theorem dX2_joined_49 : decode cX2_joined 49 = .ok (.iconst 1, 1) := by decide +kernel
theorem dX2_joined_50 : decode cX2_joined 50 = .ok (.goto 4, 3) := by decide +kernel
theorem dX2_joined_53 : decode cX2_joined 53 = .ok (.iconst 0, 1) := by decide +kernel
theorem dX2_joined_54 : decode cX2_joined 54 = .ok (.ireturn, 1) := by decide +kernel
theorem dX2_joined_55 : decode cX2_joined 55 = .ok (.iload_n 1, 1) := by decide +kernel
theorem dX2_joined_56 : decode cX2_joined 56 = .ok (.iload_n 2, 1) := by decide +kernel
theorem dX2_joined_57 : decode cX2_joined 57 = .ok (.if_icmp .ge 7, 3) := by decide +kernel
theorem dX2_joined_60 : decode cX2_joined 60 = .ok (.iconst 1, 1) := by decide +kernel
theorem dX2_joined_61 : decode cX2_joined 61 = .ok (.goto 4, 3) := by decide +kernel
theorem dX2_joined_64 : decode cX2_joined 64 = .ok (.iconst 0, 1) := by decide +kernel
theorem dX2_joined_65 : decode cX2_joined 65 = .ok (.ireturn, 1) := by decide +kernel
theorem dX2_joined_66 : decode cX2_joined 66 = .ok (.iload_n 1, 1) := by decide +kernel
theorem dX2_joined_67 : decode cX2_joined 67 = .ok (.iload_n 2, 1) := by decide +kernel
theorem dX2_joined_68 : decode cX2_joined 68 = .ok (.if_icmp .le 7, 3) := by decide +kernel
theorem dX2_joined_71 : decode cX2_joined 71 = .ok (.iconst 1, 1) := by decide +kernel
theorem dX2_joined_72 : decode cX2_joined 72 = .ok (.goto 4, 3) := by decide +kernel
theorem dX2_joined_75 : decode cX2_joined 75 = .ok (.iconst 0, 1) := by decide +kernel
theorem dX2_joined_76 : decode cX2_joined 76 = .ok (.ireturn, 1) := by decide +kernel
theorem dX2_joined_77 : decode cX2_joined 77 = .ok (.iload_n 0, 1) := by decide +kernel
theorem dX2_joined_78 : decode cX2_joined 78 = .ok (.bipush 10, 2) := by decide +kernel
theorem dX2_joined_80 : decode cX2_joined 80 = .ok (.if_icmp .ne 11, 3) := by decide +kernel
theorem dX2_joined_83 : decode cX2_joined 83 = .ok (.iload_n 1, 1) := by decide +kernel
theorem dX2_joined_84 : decode cX2_joined 84 = .ok (.i2l, 1) := by decide +kernel
theorem dX2_joined_85 : decode cX2_joined 85 = .ok (.iload_n 2, 1) := by decide +kernel
theorem dX2_joined_86 : decode cX2_joined 86 = .ok (.i2l, 1) := by decide +kernel
theorem dX2_joined_87 : decode cX2_joined 87 = .ok (.ladd, 1) := by decide +kernel
theorem dX2_joined_88 : decode cX2_joined 88 = .ok (.goto 22, 3) := by decide +kernel
theorem dX2_joined_91 : decode cX2_joined 91 = .ok (.iload_n 0, 1) := by decide +kernel
theorem dX2_joined_92 : decode cX2_joined 92 = .ok (.bipush 11, 2) := by decide +kernel
theorem dX2_joined_94 : decode cX2_joined 94 = .ok (.if_icmp .ne 11, 3) := by decide +kernel
theorem dX2_joined_97 : decode cX2_joined 97 = .ok (.iload_n 1, 1) := by decide +kernel
theorem dX2_joined_98 : decode cX2_joined 98 = .ok (.i2l, 1) := by decide +kernel
theorem dX2_joined_99 : decode cX2_joined 99 = .ok (.iload_n 2, 1) := by decide +kernel
theorem dX2_joined_100 : decode cX2_joined 100 = .ok (.i2l, 1) := by decide +kernel
theorem dX2_joined_101 : decode cX2_joined 101 = .ok (.lsub, 1) := by decide +kernel
theorem dX2_joined_102 : decode cX2_joined 102 = .ok (.goto 8, 3) := by decide +kernel
theorem dX2_joined_105 : decode cX2_joined 105 = .ok (.iload_n 1, 1) := by decide +kernel
theorem dX2_joined_106 : decode cX2_joined 106 = .ok (.i2l, 1) := by decide +kernel
theorem dX2_joined_107 : decode cX2_joined 107 = .ok (.iload_n 2, 1) := by decide +kernel
theorem dX2_joined_108 : decode cX2_joined 108 = .ok (.i2l, 1) := by decide +kernel
theorem dX2_joined_109 : decode cX2_joined 109 = .ok (.lmul, 1) := by decide +kernel
theorem dX2_joined_110 : decode cX2_joined 110 = .ok (.lstore_n 3, 1) := by decide +kernel
theorem dX2_joined_111 : decode cX2_joined 111 = .ok (.lload_n 3, 1) := by decide +kernel
theorem dX2_joined_112 : decode cX2_joined 112 = .ok (.ldc2_w 91, 3) := by decide +kernel
theorem dX2_joined_115 : decode cX2_joined 115 = .ok (.lcmp, 1) := by decide +kernel
theorem dX2_joined_116 : decode cX2_joined 116 = .ok (.ifCond .le 8, 3) := by decide +kernel
theorem dX2_joined_119 : decode cX2_joined 119 = .ok (.ldc 93, 2) := by decide +kernel
theorem dX2_joined_121 : decode cX2_joined 121 = .ok (.goto 18, 3) := by decide +kernel
theorem dX2_joined_124 : decode cX2_joined 124 = .ok (.lload_n 3, 1) := by decide +kernel
theorem dX2_joined_125 : decode cX2_joined 125 = .ok (.ldc2_w 94, 3) := by decide +kernel
theorem dX2_joined_128 : decode cX2_joined 128 = .ok (.lcmp, 1) := by decide +kernel
theorem dX2_joined_129 : decode cX2_joined 129 = .ok (.ifCond .ge 8, 3) := by decide +kernel
theorem dX2_joined_132 : decode cX2_joined 132 = .ok (.ldc 96, 2) := by decide +kernel
theorem dX2_joined_134 : decode cX2_joined 134 = .ok (.goto 5, 3) := by decide +kernel
theorem dX2_joined_137 : decode cX2_joined 137 = .ok (.lload_n 3, 1) := by decide +kernel
theorem dX2_joined_138 : decode cX2_joined 138 = .ok (.l2i, 1) := by decide +kernel
theorem dX2_joined_139 : decode cX2_joined 139 = .ok (.ireturn, 1) := by decide +kernel
theorem dX2_beatOnce_0 : decode cX2_beatOnce 0 = .ok (.aload_n 0, 1) := by decide +kernel
theorem dX2_beatOnce_1 : decode cX2_beatOnce 1 = .ok (.aload_n 1, 1) := by decide +kernel
theorem dX2_beatOnce_2 : decode cX2_beatOnce 2 = .ok (.aload_n 2, 1) := by decide +kernel
theorem dX2_beatOnce_3 : decode cX2_beatOnce 3 = .ok (.aload_n 2, 1) := by decide +kernel
theorem dX2_beatOnce_4 : decode cX2_beatOnce 4 = .ok (.getfield 97, 3) := by decide +kernel
theorem dX2_beatOnce_7 : decode cX2_beatOnce 7 = .ok (.invokevirtual 100, 3) := by decide +kernel
theorem dX2_beatOnce_10 : decode cX2_beatOnce 10 = .ok (.istore_n 3, 1) := by decide +kernel
theorem dX2_beatOnce_11 : decode cX2_beatOnce 11 = .ok (.aload_n 2, 1) := by decide +kernel
theorem dX2_beatOnce_12 : decode cX2_beatOnce 12 = .ok (.getfield 97, 3) := by decide +kernel
theorem dX2_beatOnce_15 : decode cX2_beatOnce 15 = .ok (.iload_n 3, 1) := by decide +kernel
theorem dX2_beatOnce_16 : decode cX2_beatOnce 16 = .ok (.ixor, 1) := by decide +kernel
theorem dX2_beatOnce_17 : decode cX2_beatOnce 17 = .ok (.istore 4, 2) := by decide +kernel
theorem dX2_beatOnce_19 : decode cX2_beatOnce 19 = .ok (.aload_n 2, 1) := by decide +kernel
theorem dX2_beatOnce_20 : decode cX2_beatOnce 20 = .ok (.iload_n 3, 1) := by decide +kernel
theorem dX2_beatOnce_21 : decode cX2_beatOnce 21 = .ok (.putfield 97, 3) := by decide +kernel
theorem dX2_beatOnce_24 : decode cX2_beatOnce 24 = .ok (.iconst 0, 1) := by decide +kernel
theorem dX2_beatOnce_25 : decode cX2_beatOnce 25 = .ok (.istore 5, 2) := by decide +kernel
theorem dX2_beatOnce_27 : decode cX2_beatOnce 27 = .ok (.iload 5, 2) := by decide +kernel
theorem dX2_beatOnce_29 : decode cX2_beatOnce 29 = .ok (.aload_n 1, 1) := by decide +kernel
theorem dX2_beatOnce_30 : decode cX2_beatOnce 30 = .ok (.getfield 24, 3) := by decide +kernel
theorem dX2_beatOnce_33 : decode cX2_beatOnce 33 = .ok (.if_icmp .ge 71, 3) := by decide +kernel
theorem dX2_beatOnce_36 : decode cX2_beatOnce 36 = .ok (.aload_n 2, 1) := by decide +kernel
theorem dX2_beatOnce_37 : decode cX2_beatOnce 37 = .ok (.getfield 30, 3) := by decide +kernel
theorem dX2_beatOnce_40 : decode cX2_beatOnce 40 = .ok (.iload 5, 2) := by decide +kernel
theorem dX2_beatOnce_42 : decode cX2_beatOnce 42 = .ok (.invokestatic 35, 3) := by decide +kernel
theorem dX2_beatOnce_45 : decode cX2_beatOnce 45 = .ok (.iconst 1, 1) := by decide +kernel
theorem dX2_beatOnce_46 : decode cX2_beatOnce 46 = .ok (.if_icmp .ne 52, 3) := by decide +kernel
theorem dX2_beatOnce_49 : decode cX2_beatOnce 49 = .ok (.aload_n 2, 1) := by decide +kernel
theorem dX2_beatOnce_50 : decode cX2_beatOnce 50 = .ok (.getfield 103, 3) := by decide +kernel
theorem dX2_beatOnce_53 : decode cX2_beatOnce 53 = .ok (.iload 5, 2) := by decide +kernel
theorem dX2_beatOnce_55 : decode cX2_beatOnce 55 = .ok (.dup2, 1) := by decide +kernel
theorem dX2_beatOnce_56 : decode cX2_beatOnce 56 = .ok (.iaload, 1) := by decide +kernel
theorem dX2_beatOnce_57 : decode cX2_beatOnce 57 = .ok (.iload 4, 2) := by decide +kernel
theorem dX2_beatOnce_59 : decode cX2_beatOnce 59 = .ok (.aload_n 2, 1) := by decide +kernel
theorem dX2_beatOnce_60 : decode cX2_beatOnce 60 = .ok (.getfield 42, 3) := by decide +kernel
theorem dX2_beatOnce_63 : decode cX2_beatOnce 63 = .ok (.iload 5, 2) := by decide +kernel
theorem dX2_beatOnce_65 : decode cX2_beatOnce 65 = .ok (.iaload, 1) := by decide +kernel
theorem dX2_beatOnce_66 : decode cX2_beatOnce 66 = .ok (.invokestatic 35, 3) := by decide +kernel
theorem dX2_beatOnce_69 : decode cX2_beatOnce 69 = .ok (.iadd, 1) := by decide +kernel
theorem dX2_beatOnce_70 : decode cX2_beatOnce 70 = .ok (.iastore, 1) := by decide +kernel
theorem dX2_beatOnce_71 : decode cX2_beatOnce 71 = .ok (.aload_n 1, 1) := by decide +kernel
theorem dX2_beatOnce_72 : decode cX2_beatOnce 72 = .ok (.getfield 106, 3) := by decide +kernel
theorem dX2_beatOnce_75 : decode cX2_beatOnce 75 = .ok (.ifCond .le 23, 3) := by decide +kernel
theorem dX2_beatOnce_78 : decode cX2_beatOnce 78 = .ok (.aload_n 2, 1) := by decide +kernel
theorem dX2_beatOnce_79 : decode cX2_beatOnce 79 = .ok (.getfield 103, 3) := by decide +kernel
theorem dX2_beatOnce_82 : decode cX2_beatOnce 82 = .ok (.iload 5, 2) := by decide +kernel
theorem dX2_beatOnce_84 : decode cX2_beatOnce 84 = .ok (.iaload, 1) := by decide +kernel
theorem dX2_beatOnce_85 : decode cX2_beatOnce 85 = .ok (.aload_n 1, 1) := by decide +kernel
theorem dX2_beatOnce_86 : decode cX2_beatOnce 86 = .ok (.getfield 106, 3) := by decide +kernel
theorem dX2_beatOnce_89 : decode cX2_beatOnce 89 = .ok (.if_icmp .lt 9, 3) := by decide +kernel
theorem dX2_beatOnce_92 : decode cX2_beatOnce 92 = .ok (.aload_n 2, 1) := by decide +kernel
theorem dX2_beatOnce_93 : decode cX2_beatOnce 93 = .ok (.iload 5, 2) := by decide +kernel
theorem dX2_beatOnce_95 : decode cX2_beatOnce 95 = .ok (.invokevirtual 109, 3) := by decide +kernel
theorem dX2_beatOnce_98 : decode cX2_beatOnce 98 = .ok (.iinc 5 1, 3) := by decide +kernel
theorem dX2_beatOnce_101 : decode cX2_beatOnce 101 = .ok (.goto (-74), 3) := by decide +kernel
theorem dX2_beatOnce_104 : decode cX2_beatOnce 104 = .ok (.iload 4, 2) := by decide +kernel
theorem dX2_beatOnce_106 : decode cX2_beatOnce 106 = .ok (.ireturn, 1) := by decide +kernel
theorem dX2_doDeeds_0 : decode cX2_doDeeds 0 = .ok (.aload_n 0, 1) := by decide +kernel
theorem dX2_doDeeds_1 : decode cX2_doDeeds 1 = .ok (.iconst 0, 1) := by decide +kernel
theorem dX2_doDeeds_2 : decode cX2_doDeeds 2 = .ok (.putfield 113, 3) := by decide +kernel
theorem dX2_doDeeds_5 : decode cX2_doDeeds 5 = .ok (.iconst 0, 1) := by decide +kernel
theorem dX2_doDeeds_6 : decode cX2_doDeeds 6 = .ok (.istore 4, 2) := by decide +kernel
theorem dX2_doDeeds_8 : decode cX2_doDeeds 8 = .ok (.iload 4, 2) := by decide +kernel
theorem dX2_doDeeds_10 : decode cX2_doDeeds 10 = .ok (.aload_n 3, 1) := by decide +kernel
theorem dX2_doDeeds_11 : decode cX2_doDeeds 11 = .ok (.getfield 116, 3) := by decide +kernel
theorem dX2_doDeeds_14 : decode cX2_doDeeds 14 = .ok (.if_icmp .ge 43, 3) := by decide +kernel
theorem dX2_doDeeds_17 : decode cX2_doDeeds 17 = .ok (.iload 4, 2) := by decide +kernel
theorem dX2_doDeeds_19 : decode cX2_doDeeds 19 = .ok (.bipush 40, 2) := by decide +kernel
theorem dX2_doDeeds_21 : decode cX2_doDeeds 21 = .ok (.if_icmp .ge 36, 3) := by decide +kernel
theorem dX2_doDeeds_24 : decode cX2_doDeeds 24 = .ok (.aload_n 0, 1) := by decide +kernel
theorem dX2_doDeeds_25 : decode cX2_doDeeds 25 = .ok (.aload_n 0, 1) := by decide +kernel
theorem dX2_doDeeds_26 : decode cX2_doDeeds 26 = .ok (.aload_n 1, 1) := by decide +kernel
theorem dX2_doDeeds_27 : decode cX2_doDeeds 27 = .ok (.aload_n 2, 1) := by decide +kernel
theorem dX2_doDeeds_28 : decode cX2_doDeeds 28 = .ok (.aload_n 3, 1) := by decide +kernel
theorem dX2_doDeeds_29 : decode cX2_doDeeds 29 = .ok (.getfield 121, 3) := by decide +kernel
theorem dX2_doDeeds_32 : decode cX2_doDeeds 32 = .ok (.iload 4, 2) := by decide +kernel
theorem dX2_doDeeds_34 : decode cX2_doDeeds 34 = .ok (.laload, 1) := by decide +kernel
theorem dX2_doDeeds_35 : decode cX2_doDeeds 35 = .ok (.invokevirtual 125, 3) := by decide +kernel
theorem dX2_doDeeds_38 : decode cX2_doDeeds 38 = .ok (.putfield 113, 3) := by decide +kernel
theorem dX2_doDeeds_41 : decode cX2_doDeeds 41 = .ok (.aload_n 0, 1) := by decide +kernel
theorem dX2_doDeeds_42 : decode cX2_doDeeds 42 = .ok (.getfield 113, 3) := by decide +kernel
theorem dX2_doDeeds_45 : decode cX2_doDeeds 45 = .ok (.ifCond .eq 6, 3) := by decide +kernel
theorem dX2_doDeeds_48 : decode cX2_doDeeds 48 = .ok (.iload 4, 2) := by decide +kernel
theorem dX2_doDeeds_50 : decode cX2_doDeeds 50 = .ok (.ireturn, 1) := by decide +kernel
theorem dX2_doDeeds_51 : decode cX2_doDeeds 51 = .ok (.iinc 4 1, 3) := by decide +kernel
theorem dX2_doDeeds_54 : decode cX2_doDeeds 54 = .ok (.goto (-46), 3) := by decide +kernel
theorem dX2_doDeeds_57 : decode cX2_doDeeds 57 = .ok (.aload_n 3, 1) := by decide +kernel
theorem dX2_doDeeds_58 : decode cX2_doDeeds 58 = .ok (.getfield 116, 3) := by decide +kernel
theorem dX2_doDeeds_61 : decode cX2_doDeeds 61 = .ok (.ireturn, 1) := by decide +kernel
theorem dX2_doDeed_0 : decode cX2_doDeed 0 = .ok (.lload_n 3, 1) := by decide +kernel
theorem dX2_doDeed_1 : decode cX2_doDeed 1 = .ok (.ldc2_w 129, 3) := by decide +kernel
theorem dX2_doDeed_4 : decode cX2_doDeed 4 = .ok (.lcmp, 1) := by decide +kernel
theorem dX2_doDeed_5 : decode cX2_doDeed 5 = .ok (.ifCond .ne 12, 3) := by decide +kernel
theorem dX2_doDeed_8 : decode cX2_doDeed 8 = .ok (.aload_n 0, 1) := by decide +kernel
theorem dX2_doDeed_9 : decode cX2_doDeed 9 = .ok (.aload_n 1, 1) := by decide +kernel
theorem dX2_doDeed_10 : decode cX2_doDeed 10 = .ok (.aload_n 2, 1) := by decide +kernel
theorem dX2_doDeed_11 : decode cX2_doDeed 11 = .ok (.invokevirtual 131, 3) := by decide +kernel
theorem dX2_doDeed_14 : decode cX2_doDeed 14 = .ok (.pop, 1) := by decide +kernel
theorem dX2_doDeed_15 : decode cX2_doDeed 15 = .ok (.iconst 0, 1) := by decide +kernel
theorem dX2_doDeed_16 : decode cX2_doDeed 16 = .ok (.ireturn, 1) := by decide +kernel
theorem dX2_doDeed_17 : decode cX2_doDeed 17 = .ok (.lload_n 3, 1) := by decide +kernel
theorem dX2_doDeed_18 : decode cX2_doDeed 18 = .ok (.lconst 0, 1) := by decide +kernel
theorem dX2_doDeed_19 : decode cX2_doDeed 19 = .ok (.lcmp, 1) := by decide +kernel
theorem dX2_doDeed_20 : decode cX2_doDeed 20 = .ok (.ifCond .ge 5, 3) := by decide +kernel
theorem dX2_doDeed_23 : decode cX2_doDeed 23 = .ok (.iconst 1, 1) := by decide +kernel
theorem dX2_doDeed_24 : decode cX2_doDeed 24 = .ok (.ireturn, 1) := by decide +kernel
theorem dX2_doDeed_25 : decode cX2_doDeed 25 = .ok (.lload_n 3, 1) := by decide +kernel
theorem dX2_doDeed_26 : decode cX2_doDeed 26 = .ok (.ldc2_w 135, 3) := by decide +kernel
theorem dX2_doDeed_29 : decode cX2_doDeed 29 = .ok (.lcmp, 1) := by decide +kernel
theorem dX2_doDeed_30 : decode cX2_doDeed 30 = .ok (.ifCond .ge 30, 3) := by decide +kernel
theorem dX2_doDeed_33 : decode cX2_doDeed 33 = .ok (.lload_n 3, 1) := by decide +kernel
theorem dX2_doDeed_34 : decode cX2_doDeed 34 = .ok (.aload_n 1, 1) := by decide +kernel
theorem dX2_doDeed_35 : decode cX2_doDeed 35 = .ok (.getfield 55, 3) := by decide +kernel
theorem dX2_doDeed_38 : decode cX2_doDeed 38 = .ok (.i2l, 1) := by decide +kernel
theorem dX2_doDeed_39 : decode cX2_doDeed 39 = .ok (.lcmp, 1) := by decide +kernel
theorem dX2_doDeed_40 : decode cX2_doDeed 40 = .ok (.ifCond .lt 5, 3) := by decide +kernel
theorem dX2_doDeed_43 : decode cX2_doDeed 43 = .ok (.iconst 1, 1) := by decide +kernel
theorem dX2_doDeed_44 : decode cX2_doDeed 44 = .ok (.ireturn, 1) := by decide +kernel
theorem dX2_doDeed_45 : decode cX2_doDeed 45 = .ok (.aload_n 2, 1) := by decide +kernel
theorem dX2_doDeed_46 : decode cX2_doDeed 46 = .ok (.dup, 1) := by decide +kernel
theorem dX2_doDeed_47 : decode cX2_doDeed 47 = .ok (.getfield 97, 3) := by decide +kernel
theorem dX2_doDeed_50 : decode cX2_doDeed 50 = .ok (.iconst 1, 1) := by decide +kernel
theorem dX2_doDeed_51 : decode cX2_doDeed 51 = .ok (.lload_n 3, 1) := by decide +kernel
theorem dX2_doDeed_52 : decode cX2_doDeed 52 = .ok (.l2i, 1) := by decide +kernel
theorem dX2_doDeed_53 : decode cX2_doDeed 53 = .ok (.ishl, 1) := by decide +kernel
theorem dX2_doDeed_54 : decode cX2_doDeed 54 = .ok (.ixor, 1) := by decide +kernel
theorem dX2_doDeed_55 : decode cX2_doDeed 55 = .ok (.putfield 97, 3) := by decide +kernel
theorem dX2_doDeed_58 : decode cX2_doDeed 58 = .ok (.iconst 0, 1) := by decide +kernel
theorem dX2_doDeed_59 : decode cX2_doDeed 59 = .ok (.ireturn, 1) := by decide +kernel
theorem dX2_doDeed_60 : decode cX2_doDeed 60 = .ok (.lload_n 3, 1) := by decide +kernel
theorem dX2_doDeed_61 : decode cX2_doDeed 61 = .ok (.ldc2_w 137, 3) := by decide +kernel
theorem dX2_doDeed_64 : decode cX2_doDeed 64 = .ok (.lcmp, 1) := by decide +kernel
theorem dX2_doDeed_65 : decode cX2_doDeed 65 = .ok (.ifCond .lt 7, 3) := by decide +kernel
theorem dX2_doDeed_68 : decode cX2_doDeed 68 = .ok (.iconst 1, 1) := by decide +kernel
theorem dX2_doDeed_69 : decode cX2_doDeed 69 = .ok (.goto 4, 3) := by decide +kernel
theorem dX2_doDeed_72 : decode cX2_doDeed 72 = .ok (.iconst 0, 1) := by decide +kernel
theorem dX2_doDeed_73 : decode cX2_doDeed 73 = .ok (.istore 5, 2) := by decide +kernel
theorem dX2_doDeed_75 : decode cX2_doDeed 75 = .ok (.lload_n 3, 1) := by decide +kernel
theorem dX2_doDeed_76 : decode cX2_doDeed 76 = .ok (.iload 5, 2) := by decide +kernel
theorem dX2_doDeed_78 : decode cX2_doDeed 78 = .ok (.ifCond .eq 9, 3) := by decide +kernel
theorem dX2_doDeed_81 : decode cX2_doDeed 81 = .ok (.sipush 200, 3) := by decide +kernel
theorem dX2_doDeed_84 : decode cX2_doDeed 84 = .ok (.goto 5, 3) := by decide +kernel
theorem dX2_doDeed_87 : decode cX2_doDeed 87 = .ok (.bipush 100, 2) := by decide +kernel
theorem dX2_doDeed_89 : decode cX2_doDeed 89 = .ok (.i2l, 1) := by decide +kernel
theorem dX2_doDeed_90 : decode cX2_doDeed 90 = .ok (.lsub, 1) := by decide +kernel
theorem dX2_doDeed_91 : decode cX2_doDeed 91 = .ok (.lstore 6, 2) := by decide +kernel
theorem dX2_doDeed_93 : decode cX2_doDeed 93 = .ok (.lload 6, 2) := by decide +kernel
theorem dX2_doDeed_95 : decode cX2_doDeed 95 = .ok (.aload_n 1, 1) := by decide +kernel
theorem dX2_doDeed_96 : decode cX2_doDeed 96 = .ok (.getfield 24, 3) := by decide +kernel
theorem dX2_doDeed_99 : decode cX2_doDeed 99 = .ok (.i2l, 1) := by decide +kernel
theorem dX2_doDeed_100 : decode cX2_doDeed 100 = .ok (.lcmp, 1) := by decide +kernel
theorem dX2_doDeed_101 : decode cX2_doDeed 101 = .ok (.ifCond .lt 7, 3) := by decide +kernel
theorem dX2_doDeed_104 : decode cX2_doDeed 104 = .ok (.iconst 1, 1) := by decide +kernel
theorem dX2_doDeed_105 : decode cX2_doDeed 105 = .ok (.goto 12, 3) := by decide +kernel
theorem dX2_doDeed_108 : decode cX2_doDeed 108 = .ok (.aload_n 2, 1) := by decide +kernel
theorem dX2_doDeed_109 : decode cX2_doDeed 109 = .ok (.lload 6, 2) := by decide +kernel
theorem dX2_doDeed_111 : decode cX2_doDeed 111 = .ok (.l2i, 1) := by decide +kernel
theorem dX2_doDeed_112 : decode cX2_doDeed 112 = .ok (.iload 5, 2) := by decide +kernel
theorem dX2_doDeed_114 : decode cX2_doDeed 114 = .ok (.invokestatic 139, 3) := by decide +kernel
theorem dX2_doDeed_117 : decode cX2_doDeed 117 = .ok (.ireturn, 1) := by decide +kernel
theorem dX2_doString_0 : decode cX2_doString 0 = .ok (.aload_n 0, 1) := by decide +kernel
theorem dX2_doString_1 : decode cX2_doString 1 = .ok (.getfield 30, 3) := by decide +kernel
theorem dX2_doString_4 : decode cX2_doString 4 = .ok (.iload_n 1, 1) := by decide +kernel
theorem dX2_doString_5 : decode cX2_doString 5 = .ok (.invokestatic 35, 3) := by decide +kernel
theorem dX2_doString_8 : decode cX2_doString 8 = .ok (.iconst 1, 1) := by decide +kernel
theorem dX2_doString_9 : decode cX2_doString 9 = .ok (.if_icmp .ne 7, 3) := by decide +kernel
theorem dX2_doString_12 : decode cX2_doString 12 = .ok (.iconst 1, 1) := by decide +kernel
theorem dX2_doString_13 : decode cX2_doString 13 = .ok (.goto 4, 3) := by decide +kernel
theorem dX2_doString_16 : decode cX2_doString 16 = .ok (.iconst 0, 1) := by decide +kernel
theorem dX2_doString_17 : decode cX2_doString 17 = .ok (.istore_n 3, 1) := by decide +kernel
theorem dX2_doString_18 : decode cX2_doString 18 = .ok (.iload_n 3, 1) := by decide +kernel
theorem dX2_doString_19 : decode cX2_doString 19 = .ok (.iload_n 2, 1) := by decide +kernel
theorem dX2_doString_20 : decode cX2_doString 20 = .ok (.if_icmp .ne 5, 3) := by decide +kernel
theorem dX2_doString_23 : decode cX2_doString 23 = .ok (.iconst 2, 1) := by decide +kernel
theorem dX2_doString_24 : decode cX2_doString 24 = .ok (.ireturn, 1) := by decide +kernel
theorem dX2_doString_25 : decode cX2_doString 25 = .ok (.iload_n 2, 1) := by decide +kernel
theorem dX2_doString_26 : decode cX2_doString 26 = .ok (.ifCond .eq 11, 3) := by decide +kernel
theorem dX2_doString_29 : decode cX2_doString 29 = .ok (.aload_n 0, 1) := by decide +kernel
theorem dX2_doString_30 : decode cX2_doString 30 = .ok (.iload_n 1, 1) := by decide +kernel
theorem dX2_doString_31 : decode cX2_doString 31 = .ok (.invokevirtual 143, 3) := by decide +kernel
theorem dX2_doString_34 : decode cX2_doString 34 = .ok (.goto 8, 3) := by decide +kernel
theorem dX2_doString_37 : decode cX2_doString 37 = .ok (.aload_n 0, 1) := by decide +kernel
theorem dX2_doString_38 : decode cX2_doString 38 = .ok (.iload_n 1, 1) := by decide +kernel
theorem dX2_doString_39 : decode cX2_doString 39 = .ok (.invokevirtual 109, 3) := by decide +kernel
theorem dX2_doString_42 : decode cX2_doString 42 = .ok (.iconst 0, 1) := by decide +kernel
theorem dX2_doString_43 : decode cX2_doString 43 = .ok (.ireturn, 1) := by decide +kernel
theorem dX2_drawDeeds_0 : decode cX2_drawDeeds 0 = .ok (.aload_n 0, 1) := by decide +kernel
theorem dX2_drawDeeds_1 : decode cX2_drawDeeds 1 = .ok (.iload_n 3, 1) := by decide +kernel
theorem dX2_drawDeeds_2 : decode cX2_drawDeeds 2 = .ok (.putfield 146, 3) := by decide +kernel
theorem dX2_drawDeeds_5 : decode cX2_drawDeeds 5 = .ok (.iconst 0, 1) := by decide +kernel
theorem dX2_drawDeeds_6 : decode cX2_drawDeeds 6 = .ok (.istore 5, 2) := by decide +kernel
theorem dX2_drawDeeds_8 : decode cX2_drawDeeds 8 = .ok (.iload 5, 2) := by decide +kernel
theorem dX2_drawDeeds_10 : decode cX2_drawDeeds 10 = .ok (.iload 4, 2) := by decide +kernel
theorem dX2_drawDeeds_12 : decode cX2_drawDeeds 12 = .ok (.if_icmp .ge 110, 3) := by decide +kernel
theorem dX2_drawDeeds_15 : decode cX2_drawDeeds 15 = .ok (.aload_n 0, 1) := by decide +kernel
theorem dX2_drawDeeds_16 : decode cX2_drawDeeds 16 = .ok (.invokevirtual 149, 3) := by decide +kernel
theorem dX2_drawDeeds_19 : decode cX2_drawDeeds 19 = .ok (.iconst 4, 1) := by decide +kernel
theorem dX2_drawDeeds_20 : decode cX2_drawDeeds 20 = .ok (.irem, 1) := by decide +kernel
theorem dX2_drawDeeds_21 : decode cX2_drawDeeds 21 = .ok (.istore 6, 2) := by decide +kernel
theorem dX2_drawDeeds_23 : decode cX2_drawDeeds 23 = .ok (.iload 6, 2) := by decide +kernel
theorem dX2_drawDeeds_25 : decode cX2_drawDeeds 25 = .ok (.ifCond .ne 33, 3) := by decide +kernel
theorem dX2_drawDeeds_28 : decode cX2_drawDeeds 28 = .ok (.aload_n 1, 1) := by decide +kernel
theorem dX2_drawDeeds_29 : decode cX2_drawDeeds 29 = .ok (.getfield 55, 3) := by decide +kernel
theorem dX2_drawDeeds_32 : decode cX2_drawDeeds 32 = .ok (.ifCond .le 26, 3) := by decide +kernel
theorem dX2_drawDeeds_35 : decode cX2_drawDeeds 35 = .ok (.aload_n 2, 1) := by decide +kernel
theorem dX2_drawDeeds_36 : decode cX2_drawDeeds 36 = .ok (.dup, 1) := by decide +kernel
theorem dX2_drawDeeds_37 : decode cX2_drawDeeds 37 = .ok (.getfield 97, 3) := by decide +kernel
theorem dX2_drawDeeds_40 : decode cX2_drawDeeds 40 = .ok (.iconst 1, 1) := by decide +kernel
theorem dX2_drawDeeds_41 : decode cX2_drawDeeds 41 = .ok (.aload_n 0, 1) := by decide +kernel
theorem dX2_drawDeeds_42 : decode cX2_drawDeeds 42 = .ok (.invokevirtual 149, 3) := by decide +kernel
theorem dX2_drawDeeds_45 : decode cX2_drawDeeds 45 = .ok (.aload_n 1, 1) := by decide +kernel
theorem dX2_drawDeeds_46 : decode cX2_drawDeeds 46 = .ok (.getfield 55, 3) := by decide +kernel
theorem dX2_drawDeeds_49 : decode cX2_drawDeeds 49 = .ok (.irem, 1) := by decide +kernel
theorem dX2_drawDeeds_50 : decode cX2_drawDeeds 50 = .ok (.ishl, 1) := by decide +kernel
theorem dX2_drawDeeds_51 : decode cX2_drawDeeds 51 = .ok (.ixor, 1) := by decide +kernel
theorem dX2_drawDeeds_52 : decode cX2_drawDeeds 52 = .ok (.putfield 97, 3) := by decide +kernel
theorem dX2_drawDeeds_55 : decode cX2_drawDeeds 55 = .ok (.goto 61, 3) := by decide +kernel
theorem dX2_drawDeeds_58 : decode cX2_drawDeeds 58 = .ok (.iload 6, 2) := by decide +kernel
theorem dX2_drawDeeds_60 : decode cX2_drawDeeds 60 = .ok (.iconst 1, 1) := by decide +kernel
theorem dX2_drawDeeds_61 : decode cX2_drawDeeds 61 = .ok (.if_icmp .ne 48, 3) := by decide +kernel
theorem dX2_drawDeeds_64 : decode cX2_drawDeeds 64 = .ok (.aload_n 1, 1) := by decide +kernel
theorem dX2_drawDeeds_65 : decode cX2_drawDeeds 65 = .ok (.getfield 24, 3) := by decide +kernel
theorem dX2_drawDeeds_68 : decode cX2_drawDeeds 68 = .ok (.ifCond .le 41, 3) := by decide +kernel
theorem dX2_drawDeeds_71 : decode cX2_drawDeeds 71 = .ok (.aload_n 0, 1) := by decide +kernel
theorem dX2_drawDeeds_72 : decode cX2_drawDeeds 72 = .ok (.invokevirtual 149, 3) := by decide +kernel
theorem dX2_drawDeeds_75 : decode cX2_drawDeeds 75 = .ok (.aload_n 1, 1) := by decide +kernel
theorem dX2_drawDeeds_76 : decode cX2_drawDeeds 76 = .ok (.getfield 24, 3) := by decide +kernel
theorem dX2_drawDeeds_79 : decode cX2_drawDeeds 79 = .ok (.irem, 1) := by decide +kernel
theorem dX2_drawDeeds_80 : decode cX2_drawDeeds 80 = .ok (.istore 7, 2) := by decide +kernel
theorem dX2_drawDeeds_82 : decode cX2_drawDeeds 82 = .ok (.aload_n 2, 1) := by decide +kernel
theorem dX2_drawDeeds_83 : decode cX2_drawDeeds 83 = .ok (.iload 7, 2) := by decide +kernel
theorem dX2_drawDeeds_85 : decode cX2_drawDeeds 85 = .ok (.aload_n 2, 1) := by decide +kernel
theorem dX2_drawDeeds_86 : decode cX2_drawDeeds 86 = .ok (.getfield 30, 3) := by decide +kernel
theorem dX2_drawDeeds_89 : decode cX2_drawDeeds 89 = .ok (.iload 7, 2) := by decide +kernel
theorem dX2_drawDeeds_91 : decode cX2_drawDeeds 91 = .ok (.invokestatic 35, 3) := by decide +kernel
theorem dX2_drawDeeds_94 : decode cX2_drawDeeds 94 = .ok (.ifCond .ne 7, 3) := by decide +kernel
theorem dX2_drawDeeds_97 : decode cX2_drawDeeds 97 = .ok (.iconst 1, 1) := by decide +kernel
theorem dX2_drawDeeds_98 : decode cX2_drawDeeds 98 = .ok (.goto 4, 3) := by decide +kernel
theorem dX2_drawDeeds_101 : decode cX2_drawDeeds 101 = .ok (.iconst 0, 1) := by decide +kernel
theorem dX2_drawDeeds_102 : decode cX2_drawDeeds 102 = .ok (.invokestatic 139, 3) := by decide +kernel
theorem dX2_drawDeeds_105 : decode cX2_drawDeeds 105 = .ok (.pop, 1) := by decide +kernel
theorem dX2_drawDeeds_106 : decode cX2_drawDeeds 106 = .ok (.goto 10, 3) := by decide +kernel
theorem dX2_drawDeeds_109 : decode cX2_drawDeeds 109 = .ok (.aload_n 0, 1) := by decide +kernel
theorem dX2_drawDeeds_110 : decode cX2_drawDeeds 110 = .ok (.aload_n 1, 1) := by decide +kernel
theorem dX2_drawDeeds_111 : decode cX2_drawDeeds 111 = .ok (.aload_n 2, 1) := by decide +kernel
theorem dX2_drawDeeds_112 : decode cX2_drawDeeds 112 = .ok (.invokevirtual 131, 3) := by decide +kernel
theorem dX2_drawDeeds_115 : decode cX2_drawDeeds 115 = .ok (.pop, 1) := by decide +kernel
theorem dX2_drawDeeds_116 : decode cX2_drawDeeds 116 = .ok (.iinc 5 1, 3) := by decide +kernel
theorem dX2_drawDeeds_119 : decode cX2_drawDeeds 119 = .ok (.goto (-111), 3) := by decide +kernel
theorem dX2_drawDeeds_122 : decode cX2_drawDeeds 122 = .ok (.return_, 1) := by decide +kernel
theorem dX2_draw_0 : decode cX2_draw 0 = .ok (.aload_n 0, 1) := by decide +kernel
theorem dX2_draw_1 : decode cX2_draw 1 = .ok (.ldc 153, 2) := by decide +kernel
theorem dX2_draw_3 : decode cX2_draw 3 = .ok (.aload_n 0, 1) := by decide +kernel
theorem dX2_draw_4 : decode cX2_draw 4 = .ok (.getfield 146, 3) := by decide +kernel
theorem dX2_draw_7 : decode cX2_draw 7 = .ok (.imul, 1) := by decide +kernel
theorem dX2_draw_8 : decode cX2_draw 8 = .ok (.sipush 12345, 3) := by decide +kernel
theorem dX2_draw_11 : decode cX2_draw 11 = .ok (.iadd, 1) := by decide +kernel
theorem dX2_draw_12 : decode cX2_draw 12 = .ok (.putfield 146, 3) := by decide +kernel
theorem dX2_draw_15 : decode cX2_draw 15 = .ok (.aload_n 0, 1) := by decide +kernel
theorem dX2_draw_16 : decode cX2_draw 16 = .ok (.getfield 146, 3) := by decide +kernel
theorem dX2_draw_19 : decode cX2_draw 19 = .ok (.bipush 16, 2) := by decide +kernel
theorem dX2_draw_21 : decode cX2_draw 21 = .ok (.iushr, 1) := by decide +kernel
theorem dX2_draw_22 : decode cX2_draw 22 = .ok (.ireturn, 1) := by decide +kernel
